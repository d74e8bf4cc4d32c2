/-! value, bits, character -/
theorem Sim_Shv {σ : S_t} (h : Sim Shv σ) : Shv σ := by
  obtain ⟨tp, o, t1, t2, t3, t4, o1, o2, o3, pl, hs⟩ := h
  exact hs
theorem op_value {E : En_t} : Op_10 E 40 (Sim Shv) (Sim Shv) := by
  intro a0 a1 a2 σ hI
  have hS := Sim_Shv hI
  have hN := Shv_N hS
  refine CE.of (L := [(0, pv E 49), (1, .int a0), (2, .int a1), (3, .int a2)]) rfl (Nat.le_of_ble_eq_true rfl) rfl (b_Cp_value_0 (d := 39) ((c_hasC (d := 38) hN).mono (fun r σ1 hq => ?_)))
  obtain ⟨rfl, hq⟩ := hq
  have mod : ∀ (v : Int32), (∀ {Q : Option Value → S_t → Prop}, Q (some (.int v)) σ1 → CI E 39 m_Mo_has [pv E 0, .int a0, .int a1] σ1 (fun r2 σ2 => (¬ r2 = 0 → (a2 = (0 : Int32) → vp_in (((500 : Int32) * a0) + a1) 4500 ∧ (Q (some (.int (gI σ2 13 (((500 : Int32) * a0) + a1).toNatClampNeg))) σ2)) ∧ (a2 = (1 : Int32) → vp_in (((500 : Int32) * a0) + a1) 4500 ∧ ((¬ (gI σ2 13 (((500 : Int32) * a0) + a1).toNatClampNeg) = (4 : Int32) → vp_in (((500 : Int32) * a0) + a1) 4500 ∧ (Q (some (.int (gI σ2 16 (((500 : Int32) * a0) + a1).toNatClampNeg))) σ2)) ∧ ((gI σ2 13 (((500 : Int32) * a0) + a1).toNatClampNeg) = (4 : Int32) → vp_in (((500 : Int32) * a0) + a1) 4500 ∧ (Q (some (.int (gI σ2 22 (((500 : Int32) * a0) + a1).toNatClampNeg))) σ2)))) ∧ (a2 = (2 : Int32) → vp_in (((500 : Int32) * a0) + a1) 4500 ∧ (Q (some (.int (gI σ2 14 (((500 : Int32) * a0) + a1).toNatClampNeg))) σ2)) ∧ (a2 = (3 : Int32) → vp_in (((500 : Int32) * a0) + a1) 4500 ∧ (Q (some (.int (gI σ2 15 (((500 : Int32) * a0) + a1).toNatClampNeg))) σ2)) ∧ (a2 = (4 : Int32) → vp_in (((500 : Int32) * a0) + a1) 4500 ∧ (Q (some (.int (gI σ2 17 (((500 : Int32) * a0) + a1).toNatClampNeg))) σ2)) ∧ (a2 = (5 : Int32) → vp_in (((500 : Int32) * a0) + a1) 4500 ∧ (Q (some (.int (gI σ2 18 (((500 : Int32) * a0) + a1).toNatClampNeg))) σ2)) ∧ (¬ a2 = (0 : Int32) → ¬ a2 = (1 : Int32) → ¬ a2 = (2 : Int32) → ¬ a2 = (3 : Int32) → ¬ a2 = (4 : Int32) → ¬ a2 = (5 : Int32) → Q (some (.int (-1 : Int32))) σ2)) ∧ (r2 = 0 → Q (some (.int (-1 : Int32))) σ2))) → CI E 40 m_Mo_value [pv E 0, .int a0, .int a1, .int a2] σ1 (fun r2 σ2 => v = r2 ∧ Sim Shv σ2) := by
    intro v hv
    exact CE.of (L := [(0, pv E 0), (1, .int a0), (2, .int a1), (3, .int a2)]) rfl (Nat.le_of_ble_eq_true rfl) rfl (b_Mo_value_0 (d := 39) (hv (Q := fun q σ' => ∃ r, q = some (.int r) ∧ v = r ∧ Sim Shv σ') ⟨_, rfl, rfl, hI⟩))
  rcases hq with ⟨rfl, hn⟩ | ⟨rfl, hy⟩
  · refine ⟨fun q => absurd rfl q, fun _ => ⟨_, rfl, mod (-1) (fun {Q} hQ => (c_hasM (d := 38)).mono (fun r σ2 hq => ?_))⟩⟩
    obtain ⟨rfl, hq⟩ := hq
    rcases hq with ⟨rfl, _⟩ | ⟨rfl, hy⟩
    · exact ⟨fun q => absurd rfl q, fun _ => hQ⟩
    · exact absurd hy hn
  · obtain ⟨i, k, t, D, hi, rfl, rfl, hk, hR, hkd, _, hW, hM, hT⟩ := Shv_val hS hy
    obtain ⟨m1, m2, m3, pm, m4, m5, m6⟩ := hM
    obtain ⟨r1, r2, r3, r4, r5, r6, r7, r8, r9, r10, r11, r12, r13⟩ := m6 k hk
    obtain ⟨s1, s2, s3, s4, s5, s6, s7, s8, s9⟩ := hT.1.2.2.2.2 k hk
    have s0 := hT.2 k hk
    have h500 : k < 500 := by have := hW.1.2.2.2.2.1; omega
    have hin : vp_in (nI k) 500 := vin h500 (by decide)
    have hin2 : vp_in (((500 : Int32) * nI i) + nI k) 4500 := by rw [ix500]; exact vin (by omega) (by decide)
    have hcl : (((500 : Int32) * nI i) + nI k).toNatClampNeg = 500 * i + k := by rw [ix500]; exact nI_clamp (by omega)
    have hd4 : nI (dK D k) = (4 : Int32) ↔ dK D k = 4 := nI_eq (b := 4) (by have := (hW.1.2.1 k hk).1; omega) (by decide)
    rw [nI_clamp (by omega)]
    refine ⟨fun _ => ⟨vin hi (by decide), t, hR, hkd, ?_⟩, fun q => absurd q (by decide)⟩
    rw [nI_clamp (by omega), s1, s2, s3, s4, s0, s5]
    have go : ∀ (v : Int32), (a2 = 0 → v = nI (dK D k)) → (a2 = 1 → v = nI (if dK D k = 4 then (dX D k).length else prt (dT D) D.length k)) → (a2 = 2 → v = zI (pI (dT D) k)) → (a2 = 3 → v = nI (ordr (dT D) k)) → (a2 = 4 → v = nI (siz (dT D) D.length k)) → (a2 = 5 → v = nI (dT D k)) → (¬ a2 = 0 → ¬ a2 = 1 → ¬ a2 = 2 → ¬ a2 = 3 → ¬ a2 = 4 → ¬ a2 = 5 → v = -1) → CI E 40 m_Mo_value [pv E 0, .int (nI i), .int (nI k), .int a2] σ1 (fun r2 σ2 => v = r2 ∧ Sim Shv σ2) := by
      intro v v0 v1 v2 v3 v4 v5 v6
      refine mod v (fun {Q} hQ => (c_hasM (d := 38)).mono (fun r σ2 hq => ?_))
      obtain ⟨rfl, hq⟩ := hq
      rcases hq with ⟨rfl, hn⟩ | ⟨rfl, _⟩
      · exact absurd hy hn
      · rw [hcl, r1, r2, r3, r4, r5, r6, r10, hd4]
        refine ⟨fun _ => ⟨fun q => ⟨hin2, v0 q ▸ hQ⟩, fun q => ⟨hin2, fun z => ⟨hin2, ?_⟩, fun z => ⟨hin2, ?_⟩⟩, fun q => ⟨hin2, v2 q ▸ hQ⟩, fun q => ⟨hin2, v3 q ▸ hQ⟩, fun q => ⟨hin2, v4 q ▸ hQ⟩, fun q => ⟨hin2, v5 q ▸ hQ⟩, fun q0 q1 q2 q3 q4 q5 => v6 q0 q1 q2 q3 q4 q5 ▸ hQ⟩, fun q => absurd q (by decide)⟩
        · have := v1 q
          rw [if_neg z] at this
          rw [← this]; exact hQ
        · have := v1 q
          rw [if_pos z] at this
          rw [← this]; exact hQ
    have ne : ∀ {a b : Int32} {P : Prop}, a2 = a → a2 = b → a ≠ b → P := fun h1 h2 h3 => absurd (h1.symm.trans h2) h3
    refine ⟨fun q => ⟨hin, _, rfl, go _ (fun _ => rfl) (fun z => ne q z (by decide)) (fun z => ne q z (by decide)) (fun z => ne q z (by decide)) (fun z => ne q z (by decide)) (fun z => ne q z (by decide)) (fun z => absurd q z)⟩, fun q => ⟨hin, _, rfl, go _ (fun z => ne q z (by decide)) (fun _ => rfl) (fun z => ne q z (by decide)) (fun z => ne q z (by decide)) (fun z => ne q z (by decide)) (fun z => ne q z (by decide)) (fun _ z => absurd q z)⟩, fun q => ⟨hin, _, rfl, go _ (fun z => ne q z (by decide)) (fun z => ne q z (by decide)) (fun _ => rfl) (fun z => ne q z (by decide)) (fun z => ne q z (by decide)) (fun z => ne q z (by decide)) (fun _ _ z => absurd q z)⟩, fun q => ⟨hin, _, rfl, go _ (fun z => ne q z (by decide)) (fun z => ne q z (by decide)) (fun z => ne q z (by decide)) (fun _ => rfl) (fun z => ne q z (by decide)) (fun z => ne q z (by decide)) (fun _ _ _ z => absurd q z)⟩, fun q => ⟨hin, _, rfl, go _ (fun z => ne q z (by decide)) (fun z => ne q z (by decide)) (fun z => ne q z (by decide)) (fun z => ne q z (by decide)) (fun _ => rfl) (fun z => ne q z (by decide)) (fun _ _ _ _ z => absurd q z)⟩, fun q => ⟨hin, _, rfl, go _ (fun z => ne q z (by decide)) (fun z => ne q z (by decide)) (fun z => ne q z (by decide)) (fun z => ne q z (by decide)) (fun z => ne q z (by decide)) (fun _ => rfl) (fun _ _ _ _ _ z => absurd q z)⟩, fun q0 q1 q2 q3 q4 q5 => ⟨_, rfl, go _ (fun z => absurd z q0) (fun z => absurd z q1) (fun z => absurd z q2) (fun z => absurd z q3) (fun z => absurd z q4) (fun z => absurd z q5) (fun _ _ _ _ _ _ => rfl)⟩⟩
theorem op_bits {E : En_t} : Op_11 E 40 (Sim Shv) (Sim Shv) := by
  intro a0 a1 σ hI
  have hS := Sim_Shv hI
  have hN := Shv_N hS
  refine CE.of (L := [(0, pv E 49), (1, .int a0), (2, .int a1)]) rfl (Nat.le_of_ble_eq_true rfl) rfl (b_Cp_bits_0 (d := 39) ((c_hasC (d := 38) hN).mono (fun r σ1 hq => ?_)))
  obtain ⟨rfl, hq⟩ := hq
  rcases hq with ⟨rfl, hn⟩ | ⟨rfl, hy⟩
  · refine ⟨fun _ => ⟨_, rfl, CE.of (L := [(0, pv E 0), (1, .int a0), (2, .int a1)]) rfl (Nat.le_of_ble_eq_true rfl) rfl (b_Mo_bits_0 (d := 39) ((c_hasM (d := 38)).mono (fun r σ2 hq => ?_)))⟩, fun q => absurd rfl q⟩
    obtain ⟨rfl, hq⟩ := hq
    rcases hq with ⟨rfl, _⟩ | ⟨rfl, hy⟩
    · exact ⟨fun _ => ⟨_, rfl, rfl, hI⟩, fun q => absurd rfl q⟩
    · exact absurd hy hn
  · obtain ⟨i, k, t, D, hi, rfl, rfl, hk, hR, hkd, _, hW, hM, hT⟩ := Shv_val hS hy
    obtain ⟨m1, m2, m3, pm, m4, m5, m6⟩ := hM
    obtain ⟨r1, r2, r3, r4, r5, r6, r7, r8, r9, r10, r11, r12, r13⟩ := m6 k hk
    obtain ⟨s1, s2, s3, s4, s5, s6, s7, s8, s9⟩ := hT.1.2.2.2.2 k hk
    have h500 : k < 500 := by have := hW.1.2.2.2.2.1; omega
    have hok := hW.1.2.1 k hk
    have mod : CL E 40 m_Mo_bits [pv E 0, .int (nI i), .int (nI k)] σ1 (fun r2 σ2 => lN (dB D k) = r2 ∧ Sim Shv σ2) := by
      refine CE.of (L := [(0, pv E 0), (1, .int (nI i)), (2, .int (nI k))]) rfl (Nat.le_of_ble_eq_true rfl) rfl (b_Mo_bits_0 (d := 39) ((c_hasM (d := 38)).mono (fun r σ2 hq => ?_)))
      obtain ⟨rfl, hq⟩ := hq
      rcases hq with ⟨rfl, hn⟩ | ⟨rfl, _⟩
      · exact absurd hy hn
      · refine ⟨fun q => absurd q (by decide), fun _ => ?_⟩
        rw [ix500, nI_clamp (by omega), r7]
        exact ⟨vin (by omega) (by decide), _, rfl, rfl, hI⟩
    have hd3 : nI (dK D k) = (3 : Int32) ↔ dK D k = 3 := nI_eq (b := 3) (by have := hok.1; omega) (by decide)
    refine ⟨fun q => absurd q (by decide), fun _ => ⟨vin hi (by decide), t, by rw [nI_clamp (by omega)]; exact hR, hkd, vin h500 (by decide), ?_⟩⟩
    rw [nI_clamp (show i < 2 ^ 31 by omega), nI_clamp (show k < 2 ^ 31 by omega), s1, hd3]
    refine ⟨fun q => ⟨vin hi (by decide), t, hR, hkd, vin h500 (by decide), _, rfl, ?_⟩, fun q => ⟨_, rfl, ?_⟩⟩
    · rw [s6]; exact mod
    · have := hok.2.2.2.2.1 q
      rw [this] at mod
      exact mod
/-- letter x of s, as character tells it -/
def chA (s : List Nat) (x : Int32) (r : Int32) : Prop := ((x < 0 ∨ ¬ x < nI s.length) ∧ r = -1) ∨ ∃ j, x = nI j ∧ j < s.length ∧ r = nI (gA s j)
theorem chA_uniq {s : List Nat} {x r r' : Int32} (hs : s.length < 2 ^ 31) (h : chA s x r) (h' : chA s x r') : r = r' := by
  rcases h with ⟨a1, a2⟩ | ⟨k, a1, a2, a3⟩
  · rcases h' with ⟨b1, b2⟩ | ⟨k', b1, b2, b3⟩
    · rw [a2, b2]
    · exfalso
      rw [b1] at a1
      rcases a1 with q | q
      · exact nI_pos (by omega) q
      · exact q (nI_lt b2 hs)
  · rcases h' with ⟨b1, b2⟩ | ⟨k', b1, b2, b3⟩
    · exfalso
      rw [a1] at b1
      rcases b1 with q | q
      · exact nI_pos (by omega) q
      · exact q (nI_lt a2 hs)
    · have : k = k' := (nI_eq (by omega) (by omega)).mp (a1.symm.trans b1)
      subst this
      rw [a3, b3]
theorem pI_neg {f : Nat → Nat} {k : Nat} (hk : k ≤ 1000) (hp : par f k < k ∨ k = 0) : zI (pI f k) < 0 ↔ k = 0 := by
  by_cases g : k = 0
  · subst g; exact ⟨fun _ => rfl, fun _ => by rw [pI_0]; decide⟩
  · rw [pI_s (by omega), zI_nI]
    exact ⟨fun q => absurd q (nI_pos (by omega)), fun q => absurd q g⟩
/-- isNamed of a row -/
theorem c_isNamed {E : En_t} {d t k : Nat} {D : List Row} {σ : S_t} (ht : kindP t = 11) (hT : TrR σ t D) (hW : WfR D) (hk : k < D.length) : CI E d m_Tr_isNamed [pv E t, .int (nI k)] σ (fun r σ' => σ' = σ ∧ ((r = 0 ∧ dN D k = none) ∨ (r = 1 ∧ dN D k ≠ none))) := by
  obtain ⟨w1, w2, w3, w4, w5, w6⟩ := hW
  have hr := hT.2.2.2.2 k hk
  refine CE.of (L := [(0, pv E t), (1, .int (nI k))]) rfl (Nat.le_of_ble_eq_true rfl) rfl (b_Tr_isNamed_0 ht ⟨vin (by omega) (by decide), ?_⟩)
  rw [nI_clamp (by omega), hr.2.2.1]
  by_cases g : k = 0
  · subst g
    exact ⟨fun _ => ⟨_, rfl, rfl, Or.inl ⟨rfl, w4 hk⟩⟩, fun q => absurd (by rw [pI_0]; decide) q⟩
  · obtain ⟨p1, p2, p3⟩ := par_spec w1 (by omega) hk
    rw [pI_s (by omega), zI_nI]
    refine ⟨fun q => absurd q (nI_pos (by omega)), fun _ => ⟨vin (by omega) (by decide), vin (by omega) (by decide), ?_⟩⟩
    rw [nI_clamp (by omega), (hT.2.2.2.2 _ (show par (dT D) k < D.length by omega)).1, show nI (dK D (par (dT D) k)) = (6 : Int32) ↔ dK D (par (dT D) k) = 6 from nI_eq (b := 6) (by have := (w2 _ (show par (dT D) k < D.length by omega)).1; omega) (by decide)]
    have := (w3 k (by omega) hk).2
    refine ⟨fun q => ⟨_, rfl, rfl, Or.inl ⟨rfl, this.mpr q⟩⟩, fun q => ⟨_, rfl, rfl, Or.inr ⟨rfl, fun z => this.mp z q⟩⟩⟩
theorem c_nameCh {E : En_t} {d t k : Nat} {D : List Row} {σ : S_t} {x : Int32} (ht : kindP t = 11) (hT : TrR σ t D) (hW : WfR D) (hk : k < D.length) : CI E (d + 1) m_Tr_nameCharacter [pv E t, .int (nI k), .int x] σ (fun r σ' => σ' = σ ∧ chA (nam D k) x r) := by
  obtain ⟨s1, s2, s3, s4, s5, s6, s7, ⟨a, s8, s9, s10⟩, s11⟩ := hT.2.2.2.2 k hk
  have hcc := cc_bts D
  have hb := hW.2.2.2.2.2
  have h5 := hW.2.2.2.2.1
  refine CE.of (L := [(0, pv E t), (1, .int (nI k)), (2, .int x)]) rfl (Nat.le_of_ble_eq_true rfl) rfl (b_Tr_nameCharacter_0 ht ((c_isNamed ht hT hW hk).mono (fun r σ1 hq => ?_)))
  obtain ⟨rfl, hq⟩ := hq
  have no : (x < 0 ∨ ¬ x < nI (nam D k).length) → JE E (d + 1) m_Tr_nameCharacter 26 [(0, pv E t), (1, .int (nI k)), (2, .int x)] [] σ1 (fun q σ' => ∃ r, q = some (.int r) ∧ σ' = σ1 ∧ chA (nam D k) x r) := fun h => b_Tr_nameCharacter_26 ht (b_Tr_nameCharacter_27 ht ⟨fun _ => ⟨_, rfl, rfl, Or.inl ⟨h, rfl⟩⟩, fun q => absurd rfl q⟩)
  rcases hq with ⟨rfl, hn⟩ | ⟨rfl, hn⟩
  · refine ⟨fun _ => no ?_, fun q => absurd rfl q⟩
    have e : (nam D k).length = 0 := by unfold nam; rw [hn]; rfl
    rw [e]
    by_cases g : x < 0
    · exact Or.inl g
    · exact Or.inr g
  · refine ⟨fun q => absurd q (by decide), fun _ => ⟨fun g => no (Or.inl g), fun g => ⟨vin (by omega) (by decide), ?_⟩⟩⟩
    rw [nI_clamp (by omega), s7]
    refine ⟨fun q => no (Or.inr (fun z => (fa_of_lt z).2.1 q)), fun q => ?_⟩
    obtain ⟨j, rfl, hj⟩ := x_of g q (by omega)
    refine b_Tr_nameCharacter_27 ht ⟨fun q => absurd q (by decide), fun _ => ⟨vin (by omega) (by decide), ?_⟩⟩
    rw [nI_clamp (by omega), s8, nI_add, nI_clamp (by omega), s10 j hj]
    exact ⟨vin (by omega) (by decide), _, rfl, rfl, Or.inr ⟨j, rfl, hj, rfl⟩⟩
theorem c_textCh {E : En_t} {d t k : Nat} {D : List Row} {σ : S_t} {x : Int32} (ht : kindP t = 11) (hT : TrR σ t D) (hW : WfR D) (hk : k < D.length) : CI E d m_Tr_textCharacter [pv E t, .int (nI k), .int x] σ (fun r σ' => σ' = σ ∧ chA (dX D k) x r) := by
  obtain ⟨s1, s2, s3, s4, s5, s6, s7, s8, ⟨a, s9, s10, s11⟩⟩ := hT.2.2.2.2 k hk
  have hcc := cc_bts D
  have hb := hW.2.2.2.2.2
  have h5 := hW.2.2.2.2.1
  have hok := hW.2.1 k hk
  have no : (x < 0 ∨ ¬ x < nI (dX D k).length) → JE E d m_Tr_textCharacter 28 [(0, pv E t), (1, .int (nI k)), (2, .int x)] [] σ (fun q σ' => ∃ r, q = some (.int r) ∧ σ' = σ ∧ chA (dX D k) x r) := fun h => b_Tr_textCharacter_28 ht (b_Tr_textCharacter_29 ht ⟨fun _ => ⟨_, rfl, rfl, Or.inl ⟨h, rfl⟩⟩, fun q => absurd rfl q⟩)
  refine CE.of (L := [(0, pv E t), (1, .int (nI k)), (2, .int x)]) rfl (Nat.le_of_ble_eq_true rfl) rfl (b_Tr_textCharacter_0 ht ⟨vin (by omega) (by decide), ?_⟩)
  rw [nI_clamp (by omega), s1, s2, show nI (dK D k) = (4 : Int32) ↔ dK D k = 4 from nI_eq (b := 4) (by have := hok.1; omega) (by decide)]
  refine ⟨fun q => no ?_, fun q => ⟨fun g => no (Or.inl g), fun g => ⟨vin (by omega) (by decide), ?_⟩⟩⟩
  · rw [hok.2.2.2.1 q]
    by_cases g : x < 0
    · exact Or.inl g
    · exact Or.inr g
  · rw [if_pos q]
    refine ⟨fun q => no (Or.inr (fun z => (fa_of_lt z).2.1 q)), fun q => ?_⟩
    obtain ⟨j, rfl, hj⟩ := x_of g q (by omega)
    refine b_Tr_textCharacter_29 ht ⟨fun q => absurd q (by decide), fun _ => ⟨vin (by omega) (by decide), ?_⟩⟩
    rw [nI_clamp (by omega), s9, nI_add, nI_clamp (by omega), s11 j hj]
    exact ⟨vin (by omega) (by decide), _, rfl, rfl, Or.inr ⟨j, rfl, hj, rfl⟩⟩
theorem op_character {E : En_t} : Op_12 E 40 (Sim Shv) (Sim Shv) := by
  intro a0 a1 a2 a3 σ hI
  have hS := Sim_Shv hI
  have hN := Shv_N hS
  refine CE.of (L := [(0, pv E 49), (1, .int a0), (2, .int a1), (3, .int a2), (4, .int a3)]) rfl (Nat.le_of_ble_eq_true rfl) rfl (b_Cp_character_0 (d := 39) ((c_hasC (d := 38) hN).mono (fun r σ1 hq => ?_)))
  obtain ⟨rfl, hq⟩ := hq
  rcases hq with ⟨rfl, hn⟩ | ⟨rfl, hy⟩
  · refine ⟨fun q => absurd rfl q, fun _ => ⟨_, rfl, CE.of (L := [(0, pv E 0), (1, .int a0), (2, .int a1), (3, .int a2), (4, .int a3)]) rfl (Nat.le_of_ble_eq_true rfl) rfl (b_Mo_character_0 (d := 39) ((c_hasM (d := 38)).mono (fun r σ2 hq => ?_)))⟩⟩
    obtain ⟨rfl, hq⟩ := hq
    rcases hq with ⟨rfl, _⟩ | ⟨rfl, hy⟩
    · exact ⟨fun q => absurd rfl q, fun _ => ⟨_, rfl, rfl, hI⟩⟩
    · exact absurd hy hn
  · obtain ⟨i, k, t, D, hi, rfl, rfl, hk, hR, hkd, _, hW, hM, hT⟩ := Shv_val hS hy
    obtain ⟨m1, m2, m3, pm, m4, m5, m6⟩ := hM
    obtain ⟨r1, r2, r3, r4, r5, r6, r7, r8, ⟨a, r9, r9', r9''⟩, r10, ⟨b, r11, r11', r11''⟩, r12, r13⟩ := m6 k hk
    have h500 : k < 500 := by have := hW.1.2.2.2.2.1; omega
    have hok := hW.1.2.1 k hk
    have hcc := cc_bts D
    have hb := hW.1.2.2.2.2.2
    have hd4 : nI (dK D k) = (4 : Int32) ↔ dK D k = 4 := nI_eq (b := 4) (by have := hok.1; omega) (by decide)
    have mod : ∀ v, (a2 = 0 → chA (nam D k) a3 v) → (a2 = 1 → chA (dX D k) a3 v) → (¬ a2 = 0 → ¬ a2 = 1 → v = -1) → CI E 40 m_Mo_character [pv E 0, .int (nI i), .int (nI k), .int a2, .int a3] σ1 (fun r2 σ2 => v = r2 ∧ Sim Shv σ2) := by
      intro v v0 v1 v2
      refine CE.of (L := [(0, pv E 0), (1, .int (nI i)), (2, .int (nI k)), (3, .int a2), (4, .int a3)]) rfl (Nat.le_of_ble_eq_true rfl) rfl (b_Mo_character_0 (d := 39) ((c_hasM (d := 38)).mono (fun r σ2 hq => ?_)))
      obtain ⟨rfl, hq⟩ := hq
      rcases hq with ⟨rfl, hn⟩ | ⟨rfl, _⟩
      · exact absurd hy hn
      have go : ∀ (s : List Nat) (s0 : Int32) (b : Nat), chA s a3 v → (s0 = nI s.length ∨ (s0 = -1 ∧ s = [])) → s.length ≤ 4000 → (¬ a2 = 0 → s ≠ [] → gI σ2 21 (500 * i + k) = nI b) → (a2 = 0 → s ≠ [] → gI σ2 19 (500 * i + k) = nI b) → (s ≠ [] → b + s.length ≤ 4000 ∧ StrA (fun z => gI σ2 26 (4000 * i + z)) b s) → JE E 40 m_Mo_character 61 [(0, pv E 0), (1, .int (nI i)), (3, .int a2), (4, .int a3), (5, .int (((500 : Int32) * nI i) + nI k))] [.int s0] σ2 (fun q σ' => ∃ r, q = some (.int r) ∧ v = r ∧ Sim Shv σ') := by
        intro s s0 b hc h0 hl4 h21 h19 hst
        have no : (a3 < 0 ∨ ¬ a3 < nI s.length) → v = -1 := fun h => chA_uniq (by omega) hc (Or.inl ⟨h, rfl⟩)
        refine b_Mo_character_61 ⟨fun g => ⟨_, rfl, no (Or.inl g), hI⟩, fun g => ⟨fun g2 => ?_, fun g2 => ⟨_, rfl, no ?_, hI⟩⟩⟩
        · rcases h0 with e | ⟨e, _⟩
          · rw [e] at g2
            obtain ⟨j, rfl, hj⟩ := x_of g (fun z => (fa_of_lt g2).2.1 z) (by omega)
            have hne : s ≠ [] := fun z => by rw [z] at hj; exact absurd hj (Nat.not_lt_zero j)
            obtain ⟨q1, q2⟩ := hst hne
            have ev : v = nI (gA s j) := chA_uniq (by omega) hc (Or.inr ⟨j, rfl, hj, rfl⟩)
            have fin : ∀ {x : Int32}, x = nI b → vp_in (((4000 : Int32) * nI i) + x + nI j) 36000 ∧ gI σ2 26 (((4000 : Int32) * nI i) + x + nI j).toNatClampNeg = v := by
              intro x hx
              rw [hx, ix4000, nI_add, nI_clamp (by omega), ev, show 4000 * i + b + j = 4000 * i + (b + j) by omega]
              exact ⟨vin (by omega) (by decide), q2 j hj⟩
            rw [ix500, nI_clamp (by omega)]
            refine ⟨fun z => ⟨vin (by omega) (by decide), (fin (h21 z hne)).1, _, rfl, ?_, hI⟩, fun z => ⟨vin (by omega) (by decide), (fin (h19 z hne)).1, _, rfl, ?_, hI⟩⟩
            · exact (fin (h21 z hne)).2.symm
            · exact (fin (h19 z hne)).2.symm
          · rw [e] at g2
            obtain ⟨j, hj, rfl⟩ := nI_of g
            exact absurd (Int32.lt_trans g2 (show (-1 : Int32) < 0 by decide)) (nI_pos hj)
        · rcases h0 with e | ⟨e, z⟩
          · rw [e] at g2; exact Or.inr g2
          · rw [z]
            by_cases y : a3 < 0
            · exact Or.inl y
            · exact Or.inr y
      have nil : v = -1 → chA [] a3 v := fun h => by
        rw [h]
        by_cases y : a3 < 0
        · exact Or.inl ⟨Or.inl y, rfl⟩
        · exact Or.inl ⟨Or.inr y, rfl⟩
      have hcl : (((500 : Int32) * nI i) + nI k).toNatClampNeg = 500 * i + k := by rw [ix500]; exact nI_clamp (by omega)
      have hin2 : vp_in (((500 : Int32) * nI i) + nI k) 4500 := by rw [ix500]; exact vin (by omega) (by decide)
      refine ⟨fun _ => ⟨fun g0 => ⟨fun g1 => b_Mo_character_60 (go [] (-1) 0 (nil (v2 g0 g1)) (Or.inr ⟨rfl, rfl⟩) (by decide) (fun _ q => absurd rfl q) (fun _ q => absurd rfl q) (fun q => absurd rfl q)), fun g1 => ⟨hin2, ?_⟩⟩, fun g0 => ⟨hin2, ?_⟩⟩, fun q => absurd q (by decide)⟩
      · rw [hcl, r1, hd4, r10]
        refine ⟨fun q => b_Mo_character_60 (go [] (-1) 0 ?_ (Or.inr ⟨rfl, rfl⟩) (by decide) (fun _ q => absurd rfl q) (fun _ q => absurd rfl q) (fun q => absurd rfl q)), fun q => ⟨hin2, go (dX D k) _ b (v1 g1) (Or.inl rfl) (by omega) (fun _ _ => r11) (fun q _ => absurd q g0) (fun _ => ⟨by omega, r11''⟩)⟩⟩
        have := v1 g1
        rw [hok.2.2.2.1 q] at this
        exact this
      · rw [hcl, r8]
        refine go (nam D k) _ a (v0 g0) ?_ (by omega) (fun q _ => absurd g0 q) (fun _ _ => r9) (fun _ => ⟨by omega, r9''⟩)
        by_cases z : dN D k = none
        · rw [if_pos z]
          exact Or.inr ⟨rfl, by unfold nam; rw [z]; rfl⟩
        · rw [if_neg z]; exact Or.inl rfl
    rw [nI_clamp (by omega)]
    refine ⟨fun _ => ⟨vin hi (by decide), t, hR, hkd, fun g0 => ⟨fun g1 => ⟨_, rfl, mod _ (fun z => absurd z g0) (fun z => absurd z g1) (fun _ _ => rfl)⟩, fun g1 => (c_textCh hkd hT.1 hW.1 hk).mono (fun r σ2 hq => ?_)⟩, fun g0 => (c_nameCh (d := 38) hkd hT.1 hW.1 hk).mono (fun r σ2 hq => ?_)⟩, fun q => absurd q (by decide)⟩
    · rw [hq.1]
      exact ⟨_, rfl, mod _ (fun z => absurd z g0) (fun _ => hq.2) (fun _ z => absurd g1 z)⟩
    · rw [hq.1]
      exact ⟨_, rfl, mod _ (fun _ => hq.2) (fun z => by rw [g0] at z; exact absurd z (by decide)) (fun z => absurd g0 z)⟩
