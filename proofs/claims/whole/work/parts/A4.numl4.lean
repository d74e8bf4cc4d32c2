/-! scan and toBits of the class; numeral -/
theorem c_strip {E : En_t} {d : Nat} {st : List Nat × Int} {σ : S_t} (h : NuS σ st) (hd : ∀ k, k < st.1.length → gA st.1 k < 10) : CV E d m_Nu_stripZeros [pv E 55] σ (fun σ' => Fg (fun p k => p = 55 ∧ k = 2) σ σ' ∧ ∃ c, c ≤ min st.1.length 800 ∧ gI σ' 55 2 = nI c ∧ (c = 0 ∨ gA st.1 (c - 1) ≠ 0) ∧ ∀ k, c ≤ k → k < min st.1.length 800 → gA st.1 k = 0) := by
  have loop : ∀ (c : Nat) (τ : S_t), c ≤ min st.1.length 800 → Fg (fun p k => p = 55 ∧ k = 2) σ τ → gI τ 55 2 = nI c → (∀ k, c ≤ k → k < min st.1.length 800 → gA st.1 k = 0) → JE E d m_Nu_stripZeros 0 [(0, pv E 55)] [] τ (fun q σ' => q = none ∧ Fg (fun p k => p = 55 ∧ k = 2) σ σ' ∧ ∃ c, c ≤ min st.1.length 800 ∧ gI σ' 55 2 = nI c ∧ (c = 0 ∨ gA st.1 (c - 1) ≠ 0) ∧ ∀ k, c ≤ k → k < min st.1.length 800 → gA st.1 k = 0) := by
    intro c
    induction c with
    | zero =>
      intro τ hc hF h2 hz
      refine b_Nu_stripZeros_0 ?_
      rw [h2]
      exact ⟨fun _ => ⟨rfl, hF, 0, hc, rfl, Or.inl rfl, hz⟩, fun q => absurd (by decide) q⟩
    | succ c ih =>
      intro τ hc hF h2 hz
      refine b_Nu_stripZeros_0 ?_
      rw [h2, nI_m1, nI_clamp (by omega), hF.1 56 c (by omega), h.2.2.2 c (by omega)]
      have c0 : nI (gA st.1 c) = 0 ↔ gA st.1 c = 0 := nI_eq (b := 0) (by have := hd c (by omega); omega) (by decide)
      rw [c0]
      refine ⟨fun q => absurd q (nI_nle (by omega) (by omega)), fun _ => ⟨vin (by omega) (by decide), fun q => ⟨rfl, hF, c + 1, hc, rfl, Or.inr q, hz⟩, fun q => ?_⟩⟩
      refine ih _ (by omega) (hF.si ⟨rfl, rfl⟩) (gI_sI_s _ _ _ _) (fun k h1 h2 => ?_)
      by_cases e : k = c
      · subst e; exact q
      · exact hz k (by omega) h2
  exact CE.of (L := [(0, pv E 55)]) rfl (Nat.le_of_ble_eq_true rfl) rfl (loop _ σ (Nat.le_refl _) Fg.rf h.1 (fun k h1 h2 => by omega))
def nPc (l : List Nat) (a : Nat) : Int := (nS2 l a).2 + (if isEx l (nA2 l a) then (if Chr l (nA2 l a + 1) 45 then -((min 99999 (nX l a) : Nat) : Int) else ((min 99999 (nX l a) : Nat) : Int)) else 0)
/-- the class's numeral, once scanned -/
def NuF (σ : S_t) (l : List Nat) (a : Nat) : Prop := ∃ c neg, NumAt σ (gA (nS2 l a).1) c (nPc l a) (cutB (nS2 l a).1) neg ∧ (neg = true ↔ Chr l a 45) ∧ c ≤ min (nS2 l a).1.length 800 ∧ (∀ k, c ≤ k → k < min (nS2 l a).1.length 800 → gA (nS2 l a).1 k = 0)
def CNn : Nat → Nat → Prop := fun p k => p = 56 ∨ (p = 55 ∧ (k = 2 ∨ k = 3 ∨ k = 4 ∨ k = 5)) ∨ (p = 51 ∧ k = 2)
theorem CN_n {p k : Nat} (h : CNm p k) : CNn p k := by unfold CNm at h; unfold CNn; omega
theorem NuF_fg {P : Nat → Nat → Prop} {σ σ' : S_t} {l : List Nat} {a : Nat} (hF : Fg P σ σ') (h1 : ∀ k, ¬ P 55 k) (h2 : ∀ k, ¬ P 56 k) (h : NuF σ l a) : NuF σ' l a := by
  obtain ⟨c, neg, ⟨n1, n2, n3, n4, n5⟩, h3⟩ := h
  exact ⟨c, neg, ⟨by rw [hF.1 _ _ (h1 _)]; exact n1, by rw [hF.1 _ _ (h1 _)]; exact n2, by rw [hF.1 _ _ (h1 _)]; exact n3, by rw [hF.1 _ _ (h1 _)]; exact n4, fun k hk => by rw [hF.1 _ _ (h2 _)]; exact n5 k hk⟩, h3⟩
theorem c_scanN {E : En_t} {d a : Nat} {l : List Nat} {σ : S_t} (hT : TpC σ l) (hb : Bt l) (hl : l.length ≤ 2000) (ha : a ≤ l.length) (h9 : gI σ 51 2 = nI a) : CI E (d + 2) m_Nu_scan [pv E 55, pv E 51] σ (fun r σ' => Fg CNn σ σ' ∧ TpC σ' l ∧ ((r = 0 ∧ ∃ b, NmF l a b ∧ gI σ' 51 2 = nI b) ∨ (r = 1 ∧ NmO l a ∧ gI σ' 51 2 = nI (nA4 l a) ∧ NuF σ' l a))) := by
  have l0 := nA0_le ha
  have l1 := nA1_le ha
  have l2 := nA2_le ha
  let Q : Option Value → S_t → Prop := fun q σ' => ∃ r, q = some (.int r) ∧ (Fg CNn σ σ' ∧ TpC σ' l ∧ ((r = 0 ∧ ∃ b, NmF l a b ∧ gI σ' 51 2 = nI b) ∨ (r = 1 ∧ NmO l a ∧ gI σ' 51 2 = nI (nA4 l a) ∧ NuF σ' l a)))
  let G : S_t → Prop := fun τ => gI τ 55 5 = bI (decide (Chr l a 45))
  have gK : ∀ {τ τ' : S_t}, Fg CNm τ τ' → G τ → G τ' := fun {τ τ'} hF hG => by show gI τ' 55 5 = _; rw [hF.1 55 5 (by unfold CNm; omega)]; exact hG
  have fin : ∀ (τ : S_t), G τ → NmO l a → Fg CNn σ τ → CsC τ l (nA4 l a) ((nS2 l a).1, nPc l a) → JE E (d + 2) m_Nu_scan 93 [(0, pv E 55)] [] τ Q := by
    intro τ hG hO hF hC
    have k4 := (nS2_ok l a ha).2.2.2.1
    refine b_Nu_scan_93 ((c_strip hC.2.2 k4).mono (fun σ1 hq => ?_))
    obtain ⟨F1, c, q1, q2, q3, q4⟩ := hq
    refine ⟨_, rfl, hF.tr (F1.mono (fun p k z => Or.inr (Or.inl ⟨z.1, Or.inl z.2⟩))), TpC_fg F1 (by omega) (fun k => by omega) hC.1, Or.inr ⟨rfl, hO, by rw [F1.1 51 2 (by omega)]; exact hC.2.1, c, decide (Chr l a 45), ⟨q2, by rw [F1.1 55 3 (by omega)]; exact hC.2.2.2.1, by rw [F1.1 55 4 (by omega)]; exact hC.2.2.2.2.1, by rw [F1.1 55 5 (by omega)]; exact hG, fun k hk => ⟨by rw [F1.1 56 k (by omega)]; exact hC.2.2.2.2.2 k (Nat.lt_of_lt_of_le hk q1), k4 k (by show k < (nS2 l a).1.length; have q1 : c ≤ min (nS2 l a).1.length 800 := q1; omega)⟩⟩, decide_eq_true_iff, q1, q4⟩⟩
  have ex : ∀ (τ : S_t), G τ → Dgt l (nA0 l a) → (Chr l (nA1 l a) 46 → Dgt l (nA1 l a + 1)) → Fg CNn σ τ → CsC τ l (nA2 l a) (nS2 l a) → JE E (d + 2) m_Nu_scan 65 [(0, pv E 55), (1, pv E 51)] [] τ Q := by
    intro τ hG hD0 hD1 hF hC
    have some : isEx l (nA2 l a) → JE E (d + 2) m_Nu_scan 83 [(0, pv E 55), (1, pv E 51)] [] (sI τ 51 2 (nI (nA2 l a + 1))) Q := by
      intro hE
      have hlt : nA2 l a < l.length := by rcases hE with q | q <;> exact q.1
      have hC1 := CsC_at (b := nA2 l a + 1) hC
      have hF1 : Fg CNn σ (sI τ 51 2 (nI (nA2 l a + 1))) := hF.si (CN_n CN51)
      have hG1 : G (sI τ 51 2 (nI (nA2 l a + 1))) := gK (Fg.rf.si CN51) hG
      generalize sI τ 51 2 (nI (nA2 l a + 1)) = ρ at hC1 hF1 hG1 ⊢
      refine b_Nu_scan_83 ((c_scanPower hb hl (by omega) hC1).mono (fun r σ1 hq => ?_))
      obtain ⟨F1, C1, hr1⟩ := hq
      have hF2 : Fg CNn σ σ1 := hF1.tr (F1.mono (fun _ _ z => CN_n z))
      have C2 : CsC σ1 l (nA3 l a + nd l (nA3 l a)) ((nS2 l a).1, (nS2 l a).2 + (if Chr l (nA2 l a + 1) 45 then -((min 99999 (nX l a) : Nat) : Int) else ((min 99999 (nX l a) : Nat) : Int))) := C1
      rcases hr1 with ⟨rfl, hn⟩ | ⟨rfl, hy⟩
      · refine ⟨fun q => absurd rfl q, fun _ => ⟨_, rfl, hF2, C2.1, Or.inl ⟨rfl, nA3 l a, Or.inr (Or.inr ⟨hD0, hD1, hE, hn, rfl⟩), ?_⟩⟩⟩
        have hz : nd l (nA3 l a) = 0 := by
          rcases Nat.eq_zero_or_pos (nd l (nA3 l a)) with q | q
          · exact q
          · exact absurd (nd_pos.mp q) hn
        rw [C2.2.1, hz]; rfl
      · refine ⟨fun _ => fin σ1 (gK F1 hG1) ⟨hD0, hD1, fun _ => hy⟩ hF2 ?_, fun q => absurd q (by decide)⟩
        have e4 : nA4 l a = nA3 l a + nd l (nA3 l a) := by unfold nA4; rw [if_pos hE]
        have eP : nPc l a = (nS2 l a).2 + (if Chr l (nA2 l a + 1) 45 then -((min 99999 (nX l a) : Nat) : Int) else ((min 99999 (nX l a) : Nat) : Int)) := by unfold nPc; rw [if_pos hE]
        rw [e4, eP]; exact C2
    refine b_Nu_scan_65 ((c_passC (c := 101) hC.1 hb hl (by omega) hC.2.1 (by decide)).mono (fun r σ1 hq => ?_))
    rcases hq with ⟨rfl, hn, rfl⟩ | ⟨rfl, hy, rfl⟩
    · refine ⟨fun q => absurd rfl q, fun _ => (c_passC (c := 69) hC.1 hb hl (by omega) hC.2.1 (by decide)).mono (fun r σ1 hq => ?_)⟩
      rcases hq with ⟨rfl, hn2, rfl⟩ | ⟨rfl, hy2, rfl⟩
      · have hno : ¬ isEx l (nA2 l a) := fun q => q.elim hn hn2
        have e4 : nA4 l a = nA2 l a := by unfold nA4; rw [if_neg hno]
        have eP : nPc l a = (nS2 l a).2 := by unfold nPc; rw [if_neg hno, Int.add_zero]
        exact ⟨fun _ => fin _ hG ⟨hD0, hD1, fun q => absurd q hno⟩ hF (by rw [e4, eP]; exact hC), fun q => absurd rfl q⟩
      · exact ⟨fun q => absurd q (by decide), fun _ => some (Or.inr hy2)⟩
    · exact ⟨fun _ => some (Or.inl hy), fun q => absurd q (by decide)⟩
  have fr : ∀ (τ : S_t), G τ → Dgt l (nA0 l a) → Fg CNn σ τ → CsC τ l (nA1 l a) (nS1 l a) → JE E (d + 2) m_Nu_scan 45 [(0, pv E 55), (1, pv E 51)] [] τ Q := by
    intro τ hG hD0 hF hC
    refine b_Nu_scan_45 ((c_passC (c := 46) hC.1 hb hl (by omega) hC.2.1 (by decide)).mono (fun r σ1 hq => ?_))
    rcases hq with ⟨rfl, hn, rfl⟩ | ⟨rfl, hy, rfl⟩
    · have e2 : nA2 l a = nA1 l a := by unfold nA2; rw [if_neg hn]
      have eS : nS2 l a = nS1 l a := by unfold nS2; rw [if_neg hn]
      exact ⟨fun _ => ex _ hG hD0 (fun q => absurd q hn) hF (by rw [e2, eS]; exact hC), fun q => absurd rfl q⟩
    · refine ⟨fun q => absurd q (by decide), fun _ => (c_scanDigits (s := 0) hb hl (Or.inl rfl) (by have := hy.1; omega) (CsC_at (b := nA1 l a + 1) hC)).mono (fun r σ1 hq => ?_)⟩
      obtain ⟨F1, C1, hr1⟩ := hq
      have hF2 : Fg CNn σ σ1 := (hF.si (CN_n CN51)).tr (F1.mono (fun _ _ z => CN_n z))
      have e2 : nA2 l a = nA1 l a + 1 + nd l (nA1 l a + 1) := by unfold nA2; rw [if_pos hy]
      have eS : nS2 l a = kps 0 l (nA1 l a + 1) (nS1 l a) (nd l (nA1 l a + 1)) := by unfold nS2; rw [if_pos hy]
      rcases hr1 with ⟨rfl, hn⟩ | ⟨rfl, hy2⟩
      · refine ⟨fun q => absurd rfl q, fun _ => ⟨_, rfl, hF2, C1.1, Or.inl ⟨rfl, nA1 l a + 1, Or.inr (Or.inl ⟨hD0, hy, hn, rfl⟩), ?_⟩⟩⟩
        have hz : nd l (nA1 l a + 1) = 0 := by
          rcases Nat.eq_zero_or_pos (nd l (nA1 l a + 1)) with q | q
          · exact q
          · exact absurd (nd_pos.mp q) hn
        rw [C1.2.1, hz]
      · exact ⟨fun _ => ex σ1 (gK F1 (gK (Fg.rf.si CN51) hG)) hD0 (fun _ => hy2) hF2 (by rw [e2, eS]; exact C1), fun q => absurd q (by decide)⟩
  have wh : ∀ (τ : S_t), G τ → Fg CNn σ τ → CsC τ l (nA0 l a) ([], 0) → CI E (d + 1) m_Te_pass [pv E 51, .int (48 : Int32)] τ (fun r4 σ3 => (¬ r4 = 0 → JE E (d + 2) m_Nu_scan 45 [(0, pv E 55), (1, pv E 51)] [] σ3 Q) ∧ (r4 = 0 → CI E (d + 1) m_Nu_scanDigits [pv E 55, pv E 51, .int (1 : Int32)] σ3 (fun r6 σ5 => (¬ r6 = 0 → JE E (d + 2) m_Nu_scan 45 [(0, pv E 55), (1, pv E 51)] [] σ5 Q) ∧ (r6 = 0 → Q (some (.int (0 : Int32))) σ5)))) := by
    intro τ hG hF hC
    refine (c_passC (c := 48) hC.1 hb hl (by omega) hC.2.1 (by decide)).mono (fun r σ1 hq => ?_)
    rcases hq with ⟨rfl, hn, rfl⟩ | ⟨rfl, hy, rfl⟩
    · refine ⟨fun q => absurd rfl q, fun _ => (c_scanDigits (s := 1) hb hl (Or.inr rfl) l0.1 hC).mono (fun r σ1 hq => ?_)⟩
      obtain ⟨F1, C1, hr1⟩ := hq
      have hF2 : Fg CNn σ σ1 := hF.tr (F1.mono (fun _ _ z => CN_n z))
      have e1 : nA1 l a = nA0 l a + nd l (nA0 l a) := by unfold nA1; rw [if_neg hn]
      have eS : nS1 l a = kps 1 l (nA0 l a) ([], 0) (nd l (nA0 l a)) := by unfold nS1; rw [if_neg hn]
      rcases hr1 with ⟨rfl, hn2⟩ | ⟨rfl, hy2⟩
      · refine ⟨fun q => absurd rfl q, fun _ => ⟨_, rfl, hF2, C1.1, Or.inl ⟨rfl, nA0 l a, Or.inl ⟨hn2, rfl⟩, ?_⟩⟩⟩
        have hz : nd l (nA0 l a) = 0 := by
          rcases Nat.eq_zero_or_pos (nd l (nA0 l a)) with q | q
          · exact q
          · exact absurd (nd_pos.mp q) hn2
        rw [C1.2.1, hz]; rfl
      · exact ⟨fun _ => fr σ1 (gK F1 hG) hy2 hF2 (by rw [e1, eS]; exact C1), fun q => absurd q (by decide)⟩
    · have e1 : nA1 l a = nA0 l a + 1 := by unfold nA1; rw [if_pos hy]
      have eS : nS1 l a = ([], 0) := by unfold nS1; rw [if_pos hy]
      exact ⟨fun _ => fr _ (gK (Fg.rf.si CN51) hG) ⟨hy.1, by have := hy.2; omega, by have := hy.2; omega⟩ (hF.si (CN_n CN51)) (by rw [e1, eS]; exact CsC_at hC), fun q => absurd q (by decide)⟩
  have hC0 : CsC (sI (sI (sI σ 55 2 (0 : Int32)) 55 3 (0 : Int32)) 55 4 (0 : Int32)) l a ([], 0) := by
    refine ⟨TpC_fg (P := fun p k => p = 55) ((((Fg.rf (P := fun p _ => p = 55)).si rfl).si rfl).si rfl) (by omega) (fun k => by omega) hT, ?_, ?_, ?_, ?_, fun k hk => ?_⟩
    · rw [gI_sI_n (Or.inl (by decide)), gI_sI_n (Or.inl (by decide)), gI_sI_n (Or.inl (by decide))]; exact h9
    · rw [gI_sI_n (Or.inr (by decide)), gI_sI_n (Or.inr (by decide)), gI_sI_s]; rfl
    · rw [gI_sI_n (Or.inr (by decide)), gI_sI_s]; rfl
    · rw [gI_sI_s]; rfl
    · exact absurd hk (Nat.not_lt_zero k)
  have hF0 : Fg CNn σ (sI (sI (sI σ 55 2 (0 : Int32)) 55 3 (0 : Int32)) 55 4 (0 : Int32)) := ((Fg.rf.si (Or.inr (Or.inl ⟨rfl, Or.inl rfl⟩))).si (Or.inr (Or.inl ⟨rfl, Or.inr (Or.inl rfl)⟩))).si (Or.inr (Or.inl ⟨rfl, Or.inr (Or.inr (Or.inl rfl))⟩))
  refine CE.of (L := [(0, pv E 55), (1, pv E 51)]) rfl (Nat.le_of_ble_eq_true rfl) rfl (b_Nu_scan_0 ?_)
  generalize sI (sI (sI σ 55 2 (0 : Int32)) 55 3 (0 : Int32)) 55 4 (0 : Int32) = ρ at hC0 hF0 ⊢
  have s5 : ∀ {τ : S_t} {b : Nat} (x : Int32), CsC τ l b ([], 0) → CsC (sI τ 55 5 x) l b ([], 0) := fun {τ b} x h => ⟨TpC_fg (P := fun p k => p = 55 ∧ k = 5) (Fg.rf.si ⟨rfl, rfl⟩) (by omega) (fun k => by omega) h.1, by rw [gI_sI_n (Or.inl (by decide))]; exact h.2.1, NuS_fg (P := fun p k => p = 55 ∧ k = 5) (Fg.rf.si ⟨rfl, rfl⟩) (by omega) (by omega) (by omega) (fun k => by omega) h.2.2⟩
  have m5 : CNn 55 5 := Or.inr (Or.inl ⟨rfl, Or.inr (Or.inr (Or.inr rfl))⟩)
  refine (c_passC (c := 45) hC0.1 hb hl (by omega) hC0.2.1 (by decide)).mono (fun r σ1 hq => ?_)
  rcases hq with ⟨rfl, hn, rfl⟩ | ⟨rfl, hy, rfl⟩
  · have e0 : nA0 l a = a := by unfold nA0; rw [if_neg hn]
    refine ⟨Or.inl rfl, wh _ ?_ (hF0.si m5) (by rw [e0]; exact s5 0 hC0)⟩
    show gI _ 55 5 = bI (decide (Chr l a 45))
    rw [gI_sI_s, decide_eq_false hn]; rfl
  · have e0 : nA0 l a = a + 1 := by unfold nA0; rw [if_pos hy]
    refine ⟨Or.inr rfl, wh _ ?_ ((hF0.si (CN_n CN51)).si m5) (by rw [e0]; exact s5 1 (CsC_at hC0))⟩
    show gI _ 55 5 = bI (decide (Chr l a 45))
    rw [gI_sI_s, decide_eq_true hy]; rfl
theorem sgB_L (neg : Bool) : lN (sgB neg) = if neg then (-9223372036854775808 : Int64) else 0 := by cases neg <;> rfl
theorem c_toBitsV {E : En_t} {d a : Nat} {l : List Nat} {σ : S_t} (ha : a ≤ l.length) (hl : l.length ≤ 2000) (h : NuF σ l a) : CL E (d + 3) m_Nu_toBits [pv E 55] σ (fun x σ' => Fr (BP 57) σ σ' ∧ NmV l a x) := by
  obtain ⟨c, neg, hN, hneg, hc, hz⟩ := h
  obtain ⟨k1, k2, k3, k4, k5⟩ := nS2_ok l a ha
  have hX := nX_lt l a
  have l2 := nA2_le ha
  have h0 : (nS2 l a).1.length = 0 ∨ gA (nS2 l a).1 0 ≠ 0 := k5.imp (fun q => by rw [q]; rfl) id
  have hc0 : c = 0 ↔ (nS2 l a).1.length = 0 := by
    constructor
    · intro q
      rcases h0 with z | z
      · exact z
      · rcases Nat.eq_zero_or_pos (nS2 l a).1.length with y | y
        · exact y
        · exact absurd (hz 0 (by omega) (by omega)) z
    · intro q; omega
  have hp : nPc l a = nP l a ∨ (1000 < nPc l a ∧ 1000 < nP l a) ∨ (nPc l a < -1000 ∧ nP l a < -1000) := by
    unfold nPc nP nE
    split
    · split <;> omega
    · exact Or.inl rfl
  have hpb : -1000000 ≤ nPc l a ∧ nPc l a ≤ 1000000 := by
    unfold nPc
    split
    · split <;> omega
    · omega
  refine (c_toBits hN (by omega) (by
    rcases Nat.eq_zero_or_pos c with q | q
    · exact Or.inl q
    · exact Or.inr (h0.resolve_left (fun y => by rw [hc0.mpr y] at q; omega))) hpb.1 hpb.2).mono (fun x σ1 hq => ⟨hq.1, ?_⟩)
  obtain ⟨_, hx⟩ := hq
  obtain ⟨xm, hm⟩ := Rdd_ex (P := nP l a) (k5)
  refine ⟨xm, hm, ?_⟩
  have tie := read_tie (F := gA (nS2 l a).1) (n := (nS2 l a).1.length) (c := c) (P := nP l a) (cut := cutB (nS2 l a).1) (xm := xm) (xc := x) (s := lN (sgB neg)) k4 h0 (by omega) (by omega) (by omega) hc0 (fun k q1 q2 q3 => hz k q1 (by omega)) cutB_iff (by rw [sgB_L]; cases neg <;> rfl) hm ?_
  · rw [tie, Int64.or_comm]
    congr 1
    rw [sgB_L]
    unfold sgL
    by_cases g : Chr l a 45
    · rw [if_pos (hneg.mpr g), if_pos g]
    · rw [if_neg (fun q => g (hneg.mp q)), if_neg g]
  · rcases hp with q | q | q
    · rw [← q]; exact hx
    · rcases hx with z | ⟨z1, z | z | z⟩
      · exact Or.inl z
      · omega
      · exact Or.inr ⟨z1, Or.inr (Or.inl ⟨by omega, z.2⟩)⟩
      · omega
    · rcases hx with z | ⟨z1, z | z | z⟩
      · exact Or.inl z
      · exact Or.inr ⟨z1, Or.inl ⟨by omega, z.2⟩⟩
      · omega
      · omega
/-! the shelves' frame with longs -/
def ShFg (Sh : S_t → Prop) : Prop := ∀ (σ σ' : S_t), (∀ p k, ShD p k → gI σ' p k = gI σ p k ∧ gL σ' p k = gL σ p k) → σ'.2.2 = σ.2.2 → Sh σ → Sh σ'
theorem ShFg.fr {Sh : S_t → Prop} (h : ShFg Sh) : ShFr Sh := fun σ σ' h1 h2 h3 => h σ σ' (fun p k hp => ⟨h1 p k hp, by show σ'.2.1 p k = σ.2.1 p k; rw [h2]⟩) (by rw [h2]) h3
/-- cells that no invariant but the tapes' looks at -/
def FreeC (M : Nat → Nat → Prop) : Prop := ∀ p k, M p k → ¬ ShD p k ∧ p ≠ 2 ∧ p ≠ 53 ∧ p ≠ 54 ∧ ¬ (p = 0 ∧ (k = 3 ∨ k = 4 ∨ k = 42)) ∧ ¬ (p = 49 ∧ k = 10)
theorem Sim_tape {Sh : S_t → Prop} (hSh : ShFg Sh) {M : Nat → Nat → Prop} {σ σ' : S_t} {tp : List Nat} (hM : FreeC M) (hF : Fg M σ σ') (hI : Sim Sh σ) (h1 : TpM σ' tp) (h2 : TpC σ' tp) (h3 : tp.length ≤ 2000) (h4 : Bt tp) : Sim Sh σ' := by
  obtain ⟨tp0, o, t1, t2, t3, t4, o1, o2, o3, pl, hs⟩ := hI
  refine ⟨tp, o, h1, h2, h3, h4, ?_, ?_, o3, ?_, ?_⟩
  · exact ⟨by rw [hF.1 0 3 (fun q => (hM _ _ q).2.2.2.2.1 ⟨rfl, by omega⟩)]; exact o1.1, by rw [hF.1 0 4 (fun q => (hM _ _ q).2.2.2.2.1 ⟨rfl, by omega⟩)]; exact o1.2.1, fun k hk => by rw [hF.1 2 k (fun q => (hM _ _ q).2.1 rfl)]; exact o1.2.2 k hk⟩
  · exact ⟨by rw [hF.1 53 1 (fun q => (hM _ _ q).2.2.1 rfl)]; exact o2.1, o2.2.1, fun k hk => by rw [hF.1 54 k (fun q => (hM _ _ q).2.2.2.1 rfl)]; exact o2.2.2 k hk⟩
  · rw [hF.1 0 42 (fun q => (hM _ _ q).2.2.2.2.1 ⟨rfl, by omega⟩), hF.1 49 10 (fun q => (hM _ _ q).2.2.2.2.2 ⟨rfl, rfl⟩)]; exact pl
  · exact hSh σ σ' (fun p k hp => ⟨hF.1 p k (fun q => (hM _ _ q).1 hp), hF.2.1 p k (fun q => (hM _ _ q).1 hp)⟩) hF.2.2 hs
theorem c_clearT {E : En_t} {d : Nat} {σ : S_t} : CV E d m_Te_clear [pv E 51] σ (fun σ' => Fg (fun p k => p = 51 ∧ (k = 1 ∨ k = 2)) σ σ' ∧ TpC σ' []) :=
  CE.of (L := [(0, pv E 51)]) rfl (Nat.le_of_ble_eq_true rfl) rfl (b_Te_clear_0 ⟨rfl, (Fg.rf.si ⟨rfl, Or.inl rfl⟩).si ⟨rfl, Or.inr rfl⟩, by rw [gI_sI_n (Or.inr (by decide)), gI_sI_s]; rfl, fun k hk => absurd hk (Nat.not_lt_zero k)⟩)
def MNu : Nat → Nat → Prop := fun p k => MNm p k ∨ CNn p k ∨ p = 57 ∨ p = 58 ∨ (p = 51 ∧ k = 1) ∨ (p = 0 ∧ k = 1)
theorem MNu_free : FreeC MNu := fun p k h => by unfold MNu MNm CNn at h; unfold ShD; omega
theorem op_numeral {E : En_t} {Sh : S_t → Prop} (hSh : ShFg Sh) : Op_3 E 40 (Sim Sh) (Sim Sh) := by
  intro σ hI
  obtain ⟨tp, o, t1, t2, t3, t4, o1, o2, o3, pl, hs⟩ := id hI
  -- the reference, from any state that the class leaves
  have ref : ∀ (x : Int64) (τ : S_t), Fg MNu σ τ → TpC τ [] → TpM τ tp → ((x = 9221120237041090560 ∧ ¬ (NmO tp 0 ∧ nA4 tp 0 = tp.length)) ∨ ((NmO tp 0 ∧ nA4 tp 0 = tp.length) ∧ NmV tp 0 x)) → CL E 40 m_Mo_numeral [pv E 0] τ (fun r2 σ2 => x = r2 ∧ Sim Sh σ2) := by
    intro x τ hF hC hM hx
    have e1 : gI (sI τ 0 9 (0 : Int32)) 0 1 = nI tp.length := by rw [gI_sI_n (Or.inr (by decide))]; exact hM.1
    have hT : TcM (sI (sI τ 0 9 (0 : Int32)) 0 1 (0 : Int32)) tp := fun k hk => by rw [gI_sI_n (Or.inl (by decide)), gI_sI_n (Or.inl (by decide))]; exact hM.2 k hk
    have h9 : gI (sI (sI τ 0 9 (0 : Int32)) 0 1 (0 : Int32)) 0 9 = nI 0 := by rw [gI_sI_n (Or.inr (by decide)), gI_sI_s]; rfl
    have h1 : gI (sI (sI τ 0 9 (0 : Int32)) 0 1 (0 : Int32)) 0 1 = 0 := gI_sI_s _ _ _ _
    have hF1 : Fg MNu σ (sI (sI τ 0 9 (0 : Int32)) 0 1 (0 : Int32)) := (hF.si (Or.inl MNm9)).si (Or.inr (Or.inr (Or.inr (Or.inr (Or.inr ⟨rfl, rfl⟩)))))
    have hC1 : TpC (sI (sI τ 0 9 (0 : Int32)) 0 1 (0 : Int32)) [] := TpC_fg (P := fun p k => p = 0) (((Fg.rf (P := fun p _ => p = 0)).si rfl).si rfl) (by omega) (fun k => by omega) hC
    refine CE.of (L := [(0, pv E 0)]) rfl (Nat.le_of_ble_eq_true rfl) rfl (b_Mo_numeral_0 (d := 39) ?_)
    rw [e1]
    generalize sI (sI τ 0 9 (0 : Int32)) 0 1 (0 : Int32) = ρ at hT h9 h1 hF1 hC1 ⊢
    refine (c_takeNumeral (d := 35) (a := 0) hT t4 t3 (Nat.zero_le _) h9).mono (fun r σ1 hq => ?_)
    obtain ⟨F1, hq⟩ := hq
    have sim : Sim Sh σ1 := Sim_tape (tp := []) hSh MNu_free (hF1.tr (F1.mono (fun _ _ z => Or.inl z))) hI ⟨by rw [F1.1 0 1 (by unfold MNm; omega), h1]; rfl, fun k hk => absurd hk (Nat.not_lt_zero k)⟩ (TpC_fg F1 (by unfold MNm; omega) (fun k => by unfold MNm; omega) hC1) (Nat.zero_le _) Bt_nil
    rcases hq with ⟨rfl, b, hf, hat⟩ | ⟨rfl, hO, hat, hV⟩
    · have hno := NmF_no hf
      rcases hx with ⟨rfl, _⟩ | ⟨q, _⟩
      · exact ⟨fun _ => ⟨_, rfl, rfl, sim⟩, fun q => absurd rfl q⟩
      · exact absurd q.1 hno
    · have l4 := nA4_le (Nat.zero_le tp.length)
      rw [hat, nI_eq (by omega) (by omega)]
      refine ⟨fun q => absurd q (by decide), fun _ => ⟨fun q => ?_, fun q => ?_⟩⟩
      · rcases hx with ⟨rfl, _⟩ | ⟨z, _⟩
        · exact ⟨_, rfl, rfl, sim⟩
        · exact absurd z.2 q
      · rcases hx with ⟨_, z⟩ | ⟨_, z⟩
        · exact absurd ⟨hO, q⟩ z
        · exact ⟨_, rfl, NmV_uniq z hV, sim⟩
  have hTC : TpC (sI σ 51 2 (0 : Int32)) tp := TpC_fg (P := fun p k => p = 51 ∧ k = 2) (Fg.rf.si ⟨rfl, rfl⟩) (by omega) (fun k => by omega) t2
  have hF0 : Fg MNu σ (sI σ 51 2 (0 : Int32)) := Fg.rf.si (Or.inr (Or.inl (CN_n CN51)))
  have hG0 : Fg (fun p k => MNu p k ∧ p ≠ 0) σ (sI σ 51 2 (0 : Int32)) := Fg.rf.si ⟨Or.inr (Or.inl (CN_n CN51)), by decide⟩
  have h90 : gI (sI σ 51 2 (0 : Int32)) 51 2 = nI 0 := gI_sI_s _ _ _ _
  refine CE.of (L := [(0, pv E 49)]) rfl (Nat.le_of_ble_eq_true rfl) rfl (b_Cp_numeral_0 (d := 39) ?_)
  generalize sI σ 51 2 (0 : Int32) = ρ at hTC hF0 hG0 h90 ⊢
  refine (c_scanN (d := 37) (a := 0) hTC t4 t3 (Nat.zero_le _) h90).mono (fun r σ1 hq => ?_)
  obtain ⟨F1, T1, hq⟩ := hq
  have hF1 : Fg MNu σ σ1 := hF0.tr (F1.mono (fun _ _ z => Or.inr (Or.inl z)))
  have mcl : ∀ {p k : Nat}, (p = 51 ∧ (k = 1 ∨ k = 2)) → MNu p k := fun {p k} z => by unfold MNu CNn; omega
  have tpm : ∀ {τ : S_t}, Fg (fun p k => MNu p k ∧ p ≠ 0) σ τ → TpM τ tp := fun {τ} hF => ⟨by rw [hF.1 0 1 (fun q => q.2 rfl)]; exact t1.1, fun k hk => by rw [hF.1 1 k (fun q => by have := q.1; unfold MNu MNm CNn at this; omega)]; exact t1.2 k hk⟩
  have hG1 : Fg (fun p k => MNu p k ∧ p ≠ 0) σ σ1 := by
    exact hG0.tr (F1.mono (fun p k z => ⟨Or.inr (Or.inl z), by unfold CNn at z; omega⟩))
  have no : ¬ (NmO tp 0 ∧ nA4 tp 0 = tp.length) → JE E 40 m_Cp_numeral 43 [(0, pv E 49)] [] σ1 (fun r σ1 => ∃ x, r = some (.long x) ∧ CL E 40 m_Mo_numeral [pv E 0] σ1 (fun r2 σ2 => x = r2 ∧ Sim Sh σ2)) := by
    intro hno
    refine b_Cp_numeral_43 (b_Cp_numeral_44 (c_clearT.mono (fun σ2 hq2 => ⟨fun _ => ⟨_, rfl, ?_⟩, fun q => absurd rfl q⟩)))
    exact ref _ σ2 (hF1.tr (hq2.1.mono (fun _ _ z => mcl z))) hq2.2 (tpm (hG1.tr (hq2.1.mono (fun p k z => ⟨mcl z, by omega⟩)))) (Or.inl ⟨rfl, hno⟩)
  rcases hq with ⟨rfl, b, hf, hat⟩ | ⟨rfl, hO, hat, hV⟩
  · exact ⟨fun _ => no (fun q => NmF_no hf q.1), fun q => absurd rfl q⟩
  · have l4 := nA4_le (Nat.zero_le tp.length)
    rw [hat, T1.1, nI_eq (by omega) (by omega)]
    refine ⟨fun q => absurd q (by decide), fun _ => ⟨fun q => no (fun z => q z.2), fun q => ?_⟩⟩
    refine b_Cp_numeral_44 (c_clearT.mono (fun σ2 hq2 => ⟨fun q => absurd q (by decide), fun _ => ?_⟩))
    obtain ⟨F2, C2⟩ := hq2
    refine (c_toBitsV (d := 36) (Nat.zero_le _) t3 (NuF_fg F2 (fun k => by omega) (fun k => by omega) hV)).mono (fun x σ3 hq3 => ⟨_, rfl, ?_⟩)
    have F3 : Fg (fun p k => p = 57 ∨ p = 58) σ2 σ3 := hq3.1.fg
    exact ref x σ3 ((hF1.tr (F2.mono (fun _ _ z => mcl z))).tr (F3.mono (fun p k z => by unfold MNu; omega))) (TpC_fg F3 (by omega) (fun k => by omega) C2) (tpm ((hG1.tr (F2.mono (fun p k z => ⟨mcl z, by omega⟩))).tr (F3.mono (fun p k z => ⟨by unfold MNu; omega, by omega⟩)))) (Or.inr ⟨⟨hO, q⟩, hq3.2⟩)
