/-! the reference's make -/
def MMk : Nat → Nat → Prop := fun p k => MoC 8 p k ∨ p = 28 ∨ (p = 0 ∧ k = 39)
def MLy : Nat → Nat → Prop := fun p k => ((p = 10 ∨ p = 11) ∧ k = 8) ∨ (p = 26 ∧ 32000 ≤ k ∧ k < 36000) ∨ (p = 0 ∧ k = 39)
theorem ML_MM {p k : Nat} (h : MLy p k) : MMk p k := by unfold MLy at h; unfold MMk MoC; omega
theorem cl8 : (8 : Int32).toNatClampNeg = 8 := rfl
theorem in8 : vp_in (8 : Int32) 9 := vin (n := 8) (by decide) (by decide)
theorem c_bytesOf {E : En_t} {d c : Nat} {σ : S_t} (hc : c < 2 ^ 31) : CI E d m_Mo_bytesOf [.int (nI c)] σ (fun r σ' => r = nI (bl c) ∧ σ' = σ) := by
  refine CE.of (L := [(0, .int (nI c))]) rfl (Nat.le_of_ble_eq_true rfl) rfl (b_Mo_bytesOf_0 (pk_le 128 c (fun g1 => pk_le 2048 c (fun g2 => pk_le 65536 c (fun g3 => ⟨_, rfl, ?_, rfl⟩) (fun g3 => ⟨_, rfl, ?_, rfl⟩)) (fun g2 => ⟨_, rfl, ?_, rfl⟩)) (fun g1 => ⟨_, rfl, ?_, rfl⟩)))
  · unfold bl; rw [if_neg (by omega), if_neg (by omega), if_neg (by omega)]; rfl
  · unfold bl; rw [if_neg (by omega), if_neg (by omega), if_pos (by omega)]; rfl
  · unfold bl; rw [if_neg (by omega), if_pos (by omega)]; rfl
  · unfold bl; rw [if_pos (by omega)]; rfl
def LyM (σ : S_t) (C B : Nat) : Prop := gI σ 10 8 = nI C ∧ gI σ 11 8 = nI B ∧ gI σ 0 39 = 0 ∧ C ≤ B ∧ B ≤ 4000
theorem c_lay {E : En_t} {d C B c : Nat} {σ : S_t} (hc : c < 1114112) (h : LyM σ C B) : CV E (d + 1) m_Mo_lay [pv E 0, .int (nI c)] σ (fun σ' => (4000 < B + bl c ∧ σ' = sI σ 0 39 1) ∨ (B + bl c ≤ 4000 ∧ Fg MLy σ σ' ∧ LyM σ' (C + 1) (B + bl c) ∧ gI σ' 26 (32000 + C) = nI c ∧ ∀ k, k ≠ 32000 + C → gI σ' 26 k = gI σ 26 k)) := by
  obtain ⟨h1, h2, h3, h4, h5⟩ := h
  have hb := bl_pos c
  refine CE.of (L := [(0, pv E 0), (1, .int (nI c))]) rfl (Nat.le_of_ble_eq_true rfl) rfl (b_Mo_lay_0 ⟨in8, (c_bytesOf (by omega)).mono (fun r σ1 hq => ?_)⟩)
  rw [hq.1, hq.2, cl8, h2, nI_add]
  refine pk_le (B + bl c) 4000 (fun g => b_Mo_lay_23 ⟨fun _ => ⟨in8, ?_⟩, fun q => absurd h3 q⟩) (fun g => b_Mo_lay_23 ⟨fun q => absurd q (by rw [gI_sI_s]; decide), fun _ => ⟨rfl, Or.inl ⟨g, rfl⟩⟩⟩)
  rw [cl8, h1, show (32000 : Int32) + nI C = nI (32000 + C) from nI_add 32000 C, nI_clamp (by omega)]
  refine ⟨vin (by omega) (by decide), in8, fun v1 e1 => ⟨in8, in8, fun v2 e2 => ?_⟩⟩
  rw [gI_sI_n (Or.inl (by decide)), h1] at e1
  rw [gI_sI_n (Or.inl (by decide)), gI_sI_n (Or.inl (by decide)), h2] at e2
  rw [e1, e2, nI_1]
  refine (c_bytesOf (by omega)).mono (fun r σ3 hq => ⟨in8, rfl, Or.inr ⟨g, ?_⟩⟩)
  rw [hq.1, hq.2, nI_add]
  refine ⟨((Fg.rf.si (Or.inr (Or.inl ⟨rfl, by omega, by omega⟩))).si (Or.inl ⟨Or.inl rfl, rfl⟩)).si (Or.inl ⟨Or.inr rfl, rfl⟩), ⟨?_, gI_sI_s _ _ _ _, ?_, by omega, by omega⟩, ?_, fun k hk => ?_⟩
  · rw [gI_sI_n (Or.inl (by decide)), gI_sI_s]
  · rw [gI_sI_n (Or.inl (by decide)), gI_sI_n (Or.inl (by decide)), gI_sI_n (Or.inl (by decide))]; exact h3
  · rw [gI_sI_n (Or.inl (by decide)), gI_sI_n (Or.inl (by decide)), gI_sI_s]
  · rw [gI_sI_n (Or.inl (by decide)), gI_sI_n (Or.inl (by decide)), gI_sI_n (Or.inr hk)]
theorem c_lay1 {E : En_t} {d c : Nat} {σ : S_t} (hc : c < 1114112) (h : gI σ 0 39 = 1) : CV E (d + 1) m_Mo_lay [pv E 0, .int (nI c)] σ (fun σ' => Fg MLy σ σ' ∧ gI σ' 0 39 = 1) := by
  have m39 : MLy 0 39 := Or.inr (Or.inr ⟨rfl, rfl⟩)
  refine CE.of (L := [(0, pv E 0), (1, .int (nI c))]) rfl (Nat.le_of_ble_eq_true rfl) rfl (b_Mo_lay_0 ⟨in8, (c_bytesOf (by omega)).mono (fun r σ1 hq => ?_)⟩)
  rw [hq.2]
  exact ⟨fun _ => b_Mo_lay_23 ⟨fun q => absurd q (by rw [h]; decide), fun _ => ⟨rfl, Fg.rf, h⟩⟩, fun _ => b_Mo_lay_23 ⟨fun q => absurd q (by rw [gI_sI_s]; decide), fun _ => ⟨rfl, Fg.rf.si m39, gI_sI_s _ _ _ _⟩⟩⟩
/-! rows of the work shelf -/
def MoRowA (σ : S_t) (s : Nat) (D : List Row) (k : Nat) : Prop :=
  gI σ 13 (500 * s + k) = nI (dK D k) ∧ gI σ 14 (500 * s + k) = zI (pI (dT D) k) ∧ gI σ 15 (500 * s + k) = nI (ordr (dT D) k) ∧ gI σ 16 (500 * s + k) = nI (prt (dT D) D.length k) ∧ gI σ 17 (500 * s + k) = nI (siz (dT D) D.length k) ∧ gI σ 18 (500 * s + k) = nI (dT D k) ∧ gL σ 25 (500 * s + k) = lN (dB D k) ∧ gI σ 20 (500 * s + k) = (if dN D k = none then -1 else nI (nam D k).length) ∧ (∃ a, gI σ 19 (500 * s + k) = nI a ∧ a + (nam D k).length ≤ cc D ∧ StrA (fun i => gI σ 26 (4000 * s + i)) a (nam D k)) ∧ gI σ 22 (500 * s + k) = nI (dX D k).length ∧ (∃ a, gI σ 21 (500 * s + k) = nI a ∧ a + (dX D k).length ≤ cc D ∧ StrA (fun i => gI σ 26 (4000 * s + i)) a (dX D k))
def MoRowP (σ : S_t) (s pm : Nat) (D : List Row) (k : Nat) : Prop := (dK D k ≠ 3 → gI σ 24 (500 * s + k) = 0) ∧ (dK D k = 3 → ∃ a m, SpB (dB D k) m ∧ m.length ≤ 26 ∧ gI σ 23 (500 * s + k) = nI a ∧ gI σ 24 (500 * s + k) = nI m.length ∧ a + m.length ≤ pm ∧ StrA (fun i => gI σ 27 (13000 * s + i)) a m)
theorem MoRow_iff {σ : S_t} {s pm k : Nat} {D : List Row} : MoRow σ s pm D k ↔ MoRowA σ s D k ∧ MoRowP σ s pm D k :=
  ⟨fun ⟨a, b, c, d, e, f, g, h, i, j, k', l, m⟩ => ⟨⟨a, b, c, d, e, f, g, h, i, j, k'⟩, l, m⟩, fun ⟨⟨a, b, c, d, e, f, g, h, i, j, k'⟩, l, m⟩ => ⟨a, b, c, d, e, f, g, h, i, j, k', l, m⟩⟩
def MoA (σ : S_t) (s : Nat) (D : List Row) : Prop := gI σ 9 s = nI D.length ∧ gI σ 10 s = nI (cc D) ∧ gI σ 11 s = nI (bts D) ∧ ∀ k, k < D.length → MoRowA σ s D k
def MoP (σ : S_t) (s pm : Nat) (D : List Row) : Prop := gI σ 12 s = nI pm ∧ pm ≤ 26 * D.length ∧ ∀ k, k < D.length → MoRowP σ s pm D k
theorem MoR_iff {σ : S_t} {s : Nat} {D : List Row} : MoR σ s D ↔ MoA σ s D ∧ ∃ pm, MoP σ s pm D :=
  ⟨fun ⟨a, b, c, pm, d, e, f⟩ => ⟨⟨a, b, c, fun k hk => (MoRow_iff.mp (f k hk)).1⟩, pm, e, d, fun k hk => (MoRow_iff.mp (f k hk)).2⟩, fun ⟨⟨a, b, c, g⟩, pm, e, d, f⟩ => ⟨a, b, c, pm, d, e, fun k hk => MoRow_iff.mpr ⟨g k hk, f k hk⟩⟩⟩
/-- the open rows by their depths -/
def OpA (σ : S_t) (D : List Row) : Prop := 0 < D.length → ∀ e, e ≤ dT D (D.length - 1) → gI σ 28 e = nI (lst (dT D) e D.length)
/-- the row more on the work shelf: what the others come to -/
theorem MoRowA_same {σ σ' : S_t} {k : Nat} {D D' : List Row} (h : MoRowA σ 8 D k) (hc : ∀ p, 13 ≤ p → p ≤ 22 → p ≠ 16 → p ≠ 17 → gI σ' p (4000 + k) = gI σ p (4000 + k)) (hL : gL σ' 25 (4000 + k) = gL σ 25 (4000 + k)) (hch : ∀ i, i < cc D → gI σ' 26 (32000 + i) = gI σ 26 (32000 + i)) (hcc : cc D ≤ cc D') (h1 : dR D' k = dR D k) (h2 : pI (dT D') k = pI (dT D) k) (h3 : ordr (dT D') k = ordr (dT D) k) (h16 : gI σ' 16 (4000 + k) = nI (prt (dT D') D'.length k)) (h17 : gI σ' 17 (4000 + k) = nI (siz (dT D') D'.length k)) : MoRowA σ' 8 D' k := by
  obtain ⟨r1, r2, r3, r4, r5, r6, r7, r8, ⟨a, r9, r10, r11⟩, r12, ⟨b, r13, r14, r15⟩⟩ := h
  have eK : dK D' k = dK D k := by unfold dK; rw [h1]
  have eT : dT D' k = dT D k := by unfold dT; rw [h1]
  have eX : dX D' k = dX D k := by unfold dX; rw [h1]
  have eB : dB D' k = dB D k := by unfold dB; rw [h1]
  have eN : dN D' k = dN D k := by unfold dN; rw [h1]
  have eM : nam D' k = nam D k := by unfold nam; rw [eN]
  unfold MoRowA
  rw [eK, eT, eX, eB, eN, eM, h2, h3]
  exact ⟨by rw [hc 13 (by omega) (by omega) (by omega) (by omega)]; exact r1, by rw [hc 14 (by omega) (by omega) (by omega) (by omega)]; exact r2, by rw [hc 15 (by omega) (by omega) (by omega) (by omega)]; exact r3, h16, h17, by rw [hc 18 (by omega) (by omega) (by omega) (by omega)]; exact r6, by rw [hL]; exact r7, by rw [hc 20 (by omega) (by omega) (by omega) (by omega)]; exact r8, ⟨a, by rw [hc 19 (by omega) (by omega) (by omega) (by omega)]; exact r9, by omega, StrA_congr (fun i hi => hch _ (by omega)) r11⟩, by rw [hc 22 (by omega) (by omega) (by omega) (by omega)]; exact r12, ⟨b, by rw [hc 21 (by omega) (by omega) (by omega) (by omega)]; exact r13, by omega, StrA_congr (fun i hi => hch _ (by omega)) r15⟩⟩
theorem push_siz {D : List Row} {r : Row} {x : Int32} (hV : VT (dT D) D.length) (h : OwR D x r.2.1) : (∀ k, k < D.length → siz (dT (D ++ [r])) (D ++ [r]).length k = if dT D k < r.2.1 ∧ lst (dT D) (dT D k) D.length = k then siz (dT D) D.length k + 1 else siz (dT D) D.length k) ∧ siz (dT (D ++ [r])) (D ++ [r]).length D.length = 1 := by
  obtain ⟨f1, f2, f3⟩ := OwR_fit hV h
  have hg : ∀ k, k < D.length → dT (D ++ [r]) k = dT D k := fun k hk => by unfold dT; rw [dR_lt hk]
  have hn : dT (D ++ [r]) D.length = r.2.1 := by unfold dT; rw [dR_eq]
  rw [lenR]
  refine ⟨fun k hk => ?_, ap_siz_n hg hn⟩
  rw [ap_siz hg hn hk]
  have key : (k + siz (dT D) D.length k = D.length ∧ dT D k < r.2.1) ↔ (dT D k < r.2.1 ∧ lst (dT D) (dT D k) D.length = k) := by
    constructor
    · intro z; exact ⟨z.2, Opn_lst (siz_Opn hk z.1)⟩
    · intro z
      obtain ⟨g1, g2⟩ := f2 (by omega)
      have := lst_Opn hV (show 0 < D.length by omega) (j := dT D k) (by omega)
      rw [z.2] at this
      exact ⟨Opn_siz this.1, z.1⟩
  by_cases z : k + siz (dT D) D.length k = D.length ∧ dT D k < r.2.1
  · rw [if_pos z, if_pos (key.mp z)]
  · rw [if_neg z, if_neg (fun y => z (key.mpr y))]
theorem OpA_push {σ σ' : S_t} {D : List Row} {r : Row} {x : Int32} (hV : VT (dT D) D.length) (h : OwR D x r.2.1) (hO : OpA σ D) (h28 : ∀ e, e ≠ r.2.1 → gI σ' 28 e = gI σ 28 e) (hn : gI σ' 28 r.2.1 = nI D.length) : OpA σ' (D ++ [r]) := by
  obtain ⟨f1, f2, f3⟩ := OwR_fit hV h
  have hg : ∀ k, k < D.length → dT (D ++ [r]) k = dT D k := fun k hk => by unfold dT; rw [dR_lt hk]
  have hnn : dT (D ++ [r]) D.length = r.2.1 := by unfold dT; rw [dR_eq]
  intro _ e he
  rw [lenR, show D.length + 1 - 1 = D.length by omega, hnn] at he
  rw [lenR]
  by_cases q : e = r.2.1
  · subst q; rw [hn, ap_lst_n hg hnn]
  · rw [h28 e q, ap_lst hg hnn q]
    have hl : 0 < D.length := by
      rcases Nat.eq_zero_or_pos D.length with z | z
      · have := f1 z; omega
      · exact z
    exact hO hl e (by have := f2 hl; omega)
