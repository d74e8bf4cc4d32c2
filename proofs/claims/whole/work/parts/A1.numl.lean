/-! the numeral's grammar, and the reference's walk over it -/
def nA0 (l : List Nat) (a : Nat) : Nat := if Chr l a 45 then a + 1 else a
def nA1 (l : List Nat) (a : Nat) : Nat := if Chr l (nA0 l a) 48 then nA0 l a + 1 else nA0 l a + nd l (nA0 l a)
def nS1 (l : List Nat) (a : Nat) : List Nat × Int := if Chr l (nA0 l a) 48 then ([], 0) else kps 1 l (nA0 l a) ([], 0) (nd l (nA0 l a))
def nA2 (l : List Nat) (a : Nat) : Nat := if Chr l (nA1 l a) 46 then nA1 l a + 1 + nd l (nA1 l a + 1) else nA1 l a
def nS2 (l : List Nat) (a : Nat) : List Nat × Int := if Chr l (nA1 l a) 46 then kps 0 l (nA1 l a + 1) (nS1 l a) (nd l (nA1 l a + 1)) else nS1 l a
abbrev isEx (l : List Nat) (e : Nat) : Prop := Chr l e 101 ∨ Chr l e 69
def nA3 (l : List Nat) (a : Nat) : Nat := if Chr l (nA2 l a + 1) 45 ∨ Chr l (nA2 l a + 1) 43 then nA2 l a + 2 else nA2 l a + 1
def nA4 (l : List Nat) (a : Nat) : Nat := if isEx l (nA2 l a) then nA3 l a + nd l (nA3 l a) else nA2 l a
def nX (l : List Nat) (a : Nat) : Nat := xe l (nA3 l a) (nd l (nA3 l a))
def nE (l : List Nat) (a : Nat) : Int := if isEx l (nA2 l a) then (if Chr l (nA2 l a + 1) 45 then -(nX l a : Int) else (nX l a : Int)) else 0
def nP (l : List Nat) (a : Nat) : Int := (nS2 l a).2 + nE l a
/-- it is no numeral, and b is the byte to blame -/
def NmF (l : List Nat) (a b : Nat) : Prop := (¬ Dgt l (nA0 l a) ∧ b = nA0 l a) ∨ (Dgt l (nA0 l a) ∧ Chr l (nA1 l a) 46 ∧ ¬ Dgt l (nA1 l a + 1) ∧ b = nA1 l a + 1) ∨ (Dgt l (nA0 l a) ∧ (Chr l (nA1 l a) 46 → Dgt l (nA1 l a + 1)) ∧ isEx l (nA2 l a) ∧ ¬ Dgt l (nA3 l a) ∧ b = nA3 l a)
def NmO (l : List Nat) (a : Nat) : Prop := Dgt l (nA0 l a) ∧ (Chr l (nA1 l a) 46 → Dgt l (nA1 l a + 1)) ∧ (isEx l (nA2 l a) → Dgt l (nA3 l a))
theorem NmF_no {l : List Nat} {a b : Nat} (h : NmF l a b) : ¬ NmO l a := by
  rintro ⟨h1, h2, h3⟩
  rcases h with q | q | q
  · exact q.1 h1
  · exact q.2.2.1 (h2 q.2.1)
  · exact q.2.2.2.1 (h3 q.2.2.1)
theorem NmF_uniq {l : List Nat} {a b b' : Nat} (h : NmF l a b) (h' : NmF l a b') : b = b' := by
  rcases h with q | q | q <;> rcases h' with q' | q' | q'
  · rw [q.2, q'.2]
  · exact absurd q'.1 q.1
  · exact absurd q'.1 q.1
  · exact absurd q.1 q'.1
  · rw [q.2.2.2, q'.2.2.2]
  · exact absurd (q'.2.1 q.2.1) q.2.2.1
  · exact absurd q.1 q'.1
  · exact absurd (q.2.1 q'.2.1) q'.2.2.1
  · rw [q.2.2.2.2, q'.2.2.2.2]
/-- what a decimal is read as -/
def Rdd (L : List Nat) (P : Int) (x : Int64) : Prop := (L.length = 0 ∧ x = lN 0) ∨ (0 < L.length ∧ ((P < -340 ∧ x = lN 0) ∨ (320 < P ∧ x = lN 9218868437227405312) ∨ (-340 ≤ P ∧ P ≤ 320 ∧ ∃ B, RdB (SV (dval (gA L) L.length) L.length P) B ∧ x = lN B)))
theorem Rdd_uniq {L : List Nat} {P : Int} {x y : Int64} (h : Rdd L P x) (h' : Rdd L P y) : x = y := by
  rcases h with ⟨a1, a2⟩ | ⟨a1, ⟨a2, a3⟩ | ⟨a2, a3⟩ | ⟨a2, a3, B, a4, a5⟩⟩ <;> rcases h' with ⟨b1, b2⟩ | ⟨b1, ⟨b2, b3⟩ | ⟨b2, b3⟩ | ⟨b2, b3, B', b4, b5⟩⟩ <;> first | omega | (simp only [*]; done) | (rw [a5, b5, RdB_uniq a4 b4])
def sgL (b : Prop) [Decidable b] : Int64 := if b then -9223372036854775808 else 0
/-- the bits of the numeral at a -/
def NmV (l : List Nat) (a : Nat) (v : Int64) : Prop := ∃ x, Rdd (nS2 l a).1 (nP l a) x ∧ v = x ||| sgL (Chr l a 45)
theorem NmV_uniq {l : List Nat} {a : Nat} {v v' : Int64} (h : NmV l a v) (h' : NmV l a v') : v = v' := by
  obtain ⟨x, h1, rfl⟩ := h
  obtain ⟨y, h2, rfl⟩ := h'
  rw [Rdd_uniq h1 h2]
theorem nA0_le {l : List Nat} {a : Nat} (h : a ≤ l.length) : nA0 l a ≤ l.length ∧ a ≤ nA0 l a := by
  unfold nA0; split <;> omega
theorem nA1_le {l : List Nat} {a : Nat} (h : a ≤ l.length) : nA1 l a ≤ l.length ∧ a ≤ nA1 l a := by
  have h0 := nA0_le h
  have := nd_le h0.1
  unfold nA1; split <;> omega
theorem nA2_le {l : List Nat} {a : Nat} (h : a ≤ l.length) : nA2 l a ≤ l.length ∧ a ≤ nA2 l a := by
  have h0 := nA1_le h
  unfold nA2
  split
  · have := nd_le (l := l) (a := nA1 l a + 1) (by omega)
    omega
  · exact h0
theorem nA3_le {l : List Nat} {a : Nat} (h : a ≤ l.length) (he : isEx l (nA2 l a)) : nA3 l a ≤ l.length ∧ a ≤ nA3 l a := by
  have h0 := nA2_le h
  have h1 : nA2 l a < l.length := by rcases he with q | q <;> exact q.1
  unfold nA3
  split
  · rename_i q
    rcases q with q | q <;> (have := q.1; omega)
  · omega
theorem nA4_le {l : List Nat} {a : Nat} (h : a ≤ l.length) : nA4 l a ≤ l.length ∧ a ≤ nA4 l a := by
  unfold nA4
  split
  · rename_i he
    have h0 := nA3_le h he
    have := nd_le h0.1
    omega
  · exact nA2_le h
theorem NmF_le {l : List Nat} {a b : Nat} (h : a ≤ l.length) (hf : NmF l a b) : b ≤ l.length ∧ a ≤ b := by
  rcases hf with q | q | q
  · rw [q.2]; exact nA0_le h
  · have := nA1_le h
    have := q.2.1.1
    omega
  · rw [q.2.2.2.2]; exact nA3_le h q.2.2.1
theorem KpOk.up {m n : Nat} {st : List Nat × Int} (h : KpOk m st) (hn : m ≤ n) : KpOk n st := ⟨by have := h.1; omega, by have := h.2.1; omega, by have := h.2.2.1; omega, h.2.2.2⟩
theorem Kp0 : KpOk 0 ([], 0) := ⟨Nat.le_refl _, by decide, by decide, fun k hk => absurd hk (Nat.not_lt_zero k), Or.inl rfl⟩
theorem nS1_ok (l : List Nat) (a : Nat) (h : a ≤ l.length) : KpOk (nA1 l a) (nS1 l a) := by
  unfold nS1 nA1
  split
  · exact Kp0.up (by omega)
  · have := kps_ok (l := l) (a := nA0 l a) Kp0 (Or.inr rfl) (fun k (hk : k < nd l (nA0 l a)) => nd_yes hk)
    exact this.up (by omega)
theorem nS2_ok (l : List Nat) (a : Nat) (h : a ≤ l.length) : KpOk (nA2 l a) (nS2 l a) := by
  unfold nS2 nA2
  split
  · have := kps_ok (l := l) (a := nA1 l a + 1) (nS1_ok l a h) (Or.inl rfl) (fun k (hk : k < nd l (nA1 l a + 1)) => nd_yes hk)
    exact this.up (by omega)
  · exact nS1_ok l a h
theorem nX_lt (l : List Nat) (a : Nat) : nX l a < 1000000 := xe_lt (fun _ hk => nd_yes hk)
theorem nP_b {l : List Nat} {a : Nat} (h : a ≤ l.length) (hl : l.length ≤ 2000) : -1002000 ≤ nP l a ∧ nP l a ≤ 1002000 := by
  have h1 := nS2_ok l a h
  have h2 := nX_lt l a
  have h3 := nA2_le h
  have h4 := h1.2.1
  have h5 := h1.2.2.1
  unfold nP nE
  split
  · split <;> omega
  · omega
def MNm : Nat → Nat → Prop := fun p k => p = 3 ∨ p = 4 ∨ (p = 0 ∧ (k = 6 ∨ k = 7 ∨ k = 9 ∨ k = 10))
theorem MNm3 {k : Nat} : MNm 3 k := Or.inl rfl
theorem MNm6 : MNm 0 6 := Or.inr (Or.inr ⟨rfl, Or.inl rfl⟩)
theorem MNm7 : MNm 0 7 := Or.inr (Or.inr ⟨rfl, Or.inr (Or.inl rfl)⟩)
theorem MNm9 : MNm 0 9 := Or.inr (Or.inr ⟨rfl, Or.inr (Or.inr (Or.inl rfl))⟩)
theorem MNm10 : MNm 0 10 := Or.inr (Or.inr ⟨rfl, Or.inr (Or.inr (Or.inr rfl))⟩)
def NsM (σ : S_t) (l : List Nat) (a : Nat) (st : List Nat × Int) : Prop := TcM σ l ∧ gI σ 0 9 = nI a ∧ gI σ 0 6 = nI st.1.length ∧ gI σ 0 7 = zI st.2 ∧ ∀ k, k < st.1.length → gI σ 3 k = nI (gA st.1 k)
theorem zI_1 (z : Int) : zI z + 1 = zI (z + 1) := zI_add z 1
theorem zI_m1 (z : Int) : zI z - 1 = zI (z - 1) := zI_sub z 1
theorem TcM_fg {P : Nat → Nat → Prop} {σ σ' : S_t} {l : List Nat} (hF : Fg P σ σ') (h : ∀ k, ¬ P 1 k) (hT : TcM σ l) : TcM σ' l := fun k hk => by rw [hF.1 1 k (h k)]; exact hT k hk
theorem NsM_at {σ : S_t} {l : List Nat} {a b : Nat} {st : List Nat × Int} (h : NsM σ l a st) : NsM (sI σ 0 9 (nI b)) l b st := by
  obtain ⟨h1, h2, h3, h4, h5⟩ := h
  exact ⟨fun k hk => by rw [gI_sI_n (Or.inl (by decide))]; exact h1 k hk, gI_sI_s _ _ _ _, by rw [gI_sI_n (Or.inr (by decide))]; exact h3, by rw [gI_sI_n (Or.inr (by decide))]; exact h4, fun k hk => by rw [gI_sI_n (Or.inl (by decide))]; exact h5 k hk⟩
theorem NsM_pt {σ : S_t} {l : List Nat} {a : Nat} {L : List Nat} {p p' : Int} (h : NsM σ l a (L, p)) : NsM (sI σ 0 7 (zI p')) l a (L, p') := by
  obtain ⟨h1, h2, h3, h4, h5⟩ := h
  exact ⟨fun k hk => by rw [gI_sI_n (Or.inl (by decide))]; exact h1 k hk, by rw [gI_sI_n (Or.inr (by decide))]; exact h2, by rw [gI_sI_n (Or.inr (by decide))]; exact h3, gI_sI_s _ _ _ _, fun k hk => by rw [gI_sI_n (Or.inl (by decide))]; exact h5 k hk⟩
theorem NsM_dg {σ : S_t} {l : List Nat} {a x : Nat} {st : List Nat × Int} (h : NsM σ l a st) (hl : st.1.length < 6000) : NsM (sI (sI σ 3 (gI σ 0 6).toNatClampNeg (nI x)) 0 6 ((gI (sI σ 3 (gI σ 0 6).toNatClampNeg (nI x)) 0 6) + (1 : Int32))) l a (st.1 ++ [x], st.2) := by
  obtain ⟨h1, h2, h3, h4, h5⟩ := h
  refine ⟨fun k hk => ?_, ?_, ?_, ?_, fun k hk => ?_⟩
  · rw [gI_sI_n (Or.inl (by decide)), gI_sI_n (Or.inl (by decide))]; exact h1 k hk
  · rw [gI_sI_n (Or.inr (by decide)), gI_sI_n (Or.inl (by decide))]; exact h2
  · rw [gI_sI_s, gI_sI_n (Or.inl (by decide)), h3, nI_1, len1]
  · rw [gI_sI_n (Or.inr (by decide)), gI_sI_n (Or.inl (by decide))]; exact h4
  · rw [gI_sI_n (Or.inl (by decide)), h3, nI_clamp (by omega)]
    have hk : k < (st.1 ++ [x]).length := hk
    rw [len1] at hk
    show _ = nI (gA (st.1 ++ [x]) k)
    by_cases q : k = st.1.length
    · subst q; rw [gI_sI_s, gA_eq]
    · rw [gI_sI_n (Or.inr q), gA_lt (by omega)]; exact h5 k (by omega)
theorem hr_sub {l : List Nat} {a : Nat} (h : Dgt l a) : hr l a - (48 : Int32) = nI (gA l a - 48) := by
  rw [hr_lt h.1]; exact pk_sub (b := 48) h.2.1
theorem kp_app {s : Int} {st : List Nat × Int} {x : Nat} (h : ¬ (st.1 = [] ∧ x = 0)) : kp s st x = (st.1 ++ [x], st.2 + s) := if_neg h
theorem kp_no {s : Int} {st : List Nat × Int} {x : Nat} (h : st.1 = [] ∧ x = 0) : kp s st x = (st.1, st.2 + s - 1) := if_pos h
theorem kp_ne {s : Int} {st : List Nat × Int} {x : Nat} (h : st.1 ≠ []) : (kp s st x).1 ≠ [] := by
  rw [kp_app (fun q => h q.1)]
  exact List.append_ne_nil_of_right_ne_nil _ (List.cons_ne_nil _ _)
theorem kps_ne {l : List Nat} {b : Nat} (h : gA l b - 48 ≠ 0) : ∀ j, 0 < j → (kps 1 l b ([], 0) j).1 ≠ []
  | 0, q => absurd q (Nat.lt_irrefl 0)
  | 1, _ => by
    show (kp 1 ([], 0) (gA l b - 48)).1 ≠ []
    rw [kp_app (fun q => h q.2)]
    exact List.cons_ne_nil _ _
  | j + 2, _ => kp_ne (kps_ne h (j + 1) (by omega))
section TN
variable {E : En_t} {d : Nat} {Q : Option Value → S_t → Prop} {l : List Nat}
theorem tn_int (hb : Bt l) (hl : l.length ≤ 2000) (b : Nat) (hbl : b ≤ l.length) (h0 : gA l b - 48 ≠ 0) (x2 : Int32) (σ0 : S_t)
    (hQ : ∀ σ', Fg MNm σ0 σ' → NsM σ' l (b + nd l b) (kps 1 l b ([], 0) (nd l b)) → JE E (d + 1) m_Mo_takeNumeral 141 [(0, pv E 0), (1, .int (nI l.length)), (2, .int x2), (3, .int (1 : Int32))] [] σ' Q) :
    ∀ (m j : Nat) (σ : S_t), j + m = nd l b → Fg MNm σ0 σ → NsM σ l (b + j) (kps 1 l b ([], 0) j) → JE E (d + 1) m_Mo_takeNumeral 78 [(0, pv E 0), (1, .int (nI l.length)), (2, .int x2)] [] σ Q := by
  have hnd := nd_le hbl
  intro m
  induction m with
  | zero =>
    intro j σ hj hF hN
    have : j = nd l b := by omega
    subst this
    exact b_Mo_takeNumeral_78 (hd_M hN.1 hb hl (by omega) hN.2.1 (fun _ => hQ σ hF hN) (fun q => absurd q (nd_no l b)))
  | succ m ih =>
    intro j σ hj hF hN
    have hD : Dgt l (b + j) := nd_yes (by omega)
    refine b_Mo_takeNumeral_78 (hd_M hN.1 hb hl (by omega) hN.2.1 (fun q => absurd hD q) (fun _ => (c_hereM hN.1 hl (by omega) hN.2.1).mono (fun r σ1 hq => ?_)))
    rw [hq.1, hq.2, hr_sub hD]
    have hk := kps_ok (l := l) (a := b) Kp0 (Or.inr rfl) (fun k (hk : k < j) => nd_yes (l := l) (a := b) (by omega))
    have hlen : (kps 1 l b ([], 0) j).1.length ≤ 2000 := by have := hk.1; omega
    refine ⟨by rw [hN.2.2.1]; exact vin (by omega) (by decide), fun σ7 e7 => ?_⟩
    have hN7 := NsM_dg (x := gA l (b + j) - 48) hN (by omega)
    rw [← e7] at hN7
    have hF7 : Fg MNm σ0 σ7 := by rw [e7]; exact (hF.si MNm3).si MNm6
    have h7 : gI σ7 0 7 + (1 : Int32) = zI ((kps 1 l b ([], 0) j).2 + 1) := by rw [hN7.2.2.2.1]; exact zI_1 _
    rw [h7]
    have hN8 := NsM_pt (p' := (kps 1 l b ([], 0) j).2 + 1) hN7
    have h9 : gI (sI σ7 0 7 (zI ((kps 1 l b ([], 0) j).2 + 1))) 0 9 + (1 : Int32) = nI (b + (j + 1)) := by rw [hN8.2.1, nI_1]; rfl
    rw [h9]
    refine ih (j + 1) _ (by omega) ((hF7.si MNm7).si MNm9) ?_
    have hN9 := NsM_at (b := b + (j + 1)) hN8
    have : kps 1 l b ([], 0) (j + 1) = ((kps 1 l b ([], 0) j).1 ++ [gA l (b + j) - 48], (kps 1 l b ([], 0) j).2 + 1) := by
      refine kp_app (fun q => ?_)
      rcases Nat.eq_zero_or_pos j with z | z
      · subst z; exact h0 q.2
      · exact kps_ne h0 j z q.1
    rw [this]
    exact hN9
theorem tn_frac (hb : Bt l) (hl : l.length ≤ 2000) (b : Nat) (hbl : b ≤ l.length) (st : List Nat × Int) (hst : st.1.length ≤ 2000) (x2 : Int32) (σ0 : S_t)
    (hQ : ∀ σ', Fg MNm σ0 σ' → NsM σ' l (b + nd l b) (kps 0 l b st (nd l b)) → JE E (d + 1) m_Mo_takeNumeral 253 [(0, pv E 0), (1, .int (nI l.length)), (2, .int x2)] [] σ' Q)
    (hln : ∀ j, (kps 0 l b st j).1.length ≤ 2000 + j) :
    ∀ (m j : Nat) (σ : S_t) (x3 : Int32), j + m = nd l b → Fg MNm σ0 σ → NsM σ l (b + j) (kps 0 l b st j) → (x3 = 0 ↔ (kps 0 l b st j).1 = []) → JE E (d + 1) m_Mo_takeNumeral 174 [(0, pv E 0), (1, .int (nI l.length)), (2, .int x2), (3, .int x3)] [] σ Q := by
  have hnd := nd_le hbl
  intro m
  induction m with
  | zero =>
    intro j σ x3 hj hF hN hx
    have : j = nd l b := by omega
    subst this
    exact b_Mo_takeNumeral_174 (hd_M hN.1 hb hl (by omega) hN.2.1 (fun _ => hQ σ hF hN) (fun q => absurd q (nd_no l b)))
  | succ m ih =>
    intro j σ x3 hj hF hN hx
    have hD : Dgt l (b + j) := nd_yes (by omega)
    refine b_Mo_takeNumeral_174 (hd_M hN.1 hb hl (by omega) hN.2.1 (fun q => absurd hD q) (fun _ => (c_hereM hN.1 hl (by omega) hN.2.1).mono (fun r σ1 hq => ?_)))
    rw [hq.1, hq.2, hr_sub hD]
    have hlen := hln j
    have app : ¬ ((kps 0 l b st j).1 = [] ∧ gA l (b + j) - 48 = 0) → JE E (d + 1) m_Mo_takeNumeral 204 [(0, pv E 0), (1, .int (nI l.length)), (2, .int x2), (4, .int (nI (gA l (b + j) - 48)))] [] σ Q := by
      intro hne
      refine b_Mo_takeNumeral_204 ⟨by rw [hN.2.2.1]; exact vin (by omega) (by decide), b_Mo_takeNumeral_240 ?_⟩
      have hN7 := NsM_dg (x := gA l (b + j) - 48) hN (by omega)
      have hF7 : Fg MNm σ0 (sI (sI σ 3 (gI σ 0 6).toNatClampNeg (nI (gA l (b + j) - 48))) 0 6 ((gI (sI σ 3 (gI σ 0 6).toNatClampNeg (nI (gA l (b + j) - 48))) 0 6) + (1 : Int32))) := (hF.si MNm3).si MNm6
      generalize sI (sI σ 3 (gI σ 0 6).toNatClampNeg (nI (gA l (b + j) - 48))) 0 6 ((gI (sI σ 3 (gI σ 0 6).toNatClampNeg (nI (gA l (b + j) - 48))) 0 6) + (1 : Int32)) = σ7 at hN7 hF7 ⊢
      rw [hN7.2.1, nI_1]
      have hN9 := NsM_at (b := b + j + 1) hN7
      have e : kps 0 l b st (j + 1) = ((kps 0 l b st j).1 ++ [gA l (b + j) - 48], (kps 0 l b st j).2) := by
        show kp 0 _ _ = _
        rw [kp_app hne, Int.add_zero]
      refine ih (j + 1) _ 1 (by omega) (hF7.si MNm9) (by rw [e]; exact hN9) ⟨fun q => absurd q (by decide), fun q => ?_⟩
      rw [e] at q
      exact absurd q (List.append_ne_nil_of_right_ne_nil _ (List.cons_ne_nil _ _))
    refine ⟨fun q => app (fun z => q (hx.mpr z.1)), fun q => ?_⟩
    have c : nI (gA l (b + j) - 48) ≤ 0 ↔ gA l (b + j) - 48 ≤ 0 := nI_leI (b := 0) (by omega) (by decide)
    rw [c]
    refine ⟨fun z => ?_, fun z => app (fun y => z (by omega))⟩
    refine b_Mo_takeNumeral_240 ?_
    have h7 : gI σ 0 7 - (1 : Int32) = zI ((kps 0 l b st j).2 - 1) := by rw [hN.2.2.2.1]; exact zI_m1 _
    rw [h7]
    have hN8 := NsM_pt (L := (kps 0 l b st j).1) (p := (kps 0 l b st j).2) (p' := (kps 0 l b st j).2 - 1) hN
    rw [hN8.2.1, nI_1]
    have hN9 := NsM_at (b := b + j + 1) hN8
    have e : kps 0 l b st (j + 1) = ((kps 0 l b st j).1, (kps 0 l b st j).2 - 1) := by
      show kp 0 _ _ = _
      rw [kp_no ⟨hx.mp q, by omega⟩, Int.add_zero]
    refine ih (j + 1) _ x3 (by omega) ((hF.si MNm7).si MNm9) (by rw [e]; exact hN9) (by rw [e]; exact hx)
theorem tn_exp (hb : Bt l) (hl : l.length ≤ 2000) (b : Nat) (hbl : b ≤ l.length) (st : List Nat × Int) (x2 x4 : Int32) (σ0 : S_t)
    (hQ : ∀ σ', Fg MNm σ0 σ' → NsM σ' l (b + nd l b) (st.1, st.2 + (if x4 = 0 then (xe l b (nd l b) : Int) else -(xe l b (nd l b) : Int))) → JE E (d + 1) m_Mo_takeNumeral 415 [(0, pv E 0), (2, .int x2)] [] σ' Q) :
    ∀ (m j : Nat) (σ : S_t), j + m = nd l b → Fg MNm σ0 σ → NsM σ l (b + j) st → JE E (d + 1) m_Mo_takeNumeral 341 [(0, pv E 0), (1, .int (nI l.length)), (2, .int x2), (4, .int x4), (5, .int (nI (xe l b j)))] [] σ Q := by
  have hnd := nd_le hbl
  intro m
  induction m with
  | zero =>
    intro j σ hj hF hN
    have : j = nd l b := by omega
    subst this
    refine b_Mo_takeNumeral_341 (hd_M hN.1 hb hl (by omega) hN.2.1 (fun _ => ⟨fun z => b_Mo_takeNumeral_411 ?_, fun z => b_Mo_takeNumeral_411 ?_⟩) (fun q => absurd q (nd_no l b)))
    · have e : gI σ 0 7 + nI (xe l b (nd l b)) = zI (st.2 + (if x4 = 0 then (xe l b (nd l b) : Int) else -(xe l b (nd l b) : Int))) := by rw [hN.2.2.2.1, if_pos z, ← zI_nI, zI_add]
      rw [e]
      exact hQ _ (hF.si MNm7) (NsM_pt (L := st.1) (p := st.2) hN)
    · have e : gI σ 0 7 + -nI (xe l b (nd l b)) = zI (st.2 + (if x4 = 0 then (xe l b (nd l b) : Int) else -(xe l b (nd l b) : Int))) := by
        rw [hN.2.2.2.1, if_neg z, ← zI_nI, show -zI ((xe l b (nd l b) : Nat) : Int) = zI (-((xe l b (nd l b) : Nat) : Int)) from (Int32.ofInt_neg _).symm, zI_add]
      rw [e]
      exact hQ _ (hF.si MNm7) (NsM_pt (L := st.1) (p := st.2) hN)
  | succ m ih =>
    intro j σ hj hF hN
    have hD : Dgt l (b + j) := nd_yes (by omega)
    have hx := xe_lt (l := l) (a := b) (m := j) (fun k hk => nd_yes (by omega))
    have c : (100000 : Int32) ≤ nI (xe l b j) ↔ 100000 ≤ xe l b j := nI_leI (a := 100000) (by decide) (by omega)
    have nx : xe l b (j + 1) = if xe l b j < 100000 then 10 * xe l b j + (gA l (b + j) - 48) else xe l b j := rfl
    have fin : JE E (d + 1) m_Mo_takeNumeral 378 [(0, pv E 0), (1, .int (nI l.length)), (2, .int x2), (4, .int x4)] [.int (nI (xe l b (j + 1)))] σ Q := by
      refine b_Mo_takeNumeral_378 ?_
      rw [hN.2.1, nI_1]
      exact ih (j + 1) _ (by omega) (hF.si MNm9) (NsM_at (b := b + (j + 1)) hN)
    refine b_Mo_takeNumeral_341 (hd_M hN.1 hb hl (by omega) hN.2.1 (fun q => absurd hD q) (fun _ => ?_))
    rw [c]
    refine ⟨fun z => ?_, fun z => (c_hereM hN.1 hl (by omega) hN.2.1).mono (fun r σ1 hq => ?_)⟩
    · rw [if_neg (by omega)] at nx
      rw [← nx]; exact fin
    · rw [hq.1, hq.2]
      have e : (10 : Int32) * nI (xe l b j) + hr l (b + j) - (48 : Int32) = nI (xe l b (j + 1)) := by
        rw [nx, if_pos (by omega), show (10 : Int32) * nI (xe l b j) = nI (10 * xe l b j) from pk_mul 10 _, hr_lt hD.1, nI_add, show nI (10 * xe l b j + gA l (b + j)) - (48 : Int32) = nI (10 * xe l b j + gA l (b + j) - 48) from pk_sub (b := 48) (by omega)]
        congr 1
        omega
      rw [e]; exact fin
end TN
