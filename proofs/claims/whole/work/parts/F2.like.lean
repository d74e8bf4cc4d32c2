/-! addNamed, addLike -/
theorem dT_last {D : List Row} {r r' : Row} (h : r'.2.1 = r.2.1) : dT (D ++ [r']) = dT (D ++ [r]) := by
  funext k
  unfold dT
  rcases Nat.lt_trichotomy k D.length with g | g | g
  · rw [dR_lt g, dR_lt g]
  · subst g; rw [dR_eq, dR_eq, h]
  · unfold dR
    rw [List.getD_eq_getElem?_getD, List.getD_eq_getElem?_getD, List.getElem?_eq_none (by rw [lenR]; omega), List.getElem?_eq_none (by rw [lenR]; omega)]
theorem TrR_last {σ σ' : S_t} {t : Nat} {D : List Row} {r r' : Row} (hT : TrR σ t (D ++ [r])) (hd : r'.2.1 = r.2.1) (hcc : rCc r ≤ rCc r') (c11 : gI σ' t 11 = nI (cc D + rCc r')) (c12 : gI σ' t 12 = nI (bts D + rBt r')) (c13 : gI σ' t 13 = gI σ t 13) (c14 : gI σ' t 14 = 0) (hold : ∀ k, k < D.length → (∀ j, 1 ≤ j → j ≤ 10 → gI σ' (t + j) k = gI σ (t + j) k) ∧ gL σ' (t + 7) k = gL σ (t + 7) k) (hch : ∀ i, i < cc (D ++ [r]) → gI σ' (t + 11) i = gI σ (t + 11) i) (hrow : TrRow σ' t (D ++ [r']) D.length) : TrR σ' t (D ++ [r']) := by
  obtain ⟨t1, t2, t3, t4, t5⟩ := hT
  have eT := dT_last (D := D) hd
  refine ⟨by rw [cc_app]; exact c11, by rw [bts_app]; exact c12, by rw [c13, t3, lenR, lenR], c14, fun k hk => ?_⟩
  rw [lenR] at hk
  by_cases q : k = D.length
  · subst q; exact hrow
  · have hk : k < D.length := by omega
    refine TrRow_same (t5 k (by rw [lenR]; omega)) (hold k hk).1 (hold k hk).2 hch (by rw [cc_app, cc_app]; omega) (by rw [dR_lt hk, dR_lt hk]) (by rw [eT]) (by rw [eT]) (by rw [eT, lenR, lenR])
/-- a row that fits behind D -/
def RowFit (r : Row) : Prop := r.1 ≤ 6 ∧ r.2.1 ≤ 30 ∧ (5 ≤ r.1 → r.2.1 ≤ 29) ∧ (r.1 ≠ 4 → r.2.2.2.1 = []) ∧ (r.1 ≠ 3 → r.2.2.2.2 = 0) ∧ (r.1 = 3 → r.2.2.2.2 < 2 ^ 64 ∧ r.2.2.2.2 % 2 ^ 63 < 9218868437227405312) ∧ Ltrs (r.2.2.1.getD []) ∧ Ltrs r.2.2.2.1
theorem WfR_push {D : List Row} {r : Row} {x : Int32} (hW : WfR D) (hO : OwR D x r.2.1) (hr : RowFit r) (hN : r.2.2.1 = none ↔ ¬ OwN D x) (hn : D.length < 500) (hb : bts D + rBt r ≤ 4000) : WfR (D ++ [r]) := by
  obtain ⟨w1, w2, w3, w4, w5, w6⟩ := hW
  obtain ⟨s1, s2, s3, s4, s5⟩ := push_shape (r := r) w1 hO
  obtain ⟨f1, f2, f3⟩ := OwR_fit w1 hO
  have eK : ∀ k, k < D.length → dK (D ++ [r]) k = dK D k := fun k hk => by unfold dK; rw [dR_lt hk]
  have eN : ∀ k, k < D.length → dN (D ++ [r]) k = dN D k := fun k hk => by unfold dN; rw [dR_lt hk]
  have hg : ∀ k, k < D.length → dT (D ++ [r]) k = dT D k := fun k hk => by unfold dT; rw [dR_lt hk]
  have hnn : dT (D ++ [r]) D.length = r.2.1 := by unfold dT; rw [dR_eq]
  have eN0 : dN (D ++ [r]) D.length = r.2.2.1 := by unfold dN; rw [dR_eq]
  refine ⟨s1, fun k hk => ?_, fun k h0 hk => ?_, fun _ => ?_, by rw [lenR]; omega, by rw [bts_app]; exact hb⟩
  · rw [lenR] at hk
    by_cases q : k = D.length
    · subst q
      unfold RowOk dK dT dX dB nam dN
      rw [dR_eq]
      exact hr
    · have := w2 k (by omega)
      unfold RowOk dK dT dX dB nam dN at this ⊢
      rw [dR_lt (by omega)]
      exact this
  · rw [lenR] at hk
    by_cases q : k = D.length
    · subst q
      obtain ⟨g1, g2⟩ := f2 h0
      obtain ⟨hx, hO2, he, h5⟩ := f3 h0
      rw [(ap_par_n hg hnn w1 h0 g1 g2).1, eK _ hO2.1, eN0, hN]
      refine ⟨h5, not_congr ⟨fun ⟨p, e1, e2, e3⟩ => ?_, fun h => ⟨_, hx, hO2.1, h⟩⟩⟩
      have : p = lst (dT D) (r.2.1 - 1) D.length := (nI_eq (by omega) (by have := hO2.1; omega)).mp (e1.symm.trans hx)
      rw [← this]; exact e3
    · have hk : k < D.length := by omega
      obtain ⟨p1, p2, p3⟩ := par_spec w1 h0 hk
      rw [ap_par hg hk, eK _ (by omega), eN k hk]
      exact w3 k h0 hk
  · by_cases q : D.length = 0
    · have : dN (D ++ [r]) 0 = r.2.2.1 := by have := eN0; rw [q] at this; exact this
      rw [this, hN]
      rintro ⟨p, _, e2, _⟩
      omega
    · rw [eN 0 (by omega)]; exact w4 (by omega)
def AdP (σ' : S_t) (t : Nat) (D : List Row) (r : Row) (res : Int32) : Prop := (adR (some D) r = none ∧ gI σ' t 14 = 1 ∧ (res = -1 ∨ (res = nI D.length ∧ D.length < 500))) ∨ (adR (some D) r = some (D ++ [r]) ∧ res = nI D.length ∧ D.length < 500 ∧ TrR σ' t (D ++ [r]) ∧ WfR (D ++ [r]))
theorem adR_no {D : List Row} {r : Row} (h : D.length = 500 ∨ 4000 < bts D + rBt r) : adR (some D) r = none := if_pos h
theorem adR_yes {D : List Row} {r : Row} (h1 : D.length < 500) (h2 : bts D + rBt r ≤ 4000) : adR (some D) r = some (D ++ [r]) := if_neg (by omega)
theorem tr_apart {i j : Nat} (h : i ≠ j) : (∀ a, a ≤ 11 → tr j + a ≠ tr i ∧ tr j + a ≠ tr i + 11) ∧ ∀ p k, TPl (tr i) p k → ¬ TPl (tr j) p k := by
  unfold TPl tr
  exact ⟨fun a ha => by omega, fun p k h1 h2 => by omega⟩
