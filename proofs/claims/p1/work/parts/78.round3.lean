/-! the reference's round -/
def MY : Nat → Nat → Prop := fun p k => MK p k ∨ MU p k ∨ MN p k
theorem MY_K {σ σ' : S_t} (h : Fs MK σ σ') : Fs MY σ σ' := h.mono (fun _ _ q => Or.inl q)
theorem MY_U {σ σ' : S_t} (h : Fs MU σ σ') : Fs MY σ σ' := h.mono (fun _ _ q => Or.inr (Or.inl q))
theorem MY_N {σ σ' : S_t} (h : Fs MN σ σ') : Fs MY σ σ' := h.mono (fun _ _ q => Or.inr (Or.inr q))
theorem MY5 {k : Nat} : MY 5 k := Or.inl (Or.inr (Or.inl rfl))
theorem MY014 : MY 0 14 := Or.inl (Or.inr (Or.inr ⟨rfl, Or.inr rfl⟩))
theorem MY018 : MY 0 18 := Or.inr (Or.inr (Or.inr ⟨rfl, rfl⟩))
def RAt (σ : S_t) (R : Nat → Nat) (n : Nat) (p : Int) : Prop := gI σ 0 14 = zI p ∧ ∀ i, i < n → gI σ 5 i = nI (R i)
theorem RAt.fsU {σ σ' : S_t} {R : Nat → Nat} {n : Nat} {p : Int} (h : RAt σ R n p) (hF : Fs MU σ σ') : RAt σ' R n p := by
  have n1 : ¬ MU 0 14 := by unfold MU; omega
  have n2 : ∀ k, ¬ MU 5 k := fun k => by unfold MU; omega
  exact ⟨by rw [hF.1 0 14 n1]; exact h.1, fun i hi => by rw [hF.1 5 i (n2 i)]; exact h.2 i hi⟩
theorem OuM.fsN {σ σ' : S_t} {l : List Nat} (h : OuM σ l) (hF : Fs MN σ σ') : OuM σ' l := by
  have n1 : ¬ MN 0 3 := by unfold MN; omega
  have n3 : ¬ MN 0 4 := by unfold MN; omega
  have n2 : ∀ k, ¬ MN 2 k := fun k => by unfold MN; omega
  exact ⟨by rw [hF.1 0 3 n1]; exact h.1, by rw [hF.1 0 4 n3]; exact h.2.1, fun i hi => by rw [hF.1 2 i (n2 i)]; exact h.2.2 i hi⟩
/-- what round writes, once the digits stand -/
theorem rM_out {E : En_t} {d B n : Nat} {none : Bool} {R : Nat → Nat} {p : Int} (σ0 : S_t) {σ : S_t} (hB : B < 2 ^ 64) (hn1 : 1 ≤ n) (hn2 : n ≤ 800) (hF0 : Fs MY σ0 σ) (hR : RAt σ R n p) (hno : none = true → ∀ i, i < n → R i = 0) (hp1 : -9000 ≤ p) (hp2 : p ≤ 9000) :
    JE E (d + 2) m_Mo_round 242 [(0, pv E 0), (1, .long (lN B)), (3, .int (nI n)), (4, .int (bI none))] [] σ (fun r σ' => ∃ x, r = some (.int x) ∧ Fs MY σ0 σ' ∧ ∃ m, m = (if B < 2 ^ 63 then [] else [45]) ++ (dgL R n n ++ pwL p) ∧ OuM σ' m ∧ x = nI m.length) := by
  have last : ∀ (m : List Nat) (w : List Nat) (τ0 : S_t), w.length ≤ 40 → m ++ w = (if B < 2 ^ 63 then [] else [45]) ++ (dgL R n n ++ pwL p) → ∀ (k j : Nat) (τ : S_t), j + k = w.length → Fs MY σ0 τ → PnM τ w → OuM τ (m ++ w.take j) → JE E (d + 2) m_Mo_round 363 [(0, pv E 0), (6, .int (nI j))] [] τ (fun r σ' => ∃ x, r = some (.int x) ∧ Fs MY σ0 σ' ∧ ∃ m, m = (if B < 2 ^ 63 then [] else [45]) ++ (dgL R n n ++ pwL p) ∧ OuM σ' m ∧ x = nI m.length) := by
    intro m w _ hw he k
    induction k with
    | zero =>
      intro j τ hj hF hP hO
      have : j = w.length := by omega
      subst this
      rw [List.take_length] at hO
      exact b_Mo_round_363 ⟨fun _ => ⟨_, rfl, hF, _, he, hO, hO.2.1⟩, fun q => absurd (by rw [hP.1]; exact Int32.le_refl _) q⟩
    | succ k ih =>
      intro j τ hj hF hP hO
      refine b_Mo_round_363 ⟨fun q => absurd q (by rw [hP.1]; exact nI_ge (by omega) (by omega)), fun _ => ⟨vin (by omega) (by omega), ?_⟩⟩
      rw [nI_clamp (by omega), hP.2 j (by omega)]
      refine (c_putM hO).mono (fun σ4 hq4 => ?_)
      rw [nI_1]
      refine ih (j + 1) σ4 (by omega) (hF.tr (MY_U hq4.1)) (hP.fs hq4.1) ?_
      rw [take_gA (by omega), ← List.append_assoc]; exact hq4.2
  -- the power
  have power : ∀ (m : List Nat) (τ : S_t), Fs MY σ0 τ → RAt τ R n p → OuM τ m → m = (if B < 2 ^ 63 then [] else [45]) ++ dgL R n n → JE E (d + 2) m_Mo_round 261 [(0, pv E 0), (3, .int (nI n)), (4, .int (bI none)), (5, .int (nI n))] [] τ (fun r σ' => ∃ x, r = some (.int x) ∧ Fs MY σ0 σ' ∧ ∃ m, m = (if B < 2 ^ 63 then [] else [45]) ++ (dgL R n n ++ pwL p) ∧ OuM σ' m ∧ x = nI m.length) := by
    intro m τ hF hRA hO he
    refine b_Mo_round_261 ⟨fun _ => ?_, fun q => absurd (Int32.le_refl _) q⟩
    refine (c_putM (x := 101) hO).mono (fun σ1 hq1 => ?_)
    have ee : gI τ 0 14 - (1 : Int32) = zI (p - 1) := by rw [hRA.1, show (1 : Int32) = zI 1 from rfl, zI_sub]
    have c0 : (0 : Int32) ≤ zI (p - 1) ↔ 0 ≤ p - 1 := zI_le (a := 0) (by omega) (by omega) (by omega) (by omega)
    have at335 : ∀ s, s = (if p < 1 then 45 else 43) → JE E (d + 2) m_Mo_round 335 [(0, pv E 0), (5, .int (zI (p - 1)))] [.int (nI s), pv E 0] σ1 (fun r σ' => ∃ x, r = some (.int x) ∧ Fs MY σ0 σ' ∧ ∃ m, m = (if B < 2 ^ 63 then [] else [45]) ++ (dgL R n n ++ pwL p) ∧ OuM σ' m ∧ x = nI m.length) := by
      intro s hs
      refine b_Mo_round_335 ((c_putM hq1.2).mono (fun σ2 hq2 => ?_))
      have P0 : PnM (sI σ2 0 18 0) [] := ⟨gI_sI_s _ _ _ _, fun k hk => absurd hk (Nat.not_lt_zero _)⟩
      have F2 : Fs MY σ0 (sI σ2 0 18 0) := ((hF.tr (MY_U hq1.1)).tr (MY_U hq2.1)).si MY018
      have O2 : OuM (sI σ2 0 18 0) (m ++ [101] ++ [s]) := hq2.2.fsN (Fs.rf.si (Or.inr ⟨rfl, rfl⟩))
      have at357 : ∀ v, v = (p - 1).natAbs → JE E (d + 2) m_Mo_round 357 [(0, pv E 0)] [.int (nI v), pv E 0] (sI σ2 0 18 0) (fun r σ' => ∃ x, r = some (.int x) ∧ Fs MY σ0 σ' ∧ ∃ m, m = (if B < 2 ^ 63 then [] else [45]) ++ (dgL R n n ++ pwL p) ∧ OuM σ' m ∧ x = nI m.length) := by
        intro v hv
        refine b_Mo_round_357 ((c_printNum P0 (by simp) (by omega)).mono (fun σ3 hq3 => ?_))
        have P3 : PnM σ3 (numL v) := by have := hq3.2; rw [List.nil_append] at this; exact this
        have hnl := nm_len v
        refine last (m ++ [101] ++ [s]) (numL v) σ3 (by omega) ?_ (numL v).length 0 σ3 (by omega) (F2.tr (MY_N hq3.1)) P3 ?_
        · rw [he, hs, hv]
          unfold pwL
          simp only [List.append_assoc]
        · rw [List.take_zero, List.append_nil]
          exact O2.fsN hq3.1
      rw [c0]
      refine ⟨fun q => ?_, fun q => ?_⟩
      · have : zI (p - 1) = nI (p - 1).natAbs := by rw [← zI_nI]; exact congrArg zI (by omega)
        rw [this]; exact at357 _ rfl
      · have : -(zI (p - 1)) = nI (p - 1).natAbs := by
          have e : -(zI (p - 1)) = zI (-(p - 1)) := (Int32.ofInt_neg _).symm
          rw [e, ← zI_nI]; exact congrArg zI (by omega)
        rw [this]; exact at357 _ rfl
    rw [ee, c0]
    exact ⟨fun q => at335 43 (by rw [if_neg (by omega)]), fun q => at335 45 (by rw [if_pos (by omega)])⟩
  -- the digits
  have digits : ∀ (k j : Nat) (τ : S_t), j + k = n → Fs MY σ0 τ → RAt τ R n p → OuM τ ((if B < 2 ^ 63 then [] else [45]) ++ dgL R n j) → JE E (d + 2) m_Mo_round 261 [(0, pv E 0), (3, .int (nI n)), (4, .int (bI none)), (5, .int (nI j))] [] τ (fun r σ' => ∃ x, r = some (.int x) ∧ Fs MY σ0 σ' ∧ ∃ m, m = (if B < 2 ^ 63 then [] else [45]) ++ (dgL R n n ++ pwL p) ∧ OuM σ' m ∧ x = nI m.length) := by
    intro k
    induction k with
    | zero =>
      intro j τ hj hF hRA hO
      have : j = n := by omega
      subst this
      exact power _ τ hF hRA hO rfl
    | succ k ih =>
      intro j τ hj hF hRA hO
      have at279 : ∀ (τ1 : S_t) (l1 : List Nat), Fs MY σ0 τ1 → RAt τ1 R n p → OuM τ1 l1 → l1 = (if B < 2 ^ 63 then [] else [45]) ++ dgL R n j ++ (if j = 1 then [46] else []) → JE E (d + 2) m_Mo_round 279 [(0, pv E 0), (3, .int (nI n)), (4, .int (bI none)), (5, .int (nI j))] [] τ1 (fun r σ' => ∃ x, r = some (.int x) ∧ Fs MY σ0 σ' ∧ ∃ m, m = (if B < 2 ^ 63 then [] else [45]) ++ (dgL R n n ++ pwL p) ∧ OuM σ' m ∧ x = nI m.length) := by
        intro τ1 l1 F1 R1 O1 he
        have at298 : ∀ v, v = R j → JE E (d + 2) m_Mo_round 298 [(0, pv E 0), (3, .int (nI n)), (4, .int (bI none)), (5, .int (nI j))] [.int (nI v), .int (48 : Int32), pv E 0] τ1 (fun r σ' => ∃ x, r = some (.int x) ∧ Fs MY σ0 σ' ∧ ∃ m, m = (if B < 2 ^ 63 then [] else [45]) ++ (dgL R n n ++ pwL p) ∧ OuM σ' m ∧ x = nI m.length) := by
          intro v hv
          refine b_Mo_round_298 ?_
          rw [i48]
          refine (c_putM O1).mono (fun σ1 hq => ?_)
          rw [nI_1]
          refine ih (j + 1) σ1 (by omega) (F1.tr (MY_U hq.1)) (R1.fsU hq.1) ?_
          have : (if B < 2 ^ 63 then [] else [45]) ++ dgL R n (j + 1) = l1 ++ [48 + v] := by
            rw [he, hv]
            show _ ++ (dgL R n j ++ ((if j = 1 then [46] else []) ++ [48 + (if j < n then R j else 0)])) = _
            rw [if_pos (show j < n by omega)]
            simp only [List.append_assoc]
          rw [this]; exact hq.2
        refine b_Mo_round_279 ⟨fun q => ⟨vin (by omega) (by omega), ?_⟩, fun q => ?_⟩
        · rw [nI_clamp (by omega), R1.2 j (by omega)]; exact at298 _ rfl
        · have hn := (bI_1 none).mp q
          exact at298 0 (hno hn j (by omega)).symm
      have e1 : nI j = (1 : Int32) ↔ j = 1 := nI_eq (b := 1) (by omega) (by omega)
      refine b_Mo_round_261 ⟨fun q => absurd q (nI_ge (by omega) (by omega)), fun _ => ⟨fun q => ?_, fun q => ?_⟩⟩
      · exact at279 τ _ hF hRA hO (by rw [if_neg (fun z => q (e1.mpr z)), List.append_nil])
      · exact (c_putM (x := 46) hO).mono (fun σ1 hq => at279 σ1 _ (hF.tr (MY_U hq.1)) (hRA.fsU hq.1) hq.2 (by rw [if_pos (e1.mp q)]))
  refine b_Mo_round_242 (c_clearM.mono (fun σ1 hq1 => ?_))
  rw [x_neg hB]
  have F1 := hF0.tr (MY_U hq1.1)
  have R1 := hR.fsU hq1.1
  refine ⟨fun q => b_Mo_round_258 (digits n 0 σ1 (by omega) F1 R1 ?_), fun q => (c_putM (x := 45) hq1.2).mono (fun σ2 hq2 => b_Mo_round_258 (digits n 0 σ2 (by omega) (F1.tr (MY_U hq2.1)) (R1.fsU hq2.1) ?_))⟩
  · rw [if_pos q]; exact hq1.2
  · rw [if_neg q]; exact hq2.2
