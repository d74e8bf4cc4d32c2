theorem DecB_pd {b c : Nat} {T : Nat → Nat} {p : Int} (hT : ∀ i, i < c → T i < 10) (hc1 : 1 ≤ c) (hc2 : c ≤ 2000) (hp1 : -8000 ≤ p) (hp2 : p ≤ 8000) (h : (mB b = 0 ∧ c = 1 ∧ T 0 = 0 ∧ p = 1) ∨ (0 < mB b ∧ T 0 ≠ 0 ∧ SV (dval T c) c p = FV b)) : DecB b (pd T c) p := by
  rcases h with ⟨a1, a2, a3, a4⟩ | ⟨a1, a2, a3⟩
  · refine Or.inl ⟨a1, fun i => ?_, a4⟩
    unfold pd
    by_cases q : i < c
    · rw [if_pos q, show i = 0 by omega]; exact a3
    · rw [if_neg q]
  · refine Or.inr ⟨a1, fun i => ?_, ?_, hp1, hp2, c, hc1, hc2, fun i hi => ?_, ?_⟩
    · unfold pd
      by_cases q : i < c
      · rw [if_pos q]; exact hT i q
      · rw [if_neg q]; decide
    · unfold pd; rw [if_pos (by omega)]; exact a2
    · unfold pd; rw [if_neg (by omega)]
    · rw [← a3]
      congr 1
      exact dval_ext (fun i hi => by unfold pd; rw [if_pos hi])
theorem dgL_pd (T : Nat → Nat) (c n : Nat) : dgL T c n = dgL (pd T c) n n := gl_ext (fun i hi => by
  unfold dgF pd
  rw [if_pos hi])
theorem upD_no {T : Nat → Nat} {c n : Nat} (h : c ≤ n) : ¬ upD (pd T c) n := by
  unfold upD pd
  rw [if_neg (by omega)]
  omega
theorem c_putRounded {E : En_t} {d B n : Nat} {l : List Nat} {σ : S_t} (hB : B < 2 ^ 64) (hfin : B % 2 ^ 63 < 9218868437227405312) (hn1 : 1 ≤ n) (hn2 : n ≤ 800) (h : OuC σ l) (hl : l.length ≤ 50000) : CV E (d + 4) m_Pr_putRounded [pv E 59, .long (lN B), .int (nI n), pv E 53] σ (fun σ' => Fs MW σ σ' ∧ ∃ m, RnL B n m ∧ OuC σ' (l ++ m)) := by
  refine CE.of (L := [(0, pv E 59), (1, .long (lN B)), (3, .int (nI n)), (4, pv E 53)]) rfl (Nat.le_of_ble_eq_true rfl) rfl (b_Pr_putRounded_0 ?_)
  rw [x_neg hB]
  have wO : ∀ {τ τ'}, Fs MO τ τ' → Fs MW τ τ' := fun h => h.mono (fun _ _ q => Or.inl q)
  have main : ∀ (τ : S_t) (l1 : List Nat), Fs MW σ τ → OuC τ l1 → l1 = l ++ (if B < 2 ^ 63 then [] else [45]) → JE E (d + 4) m_Pr_putRounded 13 [(0, pv E 59), (1, .long (lN B)), (3, .int (nI n)), (4, pv E 53)] [] τ (fun r σ' => r = none ∧ Fs MW σ σ' ∧ ∃ m, RnL B n m ∧ OuC σ' (l ++ m)) := by
    intro τ l1 hF hO he
    have hl1 : l1.length ≤ 60000 := by rw [he, List.length_append]; split <;> simp <;> omega
    refine b_Pr_putRounded_13 ((c_fractionOf hB).mono (fun x σ1 hq => ?_))
    rw [hq.1, hq.2]
    refine (c_twosOf hB).mono (fun x σ2 hq => ?_)
    rw [hq.1, hq.2]
    refine (c_findAllDigits hfin).mono (fun σ3 hq => ?_)
    obtain ⟨F3, T, c, p, hP, hc1, hc2, hp1, hp2, hv⟩ := hq
    have O3 := hO.fs F3
    have G3 : Fs MW σ σ3 := hF.tr (F3.mono (fun _ _ q => Or.inr q))
    have hD : DecB (B % 2 ^ 63) (pd T c) p := DecB_pd (fun i hi => (hP.2.2 i hi).2) hc1 (by omega) (by omega) (by omega) hv
    have at38 : ∀ (σ4 : S_t) (R : Nat → Nat) (c' : Nat) (p' : Int), Fs MW σ σ4 → OuC σ4 l1 → PrAt σ4 R c' p' → c' ≤ 810 → -4000 ≤ p' → p' ≤ 4000 → RnL B n ((if B < 2 ^ 63 then [] else [45]) ++ (dgL R c' n ++ pwL p')) → JE E (d + 4) m_Pr_putRounded 38 [(0, pv E 59), (3, .int (nI n)), (4, pv E 53)] [] σ4 (fun r σ' => r = none ∧ Fs MW σ σ' ∧ ∃ m, RnL B n m ∧ OuC σ' (l ++ m)) := by
      intro σ4 R c' p' F4 O4 P4 hc' hp1' hp2' hR
      refine b_Pr_putRounded_38 ((c_putDigits P4 hc' O4 (by omega) (by omega)).mono (fun σ5 hq5 => ?_))
      have hlen := dg_len R c' n
      refine (c_putPower (P4.fs hq5.1) (by omega) (by omega) hq5.2 (by rw [List.length_append]; omega)).mono (fun σ6 hq6 => ?_)
      refine ⟨rfl, (F4.tr (wO hq5.1)).tr (wO hq6.1), _, hR, ?_⟩
      rw [← List.append_assoc, ← he, ← List.append_assoc]
      exact hq6.2
    rw [hP.1]
    refine ⟨fun g => ?_, fun g => ?_⟩
    · have g := (nI_leI (by omega) (by omega)).mp g
      refine at38 σ3 T c p G3 O3 hP hc2 (by omega) (by omega) ⟨pd T c, p, pd T c, 0, hD, Or.inl ⟨upD_no g, rfl, fun _ _ => rfl⟩, ?_⟩
      rw [dgL_pd T c n, show p + ((0 : Nat) : Int) = p by omega]
    · have g : n < c := by
        rcases Nat.lt_or_ge n c with q | q
        · exact q
        · exact absurd (nI_le q (by omega)) g
      refine (c_cutTo hP hn1 g hc2).mono (fun σ4 hq4 => ?_)
      obtain ⟨F4, R, dp, P4, hR, hdp⟩ := hq4
      have F4' : Fs PB σ3 σ4 := F4.mono (fun _ _ q => Or.inl q)
      exact at38 σ4 R n _ (G3.tr (F4'.mono (fun _ _ q => Or.inr q))) (O3.fs F4') P4 (by omega) (by omega) (by omega) ⟨pd T c, p, R, dp, hD, hR, rfl⟩
  refine ⟨fun g2 => main σ l Fs.rf h (by rw [if_pos g2, List.append_nil]), fun g2 => ?_⟩
  exact (c_putC (x := 45) h (by omega)).mono (fun σ1 hq => main σ1 _ (wO hq.1) hq.2 (by rw [if_neg g2]))
theorem c_roundC {E : En_t} {d B : Nat} {x : Int32} {σ : S_t} (hB : B < 2 ^ 64) : CI E (d + 5) m_Cp_round [pv E 49, .long (lN B), .int x] σ (fun r σ' => ((¬ B % 2 ^ 63 < 9218868437227405312 ∨ x < 1 ∨ ¬ x ≤ 800) ∧ r = -1 ∧ σ' = σ) ∨ (B % 2 ^ 63 < 9218868437227405312 ∧ ∃ n, 1 ≤ n ∧ n ≤ 800 ∧ x = nI n ∧ Fs MW σ σ' ∧ ∃ m, RnL B n m ∧ OuC σ' m ∧ r = nI m.length)) := by
  refine CE.of (L := [(0, pv E 49), (1, .long (lN B)), (3, .int x)]) rfl (Nat.le_of_ble_eq_true rfl) rfl (b_Cp_round_0 ((c_isNumC hB).mono (fun y σ1 hq => ?_)))
  rw [hq.1, hq.2]
  unfold isN
  rw [bI_d]
  refine ⟨fun g => ⟨_, rfl, Or.inl ⟨Or.inl g, rfl, rfl⟩⟩, fun g => ⟨fun g2 => ⟨_, rfl, Or.inl ⟨Or.inr (Or.inl g2), rfl, rfl⟩⟩, fun g2 => ⟨fun g3 => ?_, fun g3 => ⟨_, rfl, Or.inl ⟨Or.inr (Or.inr g3), rfl, rfl⟩⟩⟩⟩⟩
  have g := Classical.not_not.mp g
  obtain ⟨n, hn, rfl⟩ := nI_of2 (x := x) (M := 800) (n := 800) rfl (fun q => g2 (Int32.lt_trans q (by decide))) g3
  have hn1 : 1 ≤ n := by
    rcases Nat.eq_zero_or_pos n with q | q
    · subst q; exact absurd (by decide) g2
    · exact q
  refine c_clearC.mono (fun σ1 hq => ?_)
  refine (c_putRounded hB g hn1 hn hq.2 (by simp)).mono (fun σ2 hq2 => ?_)
  obtain ⟨F2, m, hm, O2⟩ := hq2
  rw [List.nil_append] at O2
  exact ⟨_, rfl, Or.inr ⟨g, n, hn1, hn, rfl, (hq.1.mono (fun _ _ q => Or.inl q)).tr F2, m, hm, O2, O2.1⟩⟩
