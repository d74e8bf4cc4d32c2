theorem i63 {L : Nat} {q : Nat} (hL : L < 63) : (63 : Int32) - nI (63 - L) + zI ((q : Int) - 1074) = zI ((L : Int) + q - 1074) := by
  rw [show (63 : Int32) = zI 63 from rfl, ← zI_nI, zI_sub, zI_add]
  exact congrArg zI (by omega)
theorem YL_lt {b : Nat} (hb : 0 < b) : YL b ≤ FV b := by
  have h : 2 * YL b = FV (b - 1) + FV b := Y_lo hb
  have := FV_mono (a := b - 1) (b := b) (by omega)
  generalize YL b = A at *
  generalize FV (b - 1) = B at *
  generalize FV b = C at *
  omega
theorem YH_lt {b : Nat} (hb : 0 < b) : FV b ≤ YH b ∧ YH b ≤ 2 * FV b := by
  have h : 2 * YH b = FV b + FV (b + 1) := Y_hi b
  have h1 := FV_lt b
  obtain ⟨D, d0, d1, d2, d3⟩ := FV_up b
  have hm := mB_pos hb
  have : D ≤ FV b := by rw [d2]; exact Nat.le_mul_of_pos_left D hm
  generalize YH b = A at *
  generalize FV (b + 1) = B at *
  generalize FV b = C at *
  omega
theorem l4 {f : Nat} : (4 : Int64) * lN f = lN (4 * f) := lN_mul 4 f
theorem c_findShortest {E : En_t} {d b : Nat} {σ : S_t} (hb : 0 < b) (hb2 : b < 9218868437227405312) : CV E (d + 4) m_Pr_findShortest [pv E 59, .long (lN (mB b)), .int (zI ((qB b : Int) - 1074))] σ (fun σ' => Fs PB σ σ' ∧ ∃ Z up, Shrt (FV b) b Z up ∧ ShP σ' (cz (FV b) Z up)) := by
  have hm0 := mB_pos hb
  have hm := mB_lt b
  obtain ⟨L, hL1, hL2⟩ : ∃ L, 2 ^ L ≤ mB b ∧ mB b < 2 ^ (L + 1) := ⟨Nat.log2 (mB b), Nat.log2_self_le (by omega), Nat.lt_log2_self⟩
  have hL : L < 53 := (Nat.pow_lt_pow_iff_right (a := 2) (by decide)).mp (Nat.lt_of_le_of_lt hL1 hm)
  have hq : qB b ≤ 2045 := by
    unfold qB
    rw [show (2 : Nat) ^ 52 = 4503599627370496 from rfl]
    split <;> omega
  obtain ⟨v1, v2⟩ := V_sc hL1 hL2 (by omega)
  obtain ⟨t1, t2⟩ := tsB_rng (L := L) (q := qB b) (by omega)
  refine CE.of (L := [(0, pv E 59), (1, .long (lN (mB b))), (3, .int (zI ((qB b : Int) - 1074)))]) rfl (Nat.le_of_ble_eq_true rfl) rfl (b_Pr_findShortest_0 ((c_nlzL hL1 hL2 (by omega)).mono (fun x σ1 hq1 => ?_)))
  rw [hq1.1, hq1.2]
  clear hq1
  rw [i63 (by omega)]
  refine (c_tensOf (by omega) (by omega)).mono (fun x σ1 hq1 => ?_)
  rw [hq1.1, hq1.2]
  clear hq1
  have eT : zI (tnO ((L : Int) + qB b - 1074)) - (17 : Int32) = zI (tsB L (qB b)) := by
    rw [show (17 : Int32) = zI 17 from rfl, zI_sub]; rfl
  rw [eT]
  generalize tsB L (qB b) = T at *
  have hlY : ∀ Y, Y ≤ 2 * FV b → Y / Gz T < 4000000000000000000 := fun Y hY => by
    rw [Nat.div_lt_iff_lt_mul (Gz_pos T)]
    generalize FV b = A at *
    generalize Gz T = G at *
    omega
  obtain ⟨yh1, yh2⟩ := YH_lt hb
  have hyl := YL_lt hb
  have hyl2 : YL b ≤ 2 * FV b := by
    generalize YL b = A at *
    generalize FV b = C at *
    omega
  have hls : lsB b T < 2 ^ 63 := by
    have := hlY _ hyl2
    unfold lsB
    generalize YL b / Gz T = A at *
    split <;> omega
  have hms : msB b T < 2 ^ 63 := by
    have := hlY _ yh2
    unfold msB
    generalize YH b / Gz T = A at *
    split <;> omega
  have hGY : Gz T ≤ YH b := by
    generalize YH b = A at *
    generalize FV b = C at *
    generalize Gz T = G at *
    omega
  have e2 : zI ((qB b : Int) - 1074) - (2 : Int32) = zI ((qB b : Int) - 1076) := by
    rw [show (2 : Int32) = zI 2 from rfl, zI_sub]; exact congrArg zI (by omega)
  have scl : ∀ (x : Nat) (σ1 : S_t), x < 2 ^ 60 → x * 2 ^ qB b * U4 / Gz T < 2 ^ 64 → CL E (d + 3) m_Pr_scaled [pv E 59, .long (lN x), .int (zI ((qB b : Int) - 1076)), .int (zI T)] σ1 (fun r σ' => r = lN (x * 2 ^ qB b * U4 / Gz T) ∧ Fr (BP 61) σ1 σ' ∧ gI σ' 61 2 = bI (rB (x * 2 ^ qB b * U4) T)) := by
    intro x σ1 hx hlow
    have sa := sc_ans (x := x) (q := qB b) (T := T) (by omega) (by omega)
    refine (c_scaled hx (by omega) (by omega) (by omega) (by omega) (by rw [sa.1]; exact hlow)).mono (fun r σ' hq1 => ?_)
    rw [sa.1, sa.2] at hq1
    exact hq1
  have at148 : ∀ σ1, Fr (BP 61) σ σ1 → JE E (d + 4) m_Pr_findShortest 148 [(0, pv E 59), (1, .long (lN (mB b))), (3, .int (zI ((qB b : Int) - 1074))), (5, .int (zI T)), (8, .long (lN (lsB b T))), (10, .long (lN (msB b T)))] [] σ1 (fun r σ' => r = none ∧ Fs PB σ σ' ∧ ∃ Z up, Shrt (FV b) b Z up ∧ ShP σ' (cz (FV b) Z up)) := by
    intro σ1 hF
    refine b_Pr_findShortest_148 ?_
    rw [e2, l4]
    have hY := Y_mid b
    refine (scl (4 * mB b) σ1 (by omega) (by rw [hY]; have := hlY (FV b) (by generalize FV b = A; omega); omega)).mono (fun r σ2 hq1 => ?_)
    rw [hY] at hq1
    obtain ⟨rfl, F2, hr⟩ := hq1
    exact fs_loop σ (hF.tr F2) hb hb2 (by omega) v1 v2 hGY hls hms hr 18 (Nat.le_refl _) (fun z' h1 h2 => absurd h1 (by omega))
  have hod : ∀ o : Bool, o = decide (¬ b % 2 = 0) → (bI o = 0 ↔ b % 2 = 0) := fun o ho => by
    rw [ho, bI_d, Classical.not_not]
  have at107 : ∀ σ1 (o : Bool), o = decide (¬ b % 2 = 0) → Fr (BP 61) σ σ1 → JE E (d + 4) m_Pr_findShortest 107 [(0, pv E 59), (1, .long (lN (mB b))), (3, .int (zI ((qB b : Int) - 1074))), (5, .int (zI T)), (6, .int (bI o)), (8, .long (lN (lsB b T)))] [] σ1 (fun r σ' => r = none ∧ Fs PB σ σ' ∧ ∃ Z up, Shrt (FV b) b Z up ∧ ShP σ' (cz (FV b) Z up)) := by
    intro σ1 o ho hF
    refine b_Pr_findShortest_107 ?_
    rw [e2, l4, show lN (4 * mB b) + (2 : Int64) = lN (4 * mB b + 2) from lN_add _ 2]
    have hY : (4 * mB b + 2) * 2 ^ qB b * U4 = YH b := rfl
    have hb4 := hlY (YH b) yh2
    refine (scl (4 * mB b + 2) σ1 (by omega) (by rw [hY]; omega)).mono (fun r σ2 hq1 => ?_)
    rw [hY] at hq1
    obtain ⟨rfl, F2, hr⟩ := hq1
    rw [hr, hod o ho]
    have F3 := hF.tr F2
    have fin : ∀ y, y = msB b T → JE E (d + 4) m_Pr_findShortest 148 [(0, pv E 59), (1, .long (lN (mB b))), (3, .int (zI ((qB b : Int) - 1074))), (5, .int (zI T)), (8, .long (lN (lsB b T))), (10, .long (lN y))] [] σ2 (fun r σ' => r = none ∧ Fs PB σ σ' ∧ ∃ Z up, Shrt (FV b) b Z up ∧ ShP σ' (cz (FV b) Z up)) := by
      intro y hy
      rw [hy]
      exact at148 σ2 F3
    refine ⟨fun h => ?_, fun h => ⟨fun g => ?_, fun g => ?_⟩⟩
    · refine fin _ ?_
      have : rB (YH b) T = true := (bI_1 _).mp h
      unfold msB
      rw [if_neg (by rw [this]; simp), Nat.sub_zero]
    · refine fin _ ?_
      unfold msB
      rw [if_neg (by simp [g]), Nat.sub_zero]
    · have hrf : rB (YH b) T = false := by
        cases hc : rB (YH b) T
        · rfl
        · rw [hc] at h; exact absurd h (by decide)
      have hp : 1 ≤ YH b / Gz T := Nat.div_pos hGY (Gz_pos T)
      rw [show lN (YH b / Gz T) - (1 : Int64) = lN (YH b / Gz T - 1) from lN_sub (b := 1) hp]
      refine fin _ ?_
      unfold msB
      rw [if_pos ⟨hrf, g⟩]
  have at101 : ∀ σ1 (o : Bool), o = decide (¬ b % 2 = 0) → Fr (BP 61) σ σ1 → (rB (YL b) T = true ∨ ¬ b % 2 = 0) → JE E (d + 4) m_Pr_findShortest 101 [(0, pv E 59), (1, .long (lN (mB b))), (3, .int (zI ((qB b : Int) - 1074))), (5, .int (zI T)), (6, .int (bI o)), (8, .long (lN (YL b / Gz T)))] [] σ1 (fun r σ' => r = none ∧ Fs PB σ σ' ∧ ∃ Z up, Shrt (FV b) b Z up ∧ ShP σ' (cz (FV b) Z up)) := by
    intro σ1 o ho hF hor
    refine b_Pr_findShortest_101 ?_
    have := at107 σ1 o ho hF
    unfold lsB at this
    rw [if_pos hor] at this
    rw [show lN (YL b / Gz T) + (1 : Int64) = lN (YL b / Gz T + 1) from lN_add _ 1]
    exact this
  have at74 : ∀ o : Bool, o = decide (¬ b % 2 = 0) → JE E (d + 4) m_Pr_findShortest 74 [(0, pv E 59), (1, .long (lN (mB b))), (3, .int (zI ((qB b : Int) - 1074))), (5, .int (zI T)), (6, .int (bI o))] [.int (nI (cBl b)), .long (lN (4 * mB b)), pv E 59] σ (fun r σ' => r = none ∧ Fs PB σ σ' ∧ ∃ Z up, Shrt (FV b) b Z up ∧ ShP σ' (cz (FV b) Z up)) := by
    intro o ho
    refine b_Pr_findShortest_74 ?_
    have hc : cBl b ≤ 2 := by unfold cBl; split <;> omega
    rw [e2, nI_l' (cBl b) (by omega), lN_sub (by omega)]
    have hY : (4 * mB b - cBl b) * 2 ^ qB b * U4 = YL b := rfl
    have hb4 := hlY (YL b) hyl2
    refine (scl (4 * mB b - cBl b) σ (by omega) (by rw [hY]; omega)).mono (fun r σ2 hq1 => ?_)
    rw [hY] at hq1
    obtain ⟨rfl, F2, hr⟩ := hq1
    rw [hr, hod o ho]
    refine ⟨fun h => at101 σ2 o ho F2 (Or.inl ((bI_1 _).mp h)), fun h => ⟨fun g => ?_, fun g => at101 σ2 o ho F2 (Or.inr g)⟩⟩
    have hrf : ¬ (rB (YL b) T = true ∨ ¬ b % 2 = 0) := by
      rintro (z | z)
      · rw [z] at h; exact absurd h (by decide)
      · exact z g
    have := at107 σ2 o ho F2
    unfold lsB at this
    rw [if_neg hrf, Nat.add_zero] at this
    exact this
  have at56 : ∀ o cl : Bool, o = decide (¬ b % 2 = 0) → (cl = true ↔ (mB b = 4503599627370496 ∧ 0 < qB b)) → JE E (d + 4) m_Pr_findShortest 56 [(0, pv E 59), (1, .long (lN (mB b))), (3, .int (zI ((qB b : Int) - 1074))), (5, .int (zI T)), (6, .int (bI o))] [.int (bI cl)] σ (fun r σ' => r = none ∧ Fs PB σ σ' ∧ ∃ Z up, Shrt (FV b) b Z up ∧ ShP σ' (cz (FV b) Z up)) := by
    intro o cl ho hc
    have h74 := at74 o ho
    unfold cBl at h74
    refine b_Pr_findShortest_56 ⟨fun h => ?_, fun h => ?_⟩
    · rw [if_neg (fun z => by rw [hc.mpr z] at h; exact absurd h (by decide))] at h74
      rw [l4]; exact h74
    · rw [if_pos (hc.mp ((bI_1 cl).mp h))] at h74
      rw [l4]; exact h74
  have at34 : ∀ o : Bool, o = decide (¬ b % 2 = 0) → JE E (d + 4) m_Pr_findShortest 34 [(0, pv E 59), (1, .long (lN (mB b))), (3, .int (zI ((qB b : Int) - 1074))), (5, .int (zI T))] [.int (bI o)] σ (fun r σ' => r = none ∧ Fs PB σ σ' ∧ ∃ Z up, Shrt (FV b) b Z up ∧ ShP σ' (cz (FV b) Z up)) := by
    intro o ho
    refine b_Pr_findShortest_34 ?_
    have c1 : lg_cmp (lN (mB b)) (4503599627370496 : Int64) = 0 ↔ mB b = 4503599627370496 := lg_eq (b := 4503599627370496) (by omega) (by omega)
    have c2 : zI ((qB b : Int) - 1074) ≤ (-1074 : Int32) ↔ qB b = 0 := by
      have := zI_le (a := (qB b : Int) - 1074) (b := -1074) (by omega) (by omega) (by omega) (by omega)
      refine this.trans ?_
      omega
    rw [c1, c2]
    exact ⟨fun h => b_Pr_findShortest_55 (at56 o false ho ⟨fun z => absurd z (by decide), fun z => absurd z.1 h⟩), fun h => ⟨fun g => b_Pr_findShortest_55 (at56 o false ho ⟨fun z => absurd z (by decide), fun z => absurd z.2 (by omega)⟩), fun g => at56 o true ho ⟨fun _ => ⟨h, by omega⟩, fun _ => rfl⟩⟩⟩
  have hpar : lg_cmp (lN (mB b) &&& (1 : Int64)) (0 : Int64) = 0 ↔ b % 2 = 0 := by
    rw [and1_l (by omega), ← mB_par b]
    exact lg_eq (b := 0) (by omega) (by omega)
  rw [hpar]
  exact ⟨fun h => at34 false (by rw [decide_eq_false (fun z => z h)]), fun h => at34 true (by rw [decide_eq_true h])⟩
