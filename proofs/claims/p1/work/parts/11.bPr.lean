theorem dc_Pr_putShortest_0 : decode m_Pr_putShortest.2.1 0 = .ok (.lload_n 1, 1) := by decide +kernel
theorem dc_Pr_putShortest_1 : decode m_Pr_putShortest.2.1 1 = .ok (.ldc2_w 22, 3) := by decide +kernel
theorem dc_Pr_putShortest_4 : decode m_Pr_putShortest.2.1 4 = .ok (.land, 1) := by decide +kernel
theorem dc_Pr_putShortest_5 : decode m_Pr_putShortest.2.1 5 = .ok (.lconst 0, 1) := by decide +kernel
theorem dc_Pr_putShortest_6 : decode m_Pr_putShortest.2.1 6 = .ok (.lcmp, 1) := by decide +kernel
theorem dc_Pr_putShortest_7 : decode m_Pr_putShortest.2.1 7 = .ok (.ifCond .ne 10, 3) := by decide +kernel
theorem dc_Pr_putShortest_10 : decode m_Pr_putShortest.2.1 10 = .ok (.aload_n 3, 1) := by decide +kernel
theorem dc_Pr_putShortest_11 : decode m_Pr_putShortest.2.1 11 = .ok (.bipush 48, 2) := by decide +kernel
theorem dc_Pr_putShortest_13 : decode m_Pr_putShortest.2.1 13 = .ok (.invokevirtual 24, 3) := by decide +kernel
theorem dc_Pr_putShortest_16 : decode m_Pr_putShortest.2.1 16 = .ok (.return_, 1) := by decide +kernel
theorem dc_Pr_putShortest_17 : decode m_Pr_putShortest.2.1 17 = .ok (.lload_n 1, 1) := by decide +kernel
theorem dc_Pr_putShortest_18 : decode m_Pr_putShortest.2.1 18 = .ok (.lconst 0, 1) := by decide +kernel
theorem dc_Pr_putShortest_19 : decode m_Pr_putShortest.2.1 19 = .ok (.lcmp, 1) := by decide +kernel
theorem dc_Pr_putShortest_20 : decode m_Pr_putShortest.2.1 20 = .ok (.ifCond .ge 9, 3) := by decide +kernel
theorem dc_Pr_putShortest_23 : decode m_Pr_putShortest.2.1 23 = .ok (.aload_n 3, 1) := by decide +kernel
theorem dc_Pr_putShortest_24 : decode m_Pr_putShortest.2.1 24 = .ok (.bipush 45, 2) := by decide +kernel
theorem dc_Pr_putShortest_26 : decode m_Pr_putShortest.2.1 26 = .ok (.invokevirtual 24, 3) := by decide +kernel
theorem dc_Pr_putShortest_29 : decode m_Pr_putShortest.2.1 29 = .ok (.aload_n 0, 1) := by decide +kernel
theorem dc_Pr_putShortest_30 : decode m_Pr_putShortest.2.1 30 = .ok (.lload_n 1, 1) := by decide +kernel
theorem dc_Pr_putShortest_31 : decode m_Pr_putShortest.2.1 31 = .ok (.invokestatic 30, 3) := by decide +kernel
theorem dc_Pr_putShortest_34 : decode m_Pr_putShortest.2.1 34 = .ok (.lload_n 1, 1) := by decide +kernel
theorem dc_Pr_putShortest_35 : decode m_Pr_putShortest.2.1 35 = .ok (.invokestatic 34, 3) := by decide +kernel
theorem dc_Pr_putShortest_38 : decode m_Pr_putShortest.2.1 38 = .ok (.invokevirtual 38, 3) := by decide +kernel
theorem dc_Pr_putShortest_41 : decode m_Pr_putShortest.2.1 41 = .ok (.aload_n 0, 1) := by decide +kernel
theorem dc_Pr_putShortest_42 : decode m_Pr_putShortest.2.1 42 = .ok (.getfield 42, 3) := by decide +kernel
theorem dc_Pr_putShortest_45 : decode m_Pr_putShortest.2.1 45 = .ok (.bipush 21, 2) := by decide +kernel
theorem dc_Pr_putShortest_47 : decode m_Pr_putShortest.2.1 47 = .ok (.if_icmp .gt 12, 3) := by decide +kernel
theorem dc_Pr_putShortest_50 : decode m_Pr_putShortest.2.1 50 = .ok (.aload_n 0, 1) := by decide +kernel
theorem dc_Pr_putShortest_51 : decode m_Pr_putShortest.2.1 51 = .ok (.getfield 42, 3) := by decide +kernel
theorem dc_Pr_putShortest_54 : decode m_Pr_putShortest.2.1 54 = .ok (.bipush (-5), 2) := by decide +kernel
theorem dc_Pr_putShortest_56 : decode m_Pr_putShortest.2.1 56 = .ok (.if_icmp .ge 20, 3) := by decide +kernel
theorem dc_Pr_putShortest_59 : decode m_Pr_putShortest.2.1 59 = .ok (.aload_n 0, 1) := by decide +kernel
theorem dc_Pr_putShortest_60 : decode m_Pr_putShortest.2.1 60 = .ok (.aload_n 0, 1) := by decide +kernel
theorem dc_Pr_putShortest_61 : decode m_Pr_putShortest.2.1 61 = .ok (.getfield 46, 3) := by decide +kernel
theorem dc_Pr_putShortest_64 : decode m_Pr_putShortest.2.1 64 = .ok (.aload_n 3, 1) := by decide +kernel
theorem dc_Pr_putShortest_65 : decode m_Pr_putShortest.2.1 65 = .ok (.invokevirtual 49, 3) := by decide +kernel
theorem dc_Pr_putShortest_68 : decode m_Pr_putShortest.2.1 68 = .ok (.aload_n 0, 1) := by decide +kernel
theorem dc_Pr_putShortest_69 : decode m_Pr_putShortest.2.1 69 = .ok (.aload_n 3, 1) := by decide +kernel
theorem dc_Pr_putShortest_70 : decode m_Pr_putShortest.2.1 70 = .ok (.invokevirtual 53, 3) := by decide +kernel
theorem dc_Pr_putShortest_73 : decode m_Pr_putShortest.2.1 73 = .ok (.goto 8, 3) := by decide +kernel
theorem dc_Pr_putShortest_76 : decode m_Pr_putShortest.2.1 76 = .ok (.aload_n 0, 1) := by decide +kernel
theorem dc_Pr_putShortest_77 : decode m_Pr_putShortest.2.1 77 = .ok (.aload_n 3, 1) := by decide +kernel
theorem dc_Pr_putShortest_78 : decode m_Pr_putShortest.2.1 78 = .ok (.invokevirtual 57, 3) := by decide +kernel
theorem dc_Pr_putShortest_81 : decode m_Pr_putShortest.2.1 81 = .ok (.return_, 1) := by decide +kernel
theorem b_Pr_putShortest_0 {E : En_t} {d : Nat} {σ : S_t} {Q : Option Value → S_t → Prop} {x1 : Int64}
    (h : (¬ (lg_cmp (x1 &&& (9223372036854775807 : Int64)) (0 : Int64)) = 0 → (0 ≤ (lg_cmp x1 (0 : Int64)) → JE E (d + 1) m_Pr_putShortest 29 [(0, pv E 59), (1, .long x1), (3, pv E 53)] [] σ Q) ∧ (¬ 0 ≤ (lg_cmp x1 (0 : Int64)) → CV E d m_Ou_put [pv E 53, .int (45 : Int32)] σ (fun σ1 => JE E (d + 1) m_Pr_putShortest 29 [(0, pv E 59), (1, .long x1), (3, pv E 53)] [] σ1 Q))) ∧ ((lg_cmp (x1 &&& (9223372036854775807 : Int64)) (0 : Int64)) = 0 → CV E d m_Ou_put [pv E 53, .int (48 : Int32)] σ (fun σ2 => Q none σ2))) :
    JE E (d + 1) m_Pr_putShortest 0 [(0, pv E 59), (1, .long x1), (3, pv E 53)] [] σ Q := by
  refine J_lload_n dc_Pr_putShortest_0 (Eq.refl 1) 1 rfl ?_
  refine J_ldc2 dc_Pr_putShortest_1 (Eq.refl 4) kc_Pr_22 ?_
  refine J_land dc_Pr_putShortest_4 (Eq.refl 5) ?_
  refine J_lconst (v := (0 : Int64)) dc_Pr_putShortest_5 (Eq.refl 6) rfl ?_
  refine J_lcmp dc_Pr_putShortest_6 (Eq.refl 7) ?_
  refine J_if_ne dc_Pr_putShortest_7 (Eq.refl 10) rfl (fun hc => ?_) (fun hc => ?_)
  · have h := h.1 hc
    refine J_lload_n dc_Pr_putShortest_17 (Eq.refl 18) 1 rfl ?_
    refine J_lconst (v := (0 : Int64)) dc_Pr_putShortest_18 (Eq.refl 19) rfl ?_
    refine J_lcmp dc_Pr_putShortest_19 (Eq.refl 20) ?_
    refine J_if_ge dc_Pr_putShortest_20 (Eq.refl 23) rfl (fun hc => ?_) (fun hc => ?_)
    · have h := h.1 hc
      exact h
    · have h := h.2 hc
      refine J_aload_n dc_Pr_putShortest_23 (Eq.refl 24) 2 rfl ?_
      refine J_bipush (v := (45 : Int32)) dc_Pr_putShortest_24 (Eq.refl 26) rfl ?_
      refine J_callVV (As := [.int (45 : Int32)]) (st := []) dc_Pr_putShortest_26 (Eq.refl 29) lk_Pr_24 mi_Ou_put rfl (Nat.le_of_ble_eq_true rfl) rfl rfl (Nat.le_of_ble_eq_true rfl) rfl (Nat.le_of_ble_eq_true rfl) (CV.mono h (fun σ1 h => ?_))
      exact h
  · have h := h.2 hc
    refine J_aload_n dc_Pr_putShortest_10 (Eq.refl 11) 2 rfl ?_
    refine J_bipush (v := (48 : Int32)) dc_Pr_putShortest_11 (Eq.refl 13) rfl ?_
    refine J_callVV (As := [.int (48 : Int32)]) (st := []) dc_Pr_putShortest_13 (Eq.refl 16) lk_Pr_24 mi_Ou_put rfl (Nat.le_of_ble_eq_true rfl) rfl rfl (Nat.le_of_ble_eq_true rfl) rfl (Nat.le_of_ble_eq_true rfl) (CV.mono h (fun σ2 h => ?_))
    exact J_vret dc_Pr_putShortest_16 rfl h
theorem b_Pr_putShortest_29 {E : En_t} {d : Nat} {σ : S_t} {Q : Option Value → S_t → Prop} {x1 : Int64}
    (h : CL E d m_Pr_fractionOf [.long x1] σ (fun r2 σ1 => CI E d m_Pr_twosOf [.long x1] σ1 (fun r4 σ3 => CV E d m_Pr_findShortest [pv E 59, .long r2, .int r4] σ3 (fun σ5 => ((21 : Int32) < (gI σ5 59 3) → JE E (d + 1) m_Pr_putShortest 59 [(0, pv E 59), (3, pv E 53)] [] σ5 Q) ∧ (¬ (21 : Int32) < (gI σ5 59 3) → ((-5 : Int32) ≤ (gI σ5 59 3) → CV E d m_Pr_putPlain [pv E 59, pv E 53] σ5 (fun σ6 => Q none σ6)) ∧ (¬ (-5 : Int32) ≤ (gI σ5 59 3) → JE E (d + 1) m_Pr_putShortest 59 [(0, pv E 59), (3, pv E 53)] [] σ5 Q)))))) :
    JE E (d + 1) m_Pr_putShortest 29 [(0, pv E 59), (1, .long x1), (3, pv E 53)] [] σ Q := by
  refine J_aload_n dc_Pr_putShortest_29 (Eq.refl 30) 0 rfl ?_
  refine J_lload_n dc_Pr_putShortest_30 (Eq.refl 31) 1 rfl ?_
  refine J_callSL (As := [.long x1]) (st := [pv E 59]) dc_Pr_putShortest_31 (Eq.refl 34) lk_Pr_30 mi_Pr_fractionOf (Nat.le_of_ble_eq_true rfl) rfl (Nat.le_of_ble_eq_true rfl) (CL.mono h (fun r2 σ1 h => ?_))
  refine J_lload_n dc_Pr_putShortest_34 (Eq.refl 35) 1 rfl ?_
  refine J_callSI (As := [.long x1]) (st := [.long r2, pv E 59]) dc_Pr_putShortest_35 (Eq.refl 38) lk_Pr_34 mi_Pr_twosOf (Nat.le_of_ble_eq_true rfl) rfl (Nat.le_of_ble_eq_true rfl) (CI.mono h (fun r4 σ3 h => ?_))
  refine J_callVV (As := [.long r2, .int r4]) (st := []) dc_Pr_putShortest_38 (Eq.refl 41) lk_Pr_38 mi_Pr_findShortest rfl (Nat.le_of_ble_eq_true rfl) rfl rfl (Nat.le_of_ble_eq_true rfl) rfl (Nat.le_of_ble_eq_true rfl) (CV.mono h (fun σ5 h => ?_))
  refine J_aload_n dc_Pr_putShortest_41 (Eq.refl 42) 0 rfl ?_
  refine J_getI dc_Pr_putShortest_42 (Eq.refl 45) fl_Pr_42 (Nat.le_of_ble_eq_true rfl) rfl (Or.inl rfl) ?_
  refine J_bipush (v := (21 : Int32)) dc_Pr_putShortest_45 (Eq.refl 47) rfl ?_
  refine J_icmp_gt dc_Pr_putShortest_47 (Eq.refl 50) rfl (fun hc => ?_) (fun hc => ?_)
  · have h := h.1 hc
    refine J_sub [0, 2] rfl ?_
    exact h
  · have h := h.2 hc
    refine J_aload_n dc_Pr_putShortest_50 (Eq.refl 51) 0 rfl ?_
    refine J_getI dc_Pr_putShortest_51 (Eq.refl 54) fl_Pr_42 (Nat.le_of_ble_eq_true rfl) rfl (Or.inl rfl) ?_
    refine J_bipush (v := (-5 : Int32)) dc_Pr_putShortest_54 (Eq.refl 56) rfl ?_
    refine J_icmp_ge dc_Pr_putShortest_56 (Eq.refl 59) rfl (fun hc => ?_) (fun hc => ?_)
    · have h := h.1 hc
      refine J_aload_n dc_Pr_putShortest_76 (Eq.refl 77) 0 rfl ?_
      refine J_aload_n dc_Pr_putShortest_77 (Eq.refl 78) 2 rfl ?_
      refine J_callVV (As := [pv E 53]) (st := []) dc_Pr_putShortest_78 (Eq.refl 81) lk_Pr_57 mi_Pr_putPlain rfl (Nat.le_of_ble_eq_true rfl) rfl rfl (Nat.le_of_ble_eq_true rfl) rfl (Nat.le_of_ble_eq_true rfl) (CV.mono h (fun σ6 h => ?_))
      exact J_vret dc_Pr_putShortest_81 rfl h
    · have h := h.2 hc
      refine J_sub [0, 2] rfl ?_
      exact h
theorem b_Pr_putShortest_59 {E : En_t} {d : Nat} {σ : S_t} {Q : Option Value → S_t → Prop}
    (h : CV E d m_Pr_putDigits [pv E 59, .int (gI σ 59 2), pv E 53] σ (fun σ1 => CV E d m_Pr_putPower [pv E 59, pv E 53] σ1 (fun σ2 => Q none σ2))) :
    JE E (d + 1) m_Pr_putShortest 59 [(0, pv E 59), (3, pv E 53)] [] σ Q := by
  refine J_aload_n dc_Pr_putShortest_59 (Eq.refl 60) 0 rfl ?_
  refine J_aload_n dc_Pr_putShortest_60 (Eq.refl 61) 0 rfl ?_
  refine J_getI dc_Pr_putShortest_61 (Eq.refl 64) fl_Pr_46 (Nat.le_of_ble_eq_true rfl) rfl (Or.inl rfl) ?_
  refine J_aload_n dc_Pr_putShortest_64 (Eq.refl 65) 1 rfl ?_
  refine J_callVV (As := [.int (gI σ 59 2), pv E 53]) (st := []) dc_Pr_putShortest_65 (Eq.refl 68) lk_Pr_49 mi_Pr_putDigits rfl (Nat.le_of_ble_eq_true rfl) rfl rfl (Nat.le_of_ble_eq_true rfl) rfl (Nat.le_of_ble_eq_true rfl) (CV.mono h (fun σ1 h => ?_))
  refine J_aload_n dc_Pr_putShortest_68 (Eq.refl 69) 0 rfl ?_
  refine J_aload_n dc_Pr_putShortest_69 (Eq.refl 70) 1 rfl ?_
  refine J_callVV (As := [pv E 53]) (st := []) dc_Pr_putShortest_70 (Eq.refl 73) lk_Pr_53 mi_Pr_putPower rfl (Nat.le_of_ble_eq_true rfl) rfl rfl (Nat.le_of_ble_eq_true rfl) rfl (Nat.le_of_ble_eq_true rfl) (CV.mono h (fun σ2 h => ?_))
  refine J_goto dc_Pr_putShortest_73 rfl ?_
  exact J_vret dc_Pr_putShortest_81 rfl h
theorem dc_Pr_fractionOf_0 : decode m_Pr_fractionOf.2.1 0 = .ok (.lload_n 0, 1) := by decide +kernel
theorem dc_Pr_fractionOf_1 : decode m_Pr_fractionOf.2.1 1 = .ok (.ldc2_w 60, 3) := by decide +kernel
theorem dc_Pr_fractionOf_4 : decode m_Pr_fractionOf.2.1 4 = .ok (.land, 1) := by decide +kernel
theorem dc_Pr_fractionOf_5 : decode m_Pr_fractionOf.2.1 5 = .ok (.lconst 0, 1) := by decide +kernel
theorem dc_Pr_fractionOf_6 : decode m_Pr_fractionOf.2.1 6 = .ok (.lcmp, 1) := by decide +kernel
theorem dc_Pr_fractionOf_7 : decode m_Pr_fractionOf.2.1 7 = .ok (.ifCond .ne 11, 3) := by decide +kernel
theorem dc_Pr_fractionOf_10 : decode m_Pr_fractionOf.2.1 10 = .ok (.lload_n 0, 1) := by decide +kernel
theorem dc_Pr_fractionOf_11 : decode m_Pr_fractionOf.2.1 11 = .ok (.ldc2_w 62, 3) := by decide +kernel
theorem dc_Pr_fractionOf_14 : decode m_Pr_fractionOf.2.1 14 = .ok (.land, 1) := by decide +kernel
theorem dc_Pr_fractionOf_15 : decode m_Pr_fractionOf.2.1 15 = .ok (.goto 12, 3) := by decide +kernel
theorem dc_Pr_fractionOf_18 : decode m_Pr_fractionOf.2.1 18 = .ok (.lload_n 0, 1) := by decide +kernel
theorem dc_Pr_fractionOf_19 : decode m_Pr_fractionOf.2.1 19 = .ok (.ldc2_w 62, 3) := by decide +kernel
theorem dc_Pr_fractionOf_22 : decode m_Pr_fractionOf.2.1 22 = .ok (.land, 1) := by decide +kernel
theorem dc_Pr_fractionOf_23 : decode m_Pr_fractionOf.2.1 23 = .ok (.ldc2_w 64, 3) := by decide +kernel
theorem dc_Pr_fractionOf_26 : decode m_Pr_fractionOf.2.1 26 = .ok (.lor, 1) := by decide +kernel
theorem dc_Pr_fractionOf_27 : decode m_Pr_fractionOf.2.1 27 = .ok (.lreturn, 1) := by decide +kernel
theorem b_Pr_fractionOf_0 {E : En_t} {d : Nat} {σ : S_t} {Q : Option Value → S_t → Prop} {x0 : Int64}
    (h : (¬ (lg_cmp (x0 &&& (9218868437227405312 : Int64)) (0 : Int64)) = 0 → Q (some (.long ((x0 &&& (4503599627370495 : Int64)) ||| (4503599627370496 : Int64)))) σ) ∧ ((lg_cmp (x0 &&& (9218868437227405312 : Int64)) (0 : Int64)) = 0 → Q (some (.long (x0 &&& (4503599627370495 : Int64)))) σ)) :
    JE E d m_Pr_fractionOf 0 [(0, .long x0)] [] σ Q := by
  refine J_lload_n dc_Pr_fractionOf_0 (Eq.refl 1) 0 rfl ?_
  refine J_ldc2 dc_Pr_fractionOf_1 (Eq.refl 4) kc_Pr_60 ?_
  refine J_land dc_Pr_fractionOf_4 (Eq.refl 5) ?_
  refine J_lconst (v := (0 : Int64)) dc_Pr_fractionOf_5 (Eq.refl 6) rfl ?_
  refine J_lcmp dc_Pr_fractionOf_6 (Eq.refl 7) ?_
  refine J_if_ne dc_Pr_fractionOf_7 (Eq.refl 10) rfl (fun hc => ?_) (fun hc => ?_)
  · have h := h.1 hc
    refine J_lload_n dc_Pr_fractionOf_18 (Eq.refl 19) 0 rfl ?_
    refine J_ldc2 dc_Pr_fractionOf_19 (Eq.refl 22) kc_Pr_62 ?_
    refine J_land dc_Pr_fractionOf_22 (Eq.refl 23) ?_
    refine J_ldc2 dc_Pr_fractionOf_23 (Eq.refl 26) kc_Pr_64 ?_
    refine J_lor dc_Pr_fractionOf_26 (Eq.refl 27) ?_
    exact J_lret dc_Pr_fractionOf_27 rfl h
  · have h := h.2 hc
    refine J_lload_n dc_Pr_fractionOf_10 (Eq.refl 11) 0 rfl ?_
    refine J_ldc2 dc_Pr_fractionOf_11 (Eq.refl 14) kc_Pr_62 ?_
    refine J_land dc_Pr_fractionOf_14 (Eq.refl 15) ?_
    refine J_goto dc_Pr_fractionOf_15 rfl ?_
    exact J_lret dc_Pr_fractionOf_27 rfl h
theorem dc_Pr_twosOf_0 : decode m_Pr_twosOf.2.1 0 = .ok (.lload_n 0, 1) := by decide +kernel
theorem dc_Pr_twosOf_1 : decode m_Pr_twosOf.2.1 1 = .ok (.ldc2_w 60, 3) := by decide +kernel
theorem dc_Pr_twosOf_4 : decode m_Pr_twosOf.2.1 4 = .ok (.land, 1) := by decide +kernel
theorem dc_Pr_twosOf_5 : decode m_Pr_twosOf.2.1 5 = .ok (.bipush 52, 2) := by decide +kernel
theorem dc_Pr_twosOf_7 : decode m_Pr_twosOf.2.1 7 = .ok (.lushr, 1) := by decide +kernel
theorem dc_Pr_twosOf_8 : decode m_Pr_twosOf.2.1 8 = .ok (.l2i, 1) := by decide +kernel
theorem dc_Pr_twosOf_9 : decode m_Pr_twosOf.2.1 9 = .ok (.istore_n 2, 1) := by decide +kernel
theorem dc_Pr_twosOf_10 : decode m_Pr_twosOf.2.1 10 = .ok (.iload_n 2, 1) := by decide +kernel
theorem dc_Pr_twosOf_11 : decode m_Pr_twosOf.2.1 11 = .ok (.iconst 1, 1) := by decide +kernel
theorem dc_Pr_twosOf_12 : decode m_Pr_twosOf.2.1 12 = .ok (.invokestatic 66, 3) := by decide +kernel
theorem dc_Pr_twosOf_15 : decode m_Pr_twosOf.2.1 15 = .ok (.iconst 1, 1) := by decide +kernel
theorem dc_Pr_twosOf_16 : decode m_Pr_twosOf.2.1 16 = .ok (.isub, 1) := by decide +kernel
theorem dc_Pr_twosOf_17 : decode m_Pr_twosOf.2.1 17 = .ok (.sipush (-1074), 3) := by decide +kernel
theorem dc_Pr_twosOf_20 : decode m_Pr_twosOf.2.1 20 = .ok (.iadd, 1) := by decide +kernel
theorem dc_Pr_twosOf_21 : decode m_Pr_twosOf.2.1 21 = .ok (.ireturn, 1) := by decide +kernel
theorem b_Pr_twosOf_0 {E : En_t} {d : Nat} {σ : S_t} {Q : Option Value → S_t → Prop} {x0 : Int64}
    (h : ∀ v1, v1 = ((x0 &&& (9218868437227405312 : Int64)).toUInt64 >>> ((52 : Int32).toInt64.toUInt64 &&& Int64.toUInt64 63)).toInt64 → (∀ r2, r2 = mxI v1.toInt32 (1 : Int32) → (Q (some (.int ((r2 - (1 : Int32)) + (-1074 : Int32)))) σ))) :
    JE E (d + 1) m_Pr_twosOf 0 [(0, .long x0)] [] σ Q := by
  refine J_lload_n dc_Pr_twosOf_0 (Eq.refl 1) 0 rfl ?_
  refine J_ldc2 dc_Pr_twosOf_1 (Eq.refl 4) kc_Pr_60 ?_
  refine J_land dc_Pr_twosOf_4 (Eq.refl 5) ?_
  refine J_bipush (v := (52 : Int32)) dc_Pr_twosOf_5 (Eq.refl 7) rfl ?_
  refine J_lushr dc_Pr_twosOf_7 (Eq.refl 8) ?_
  refine J_topl (fun v1 ev1 => ?_)
  have h := h v1 ev1
  refine J_l2i dc_Pr_twosOf_8 (Eq.refl 9) ?_
  refine J_istore_n (L' := [(2, .int v1.toInt32), (0, .long x0)]) dc_Pr_twosOf_9 (Eq.refl 10) (Nat.le_of_ble_eq_true rfl) rfl ?_
  refine J_iload_n dc_Pr_twosOf_10 (Eq.refl 11) 0 rfl ?_
  refine J_iconst (v := (1 : Int32)) dc_Pr_twosOf_11 (Eq.refl 12) rfl ?_
  refine J_mmax dc_Pr_twosOf_12 (Eq.refl 15) lk_Pr_66 (Nat.le_of_ble_eq_true rfl) (fun r2 er2 => ?_)
  have h := h r2 er2
  refine J_iconst (v := (1 : Int32)) dc_Pr_twosOf_15 (Eq.refl 16) rfl ?_
  refine J_isub dc_Pr_twosOf_16 (Eq.refl 17) ?_
  refine J_sipush (v := (-1074 : Int32)) dc_Pr_twosOf_17 (Eq.refl 20) rfl ?_
  refine J_iadd dc_Pr_twosOf_20 (Eq.refl 21) ?_
  exact J_iret dc_Pr_twosOf_21 rfl h
theorem dc_Pr_findShortest_0 : decode m_Pr_findShortest.2.1 0 = .ok (.bipush 63, 2) := by decide +kernel
theorem dc_Pr_findShortest_2 : decode m_Pr_findShortest.2.1 2 = .ok (.lload_n 1, 1) := by decide +kernel
theorem dc_Pr_findShortest_3 : decode m_Pr_findShortest.2.1 3 = .ok (.invokestatic 72, 3) := by decide +kernel
theorem dc_Pr_findShortest_6 : decode m_Pr_findShortest.2.1 6 = .ok (.isub, 1) := by decide +kernel
theorem dc_Pr_findShortest_7 : decode m_Pr_findShortest.2.1 7 = .ok (.iload_n 3, 1) := by decide +kernel
theorem dc_Pr_findShortest_8 : decode m_Pr_findShortest.2.1 8 = .ok (.iadd, 1) := by decide +kernel
theorem dc_Pr_findShortest_9 : decode m_Pr_findShortest.2.1 9 = .ok (.istore 4, 2) := by decide +kernel
theorem dc_Pr_findShortest_11 : decode m_Pr_findShortest.2.1 11 = .ok (.iload 4, 2) := by decide +kernel
theorem dc_Pr_findShortest_13 : decode m_Pr_findShortest.2.1 13 = .ok (.invokestatic 77, 3) := by decide +kernel
theorem dc_Pr_findShortest_16 : decode m_Pr_findShortest.2.1 16 = .ok (.bipush 17, 2) := by decide +kernel
theorem dc_Pr_findShortest_18 : decode m_Pr_findShortest.2.1 18 = .ok (.isub, 1) := by decide +kernel
theorem dc_Pr_findShortest_19 : decode m_Pr_findShortest.2.1 19 = .ok (.istore 5, 2) := by decide +kernel
theorem dc_Pr_findShortest_21 : decode m_Pr_findShortest.2.1 21 = .ok (.lload_n 1, 1) := by decide +kernel
theorem dc_Pr_findShortest_22 : decode m_Pr_findShortest.2.1 22 = .ok (.lconst 1, 1) := by decide +kernel
theorem dc_Pr_findShortest_23 : decode m_Pr_findShortest.2.1 23 = .ok (.land, 1) := by decide +kernel
theorem dc_Pr_findShortest_24 : decode m_Pr_findShortest.2.1 24 = .ok (.lconst 0, 1) := by decide +kernel
theorem dc_Pr_findShortest_25 : decode m_Pr_findShortest.2.1 25 = .ok (.lcmp, 1) := by decide +kernel
theorem dc_Pr_findShortest_26 : decode m_Pr_findShortest.2.1 26 = .ok (.ifCond .eq 7, 3) := by decide +kernel
theorem dc_Pr_findShortest_29 : decode m_Pr_findShortest.2.1 29 = .ok (.iconst 1, 1) := by decide +kernel
theorem dc_Pr_findShortest_30 : decode m_Pr_findShortest.2.1 30 = .ok (.goto 4, 3) := by decide +kernel
theorem dc_Pr_findShortest_33 : decode m_Pr_findShortest.2.1 33 = .ok (.iconst 0, 1) := by decide +kernel
theorem dc_Pr_findShortest_34 : decode m_Pr_findShortest.2.1 34 = .ok (.istore 6, 2) := by decide +kernel
theorem dc_Pr_findShortest_36 : decode m_Pr_findShortest.2.1 36 = .ok (.lload_n 1, 1) := by decide +kernel
theorem dc_Pr_findShortest_37 : decode m_Pr_findShortest.2.1 37 = .ok (.ldc2_w 64, 3) := by decide +kernel
theorem dc_Pr_findShortest_40 : decode m_Pr_findShortest.2.1 40 = .ok (.lcmp, 1) := by decide +kernel
theorem dc_Pr_findShortest_41 : decode m_Pr_findShortest.2.1 41 = .ok (.ifCond .ne 14, 3) := by decide +kernel
theorem dc_Pr_findShortest_44 : decode m_Pr_findShortest.2.1 44 = .ok (.iload_n 3, 1) := by decide +kernel
theorem dc_Pr_findShortest_45 : decode m_Pr_findShortest.2.1 45 = .ok (.sipush (-1074), 3) := by decide +kernel
theorem dc_Pr_findShortest_48 : decode m_Pr_findShortest.2.1 48 = .ok (.if_icmp .le 7, 3) := by decide +kernel
theorem dc_Pr_findShortest_51 : decode m_Pr_findShortest.2.1 51 = .ok (.iconst 1, 1) := by decide +kernel
theorem dc_Pr_findShortest_52 : decode m_Pr_findShortest.2.1 52 = .ok (.goto 4, 3) := by decide +kernel
theorem dc_Pr_findShortest_55 : decode m_Pr_findShortest.2.1 55 = .ok (.iconst 0, 1) := by decide +kernel
theorem dc_Pr_findShortest_56 : decode m_Pr_findShortest.2.1 56 = .ok (.istore 7, 2) := by decide +kernel
theorem dc_Pr_findShortest_58 : decode m_Pr_findShortest.2.1 58 = .ok (.aload_n 0, 1) := by decide +kernel
theorem dc_Pr_findShortest_59 : decode m_Pr_findShortest.2.1 59 = .ok (.ldc2_w 81, 3) := by decide +kernel
theorem dc_Pr_findShortest_62 : decode m_Pr_findShortest.2.1 62 = .ok (.lload_n 1, 1) := by decide +kernel
theorem dc_Pr_findShortest_63 : decode m_Pr_findShortest.2.1 63 = .ok (.lmul, 1) := by decide +kernel
theorem dc_Pr_findShortest_64 : decode m_Pr_findShortest.2.1 64 = .ok (.iload 7, 2) := by decide +kernel
theorem dc_Pr_findShortest_66 : decode m_Pr_findShortest.2.1 66 = .ok (.ifCond .eq 7, 3) := by decide +kernel
theorem dc_Pr_findShortest_69 : decode m_Pr_findShortest.2.1 69 = .ok (.iconst 1, 1) := by decide +kernel
theorem dc_Pr_findShortest_70 : decode m_Pr_findShortest.2.1 70 = .ok (.goto 4, 3) := by decide +kernel
theorem dc_Pr_findShortest_73 : decode m_Pr_findShortest.2.1 73 = .ok (.iconst 2, 1) := by decide +kernel
theorem dc_Pr_findShortest_74 : decode m_Pr_findShortest.2.1 74 = .ok (.i2l, 1) := by decide +kernel
theorem dc_Pr_findShortest_75 : decode m_Pr_findShortest.2.1 75 = .ok (.lsub, 1) := by decide +kernel
theorem dc_Pr_findShortest_76 : decode m_Pr_findShortest.2.1 76 = .ok (.iload_n 3, 1) := by decide +kernel
theorem dc_Pr_findShortest_77 : decode m_Pr_findShortest.2.1 77 = .ok (.iconst 2, 1) := by decide +kernel
theorem dc_Pr_findShortest_78 : decode m_Pr_findShortest.2.1 78 = .ok (.isub, 1) := by decide +kernel
theorem dc_Pr_findShortest_79 : decode m_Pr_findShortest.2.1 79 = .ok (.iload 5, 2) := by decide +kernel
theorem dc_Pr_findShortest_81 : decode m_Pr_findShortest.2.1 81 = .ok (.invokevirtual 83, 3) := by decide +kernel
theorem dc_Pr_findShortest_84 : decode m_Pr_findShortest.2.1 84 = .ok (.lstore 8, 2) := by decide +kernel
theorem dc_Pr_findShortest_86 : decode m_Pr_findShortest.2.1 86 = .ok (.aload_n 0, 1) := by decide +kernel
theorem dc_Pr_findShortest_87 : decode m_Pr_findShortest.2.1 87 = .ok (.getfield 12, 3) := by decide +kernel
theorem dc_Pr_findShortest_90 : decode m_Pr_findShortest.2.1 90 = .ok (.getfield 87, 3) := by decide +kernel
theorem dc_Pr_findShortest_93 : decode m_Pr_findShortest.2.1 93 = .ok (.ifCond .ne 8, 3) := by decide +kernel
theorem dc_Pr_findShortest_96 : decode m_Pr_findShortest.2.1 96 = .ok (.iload 6, 2) := by decide +kernel
theorem dc_Pr_findShortest_98 : decode m_Pr_findShortest.2.1 98 = .ok (.ifCond .eq 9, 3) := by decide +kernel
theorem dc_Pr_findShortest_101 : decode m_Pr_findShortest.2.1 101 = .ok (.lload 8, 2) := by decide +kernel
theorem dc_Pr_findShortest_103 : decode m_Pr_findShortest.2.1 103 = .ok (.lconst 1, 1) := by decide +kernel
theorem dc_Pr_findShortest_104 : decode m_Pr_findShortest.2.1 104 = .ok (.ladd, 1) := by decide +kernel
theorem dc_Pr_findShortest_105 : decode m_Pr_findShortest.2.1 105 = .ok (.lstore 8, 2) := by decide +kernel
theorem dc_Pr_findShortest_107 : decode m_Pr_findShortest.2.1 107 = .ok (.aload_n 0, 1) := by decide +kernel
theorem dc_Pr_findShortest_108 : decode m_Pr_findShortest.2.1 108 = .ok (.ldc2_w 81, 3) := by decide +kernel
theorem dc_Pr_findShortest_111 : decode m_Pr_findShortest.2.1 111 = .ok (.lload_n 1, 1) := by decide +kernel
theorem dc_Pr_findShortest_112 : decode m_Pr_findShortest.2.1 112 = .ok (.lmul, 1) := by decide +kernel
theorem dc_Pr_findShortest_113 : decode m_Pr_findShortest.2.1 113 = .ok (.ldc2_w 91, 3) := by decide +kernel
theorem dc_Pr_findShortest_116 : decode m_Pr_findShortest.2.1 116 = .ok (.ladd, 1) := by decide +kernel
theorem dc_Pr_findShortest_117 : decode m_Pr_findShortest.2.1 117 = .ok (.iload_n 3, 1) := by decide +kernel
theorem dc_Pr_findShortest_118 : decode m_Pr_findShortest.2.1 118 = .ok (.iconst 2, 1) := by decide +kernel
theorem dc_Pr_findShortest_119 : decode m_Pr_findShortest.2.1 119 = .ok (.isub, 1) := by decide +kernel
theorem dc_Pr_findShortest_120 : decode m_Pr_findShortest.2.1 120 = .ok (.iload 5, 2) := by decide +kernel
theorem dc_Pr_findShortest_122 : decode m_Pr_findShortest.2.1 122 = .ok (.invokevirtual 83, 3) := by decide +kernel
theorem dc_Pr_findShortest_125 : decode m_Pr_findShortest.2.1 125 = .ok (.lstore 10, 2) := by decide +kernel
theorem dc_Pr_findShortest_127 : decode m_Pr_findShortest.2.1 127 = .ok (.aload_n 0, 1) := by decide +kernel
theorem dc_Pr_findShortest_128 : decode m_Pr_findShortest.2.1 128 = .ok (.getfield 12, 3) := by decide +kernel
theorem dc_Pr_findShortest_131 : decode m_Pr_findShortest.2.1 131 = .ok (.getfield 87, 3) := by decide +kernel
theorem dc_Pr_findShortest_134 : decode m_Pr_findShortest.2.1 134 = .ok (.ifCond .ne 14, 3) := by decide +kernel
theorem dc_Pr_findShortest_137 : decode m_Pr_findShortest.2.1 137 = .ok (.iload 6, 2) := by decide +kernel
theorem dc_Pr_findShortest_139 : decode m_Pr_findShortest.2.1 139 = .ok (.ifCond .eq 9, 3) := by decide +kernel
theorem dc_Pr_findShortest_142 : decode m_Pr_findShortest.2.1 142 = .ok (.lload 10, 2) := by decide +kernel
theorem dc_Pr_findShortest_144 : decode m_Pr_findShortest.2.1 144 = .ok (.lconst 1, 1) := by decide +kernel
theorem dc_Pr_findShortest_145 : decode m_Pr_findShortest.2.1 145 = .ok (.lsub, 1) := by decide +kernel
theorem dc_Pr_findShortest_146 : decode m_Pr_findShortest.2.1 146 = .ok (.lstore 10, 2) := by decide +kernel
theorem dc_Pr_findShortest_148 : decode m_Pr_findShortest.2.1 148 = .ok (.aload_n 0, 1) := by decide +kernel
theorem dc_Pr_findShortest_149 : decode m_Pr_findShortest.2.1 149 = .ok (.ldc2_w 81, 3) := by decide +kernel
theorem dc_Pr_findShortest_152 : decode m_Pr_findShortest.2.1 152 = .ok (.lload_n 1, 1) := by decide +kernel
theorem dc_Pr_findShortest_153 : decode m_Pr_findShortest.2.1 153 = .ok (.lmul, 1) := by decide +kernel
theorem dc_Pr_findShortest_154 : decode m_Pr_findShortest.2.1 154 = .ok (.iload_n 3, 1) := by decide +kernel
theorem dc_Pr_findShortest_155 : decode m_Pr_findShortest.2.1 155 = .ok (.iconst 2, 1) := by decide +kernel
theorem dc_Pr_findShortest_156 : decode m_Pr_findShortest.2.1 156 = .ok (.isub, 1) := by decide +kernel
theorem dc_Pr_findShortest_157 : decode m_Pr_findShortest.2.1 157 = .ok (.iload 5, 2) := by decide +kernel
theorem dc_Pr_findShortest_159 : decode m_Pr_findShortest.2.1 159 = .ok (.invokevirtual 83, 3) := by decide +kernel
theorem dc_Pr_findShortest_162 : decode m_Pr_findShortest.2.1 162 = .ok (.lstore 12, 2) := by decide +kernel
theorem dc_Pr_findShortest_164 : decode m_Pr_findShortest.2.1 164 = .ok (.bipush 18, 2) := by decide +kernel
theorem dc_Pr_findShortest_166 : decode m_Pr_findShortest.2.1 166 = .ok (.istore 14, 2) := by decide +kernel
theorem dc_Pr_findShortest_168 : decode m_Pr_findShortest.2.1 168 = .ok (.ldc2_w 93, 3) := by decide +kernel
theorem dc_Pr_findShortest_171 : decode m_Pr_findShortest.2.1 171 = .ok (.lstore 15, 2) := by decide +kernel
theorem dc_Pr_findShortest_173 : decode m_Pr_findShortest.2.1 173 = .ok (.lload 15, 2) := by decide +kernel
theorem dc_Pr_findShortest_175 : decode m_Pr_findShortest.2.1 175 = .ok (.lconst 1, 1) := by decide +kernel
theorem dc_Pr_findShortest_176 : decode m_Pr_findShortest.2.1 176 = .ok (.lcmp, 1) := by decide +kernel
theorem dc_Pr_findShortest_177 : decode m_Pr_findShortest.2.1 177 = .ok (.ifCond .le 132, 3) := by decide +kernel
theorem dc_Pr_findShortest_180 : decode m_Pr_findShortest.2.1 180 = .ok (.lload 12, 2) := by decide +kernel
theorem dc_Pr_findShortest_182 : decode m_Pr_findShortest.2.1 182 = .ok (.lload 15, 2) := by decide +kernel
theorem dc_Pr_findShortest_184 : decode m_Pr_findShortest.2.1 184 = .ok (.ldiv, 1) := by decide +kernel
theorem dc_Pr_findShortest_185 : decode m_Pr_findShortest.2.1 185 = .ok (.lstore 17, 2) := by decide +kernel
theorem dc_Pr_findShortest_187 : decode m_Pr_findShortest.2.1 187 = .ok (.lload 17, 2) := by decide +kernel
theorem dc_Pr_findShortest_189 : decode m_Pr_findShortest.2.1 189 = .ok (.lload 15, 2) := by decide +kernel
theorem dc_Pr_findShortest_191 : decode m_Pr_findShortest.2.1 191 = .ok (.lmul, 1) := by decide +kernel
theorem dc_Pr_findShortest_192 : decode m_Pr_findShortest.2.1 192 = .ok (.lload 8, 2) := by decide +kernel
theorem dc_Pr_findShortest_194 : decode m_Pr_findShortest.2.1 194 = .ok (.lcmp, 1) := by decide +kernel
theorem dc_Pr_findShortest_195 : decode m_Pr_findShortest.2.1 195 = .ok (.ifCond .lt 7, 3) := by decide +kernel
theorem dc_Pr_findShortest_198 : decode m_Pr_findShortest.2.1 198 = .ok (.iconst 1, 1) := by decide +kernel
theorem dc_Pr_findShortest_199 : decode m_Pr_findShortest.2.1 199 = .ok (.goto 4, 3) := by decide +kernel
theorem dc_Pr_findShortest_202 : decode m_Pr_findShortest.2.1 202 = .ok (.iconst 0, 1) := by decide +kernel
theorem dc_Pr_findShortest_203 : decode m_Pr_findShortest.2.1 203 = .ok (.istore 19, 2) := by decide +kernel
theorem dc_Pr_findShortest_205 : decode m_Pr_findShortest.2.1 205 = .ok (.lload 17, 2) := by decide +kernel
theorem dc_Pr_findShortest_207 : decode m_Pr_findShortest.2.1 207 = .ok (.lconst 1, 1) := by decide +kernel
theorem dc_Pr_findShortest_208 : decode m_Pr_findShortest.2.1 208 = .ok (.ladd, 1) := by decide +kernel
theorem dc_Pr_findShortest_209 : decode m_Pr_findShortest.2.1 209 = .ok (.lload 15, 2) := by decide +kernel
theorem dc_Pr_findShortest_211 : decode m_Pr_findShortest.2.1 211 = .ok (.lmul, 1) := by decide +kernel
theorem dc_Pr_findShortest_212 : decode m_Pr_findShortest.2.1 212 = .ok (.lload 10, 2) := by decide +kernel
theorem dc_Pr_findShortest_214 : decode m_Pr_findShortest.2.1 214 = .ok (.lcmp, 1) := by decide +kernel
theorem dc_Pr_findShortest_215 : decode m_Pr_findShortest.2.1 215 = .ok (.ifCond .gt 7, 3) := by decide +kernel
theorem dc_Pr_findShortest_218 : decode m_Pr_findShortest.2.1 218 = .ok (.iconst 1, 1) := by decide +kernel
theorem dc_Pr_findShortest_219 : decode m_Pr_findShortest.2.1 219 = .ok (.goto 4, 3) := by decide +kernel
theorem dc_Pr_findShortest_222 : decode m_Pr_findShortest.2.1 222 = .ok (.iconst 0, 1) := by decide +kernel
theorem dc_Pr_findShortest_223 : decode m_Pr_findShortest.2.1 223 = .ok (.istore 20, 2) := by decide +kernel
theorem dc_Pr_findShortest_225 : decode m_Pr_findShortest.2.1 225 = .ok (.iload 19, 2) := by decide +kernel
theorem dc_Pr_findShortest_227 : decode m_Pr_findShortest.2.1 227 = .ok (.ifCond .ne 8, 3) := by decide +kernel
theorem dc_Pr_findShortest_230 : decode m_Pr_findShortest.2.1 230 = .ok (.iload 20, 2) := by decide +kernel
theorem dc_Pr_findShortest_232 : decode m_Pr_findShortest.2.1 232 = .ok (.ifCond .eq 63, 3) := by decide +kernel
theorem dc_Pr_findShortest_235 : decode m_Pr_findShortest.2.1 235 = .ok (.iload 19, 2) := by decide +kernel
theorem dc_Pr_findShortest_237 : decode m_Pr_findShortest.2.1 237 = .ok (.ifCond .eq 27, 3) := by decide +kernel
theorem dc_Pr_findShortest_240 : decode m_Pr_findShortest.2.1 240 = .ok (.iload 20, 2) := by decide +kernel
theorem dc_Pr_findShortest_242 : decode m_Pr_findShortest.2.1 242 = .ok (.ifCond .eq 26, 3) := by decide +kernel
theorem dc_Pr_findShortest_245 : decode m_Pr_findShortest.2.1 245 = .ok (.aload_n 0, 1) := by decide +kernel
theorem dc_Pr_findShortest_246 : decode m_Pr_findShortest.2.1 246 = .ok (.lload 12, 2) := by decide +kernel
theorem dc_Pr_findShortest_248 : decode m_Pr_findShortest.2.1 248 = .ok (.lload 17, 2) := by decide +kernel
theorem dc_Pr_findShortest_250 : decode m_Pr_findShortest.2.1 250 = .ok (.lload 15, 2) := by decide +kernel
theorem dc_Pr_findShortest_252 : decode m_Pr_findShortest.2.1 252 = .ok (.lmul, 1) := by decide +kernel
theorem dc_Pr_findShortest_253 : decode m_Pr_findShortest.2.1 253 = .ok (.lsub, 1) := by decide +kernel
theorem dc_Pr_findShortest_254 : decode m_Pr_findShortest.2.1 254 = .ok (.lload 15, 2) := by decide +kernel
theorem dc_Pr_findShortest_256 : decode m_Pr_findShortest.2.1 256 = .ok (.lload 17, 2) := by decide +kernel
theorem dc_Pr_findShortest_258 : decode m_Pr_findShortest.2.1 258 = .ok (.invokevirtual 95, 3) := by decide +kernel
theorem dc_Pr_findShortest_261 : decode m_Pr_findShortest.2.1 261 = .ok (.ifCond .eq 7, 3) := by decide +kernel
theorem dc_Pr_findShortest_264 : decode m_Pr_findShortest.2.1 264 = .ok (.iconst 1, 1) := by decide +kernel
theorem dc_Pr_findShortest_265 : decode m_Pr_findShortest.2.1 265 = .ok (.goto 4, 3) := by decide +kernel
theorem dc_Pr_findShortest_268 : decode m_Pr_findShortest.2.1 268 = .ok (.iconst 0, 1) := by decide +kernel
theorem dc_Pr_findShortest_269 : decode m_Pr_findShortest.2.1 269 = .ok (.istore 21, 2) := by decide +kernel
theorem dc_Pr_findShortest_271 : decode m_Pr_findShortest.2.1 271 = .ok (.aload_n 0, 1) := by decide +kernel
theorem dc_Pr_findShortest_272 : decode m_Pr_findShortest.2.1 272 = .ok (.iload 21, 2) := by decide +kernel
theorem dc_Pr_findShortest_274 : decode m_Pr_findShortest.2.1 274 = .ok (.ifCond .eq 10, 3) := by decide +kernel
theorem dc_Pr_findShortest_277 : decode m_Pr_findShortest.2.1 277 = .ok (.lload 17, 2) := by decide +kernel
theorem dc_Pr_findShortest_279 : decode m_Pr_findShortest.2.1 279 = .ok (.lconst 1, 1) := by decide +kernel
theorem dc_Pr_findShortest_280 : decode m_Pr_findShortest.2.1 280 = .ok (.ladd, 1) := by decide +kernel
theorem dc_Pr_findShortest_281 : decode m_Pr_findShortest.2.1 281 = .ok (.goto 5, 3) := by decide +kernel
theorem dc_Pr_findShortest_284 : decode m_Pr_findShortest.2.1 284 = .ok (.lload 17, 2) := by decide +kernel
theorem dc_Pr_findShortest_286 : decode m_Pr_findShortest.2.1 286 = .ok (.iload 5, 2) := by decide +kernel
theorem dc_Pr_findShortest_288 : decode m_Pr_findShortest.2.1 288 = .ok (.iload 14, 2) := by decide +kernel
theorem dc_Pr_findShortest_290 : decode m_Pr_findShortest.2.1 290 = .ok (.iadd, 1) := by decide +kernel
theorem dc_Pr_findShortest_291 : decode m_Pr_findShortest.2.1 291 = .ok (.invokevirtual 99, 3) := by decide +kernel
theorem dc_Pr_findShortest_294 : decode m_Pr_findShortest.2.1 294 = .ok (.return_, 1) := by decide +kernel
theorem dc_Pr_findShortest_295 : decode m_Pr_findShortest.2.1 295 = .ok (.iinc 14 (-1), 3) := by decide +kernel
theorem dc_Pr_findShortest_298 : decode m_Pr_findShortest.2.1 298 = .ok (.lload 15, 2) := by decide +kernel
theorem dc_Pr_findShortest_300 : decode m_Pr_findShortest.2.1 300 = .ok (.ldc2_w 102, 3) := by decide +kernel
theorem dc_Pr_findShortest_303 : decode m_Pr_findShortest.2.1 303 = .ok (.ldiv, 1) := by decide +kernel
theorem dc_Pr_findShortest_304 : decode m_Pr_findShortest.2.1 304 = .ok (.lstore 15, 2) := by decide +kernel
theorem dc_Pr_findShortest_306 : decode m_Pr_findShortest.2.1 306 = .ok (.goto (-133), 3) := by decide +kernel
theorem dc_Pr_findShortest_309 : decode m_Pr_findShortest.2.1 309 = .ok (.aload_n 0, 1) := by decide +kernel
theorem dc_Pr_findShortest_310 : decode m_Pr_findShortest.2.1 310 = .ok (.lload 12, 2) := by decide +kernel
theorem dc_Pr_findShortest_312 : decode m_Pr_findShortest.2.1 312 = .ok (.iload 5, 2) := by decide +kernel
theorem dc_Pr_findShortest_314 : decode m_Pr_findShortest.2.1 314 = .ok (.invokevirtual 99, 3) := by decide +kernel
theorem dc_Pr_findShortest_317 : decode m_Pr_findShortest.2.1 317 = .ok (.return_, 1) := by decide +kernel
theorem b_Pr_findShortest_0 {E : En_t} {d : Nat} {σ : S_t} {Q : Option Value → S_t → Prop} {x1 : Int64} {x3 : Int32}
    (h : CI E d m_JLo_numberOfLeadingZeros [.long x1] σ (fun r2 σ1 => CI E d m_Pr_tensOf [.int (((63 : Int32) - r2) + x3)] σ1 (fun r4 σ3 => ((lg_cmp (x1 &&& (1 : Int64)) (0 : Int64)) = 0 → JE E (d + 1) m_Pr_findShortest 34 [(0, pv E 59), (1, .long x1), (3, .int x3), (5, .int (r4 - (17 : Int32)))] [.int (0 : Int32)] σ3 Q) ∧ (¬ (lg_cmp (x1 &&& (1 : Int64)) (0 : Int64)) = 0 → JE E (d + 1) m_Pr_findShortest 34 [(0, pv E 59), (1, .long x1), (3, .int x3), (5, .int (r4 - (17 : Int32)))] [.int (1 : Int32)] σ3 Q)))) :
    JE E (d + 1) m_Pr_findShortest 0 [(0, pv E 59), (1, .long x1), (3, .int x3)] [] σ Q := by
  refine J_bipush (v := (63 : Int32)) dc_Pr_findShortest_0 (Eq.refl 2) rfl ?_
  refine J_lload_n dc_Pr_findShortest_2 (Eq.refl 3) 1 rfl ?_
  refine J_callSI (As := [.long x1]) (st := [.int (63 : Int32)]) dc_Pr_findShortest_3 (Eq.refl 6) lk_Pr_72 mi_JLo_numberOfLeadingZeros (Nat.le_of_ble_eq_true rfl) rfl (Nat.le_of_ble_eq_true rfl) (CI.mono h (fun r2 σ1 h => ?_))
  refine J_isub dc_Pr_findShortest_6 (Eq.refl 7) ?_
  refine J_iload_n dc_Pr_findShortest_7 (Eq.refl 8) 2 rfl ?_
  refine J_iadd dc_Pr_findShortest_8 (Eq.refl 9) ?_
  refine J_istore (L' := [(4, .int (((63 : Int32) - r2) + x3)), (0, pv E 59), (1, .long x1), (3, .int x3)]) dc_Pr_findShortest_9 (Eq.refl 11) (Nat.le_of_ble_eq_true rfl) rfl ?_
  refine J_iload dc_Pr_findShortest_11 (Eq.refl 13) 0 rfl ?_
  refine J_callSI (As := [.int (((63 : Int32) - r2) + x3)]) (st := []) dc_Pr_findShortest_13 (Eq.refl 16) lk_Pr_77 mi_Pr_tensOf (Nat.le_of_ble_eq_true rfl) rfl (Nat.le_of_ble_eq_true rfl) (CI.mono h (fun r4 σ3 h => ?_))
  refine J_bipush (v := (17 : Int32)) dc_Pr_findShortest_16 (Eq.refl 18) rfl ?_
  refine J_isub dc_Pr_findShortest_18 (Eq.refl 19) ?_
  refine J_istore (L' := [(5, .int (r4 - (17 : Int32))), (4, .int (((63 : Int32) - r2) + x3)), (0, pv E 59), (1, .long x1), (3, .int x3)]) dc_Pr_findShortest_19 (Eq.refl 21) (Nat.le_of_ble_eq_true rfl) rfl ?_
  refine J_lload_n dc_Pr_findShortest_21 (Eq.refl 22) 3 rfl ?_
  refine J_lconst (v := (1 : Int64)) dc_Pr_findShortest_22 (Eq.refl 23) rfl ?_
  refine J_land dc_Pr_findShortest_23 (Eq.refl 24) ?_
  refine J_lconst (v := (0 : Int64)) dc_Pr_findShortest_24 (Eq.refl 25) rfl ?_
  refine J_lcmp dc_Pr_findShortest_25 (Eq.refl 26) ?_
  refine J_if_eq dc_Pr_findShortest_26 (Eq.refl 29) rfl (fun hc => ?_) (fun hc => ?_)
  · have h := h.1 hc
    refine J_iconst (v := (0 : Int32)) dc_Pr_findShortest_33 (Eq.refl 34) rfl ?_
    refine J_sub [2, 3, 4, 0] rfl ?_
    exact h
  · have h := h.2 hc
    refine J_iconst (v := (1 : Int32)) dc_Pr_findShortest_29 (Eq.refl 30) rfl ?_
    refine J_goto dc_Pr_findShortest_30 rfl ?_
    refine J_sub [2, 3, 4, 0] rfl ?_
    exact h
theorem b_Pr_findShortest_34 {E : En_t} {d : Nat} {σ : S_t} {Q : Option Value → S_t → Prop} {x1 : Int64} {x3 : Int32} {x5 : Int32} {s0 : Int32}
    (h : (¬ (lg_cmp x1 (4503599627370496 : Int64)) = 0 → JE E (d + 1) m_Pr_findShortest 55 [(0, pv E 59), (1, .long x1), (3, .int x3), (5, .int x5), (6, .int s0)] [] σ Q) ∧ ((lg_cmp x1 (4503599627370496 : Int64)) = 0 → (x3 ≤ (-1074 : Int32) → JE E (d + 1) m_Pr_findShortest 55 [(0, pv E 59), (1, .long x1), (3, .int x3), (5, .int x5), (6, .int s0)] [] σ Q) ∧ (¬ x3 ≤ (-1074 : Int32) → JE E (d + 1) m_Pr_findShortest 56 [(0, pv E 59), (1, .long x1), (3, .int x3), (5, .int x5), (6, .int s0)] [.int (1 : Int32)] σ Q))) :
    JE E (d + 1) m_Pr_findShortest 34 [(0, pv E 59), (1, .long x1), (3, .int x3), (5, .int x5)] [.int s0] σ Q := by
  refine J_istore (L' := [(6, .int s0), (0, pv E 59), (1, .long x1), (3, .int x3), (5, .int x5)]) dc_Pr_findShortest_34 (Eq.refl 36) (Nat.le_of_ble_eq_true rfl) rfl ?_
  refine J_lload_n dc_Pr_findShortest_36 (Eq.refl 37) 2 rfl ?_
  refine J_ldc2 dc_Pr_findShortest_37 (Eq.refl 40) kc_Pr_64 ?_
  refine J_lcmp dc_Pr_findShortest_40 (Eq.refl 41) ?_
  refine J_if_ne dc_Pr_findShortest_41 (Eq.refl 44) rfl (fun hc => ?_) (fun hc => ?_)
  · have h := h.1 hc
    refine J_sub [1, 2, 3, 4, 0] rfl ?_
    exact h
  · have h := h.2 hc
    refine J_iload_n dc_Pr_findShortest_44 (Eq.refl 45) 3 rfl ?_
    refine J_sipush (v := (-1074 : Int32)) dc_Pr_findShortest_45 (Eq.refl 48) rfl ?_
    refine J_icmp_le dc_Pr_findShortest_48 (Eq.refl 51) rfl (fun hc => ?_) (fun hc => ?_)
    · have h := h.1 hc
      refine J_sub [1, 2, 3, 4, 0] rfl ?_
      exact h
    · have h := h.2 hc
      refine J_iconst (v := (1 : Int32)) dc_Pr_findShortest_51 (Eq.refl 52) rfl ?_
      refine J_goto dc_Pr_findShortest_52 rfl ?_
      refine J_sub [1, 2, 3, 4, 0] rfl ?_
      exact h
theorem b_Pr_findShortest_55 {E : En_t} {d : Nat} {σ : S_t} {Q : Option Value → S_t → Prop} {x1 : Int64} {x3 : Int32} {x5 : Int32} {x6 : Int32}
    (h : JE E (d + 1) m_Pr_findShortest 56 [(0, pv E 59), (1, .long x1), (3, .int x3), (5, .int x5), (6, .int x6)] [.int (0 : Int32)] σ Q) :
    JE E (d + 1) m_Pr_findShortest 55 [(0, pv E 59), (1, .long x1), (3, .int x3), (5, .int x5), (6, .int x6)] [] σ Q := by
  refine J_iconst (v := (0 : Int32)) dc_Pr_findShortest_55 (Eq.refl 56) rfl ?_
  exact h
theorem b_Pr_findShortest_56 {E : En_t} {d : Nat} {σ : S_t} {Q : Option Value → S_t → Prop} {x1 : Int64} {x3 : Int32} {x5 : Int32} {x6 : Int32} {s0 : Int32}
    (h : (s0 = 0 → JE E (d + 1) m_Pr_findShortest 74 [(0, pv E 59), (1, .long x1), (3, .int x3), (5, .int x5), (6, .int x6)] [.int (2 : Int32), .long ((4 : Int64) * x1), pv E 59] σ Q) ∧ (¬ s0 = 0 → JE E (d + 1) m_Pr_findShortest 74 [(0, pv E 59), (1, .long x1), (3, .int x3), (5, .int x5), (6, .int x6)] [.int (1 : Int32), .long ((4 : Int64) * x1), pv E 59] σ Q)) :
    JE E (d + 1) m_Pr_findShortest 56 [(0, pv E 59), (1, .long x1), (3, .int x3), (5, .int x5), (6, .int x6)] [.int s0] σ Q := by
  refine J_istore (L' := [(7, .int s0), (0, pv E 59), (1, .long x1), (3, .int x3), (5, .int x5), (6, .int x6)]) dc_Pr_findShortest_56 (Eq.refl 58) (Nat.le_of_ble_eq_true rfl) rfl ?_
  refine J_aload_n dc_Pr_findShortest_58 (Eq.refl 59) 1 rfl ?_
  refine J_ldc2 dc_Pr_findShortest_59 (Eq.refl 62) kc_Pr_81 ?_
  refine J_lload_n dc_Pr_findShortest_62 (Eq.refl 63) 2 rfl ?_
  refine J_lmul dc_Pr_findShortest_63 (Eq.refl 64) ?_
  refine J_iload dc_Pr_findShortest_64 (Eq.refl 66) 0 rfl ?_
  refine J_if_eq dc_Pr_findShortest_66 (Eq.refl 69) rfl (fun hc => ?_) (fun hc => ?_)
  · have h := h.1 hc
    refine J_iconst (v := (2 : Int32)) dc_Pr_findShortest_73 (Eq.refl 74) rfl ?_
    refine J_sub [1, 2, 3, 4, 5] rfl ?_
    exact h
  · have h := h.2 hc
    refine J_iconst (v := (1 : Int32)) dc_Pr_findShortest_69 (Eq.refl 70) rfl ?_
    refine J_goto dc_Pr_findShortest_70 rfl ?_
    refine J_sub [1, 2, 3, 4, 5] rfl ?_
    exact h
theorem b_Pr_findShortest_74 {E : En_t} {d : Nat} {σ : S_t} {Q : Option Value → S_t → Prop} {x1 : Int64} {x3 : Int32} {x5 : Int32} {x6 : Int32} {s0 : Int32} {s1 : Int64}
    (h : CL E d m_Pr_scaled [pv E 59, .long (s1 - s0.toInt64), .int (x3 - (2 : Int32)), .int x5] σ (fun r2 σ1 => (¬ (gI σ1 61 2) = 0 → JE E (d + 1) m_Pr_findShortest 101 [(0, pv E 59), (1, .long x1), (3, .int x3), (5, .int x5), (6, .int x6), (8, .long r2)] [] σ1 Q) ∧ ((gI σ1 61 2) = 0 → (x6 = 0 → JE E (d + 1) m_Pr_findShortest 107 [(0, pv E 59), (1, .long x1), (3, .int x3), (5, .int x5), (6, .int x6), (8, .long r2)] [] σ1 Q) ∧ (¬ x6 = 0 → JE E (d + 1) m_Pr_findShortest 101 [(0, pv E 59), (1, .long x1), (3, .int x3), (5, .int x5), (6, .int x6), (8, .long r2)] [] σ1 Q)))) :
    JE E (d + 1) m_Pr_findShortest 74 [(0, pv E 59), (1, .long x1), (3, .int x3), (5, .int x5), (6, .int x6)] [.int s0, .long s1, pv E 59] σ Q := by
  refine J_i2l dc_Pr_findShortest_74 (Eq.refl 75) ?_
  refine J_lsub dc_Pr_findShortest_75 (Eq.refl 76) ?_
  refine J_iload_n dc_Pr_findShortest_76 (Eq.refl 77) 2 rfl ?_
  refine J_iconst (v := (2 : Int32)) dc_Pr_findShortest_77 (Eq.refl 78) rfl ?_
  refine J_isub dc_Pr_findShortest_78 (Eq.refl 79) ?_
  refine J_iload dc_Pr_findShortest_79 (Eq.refl 81) 3 rfl ?_
  refine J_callVL (As := [.long (s1 - s0.toInt64), .int (x3 - (2 : Int32)), .int x5]) (st := []) dc_Pr_findShortest_81 (Eq.refl 84) lk_Pr_83 mi_Pr_scaled rfl (Nat.le_of_ble_eq_true rfl) rfl rfl (Nat.le_of_ble_eq_true rfl) rfl (Nat.le_of_ble_eq_true rfl) (CL.mono h (fun r2 σ1 h => ?_))
  refine J_lstore (L' := [(8, .long r2), (0, pv E 59), (1, .long x1), (3, .int x3), (5, .int x5), (6, .int x6)]) dc_Pr_findShortest_84 (Eq.refl 86) (Nat.le_of_ble_eq_true rfl) rfl ?_
  refine J_aload_n dc_Pr_findShortest_86 (Eq.refl 87) 1 rfl ?_
  refine J_getF (y := 61) dc_Pr_findShortest_87 (Eq.refl 90) fl_Pr_12 (Nat.le_of_ble_eq_true rfl) rfl (Or.inr rfl) rfl ?_
  refine J_getI dc_Pr_findShortest_90 (Eq.refl 93) fl_Pr_87 (Nat.le_of_ble_eq_true rfl) rfl (Or.inr rfl) ?_
  refine J_if_ne dc_Pr_findShortest_93 (Eq.refl 96) rfl (fun hc => ?_) (fun hc => ?_)
  · have h := h.1 hc
    refine J_sub [1, 2, 3, 4, 5, 0] rfl ?_
    exact h
  · have h := h.2 hc
    refine J_iload dc_Pr_findShortest_96 (Eq.refl 98) 5 rfl ?_
    refine J_if_eq dc_Pr_findShortest_98 (Eq.refl 101) rfl (fun hc => ?_) (fun hc => ?_)
    · have h := h.1 hc
      refine J_sub [1, 2, 3, 4, 5, 0] rfl ?_
      exact h
    · have h := h.2 hc
      refine J_sub [1, 2, 3, 4, 5, 0] rfl ?_
      exact h
theorem b_Pr_findShortest_101 {E : En_t} {d : Nat} {σ : S_t} {Q : Option Value → S_t → Prop} {x1 : Int64} {x3 : Int32} {x5 : Int32} {x6 : Int32} {x8 : Int64}
    (h : JE E (d + 1) m_Pr_findShortest 107 [(0, pv E 59), (1, .long x1), (3, .int x3), (5, .int x5), (6, .int x6), (8, .long (x8 + (1 : Int64)))] [] σ Q) :
    JE E (d + 1) m_Pr_findShortest 101 [(0, pv E 59), (1, .long x1), (3, .int x3), (5, .int x5), (6, .int x6), (8, .long x8)] [] σ Q := by
  refine J_lload dc_Pr_findShortest_101 (Eq.refl 103) 5 rfl ?_
  refine J_lconst (v := (1 : Int64)) dc_Pr_findShortest_103 (Eq.refl 104) rfl ?_
  refine J_ladd dc_Pr_findShortest_104 (Eq.refl 105) ?_
  refine J_lstore (L' := [(8, .long (x8 + (1 : Int64))), (0, pv E 59), (1, .long x1), (3, .int x3), (5, .int x5), (6, .int x6)]) dc_Pr_findShortest_105 (Eq.refl 107) (Nat.le_of_ble_eq_true rfl) rfl ?_
  refine J_sub [1, 2, 3, 4, 5, 0] rfl ?_
  exact h
theorem b_Pr_findShortest_107 {E : En_t} {d : Nat} {σ : S_t} {Q : Option Value → S_t → Prop} {x1 : Int64} {x3 : Int32} {x5 : Int32} {x6 : Int32} {x8 : Int64}
    (h : CL E d m_Pr_scaled [pv E 59, .long (((4 : Int64) * x1) + (2 : Int64)), .int (x3 - (2 : Int32)), .int x5] σ (fun r2 σ1 => (¬ (gI σ1 61 2) = 0 → JE E (d + 1) m_Pr_findShortest 148 [(0, pv E 59), (1, .long x1), (3, .int x3), (5, .int x5), (8, .long x8), (10, .long r2)] [] σ1 Q) ∧ ((gI σ1 61 2) = 0 → (x6 = 0 → JE E (d + 1) m_Pr_findShortest 148 [(0, pv E 59), (1, .long x1), (3, .int x3), (5, .int x5), (8, .long x8), (10, .long r2)] [] σ1 Q) ∧ (¬ x6 = 0 → JE E (d + 1) m_Pr_findShortest 148 [(0, pv E 59), (1, .long x1), (3, .int x3), (5, .int x5), (8, .long x8), (10, .long (r2 - (1 : Int64)))] [] σ1 Q)))) :
    JE E (d + 1) m_Pr_findShortest 107 [(0, pv E 59), (1, .long x1), (3, .int x3), (5, .int x5), (6, .int x6), (8, .long x8)] [] σ Q := by
  refine J_aload_n dc_Pr_findShortest_107 (Eq.refl 108) 0 rfl ?_
  refine J_ldc2 dc_Pr_findShortest_108 (Eq.refl 111) kc_Pr_81 ?_
  refine J_lload_n dc_Pr_findShortest_111 (Eq.refl 112) 1 rfl ?_
  refine J_lmul dc_Pr_findShortest_112 (Eq.refl 113) ?_
  refine J_ldc2 dc_Pr_findShortest_113 (Eq.refl 116) kc_Pr_91 ?_
  refine J_ladd dc_Pr_findShortest_116 (Eq.refl 117) ?_
  refine J_iload_n dc_Pr_findShortest_117 (Eq.refl 118) 2 rfl ?_
  refine J_iconst (v := (2 : Int32)) dc_Pr_findShortest_118 (Eq.refl 119) rfl ?_
  refine J_isub dc_Pr_findShortest_119 (Eq.refl 120) ?_
  refine J_iload dc_Pr_findShortest_120 (Eq.refl 122) 3 rfl ?_
  refine J_callVL (As := [.long (((4 : Int64) * x1) + (2 : Int64)), .int (x3 - (2 : Int32)), .int x5]) (st := []) dc_Pr_findShortest_122 (Eq.refl 125) lk_Pr_83 mi_Pr_scaled rfl (Nat.le_of_ble_eq_true rfl) rfl rfl (Nat.le_of_ble_eq_true rfl) rfl (Nat.le_of_ble_eq_true rfl) (CL.mono h (fun r2 σ1 h => ?_))
  refine J_lstore (L' := [(10, .long r2), (0, pv E 59), (1, .long x1), (3, .int x3), (5, .int x5), (6, .int x6), (8, .long x8)]) dc_Pr_findShortest_125 (Eq.refl 127) (Nat.le_of_ble_eq_true rfl) rfl ?_
  refine J_aload_n dc_Pr_findShortest_127 (Eq.refl 128) 1 rfl ?_
  refine J_getF (y := 61) dc_Pr_findShortest_128 (Eq.refl 131) fl_Pr_12 (Nat.le_of_ble_eq_true rfl) rfl (Or.inr rfl) rfl ?_
  refine J_getI dc_Pr_findShortest_131 (Eq.refl 134) fl_Pr_87 (Nat.le_of_ble_eq_true rfl) rfl (Or.inr rfl) ?_
  refine J_if_ne dc_Pr_findShortest_134 (Eq.refl 137) rfl (fun hc => ?_) (fun hc => ?_)
  · have h := h.1 hc
    refine J_sub [1, 2, 3, 4, 6, 0] rfl ?_
    exact h
  · have h := h.2 hc
    refine J_iload dc_Pr_findShortest_137 (Eq.refl 139) 5 rfl ?_
    refine J_if_eq dc_Pr_findShortest_139 (Eq.refl 142) rfl (fun hc => ?_) (fun hc => ?_)
    · have h := h.1 hc
      refine J_sub [1, 2, 3, 4, 6, 0] rfl ?_
      exact h
    · have h := h.2 hc
      refine J_lload dc_Pr_findShortest_142 (Eq.refl 144) 0 rfl ?_
      refine J_lconst (v := (1 : Int64)) dc_Pr_findShortest_144 (Eq.refl 145) rfl ?_
      refine J_lsub dc_Pr_findShortest_145 (Eq.refl 146) ?_
      refine J_lstore (L' := [(10, .long (r2 - (1 : Int64))), (0, pv E 59), (1, .long x1), (3, .int x3), (5, .int x5), (6, .int x6), (8, .long x8)]) dc_Pr_findShortest_146 (Eq.refl 148) (Nat.le_of_ble_eq_true rfl) rfl ?_
      refine J_sub [1, 2, 3, 4, 6, 0] rfl ?_
      exact h
theorem b_Pr_findShortest_148 {E : En_t} {d : Nat} {σ : S_t} {Q : Option Value → S_t → Prop} {x1 : Int64} {x3 : Int32} {x5 : Int32} {x8 : Int64} {x10 : Int64}
    (h : CL E d m_Pr_scaled [pv E 59, .long ((4 : Int64) * x1), .int (x3 - (2 : Int32)), .int x5] σ (fun r2 σ1 => JE E (d + 1) m_Pr_findShortest 173 [(0, pv E 59), (5, .int x5), (8, .long x8), (10, .long x10), (12, .long r2), (14, .int (18 : Int32)), (15, .long (1000000000000000000 : Int64))] [] σ1 Q)) :
    JE E (d + 1) m_Pr_findShortest 148 [(0, pv E 59), (1, .long x1), (3, .int x3), (5, .int x5), (8, .long x8), (10, .long x10)] [] σ Q := by
  refine J_aload_n dc_Pr_findShortest_148 (Eq.refl 149) 0 rfl ?_
  refine J_ldc2 dc_Pr_findShortest_149 (Eq.refl 152) kc_Pr_81 ?_
  refine J_lload_n dc_Pr_findShortest_152 (Eq.refl 153) 1 rfl ?_
  refine J_lmul dc_Pr_findShortest_153 (Eq.refl 154) ?_
  refine J_iload_n dc_Pr_findShortest_154 (Eq.refl 155) 2 rfl ?_
  refine J_iconst (v := (2 : Int32)) dc_Pr_findShortest_155 (Eq.refl 156) rfl ?_
  refine J_isub dc_Pr_findShortest_156 (Eq.refl 157) ?_
  refine J_iload dc_Pr_findShortest_157 (Eq.refl 159) 3 rfl ?_
  refine J_callVL (As := [.long ((4 : Int64) * x1), .int (x3 - (2 : Int32)), .int x5]) (st := []) dc_Pr_findShortest_159 (Eq.refl 162) lk_Pr_83 mi_Pr_scaled rfl (Nat.le_of_ble_eq_true rfl) rfl rfl (Nat.le_of_ble_eq_true rfl) rfl (Nat.le_of_ble_eq_true rfl) (CL.mono h (fun r2 σ1 h => ?_))
  refine J_lstore (L' := [(12, .long r2), (0, pv E 59), (1, .long x1), (3, .int x3), (5, .int x5), (8, .long x8), (10, .long x10)]) dc_Pr_findShortest_162 (Eq.refl 164) (Nat.le_of_ble_eq_true rfl) rfl ?_
  refine J_bipush (v := (18 : Int32)) dc_Pr_findShortest_164 (Eq.refl 166) rfl ?_
  refine J_istore (L' := [(14, .int (18 : Int32)), (12, .long r2), (0, pv E 59), (1, .long x1), (3, .int x3), (5, .int x5), (8, .long x8), (10, .long x10)]) dc_Pr_findShortest_166 (Eq.refl 168) (Nat.le_of_ble_eq_true rfl) rfl ?_
  refine J_ldc2 dc_Pr_findShortest_168 (Eq.refl 171) kc_Pr_93 ?_
  refine J_lstore (L' := [(15, .long (1000000000000000000 : Int64)), (14, .int (18 : Int32)), (12, .long r2), (0, pv E 59), (1, .long x1), (3, .int x3), (5, .int x5), (8, .long x8), (10, .long x10)]) dc_Pr_findShortest_171 (Eq.refl 173) (Nat.le_of_ble_eq_true rfl) rfl ?_
  refine J_sub [3, 6, 7, 8, 2, 1, 0] rfl ?_
  exact h
theorem b_Pr_findShortest_173 {E : En_t} {d : Nat} {σ : S_t} {Q : Option Value → S_t → Prop} {x5 : Int32} {x8 : Int64} {x10 : Int64} {x12 : Int64} {x14 : Int32} {x15 : Int64}
    (h : ((lg_cmp x15 (1 : Int64)) ≤ 0 → CV E d m_Pr_keepDigits [pv E 59, .long x12, .int x5] σ (fun σ1 => Q none σ1)) ∧ (¬ (lg_cmp x15 (1 : Int64)) ≤ 0 → ¬ x15 = 0 ∧ (((lg_cmp ((x12 / x15) * x15) x8) < 0 → JE E (d + 1) m_Pr_findShortest 203 [(0, pv E 59), (5, .int x5), (8, .long x8), (10, .long x10), (12, .long x12), (14, .int x14), (15, .long x15), (17, .long (x12 / x15))] [.int (0 : Int32)] σ Q) ∧ (¬ (lg_cmp ((x12 / x15) * x15) x8) < 0 → JE E (d + 1) m_Pr_findShortest 203 [(0, pv E 59), (5, .int x5), (8, .long x8), (10, .long x10), (12, .long x12), (14, .int x14), (15, .long x15), (17, .long (x12 / x15))] [.int (1 : Int32)] σ Q)))) :
    JE E (d + 1) m_Pr_findShortest 173 [(0, pv E 59), (5, .int x5), (8, .long x8), (10, .long x10), (12, .long x12), (14, .int x14), (15, .long x15)] [] σ Q := by
  refine J_lload dc_Pr_findShortest_173 (Eq.refl 175) 6 rfl ?_
  refine J_lconst (v := (1 : Int64)) dc_Pr_findShortest_175 (Eq.refl 176) rfl ?_
  refine J_lcmp dc_Pr_findShortest_176 (Eq.refl 177) ?_
  refine J_if_le dc_Pr_findShortest_177 (Eq.refl 180) rfl (fun hc => ?_) (fun hc => ?_)
  · have h := h.1 hc
    refine J_aload_n dc_Pr_findShortest_309 (Eq.refl 310) 0 rfl ?_
    refine J_lload dc_Pr_findShortest_310 (Eq.refl 312) 4 rfl ?_
    refine J_iload dc_Pr_findShortest_312 (Eq.refl 314) 1 rfl ?_
    refine J_callVV (As := [.long x12, .int x5]) (st := []) dc_Pr_findShortest_314 (Eq.refl 317) lk_Pr_99 mi_Pr_keepDigits rfl (Nat.le_of_ble_eq_true rfl) rfl rfl (Nat.le_of_ble_eq_true rfl) rfl (Nat.le_of_ble_eq_true rfl) (CV.mono h (fun σ1 h => ?_))
    exact J_vret dc_Pr_findShortest_317 rfl h
  · have h := h.2 hc
    refine J_lload dc_Pr_findShortest_180 (Eq.refl 182) 4 rfl ?_
    refine J_lload dc_Pr_findShortest_182 (Eq.refl 184) 6 rfl ?_
    obtain ⟨hg, h⟩ := h
    refine J_ldiv dc_Pr_findShortest_184 (Eq.refl 185) hg ?_
    refine J_lstore (L' := [(17, .long (x12 / x15)), (0, pv E 59), (5, .int x5), (8, .long x8), (10, .long x10), (12, .long x12), (14, .int x14), (15, .long x15)]) dc_Pr_findShortest_185 (Eq.refl 187) (Nat.le_of_ble_eq_true rfl) rfl ?_
    refine J_lload dc_Pr_findShortest_187 (Eq.refl 189) 0 rfl ?_
    refine J_lload dc_Pr_findShortest_189 (Eq.refl 191) 7 rfl ?_
    refine J_lmul dc_Pr_findShortest_191 (Eq.refl 192) ?_
    refine J_lload dc_Pr_findShortest_192 (Eq.refl 194) 3 rfl ?_
    refine J_lcmp dc_Pr_findShortest_194 (Eq.refl 195) ?_
    refine J_if_lt dc_Pr_findShortest_195 (Eq.refl 198) rfl (fun hc => ?_) (fun hc => ?_)
    · have h := h.1 hc
      refine J_iconst (v := (0 : Int32)) dc_Pr_findShortest_202 (Eq.refl 203) rfl ?_
      refine J_sub [1, 2, 3, 4, 5, 6, 7, 0] rfl ?_
      exact h
    · have h := h.2 hc
      refine J_iconst (v := (1 : Int32)) dc_Pr_findShortest_198 (Eq.refl 199) rfl ?_
      refine J_goto dc_Pr_findShortest_199 rfl ?_
      refine J_sub [1, 2, 3, 4, 5, 6, 7, 0] rfl ?_
      exact h
theorem b_Pr_findShortest_203 {E : En_t} {d : Nat} {σ : S_t} {Q : Option Value → S_t → Prop} {x5 : Int32} {x8 : Int64} {x10 : Int64} {x12 : Int64} {x14 : Int32} {x15 : Int64} {x17 : Int64} {s0 : Int32}
    (h : (0 < (lg_cmp ((x17 + (1 : Int64)) * x15) x10) → JE E (d + 1) m_Pr_findShortest 223 [(0, pv E 59), (5, .int x5), (8, .long x8), (10, .long x10), (12, .long x12), (14, .int x14), (15, .long x15), (17, .long x17), (19, .int s0)] [.int (0 : Int32)] σ Q) ∧ (¬ 0 < (lg_cmp ((x17 + (1 : Int64)) * x15) x10) → JE E (d + 1) m_Pr_findShortest 223 [(0, pv E 59), (5, .int x5), (8, .long x8), (10, .long x10), (12, .long x12), (14, .int x14), (15, .long x15), (17, .long x17), (19, .int s0)] [.int (1 : Int32)] σ Q)) :
    JE E (d + 1) m_Pr_findShortest 203 [(0, pv E 59), (5, .int x5), (8, .long x8), (10, .long x10), (12, .long x12), (14, .int x14), (15, .long x15), (17, .long x17)] [.int s0] σ Q := by
  refine J_istore (L' := [(19, .int s0), (0, pv E 59), (5, .int x5), (8, .long x8), (10, .long x10), (12, .long x12), (14, .int x14), (15, .long x15), (17, .long x17)]) dc_Pr_findShortest_203 (Eq.refl 205) (Nat.le_of_ble_eq_true rfl) rfl ?_
  refine J_lload dc_Pr_findShortest_205 (Eq.refl 207) 8 rfl ?_
  refine J_lconst (v := (1 : Int64)) dc_Pr_findShortest_207 (Eq.refl 208) rfl ?_
  refine J_ladd dc_Pr_findShortest_208 (Eq.refl 209) ?_
  refine J_lload dc_Pr_findShortest_209 (Eq.refl 211) 7 rfl ?_
  refine J_lmul dc_Pr_findShortest_211 (Eq.refl 212) ?_
  refine J_lload dc_Pr_findShortest_212 (Eq.refl 214) 4 rfl ?_
  refine J_lcmp dc_Pr_findShortest_214 (Eq.refl 215) ?_
  refine J_if_gt dc_Pr_findShortest_215 (Eq.refl 218) rfl (fun hc => ?_) (fun hc => ?_)
  · have h := h.1 hc
    refine J_iconst (v := (0 : Int32)) dc_Pr_findShortest_222 (Eq.refl 223) rfl ?_
    refine J_sub [1, 2, 3, 4, 5, 6, 7, 8, 0] rfl ?_
    exact h
  · have h := h.2 hc
    refine J_iconst (v := (1 : Int32)) dc_Pr_findShortest_218 (Eq.refl 219) rfl ?_
    refine J_goto dc_Pr_findShortest_219 rfl ?_
    refine J_sub [1, 2, 3, 4, 5, 6, 7, 8, 0] rfl ?_
    exact h
theorem b_Pr_findShortest_223 {E : En_t} {d : Nat} {σ : S_t} {Q : Option Value → S_t → Prop} {x5 : Int32} {x8 : Int64} {x10 : Int64} {x12 : Int64} {x14 : Int32} {x15 : Int64} {x17 : Int64} {x19 : Int32} {s0 : Int32}
    (h : (¬ x19 = 0 → JE E (d + 1) m_Pr_findShortest 235 [(0, pv E 59), (5, .int x5), (12, .long x12), (14, .int x14), (15, .long x15), (17, .long x17), (19, .int x19), (20, .int s0)] [] σ Q) ∧ (x19 = 0 → (s0 = 0 → JE E (d + 1) m_Pr_findShortest 173 [(0, pv E 59), (5, .int x5), (8, .long x8), (10, .long x10), (12, .long x12), (14, .int (x14 + (-1 : Int32))), (15, .long (x15 / (10 : Int64)))] [] σ Q) ∧ (¬ s0 = 0 → JE E (d + 1) m_Pr_findShortest 235 [(0, pv E 59), (5, .int x5), (12, .long x12), (14, .int x14), (15, .long x15), (17, .long x17), (19, .int x19), (20, .int s0)] [] σ Q))) :
    JE E (d + 1) m_Pr_findShortest 223 [(0, pv E 59), (5, .int x5), (8, .long x8), (10, .long x10), (12, .long x12), (14, .int x14), (15, .long x15), (17, .long x17), (19, .int x19)] [.int s0] σ Q := by
  refine J_istore (L' := [(20, .int s0), (0, pv E 59), (5, .int x5), (8, .long x8), (10, .long x10), (12, .long x12), (14, .int x14), (15, .long x15), (17, .long x17), (19, .int x19)]) dc_Pr_findShortest_223 (Eq.refl 225) (Nat.le_of_ble_eq_true rfl) rfl ?_
  refine J_iload dc_Pr_findShortest_225 (Eq.refl 227) 9 rfl ?_
  refine J_if_ne dc_Pr_findShortest_227 (Eq.refl 230) rfl (fun hc => ?_) (fun hc => ?_)
  · have h := h.1 hc
    refine J_sub [1, 2, 5, 6, 7, 8, 9, 0] rfl ?_
    exact h
  · have h := h.2 hc
    refine J_iload dc_Pr_findShortest_230 (Eq.refl 232) 0 rfl ?_
    refine J_if_eq dc_Pr_findShortest_232 (Eq.refl 235) rfl (fun hc => ?_) (fun hc => ?_)
    · have h := h.1 hc
      refine J_iinc (v := x14 + (-1 : Int32)) (L' := [(14, .int (x14 + (-1 : Int32))), (20, .int s0), (0, pv E 59), (5, .int x5), (8, .long x8), (10, .long x10), (12, .long x12), (15, .long x15), (17, .long x17), (19, .int x19)]) dc_Pr_findShortest_295 (Eq.refl 298) 6 rfl rfl (Nat.le_of_ble_eq_true rfl) rfl ?_
      refine J_lload dc_Pr_findShortest_298 (Eq.refl 300) 7 rfl ?_
      refine J_ldc2 dc_Pr_findShortest_300 (Eq.refl 303) kc_Pr_102 ?_
      refine J_ldiv dc_Pr_findShortest_303 (Eq.refl 304) (by decide) ?_
      refine J_lstore (L' := [(15, .long (x15 / (10 : Int64))), (14, .int (x14 + (-1 : Int32))), (20, .int s0), (0, pv E 59), (5, .int x5), (8, .long x8), (10, .long x10), (12, .long x12), (17, .long x17), (19, .int x19)]) dc_Pr_findShortest_304 (Eq.refl 306) (Nat.le_of_ble_eq_true rfl) rfl ?_
      refine J_goto dc_Pr_findShortest_306 rfl ?_
      refine J_sub [3, 4, 5, 6, 7, 1, 0] rfl ?_
      exact h
    · have h := h.2 hc
      refine J_sub [1, 2, 5, 6, 7, 8, 9, 0] rfl ?_
      exact h
theorem b_Pr_findShortest_235 {E : En_t} {d : Nat} {σ : S_t} {Q : Option Value → S_t → Prop} {x5 : Int32} {x12 : Int64} {x14 : Int32} {x15 : Int64} {x17 : Int64} {x19 : Int32} {x20 : Int32}
    (h : (x19 = 0 → JE E (d + 1) m_Pr_findShortest 264 [(0, pv E 59), (5, .int x5), (14, .int x14), (17, .long x17)] [] σ Q) ∧ (¬ x19 = 0 → (x20 = 0 → JE E (d + 1) m_Pr_findShortest 268 [(0, pv E 59), (5, .int x5), (14, .int x14), (17, .long x17)] [] σ Q) ∧ (¬ x20 = 0 → CI E d m_Pr_isUpperNearer [pv E 59, .long (x12 - (x17 * x15)), .long x15, .long x17] σ (fun r2 σ1 => (r2 = 0 → JE E (d + 1) m_Pr_findShortest 268 [(0, pv E 59), (5, .int x5), (14, .int x14), (17, .long x17)] [] σ1 Q) ∧ (¬ r2 = 0 → JE E (d + 1) m_Pr_findShortest 264 [(0, pv E 59), (5, .int x5), (14, .int x14), (17, .long x17)] [] σ1 Q))))) :
    JE E (d + 1) m_Pr_findShortest 235 [(0, pv E 59), (5, .int x5), (12, .long x12), (14, .int x14), (15, .long x15), (17, .long x17), (19, .int x19), (20, .int x20)] [] σ Q := by
  refine J_iload dc_Pr_findShortest_235 (Eq.refl 237) 6 rfl ?_
  refine J_if_eq dc_Pr_findShortest_237 (Eq.refl 240) rfl (fun hc => ?_) (fun hc => ?_)
  · have h := h.1 hc
    refine J_sub [0, 1, 3, 5] rfl ?_
    exact h
  · have h := h.2 hc
    refine J_iload dc_Pr_findShortest_240 (Eq.refl 242) 7 rfl ?_
    refine J_if_eq dc_Pr_findShortest_242 (Eq.refl 245) rfl (fun hc => ?_) (fun hc => ?_)
    · have h := h.1 hc
      refine J_sub [0, 1, 3, 5] rfl ?_
      exact h
    · have h := h.2 hc
      refine J_aload_n dc_Pr_findShortest_245 (Eq.refl 246) 0 rfl ?_
      refine J_lload dc_Pr_findShortest_246 (Eq.refl 248) 2 rfl ?_
      refine J_lload dc_Pr_findShortest_248 (Eq.refl 250) 5 rfl ?_
      refine J_lload dc_Pr_findShortest_250 (Eq.refl 252) 4 rfl ?_
      refine J_lmul dc_Pr_findShortest_252 (Eq.refl 253) ?_
      refine J_lsub dc_Pr_findShortest_253 (Eq.refl 254) ?_
      refine J_lload dc_Pr_findShortest_254 (Eq.refl 256) 4 rfl ?_
      refine J_lload dc_Pr_findShortest_256 (Eq.refl 258) 5 rfl ?_
      refine J_callVI (As := [.long (x12 - (x17 * x15)), .long x15, .long x17]) (st := []) dc_Pr_findShortest_258 (Eq.refl 261) lk_Pr_95 mi_Pr_isUpperNearer rfl (Nat.le_of_ble_eq_true rfl) rfl rfl (Nat.le_of_ble_eq_true rfl) rfl (Nat.le_of_ble_eq_true rfl) (CI.mono h (fun r2 σ1 h => ?_))
      refine J_if_eq dc_Pr_findShortest_261 (Eq.refl 264) rfl (fun hc => ?_) (fun hc => ?_)
      · have h := h.1 hc
        refine J_sub [0, 1, 3, 5] rfl ?_
        exact h
      · have h := h.2 hc
        refine J_sub [0, 1, 3, 5] rfl ?_
        exact h
theorem b_Pr_findShortest_264 {E : En_t} {d : Nat} {σ : S_t} {Q : Option Value → S_t → Prop} {x5 : Int32} {x14 : Int32} {x17 : Int64}
    (h : JE E (d + 1) m_Pr_findShortest 269 [(0, pv E 59), (5, .int x5), (14, .int x14), (17, .long x17)] [.int (1 : Int32)] σ Q) :
    JE E (d + 1) m_Pr_findShortest 264 [(0, pv E 59), (5, .int x5), (14, .int x14), (17, .long x17)] [] σ Q := by
  refine J_iconst (v := (1 : Int32)) dc_Pr_findShortest_264 (Eq.refl 265) rfl ?_
  refine J_goto dc_Pr_findShortest_265 rfl ?_
  exact h
theorem b_Pr_findShortest_268 {E : En_t} {d : Nat} {σ : S_t} {Q : Option Value → S_t → Prop} {x5 : Int32} {x14 : Int32} {x17 : Int64}
    (h : JE E (d + 1) m_Pr_findShortest 269 [(0, pv E 59), (5, .int x5), (14, .int x14), (17, .long x17)] [.int (0 : Int32)] σ Q) :
    JE E (d + 1) m_Pr_findShortest 268 [(0, pv E 59), (5, .int x5), (14, .int x14), (17, .long x17)] [] σ Q := by
  refine J_iconst (v := (0 : Int32)) dc_Pr_findShortest_268 (Eq.refl 269) rfl ?_
  exact h
theorem b_Pr_findShortest_269 {E : En_t} {d : Nat} {σ : S_t} {Q : Option Value → S_t → Prop} {x5 : Int32} {x14 : Int32} {x17 : Int64} {s0 : Int32}
    (h : (s0 = 0 → JE E (d + 1) m_Pr_findShortest 286 [(5, .int x5), (14, .int x14)] [.long x17, pv E 59] σ Q) ∧ (¬ s0 = 0 → JE E (d + 1) m_Pr_findShortest 286 [(5, .int x5), (14, .int x14)] [.long (x17 + (1 : Int64)), pv E 59] σ Q)) :
    JE E (d + 1) m_Pr_findShortest 269 [(0, pv E 59), (5, .int x5), (14, .int x14), (17, .long x17)] [.int s0] σ Q := by
  refine J_istore (L' := [(21, .int s0), (0, pv E 59), (5, .int x5), (14, .int x14), (17, .long x17)]) dc_Pr_findShortest_269 (Eq.refl 271) (Nat.le_of_ble_eq_true rfl) rfl ?_
  refine J_aload_n dc_Pr_findShortest_271 (Eq.refl 272) 1 rfl ?_
  refine J_iload dc_Pr_findShortest_272 (Eq.refl 274) 0 rfl ?_
  refine J_if_eq dc_Pr_findShortest_274 (Eq.refl 277) rfl (fun hc => ?_) (fun hc => ?_)
  · have h := h.1 hc
    refine J_lload dc_Pr_findShortest_284 (Eq.refl 286) 4 rfl ?_
    refine J_sub [2, 3] rfl ?_
    exact h
  · have h := h.2 hc
    refine J_lload dc_Pr_findShortest_277 (Eq.refl 279) 4 rfl ?_
    refine J_lconst (v := (1 : Int64)) dc_Pr_findShortest_279 (Eq.refl 280) rfl ?_
    refine J_ladd dc_Pr_findShortest_280 (Eq.refl 281) ?_
    refine J_goto dc_Pr_findShortest_281 rfl ?_
    refine J_sub [2, 3] rfl ?_
    exact h
theorem b_Pr_findShortest_286 {E : En_t} {d : Nat} {σ : S_t} {Q : Option Value → S_t → Prop} {x5 : Int32} {x14 : Int32} {s0 : Int64}
    (h : CV E d m_Pr_keepDigits [pv E 59, .long s0, .int (x5 + x14)] σ (fun σ1 => Q none σ1)) :
    JE E (d + 1) m_Pr_findShortest 286 [(5, .int x5), (14, .int x14)] [.long s0, pv E 59] σ Q := by
  refine J_iload dc_Pr_findShortest_286 (Eq.refl 288) 0 rfl ?_
  refine J_iload dc_Pr_findShortest_288 (Eq.refl 290) 1 rfl ?_
  refine J_iadd dc_Pr_findShortest_290 (Eq.refl 291) ?_
  refine J_callVV (As := [.long s0, .int (x5 + x14)]) (st := []) dc_Pr_findShortest_291 (Eq.refl 294) lk_Pr_99 mi_Pr_keepDigits rfl (Nat.le_of_ble_eq_true rfl) rfl rfl (Nat.le_of_ble_eq_true rfl) rfl (Nat.le_of_ble_eq_true rfl) (CV.mono h (fun σ1 h => ?_))
  exact J_vret dc_Pr_findShortest_294 rfl h
theorem dc_Pr_tensOf_0 : decode m_Pr_tensOf.2.1 0 = .ok (.iload_n 0, 1) := by decide +kernel
theorem dc_Pr_tensOf_1 : decode m_Pr_tensOf.2.1 1 = .ok (.ldc 104, 2) := by decide +kernel
theorem dc_Pr_tensOf_3 : decode m_Pr_tensOf.2.1 3 = .ok (.imul, 1) := by decide +kernel
theorem dc_Pr_tensOf_4 : decode m_Pr_tensOf.2.1 4 = .ok (.bipush 18, 2) := by decide +kernel
theorem dc_Pr_tensOf_6 : decode m_Pr_tensOf.2.1 6 = .ok (.ishr, 1) := by decide +kernel
theorem dc_Pr_tensOf_7 : decode m_Pr_tensOf.2.1 7 = .ok (.ireturn, 1) := by decide +kernel
theorem b_Pr_tensOf_0 {E : En_t} {d : Nat} {σ : S_t} {Q : Option Value → S_t → Prop} {x0 : Int32}
    (h : Q (some (.int ((x0 * (78913 : Int32)) >>> ((18 : Int32) &&& 31)))) σ) :
    JE E d m_Pr_tensOf 0 [(0, .int x0)] [] σ Q := by
  refine J_iload_n dc_Pr_tensOf_0 (Eq.refl 1) 0 rfl ?_
  refine J_ldc dc_Pr_tensOf_1 (Eq.refl 3) kc_Pr_104 ?_
  refine J_imul dc_Pr_tensOf_3 (Eq.refl 4) ?_
  refine J_bipush (v := (18 : Int32)) dc_Pr_tensOf_4 (Eq.refl 6) rfl ?_
  refine J_ishr dc_Pr_tensOf_6 (Eq.refl 7) ?_
  exact J_iret dc_Pr_tensOf_7 rfl h
theorem dc_Pr_scaled_0 : decode m_Pr_scaled.2.1 0 = .ok (.aload_n 0, 1) := by decide +kernel
theorem dc_Pr_scaled_1 : decode m_Pr_scaled.2.1 1 = .ok (.getfield 12, 3) := by decide +kernel
theorem dc_Pr_scaled_4 : decode m_Pr_scaled.2.1 4 = .ok (.lload_n 1, 1) := by decide +kernel
theorem dc_Pr_scaled_5 : decode m_Pr_scaled.2.1 5 = .ok (.invokevirtual 105, 3) := by decide +kernel
theorem dc_Pr_scaled_8 : decode m_Pr_scaled.2.1 8 = .ok (.iload 4, 2) := by decide +kernel
theorem dc_Pr_scaled_10 : decode m_Pr_scaled.2.1 10 = .ok (.ifCond .lt 37, 3) := by decide +kernel
theorem dc_Pr_scaled_13 : decode m_Pr_scaled.2.1 13 = .ok (.aload_n 0, 1) := by decide +kernel
theorem dc_Pr_scaled_14 : decode m_Pr_scaled.2.1 14 = .ok (.getfield 12, 3) := by decide +kernel
theorem dc_Pr_scaled_17 : decode m_Pr_scaled.2.1 17 = .ok (.iload_n 3, 1) := by decide +kernel
theorem dc_Pr_scaled_18 : decode m_Pr_scaled.2.1 18 = .ok (.iload 4, 2) := by decide +kernel
theorem dc_Pr_scaled_20 : decode m_Pr_scaled.2.1 20 = .ok (.isub, 1) := by decide +kernel
theorem dc_Pr_scaled_21 : decode m_Pr_scaled.2.1 21 = .ok (.invokevirtual 109, 3) := by decide +kernel
theorem dc_Pr_scaled_24 : decode m_Pr_scaled.2.1 24 = .ok (.aload_n 0, 1) := by decide +kernel
theorem dc_Pr_scaled_25 : decode m_Pr_scaled.2.1 25 = .ok (.getfield 12, 3) := by decide +kernel
theorem dc_Pr_scaled_28 : decode m_Pr_scaled.2.1 28 = .ok (.iload 4, 2) := by decide +kernel
theorem dc_Pr_scaled_30 : decode m_Pr_scaled.2.1 30 = .ok (.invokevirtual 112, 3) := by decide +kernel
theorem dc_Pr_scaled_33 : decode m_Pr_scaled.2.1 33 = .ok (.aload_n 0, 1) := by decide +kernel
theorem dc_Pr_scaled_34 : decode m_Pr_scaled.2.1 34 = .ok (.getfield 12, 3) := by decide +kernel
theorem dc_Pr_scaled_37 : decode m_Pr_scaled.2.1 37 = .ok (.iload 4, 2) := by decide +kernel
theorem dc_Pr_scaled_39 : decode m_Pr_scaled.2.1 39 = .ok (.iload_n 3, 1) := by decide +kernel
theorem dc_Pr_scaled_40 : decode m_Pr_scaled.2.1 40 = .ok (.isub, 1) := by decide +kernel
theorem dc_Pr_scaled_41 : decode m_Pr_scaled.2.1 41 = .ok (.invokevirtual 115, 3) := by decide +kernel
theorem dc_Pr_scaled_44 : decode m_Pr_scaled.2.1 44 = .ok (.goto 35, 3) := by decide +kernel
theorem dc_Pr_scaled_47 : decode m_Pr_scaled.2.1 47 = .ok (.aload_n 0, 1) := by decide +kernel
theorem dc_Pr_scaled_48 : decode m_Pr_scaled.2.1 48 = .ok (.getfield 12, 3) := by decide +kernel
theorem dc_Pr_scaled_51 : decode m_Pr_scaled.2.1 51 = .ok (.iload 4, 2) := by decide +kernel
theorem dc_Pr_scaled_53 : decode m_Pr_scaled.2.1 53 = .ok (.ineg, 1) := by decide +kernel
theorem dc_Pr_scaled_54 : decode m_Pr_scaled.2.1 54 = .ok (.invokevirtual 118, 3) := by decide +kernel
theorem dc_Pr_scaled_57 : decode m_Pr_scaled.2.1 57 = .ok (.aload_n 0, 1) := by decide +kernel
theorem dc_Pr_scaled_58 : decode m_Pr_scaled.2.1 58 = .ok (.getfield 12, 3) := by decide +kernel
theorem dc_Pr_scaled_61 : decode m_Pr_scaled.2.1 61 = .ok (.iload_n 3, 1) := by decide +kernel
theorem dc_Pr_scaled_62 : decode m_Pr_scaled.2.1 62 = .ok (.iload 4, 2) := by decide +kernel
theorem dc_Pr_scaled_64 : decode m_Pr_scaled.2.1 64 = .ok (.isub, 1) := by decide +kernel
theorem dc_Pr_scaled_65 : decode m_Pr_scaled.2.1 65 = .ok (.invokevirtual 109, 3) := by decide +kernel
theorem dc_Pr_scaled_68 : decode m_Pr_scaled.2.1 68 = .ok (.aload_n 0, 1) := by decide +kernel
theorem dc_Pr_scaled_69 : decode m_Pr_scaled.2.1 69 = .ok (.getfield 12, 3) := by decide +kernel
theorem dc_Pr_scaled_72 : decode m_Pr_scaled.2.1 72 = .ok (.iload 4, 2) := by decide +kernel
theorem dc_Pr_scaled_74 : decode m_Pr_scaled.2.1 74 = .ok (.iload_n 3, 1) := by decide +kernel
theorem dc_Pr_scaled_75 : decode m_Pr_scaled.2.1 75 = .ok (.isub, 1) := by decide +kernel
theorem dc_Pr_scaled_76 : decode m_Pr_scaled.2.1 76 = .ok (.invokevirtual 115, 3) := by decide +kernel
theorem dc_Pr_scaled_79 : decode m_Pr_scaled.2.1 79 = .ok (.aload_n 0, 1) := by decide +kernel
theorem dc_Pr_scaled_80 : decode m_Pr_scaled.2.1 80 = .ok (.getfield 12, 3) := by decide +kernel
theorem dc_Pr_scaled_83 : decode m_Pr_scaled.2.1 83 = .ok (.invokevirtual 121, 3) := by decide +kernel
theorem dc_Pr_scaled_86 : decode m_Pr_scaled.2.1 86 = .ok (.lreturn, 1) := by decide +kernel
theorem b_Pr_scaled_0 {E : En_t} {d : Nat} {σ : S_t} {Q : Option Value → S_t → Prop} {x1 : Int64} {x3 : Int32} {x4 : Int32}
    (h : CV E d m_Bi_set [pv E 61, .long x1] σ (fun σ1 => (x4 < 0 → CV E d m_Bi_timesFive [pv E 61, .int (-x4)] σ1 (fun σ2 => CV E d m_Bi_shiftLeft [pv E 61, .int (x3 - x4)] σ2 (fun σ3 => CV E d m_Bi_shiftRight [pv E 61, .int (x4 - x3)] σ3 (fun σ4 => JE E (d + 1) m_Pr_scaled 79 [(0, pv E 59)] [] σ4 Q)))) ∧ (¬ x4 < 0 → CV E d m_Bi_shiftLeft [pv E 61, .int (x3 - x4)] σ1 (fun σ5 => CV E d m_Bi_overFive [pv E 61, .int x4] σ5 (fun σ6 => CV E d m_Bi_shiftRight [pv E 61, .int (x4 - x3)] σ6 (fun σ7 => JE E (d + 1) m_Pr_scaled 79 [(0, pv E 59)] [] σ7 Q)))))) :
    JE E (d + 1) m_Pr_scaled 0 [(0, pv E 59), (1, .long x1), (3, .int x3), (4, .int x4)] [] σ Q := by
  refine J_aload_n dc_Pr_scaled_0 (Eq.refl 1) 0 rfl ?_
  refine J_getF (y := 61) dc_Pr_scaled_1 (Eq.refl 4) fl_Pr_12 (Nat.le_of_ble_eq_true rfl) rfl (Or.inr rfl) rfl ?_
  refine J_lload_n dc_Pr_scaled_4 (Eq.refl 5) 1 rfl ?_
  refine J_callVV (As := [.long x1]) (st := []) dc_Pr_scaled_5 (Eq.refl 8) lk_Pr_105 mi_Bi_set rfl (Nat.le_of_ble_eq_true rfl) rfl rfl (Nat.le_of_ble_eq_true rfl) rfl (Nat.le_of_ble_eq_true rfl) (CV.mono h (fun σ1 h => ?_))
  refine J_iload dc_Pr_scaled_8 (Eq.refl 10) 3 rfl ?_
  refine J_if_lt dc_Pr_scaled_10 (Eq.refl 13) rfl (fun hc => ?_) (fun hc => ?_)
  · have h := h.1 hc
    refine J_aload_n dc_Pr_scaled_47 (Eq.refl 48) 0 rfl ?_
    refine J_getF (y := 61) dc_Pr_scaled_48 (Eq.refl 51) fl_Pr_12 (Nat.le_of_ble_eq_true rfl) rfl (Or.inr rfl) rfl ?_
    refine J_iload dc_Pr_scaled_51 (Eq.refl 53) 3 rfl ?_
    refine J_ineg dc_Pr_scaled_53 (Eq.refl 54) ?_
    refine J_callVV (As := [.int (-x4)]) (st := []) dc_Pr_scaled_54 (Eq.refl 57) lk_Pr_118 mi_Bi_timesFive rfl (Nat.le_of_ble_eq_true rfl) rfl rfl (Nat.le_of_ble_eq_true rfl) rfl (Nat.le_of_ble_eq_true rfl) (CV.mono h (fun σ2 h => ?_))
    refine J_aload_n dc_Pr_scaled_57 (Eq.refl 58) 0 rfl ?_
    refine J_getF (y := 61) dc_Pr_scaled_58 (Eq.refl 61) fl_Pr_12 (Nat.le_of_ble_eq_true rfl) rfl (Or.inr rfl) rfl ?_
    refine J_iload_n dc_Pr_scaled_61 (Eq.refl 62) 2 rfl ?_
    refine J_iload dc_Pr_scaled_62 (Eq.refl 64) 3 rfl ?_
    refine J_isub dc_Pr_scaled_64 (Eq.refl 65) ?_
    refine J_callVV (As := [.int (x3 - x4)]) (st := []) dc_Pr_scaled_65 (Eq.refl 68) lk_Pr_109 mi_Bi_shiftLeft rfl (Nat.le_of_ble_eq_true rfl) rfl rfl (Nat.le_of_ble_eq_true rfl) rfl (Nat.le_of_ble_eq_true rfl) (CV.mono h (fun σ3 h => ?_))
    refine J_aload_n dc_Pr_scaled_68 (Eq.refl 69) 0 rfl ?_
    refine J_getF (y := 61) dc_Pr_scaled_69 (Eq.refl 72) fl_Pr_12 (Nat.le_of_ble_eq_true rfl) rfl (Or.inr rfl) rfl ?_
    refine J_iload dc_Pr_scaled_72 (Eq.refl 74) 3 rfl ?_
    refine J_iload_n dc_Pr_scaled_74 (Eq.refl 75) 2 rfl ?_
    refine J_isub dc_Pr_scaled_75 (Eq.refl 76) ?_
    refine J_callVV (As := [.int (x4 - x3)]) (st := []) dc_Pr_scaled_76 (Eq.refl 79) lk_Pr_115 mi_Bi_shiftRight rfl (Nat.le_of_ble_eq_true rfl) rfl rfl (Nat.le_of_ble_eq_true rfl) rfl (Nat.le_of_ble_eq_true rfl) (CV.mono h (fun σ4 h => ?_))
    refine J_sub [0] rfl ?_
    exact h
  · have h := h.2 hc
    refine J_aload_n dc_Pr_scaled_13 (Eq.refl 14) 0 rfl ?_
    refine J_getF (y := 61) dc_Pr_scaled_14 (Eq.refl 17) fl_Pr_12 (Nat.le_of_ble_eq_true rfl) rfl (Or.inr rfl) rfl ?_
    refine J_iload_n dc_Pr_scaled_17 (Eq.refl 18) 2 rfl ?_
    refine J_iload dc_Pr_scaled_18 (Eq.refl 20) 3 rfl ?_
    refine J_isub dc_Pr_scaled_20 (Eq.refl 21) ?_
    refine J_callVV (As := [.int (x3 - x4)]) (st := []) dc_Pr_scaled_21 (Eq.refl 24) lk_Pr_109 mi_Bi_shiftLeft rfl (Nat.le_of_ble_eq_true rfl) rfl rfl (Nat.le_of_ble_eq_true rfl) rfl (Nat.le_of_ble_eq_true rfl) (CV.mono h (fun σ5 h => ?_))
    refine J_aload_n dc_Pr_scaled_24 (Eq.refl 25) 0 rfl ?_
    refine J_getF (y := 61) dc_Pr_scaled_25 (Eq.refl 28) fl_Pr_12 (Nat.le_of_ble_eq_true rfl) rfl (Or.inr rfl) rfl ?_
    refine J_iload dc_Pr_scaled_28 (Eq.refl 30) 3 rfl ?_
    refine J_callVV (As := [.int x4]) (st := []) dc_Pr_scaled_30 (Eq.refl 33) lk_Pr_112 mi_Bi_overFive rfl (Nat.le_of_ble_eq_true rfl) rfl rfl (Nat.le_of_ble_eq_true rfl) rfl (Nat.le_of_ble_eq_true rfl) (CV.mono h (fun σ6 h => ?_))
    refine J_aload_n dc_Pr_scaled_33 (Eq.refl 34) 0 rfl ?_
    refine J_getF (y := 61) dc_Pr_scaled_34 (Eq.refl 37) fl_Pr_12 (Nat.le_of_ble_eq_true rfl) rfl (Or.inr rfl) rfl ?_
    refine J_iload dc_Pr_scaled_37 (Eq.refl 39) 3 rfl ?_
    refine J_iload_n dc_Pr_scaled_39 (Eq.refl 40) 2 rfl ?_
    refine J_isub dc_Pr_scaled_40 (Eq.refl 41) ?_
    refine J_callVV (As := [.int (x4 - x3)]) (st := []) dc_Pr_scaled_41 (Eq.refl 44) lk_Pr_115 mi_Bi_shiftRight rfl (Nat.le_of_ble_eq_true rfl) rfl rfl (Nat.le_of_ble_eq_true rfl) rfl (Nat.le_of_ble_eq_true rfl) (CV.mono h (fun σ7 h => ?_))
    refine J_goto dc_Pr_scaled_44 rfl ?_
    refine J_sub [0] rfl ?_
    exact h
theorem b_Pr_scaled_79 {E : En_t} {d : Nat} {σ : S_t} {Q : Option Value → S_t → Prop}
    (h : CL E d m_Bi_low [pv E 61] σ (fun r2 σ1 => Q (some (.long r2)) σ1)) :
    JE E (d + 1) m_Pr_scaled 79 [(0, pv E 59)] [] σ Q := by
  refine J_aload_n dc_Pr_scaled_79 (Eq.refl 80) 0 rfl ?_
  refine J_getF (y := 61) dc_Pr_scaled_80 (Eq.refl 83) fl_Pr_12 (Nat.le_of_ble_eq_true rfl) rfl (Or.inr rfl) rfl ?_
  refine J_callVL (As := []) (st := []) dc_Pr_scaled_83 (Eq.refl 86) lk_Pr_121 mi_Bi_low rfl (Nat.le_of_ble_eq_true rfl) rfl rfl (Nat.le_of_ble_eq_true rfl) rfl (Nat.le_of_ble_eq_true rfl) (CL.mono h (fun r2 σ1 h => ?_))
  exact J_lret dc_Pr_scaled_86 rfl h
theorem dc_Pr_isUpperNearer_0 : decode m_Pr_isUpperNearer.2.1 0 = .ok (.lload_n 3, 1) := by decide +kernel
theorem dc_Pr_isUpperNearer_1 : decode m_Pr_isUpperNearer.2.1 1 = .ok (.ldc2_w 91, 3) := by decide +kernel
theorem dc_Pr_isUpperNearer_4 : decode m_Pr_isUpperNearer.2.1 4 = .ok (.ldiv, 1) := by decide +kernel
theorem dc_Pr_isUpperNearer_5 : decode m_Pr_isUpperNearer.2.1 5 = .ok (.lstore 7, 2) := by decide +kernel
theorem dc_Pr_isUpperNearer_7 : decode m_Pr_isUpperNearer.2.1 7 = .ok (.lload_n 1, 1) := by decide +kernel
theorem dc_Pr_isUpperNearer_8 : decode m_Pr_isUpperNearer.2.1 8 = .ok (.lload 7, 2) := by decide +kernel
theorem dc_Pr_isUpperNearer_10 : decode m_Pr_isUpperNearer.2.1 10 = .ok (.lcmp, 1) := by decide +kernel
theorem dc_Pr_isUpperNearer_11 : decode m_Pr_isUpperNearer.2.1 11 = .ok (.ifCond .eq 16, 3) := by decide +kernel
theorem dc_Pr_isUpperNearer_14 : decode m_Pr_isUpperNearer.2.1 14 = .ok (.lload_n 1, 1) := by decide +kernel
theorem dc_Pr_isUpperNearer_15 : decode m_Pr_isUpperNearer.2.1 15 = .ok (.lload 7, 2) := by decide +kernel
theorem dc_Pr_isUpperNearer_17 : decode m_Pr_isUpperNearer.2.1 17 = .ok (.lcmp, 1) := by decide +kernel
theorem dc_Pr_isUpperNearer_18 : decode m_Pr_isUpperNearer.2.1 18 = .ok (.ifCond .le 7, 3) := by decide +kernel
theorem dc_Pr_isUpperNearer_21 : decode m_Pr_isUpperNearer.2.1 21 = .ok (.iconst 1, 1) := by decide +kernel
theorem dc_Pr_isUpperNearer_22 : decode m_Pr_isUpperNearer.2.1 22 = .ok (.goto 4, 3) := by decide +kernel
theorem dc_Pr_isUpperNearer_25 : decode m_Pr_isUpperNearer.2.1 25 = .ok (.iconst 0, 1) := by decide +kernel
theorem dc_Pr_isUpperNearer_26 : decode m_Pr_isUpperNearer.2.1 26 = .ok (.ireturn, 1) := by decide +kernel
theorem dc_Pr_isUpperNearer_27 : decode m_Pr_isUpperNearer.2.1 27 = .ok (.aload_n 0, 1) := by decide +kernel
theorem dc_Pr_isUpperNearer_28 : decode m_Pr_isUpperNearer.2.1 28 = .ok (.getfield 12, 3) := by decide +kernel
theorem dc_Pr_isUpperNearer_31 : decode m_Pr_isUpperNearer.2.1 31 = .ok (.getfield 87, 3) := by decide +kernel
theorem dc_Pr_isUpperNearer_34 : decode m_Pr_isUpperNearer.2.1 34 = .ok (.ifCond .ne 12, 3) := by decide +kernel
theorem dc_Pr_isUpperNearer_37 : decode m_Pr_isUpperNearer.2.1 37 = .ok (.lload 5, 2) := by decide +kernel
theorem dc_Pr_isUpperNearer_39 : decode m_Pr_isUpperNearer.2.1 39 = .ok (.lconst 1, 1) := by decide +kernel
theorem dc_Pr_isUpperNearer_40 : decode m_Pr_isUpperNearer.2.1 40 = .ok (.land, 1) := by decide +kernel
theorem dc_Pr_isUpperNearer_41 : decode m_Pr_isUpperNearer.2.1 41 = .ok (.lconst 0, 1) := by decide +kernel
theorem dc_Pr_isUpperNearer_42 : decode m_Pr_isUpperNearer.2.1 42 = .ok (.lcmp, 1) := by decide +kernel
theorem dc_Pr_isUpperNearer_43 : decode m_Pr_isUpperNearer.2.1 43 = .ok (.ifCond .eq 7, 3) := by decide +kernel
theorem dc_Pr_isUpperNearer_46 : decode m_Pr_isUpperNearer.2.1 46 = .ok (.iconst 1, 1) := by decide +kernel
theorem dc_Pr_isUpperNearer_47 : decode m_Pr_isUpperNearer.2.1 47 = .ok (.goto 4, 3) := by decide +kernel
theorem dc_Pr_isUpperNearer_50 : decode m_Pr_isUpperNearer.2.1 50 = .ok (.iconst 0, 1) := by decide +kernel
theorem dc_Pr_isUpperNearer_51 : decode m_Pr_isUpperNearer.2.1 51 = .ok (.ireturn, 1) := by decide +kernel
theorem b_Pr_isUpperNearer_0 {E : En_t} {d : Nat} {σ : S_t} {Q : Option Value → S_t → Prop} {x1 : Int64} {x3 : Int64} {x5 : Int64}
    (h : ((lg_cmp x1 (x3 / (2 : Int64))) = 0 → (¬ (gI σ 61 2) = 0 → JE E d m_Pr_isUpperNearer 46 [] [] σ Q) ∧ ((gI σ 61 2) = 0 → ((lg_cmp (x5 &&& (1 : Int64)) (0 : Int64)) = 0 → Q (some (.int (0 : Int32))) σ) ∧ (¬ (lg_cmp (x5 &&& (1 : Int64)) (0 : Int64)) = 0 → JE E d m_Pr_isUpperNearer 46 [] [] σ Q))) ∧ (¬ (lg_cmp x1 (x3 / (2 : Int64))) = 0 → ((lg_cmp x1 (x3 / (2 : Int64))) ≤ 0 → Q (some (.int (0 : Int32))) σ) ∧ (¬ (lg_cmp x1 (x3 / (2 : Int64))) ≤ 0 → Q (some (.int (1 : Int32))) σ))) :
    JE E d m_Pr_isUpperNearer 0 [(0, pv E 59), (1, .long x1), (3, .long x3), (5, .long x5)] [] σ Q := by
  refine J_lload_n dc_Pr_isUpperNearer_0 (Eq.refl 1) 2 rfl ?_
  refine J_ldc2 dc_Pr_isUpperNearer_1 (Eq.refl 4) kc_Pr_91 ?_
  refine J_ldiv dc_Pr_isUpperNearer_4 (Eq.refl 5) (by decide) ?_
  refine J_lstore (L' := [(7, .long (x3 / (2 : Int64))), (0, pv E 59), (1, .long x1), (3, .long x3), (5, .long x5)]) dc_Pr_isUpperNearer_5 (Eq.refl 7) (Nat.le_of_ble_eq_true rfl) rfl ?_
  refine J_lload_n dc_Pr_isUpperNearer_7 (Eq.refl 8) 2 rfl ?_
  refine J_lload dc_Pr_isUpperNearer_8 (Eq.refl 10) 0 rfl ?_
  refine J_lcmp dc_Pr_isUpperNearer_10 (Eq.refl 11) ?_
  refine J_if_eq dc_Pr_isUpperNearer_11 (Eq.refl 14) rfl (fun hc => ?_) (fun hc => ?_)
  · have h := h.1 hc
    refine J_aload_n dc_Pr_isUpperNearer_27 (Eq.refl 28) 1 rfl ?_
    refine J_getF (y := 61) dc_Pr_isUpperNearer_28 (Eq.refl 31) fl_Pr_12 (Nat.le_of_ble_eq_true rfl) rfl (Or.inr rfl) rfl ?_
    refine J_getI dc_Pr_isUpperNearer_31 (Eq.refl 34) fl_Pr_87 (Nat.le_of_ble_eq_true rfl) rfl (Or.inr rfl) ?_
    refine J_if_ne dc_Pr_isUpperNearer_34 (Eq.refl 37) rfl (fun hc => ?_) (fun hc => ?_)
    · have h := h.1 hc
      refine J_sub [] rfl ?_
      exact h
    · have h := h.2 hc
      refine J_lload dc_Pr_isUpperNearer_37 (Eq.refl 39) 4 rfl ?_
      refine J_lconst (v := (1 : Int64)) dc_Pr_isUpperNearer_39 (Eq.refl 40) rfl ?_
      refine J_land dc_Pr_isUpperNearer_40 (Eq.refl 41) ?_
      refine J_lconst (v := (0 : Int64)) dc_Pr_isUpperNearer_41 (Eq.refl 42) rfl ?_
      refine J_lcmp dc_Pr_isUpperNearer_42 (Eq.refl 43) ?_
      refine J_if_eq dc_Pr_isUpperNearer_43 (Eq.refl 46) rfl (fun hc => ?_) (fun hc => ?_)
      · have h := h.1 hc
        refine J_iconst (v := (0 : Int32)) dc_Pr_isUpperNearer_50 (Eq.refl 51) rfl ?_
        exact J_zret dc_Pr_isUpperNearer_51 rfl rfl h
      · have h := h.2 hc
        refine J_sub [] rfl ?_
        exact h
  · have h := h.2 hc
    refine J_lload_n dc_Pr_isUpperNearer_14 (Eq.refl 15) 2 rfl ?_
    refine J_lload dc_Pr_isUpperNearer_15 (Eq.refl 17) 0 rfl ?_
    refine J_lcmp dc_Pr_isUpperNearer_17 (Eq.refl 18) ?_
    refine J_if_le dc_Pr_isUpperNearer_18 (Eq.refl 21) rfl (fun hc => ?_) (fun hc => ?_)
    · have h := h.1 hc
      refine J_iconst (v := (0 : Int32)) dc_Pr_isUpperNearer_25 (Eq.refl 26) rfl ?_
      exact J_zret dc_Pr_isUpperNearer_26 rfl rfl h
    · have h := h.2 hc
      refine J_iconst (v := (1 : Int32)) dc_Pr_isUpperNearer_21 (Eq.refl 22) rfl ?_
      refine J_goto dc_Pr_isUpperNearer_22 rfl ?_
      exact J_zret dc_Pr_isUpperNearer_26 rfl rfl h
theorem b_Pr_isUpperNearer_46 {E : En_t} {d : Nat} {σ : S_t} {Q : Option Value → S_t → Prop}
    (h : Q (some (.int (1 : Int32))) σ) :
    JE E d m_Pr_isUpperNearer 46 [] [] σ Q := by
  refine J_iconst (v := (1 : Int32)) dc_Pr_isUpperNearer_46 (Eq.refl 47) rfl ?_
  refine J_goto dc_Pr_isUpperNearer_47 rfl ?_
  exact J_zret dc_Pr_isUpperNearer_51 rfl rfl h
theorem dc_Pr_keepDigits_0 : decode m_Pr_keepDigits.2.1 0 = .ok (.lload_n 1, 1) := by decide +kernel
theorem dc_Pr_keepDigits_1 : decode m_Pr_keepDigits.2.1 1 = .ok (.lstore 4, 2) := by decide +kernel
theorem dc_Pr_keepDigits_3 : decode m_Pr_keepDigits.2.1 3 = .ok (.sipush 810, 3) := by decide +kernel
theorem dc_Pr_keepDigits_6 : decode m_Pr_keepDigits.2.1 6 = .ok (.istore 6, 2) := by decide +kernel
theorem dc_Pr_keepDigits_8 : decode m_Pr_keepDigits.2.1 8 = .ok (.lload 4, 2) := by decide +kernel
theorem dc_Pr_keepDigits_10 : decode m_Pr_keepDigits.2.1 10 = .ok (.lconst 0, 1) := by decide +kernel
theorem dc_Pr_keepDigits_11 : decode m_Pr_keepDigits.2.1 11 = .ok (.lcmp, 1) := by decide +kernel
theorem dc_Pr_keepDigits_12 : decode m_Pr_keepDigits.2.1 12 = .ok (.ifCond .le 37, 3) := by decide +kernel
theorem dc_Pr_keepDigits_15 : decode m_Pr_keepDigits.2.1 15 = .ok (.iload 6, 2) := by decide +kernel
theorem dc_Pr_keepDigits_17 : decode m_Pr_keepDigits.2.1 17 = .ok (.ifCond .le 32, 3) := by decide +kernel
theorem dc_Pr_keepDigits_20 : decode m_Pr_keepDigits.2.1 20 = .ok (.iinc 6 (-1), 3) := by decide +kernel
theorem dc_Pr_keepDigits_23 : decode m_Pr_keepDigits.2.1 23 = .ok (.aload_n 0, 1) := by decide +kernel
theorem dc_Pr_keepDigits_24 : decode m_Pr_keepDigits.2.1 24 = .ok (.getfield 18, 3) := by decide +kernel
theorem dc_Pr_keepDigits_27 : decode m_Pr_keepDigits.2.1 27 = .ok (.iload 6, 2) := by decide +kernel
theorem dc_Pr_keepDigits_29 : decode m_Pr_keepDigits.2.1 29 = .ok (.lload 4, 2) := by decide +kernel
theorem dc_Pr_keepDigits_31 : decode m_Pr_keepDigits.2.1 31 = .ok (.ldc2_w 102, 3) := by decide +kernel
theorem dc_Pr_keepDigits_34 : decode m_Pr_keepDigits.2.1 34 = .ok (.lrem, 1) := by decide +kernel
theorem dc_Pr_keepDigits_35 : decode m_Pr_keepDigits.2.1 35 = .ok (.l2i, 1) := by decide +kernel
theorem dc_Pr_keepDigits_36 : decode m_Pr_keepDigits.2.1 36 = .ok (.i2b, 1) := by decide +kernel
theorem dc_Pr_keepDigits_37 : decode m_Pr_keepDigits.2.1 37 = .ok (.bastore, 1) := by decide +kernel
theorem dc_Pr_keepDigits_38 : decode m_Pr_keepDigits.2.1 38 = .ok (.lload 4, 2) := by decide +kernel
theorem dc_Pr_keepDigits_40 : decode m_Pr_keepDigits.2.1 40 = .ok (.ldc2_w 102, 3) := by decide +kernel
theorem dc_Pr_keepDigits_43 : decode m_Pr_keepDigits.2.1 43 = .ok (.ldiv, 1) := by decide +kernel
theorem dc_Pr_keepDigits_44 : decode m_Pr_keepDigits.2.1 44 = .ok (.lstore 4, 2) := by decide +kernel
theorem dc_Pr_keepDigits_46 : decode m_Pr_keepDigits.2.1 46 = .ok (.goto (-38), 3) := by decide +kernel
theorem dc_Pr_keepDigits_49 : decode m_Pr_keepDigits.2.1 49 = .ok (.aload_n 0, 1) := by decide +kernel
theorem dc_Pr_keepDigits_50 : decode m_Pr_keepDigits.2.1 50 = .ok (.iload 6, 2) := by decide +kernel
theorem dc_Pr_keepDigits_52 : decode m_Pr_keepDigits.2.1 52 = .ok (.invokevirtual 125, 3) := by decide +kernel
theorem dc_Pr_keepDigits_55 : decode m_Pr_keepDigits.2.1 55 = .ok (.aload_n 0, 1) := by decide +kernel
theorem dc_Pr_keepDigits_56 : decode m_Pr_keepDigits.2.1 56 = .ok (.aload_n 0, 1) := by decide +kernel
theorem dc_Pr_keepDigits_57 : decode m_Pr_keepDigits.2.1 57 = .ok (.getfield 46, 3) := by decide +kernel
theorem dc_Pr_keepDigits_60 : decode m_Pr_keepDigits.2.1 60 = .ok (.iload_n 3, 1) := by decide +kernel
theorem dc_Pr_keepDigits_61 : decode m_Pr_keepDigits.2.1 61 = .ok (.iadd, 1) := by decide +kernel
theorem dc_Pr_keepDigits_62 : decode m_Pr_keepDigits.2.1 62 = .ok (.putfield 42, 3) := by decide +kernel
theorem dc_Pr_keepDigits_65 : decode m_Pr_keepDigits.2.1 65 = .ok (.return_, 1) := by decide +kernel
theorem b_Pr_keepDigits_0 {E : En_t} {d : Nat} {σ : S_t} {Q : Option Value → S_t → Prop} {x1 : Int64} {x3 : Int32}
    (h : JE E (d + 1) m_Pr_keepDigits 8 [(0, pv E 59), (3, .int x3), (4, .long x1), (6, .int (810 : Int32))] [] σ Q) :
    JE E (d + 1) m_Pr_keepDigits 0 [(0, pv E 59), (1, .long x1), (3, .int x3)] [] σ Q := by
  refine J_lload_n dc_Pr_keepDigits_0 (Eq.refl 1) 1 rfl ?_
  refine J_lstore (L' := [(4, .long x1), (0, pv E 59), (1, .long x1), (3, .int x3)]) dc_Pr_keepDigits_1 (Eq.refl 3) (Nat.le_of_ble_eq_true rfl) rfl ?_
  refine J_sipush (v := (810 : Int32)) dc_Pr_keepDigits_3 (Eq.refl 6) rfl ?_
  refine J_istore (L' := [(6, .int (810 : Int32)), (4, .long x1), (0, pv E 59), (1, .long x1), (3, .int x3)]) dc_Pr_keepDigits_6 (Eq.refl 8) (Nat.le_of_ble_eq_true rfl) rfl ?_
  refine J_sub [2, 4, 1, 0] rfl ?_
  exact h
theorem b_Pr_keepDigits_8 {E : En_t} {d : Nat} {σ : S_t} {Q : Option Value → S_t → Prop} {x3 : Int32} {x4 : Int64} {x6 : Int32}
    (h : ((lg_cmp x4 (0 : Int64)) ≤ 0 → JE E (d + 1) m_Pr_keepDigits 49 [(0, pv E 59), (3, .int x3), (6, .int x6)] [] σ Q) ∧ (¬ (lg_cmp x4 (0 : Int64)) ≤ 0 → (x6 ≤ 0 → JE E (d + 1) m_Pr_keepDigits 49 [(0, pv E 59), (3, .int x3), (6, .int x6)] [] σ Q) ∧ (¬ x6 ≤ 0 → vp_in (x6 + (-1 : Int32)) 810 ∧ (JE E (d + 1) m_Pr_keepDigits 8 [(0, pv E 59), (3, .int x3), (4, .long (x4 / (10 : Int64))), (6, .int (x6 + (-1 : Int32)))] [] (sI σ 60 (x6 + (-1 : Int32)).toNatClampNeg (vp_nar .byte (((x4 - x4 / (10 : Int64) * (10 : Int64)).toInt32).toInt8.toInt32))) Q)))) :
    JE E (d + 1) m_Pr_keepDigits 8 [(0, pv E 59), (3, .int x3), (4, .long x4), (6, .int x6)] [] σ Q := by
  refine J_lload dc_Pr_keepDigits_8 (Eq.refl 10) 2 rfl ?_
  refine J_lconst (v := (0 : Int64)) dc_Pr_keepDigits_10 (Eq.refl 11) rfl ?_
  refine J_lcmp dc_Pr_keepDigits_11 (Eq.refl 12) ?_
  refine J_if_le dc_Pr_keepDigits_12 (Eq.refl 15) rfl (fun hc => ?_) (fun hc => ?_)
  · have h := h.1 hc
    refine J_sub [0, 1, 3] rfl ?_
    exact h
  · have h := h.2 hc
    refine J_iload dc_Pr_keepDigits_15 (Eq.refl 17) 3 rfl ?_
    refine J_if_le dc_Pr_keepDigits_17 (Eq.refl 20) rfl (fun hc => ?_) (fun hc => ?_)
    · have h := h.1 hc
      refine J_sub [0, 1, 3] rfl ?_
      exact h
    · have h := h.2 hc
      refine J_iinc (v := x6 + (-1 : Int32)) (L' := [(6, .int (x6 + (-1 : Int32))), (0, pv E 59), (3, .int x3), (4, .long x4)]) dc_Pr_keepDigits_20 (Eq.refl 23) 3 rfl rfl (Nat.le_of_ble_eq_true rfl) rfl ?_
      refine J_aload_n dc_Pr_keepDigits_23 (Eq.refl 24) 1 rfl ?_
      refine J_getF (y := 60) dc_Pr_keepDigits_24 (Eq.refl 27) fl_Pr_18 (Nat.le_of_ble_eq_true rfl) rfl (Or.inl rfl) rfl ?_
      refine J_iload dc_Pr_keepDigits_27 (Eq.refl 29) 0 rfl ?_
      refine J_lload dc_Pr_keepDigits_29 (Eq.refl 31) 3 rfl ?_
      refine J_ldc2 dc_Pr_keepDigits_31 (Eq.refl 34) kc_Pr_102 ?_
      refine J_lrem dc_Pr_keepDigits_34 (Eq.refl 35) (by decide) ?_
      refine J_l2i dc_Pr_keepDigits_35 (Eq.refl 36) ?_
      refine J_i2b dc_Pr_keepDigits_36 (Eq.refl 37) ?_
      obtain ⟨hg, h⟩ := h
      refine J_bast dc_Pr_keepDigits_37 (Eq.refl 38) rfl rfl hg ?_
      refine J_lload dc_Pr_keepDigits_38 (Eq.refl 40) 3 rfl ?_
      refine J_ldc2 dc_Pr_keepDigits_40 (Eq.refl 43) kc_Pr_102 ?_
      refine J_ldiv dc_Pr_keepDigits_43 (Eq.refl 44) (by decide) ?_
      refine J_lstore (L' := [(4, .long (x4 / (10 : Int64))), (6, .int (x6 + (-1 : Int32))), (0, pv E 59), (3, .int x3)]) dc_Pr_keepDigits_44 (Eq.refl 46) (Nat.le_of_ble_eq_true rfl) rfl ?_
      refine J_goto dc_Pr_keepDigits_46 rfl ?_
      refine J_sub [2, 3, 0, 1] rfl ?_
      exact h
theorem b_Pr_keepDigits_49 {E : En_t} {d : Nat} {σ : S_t} {Q : Option Value → S_t → Prop} {x3 : Int32} {x6 : Int32}
    (h : CV E d m_Pr_moveToFront [pv E 59, .int x6] σ (fun σ1 => Q none (sI σ1 59 3 ((gI σ1 59 2) + x3)))) :
    JE E (d + 1) m_Pr_keepDigits 49 [(0, pv E 59), (3, .int x3), (6, .int x6)] [] σ Q := by
  refine J_aload_n dc_Pr_keepDigits_49 (Eq.refl 50) 0 rfl ?_
  refine J_iload dc_Pr_keepDigits_50 (Eq.refl 52) 2 rfl ?_
  refine J_callVV (As := [.int x6]) (st := []) dc_Pr_keepDigits_52 (Eq.refl 55) lk_Pr_125 mi_Pr_moveToFront rfl (Nat.le_of_ble_eq_true rfl) rfl rfl (Nat.le_of_ble_eq_true rfl) rfl (Nat.le_of_ble_eq_true rfl) (CV.mono h (fun σ1 h => ?_))
  refine J_aload_n dc_Pr_keepDigits_55 (Eq.refl 56) 0 rfl ?_
  refine J_aload_n dc_Pr_keepDigits_56 (Eq.refl 57) 0 rfl ?_
  refine J_getI dc_Pr_keepDigits_57 (Eq.refl 60) fl_Pr_46 (Nat.le_of_ble_eq_true rfl) rfl (Or.inl rfl) ?_
  refine J_iload_n dc_Pr_keepDigits_60 (Eq.refl 61) 1 rfl ?_
  refine J_iadd dc_Pr_keepDigits_61 (Eq.refl 62) ?_
  refine J_putI dc_Pr_keepDigits_62 (Eq.refl 65) pl_Pr_42 (Nat.le_of_ble_eq_true rfl) rfl rfl ?_
  exact J_vret dc_Pr_keepDigits_65 rfl h
theorem dc_Pr_moveToFront_0 : decode m_Pr_moveToFront.2.1 0 = .ok (.iload_n 1, 1) := by decide +kernel
theorem dc_Pr_moveToFront_1 : decode m_Pr_moveToFront.2.1 1 = .ok (.istore_n 2, 1) := by decide +kernel
theorem dc_Pr_moveToFront_2 : decode m_Pr_moveToFront.2.1 2 = .ok (.iload_n 2, 1) := by decide +kernel
theorem dc_Pr_moveToFront_3 : decode m_Pr_moveToFront.2.1 3 = .ok (.sipush 809, 3) := by decide +kernel
theorem dc_Pr_moveToFront_6 : decode m_Pr_moveToFront.2.1 6 = .ok (.if_icmp .ge 18, 3) := by decide +kernel
theorem dc_Pr_moveToFront_9 : decode m_Pr_moveToFront.2.1 9 = .ok (.aload_n 0, 1) := by decide +kernel
theorem dc_Pr_moveToFront_10 : decode m_Pr_moveToFront.2.1 10 = .ok (.getfield 18, 3) := by decide +kernel
theorem dc_Pr_moveToFront_13 : decode m_Pr_moveToFront.2.1 13 = .ok (.iload_n 2, 1) := by decide +kernel
theorem dc_Pr_moveToFront_14 : decode m_Pr_moveToFront.2.1 14 = .ok (.baload, 1) := by decide +kernel
theorem dc_Pr_moveToFront_15 : decode m_Pr_moveToFront.2.1 15 = .ok (.ifCond .ne 9, 3) := by decide +kernel
theorem dc_Pr_moveToFront_18 : decode m_Pr_moveToFront.2.1 18 = .ok (.iinc 2 1, 3) := by decide +kernel
theorem dc_Pr_moveToFront_21 : decode m_Pr_moveToFront.2.1 21 = .ok (.goto (-19), 3) := by decide +kernel
theorem dc_Pr_moveToFront_24 : decode m_Pr_moveToFront.2.1 24 = .ok (.aload_n 0, 1) := by decide +kernel
theorem dc_Pr_moveToFront_25 : decode m_Pr_moveToFront.2.1 25 = .ok (.sipush 810, 3) := by decide +kernel
theorem dc_Pr_moveToFront_28 : decode m_Pr_moveToFront.2.1 28 = .ok (.iload_n 2, 1) := by decide +kernel
theorem dc_Pr_moveToFront_29 : decode m_Pr_moveToFront.2.1 29 = .ok (.isub, 1) := by decide +kernel
theorem dc_Pr_moveToFront_30 : decode m_Pr_moveToFront.2.1 30 = .ok (.putfield 46, 3) := by decide +kernel
theorem dc_Pr_moveToFront_33 : decode m_Pr_moveToFront.2.1 33 = .ok (.iconst 0, 1) := by decide +kernel
theorem dc_Pr_moveToFront_34 : decode m_Pr_moveToFront.2.1 34 = .ok (.istore_n 3, 1) := by decide +kernel
theorem dc_Pr_moveToFront_35 : decode m_Pr_moveToFront.2.1 35 = .ok (.iload_n 3, 1) := by decide +kernel
theorem dc_Pr_moveToFront_36 : decode m_Pr_moveToFront.2.1 36 = .ok (.aload_n 0, 1) := by decide +kernel
theorem dc_Pr_moveToFront_37 : decode m_Pr_moveToFront.2.1 37 = .ok (.getfield 46, 3) := by decide +kernel
theorem dc_Pr_moveToFront_40 : decode m_Pr_moveToFront.2.1 40 = .ok (.if_icmp .ge 23, 3) := by decide +kernel
theorem dc_Pr_moveToFront_43 : decode m_Pr_moveToFront.2.1 43 = .ok (.aload_n 0, 1) := by decide +kernel
theorem dc_Pr_moveToFront_44 : decode m_Pr_moveToFront.2.1 44 = .ok (.getfield 18, 3) := by decide +kernel
theorem dc_Pr_moveToFront_47 : decode m_Pr_moveToFront.2.1 47 = .ok (.iload_n 3, 1) := by decide +kernel
theorem dc_Pr_moveToFront_48 : decode m_Pr_moveToFront.2.1 48 = .ok (.aload_n 0, 1) := by decide +kernel
theorem dc_Pr_moveToFront_49 : decode m_Pr_moveToFront.2.1 49 = .ok (.getfield 18, 3) := by decide +kernel
theorem dc_Pr_moveToFront_52 : decode m_Pr_moveToFront.2.1 52 = .ok (.iload_n 2, 1) := by decide +kernel
theorem dc_Pr_moveToFront_53 : decode m_Pr_moveToFront.2.1 53 = .ok (.iload_n 3, 1) := by decide +kernel
theorem dc_Pr_moveToFront_54 : decode m_Pr_moveToFront.2.1 54 = .ok (.iadd, 1) := by decide +kernel
theorem dc_Pr_moveToFront_55 : decode m_Pr_moveToFront.2.1 55 = .ok (.baload, 1) := by decide +kernel
theorem dc_Pr_moveToFront_56 : decode m_Pr_moveToFront.2.1 56 = .ok (.bastore, 1) := by decide +kernel
theorem dc_Pr_moveToFront_57 : decode m_Pr_moveToFront.2.1 57 = .ok (.iinc 3 1, 3) := by decide +kernel
theorem dc_Pr_moveToFront_60 : decode m_Pr_moveToFront.2.1 60 = .ok (.goto (-25), 3) := by decide +kernel
theorem dc_Pr_moveToFront_63 : decode m_Pr_moveToFront.2.1 63 = .ok (.return_, 1) := by decide +kernel
theorem b_Pr_moveToFront_0 {E : En_t} {d : Nat} {σ : S_t} {Q : Option Value → S_t → Prop} {x1 : Int32}
    (h : JE E d m_Pr_moveToFront 2 [(0, pv E 59), (2, .int x1)] [] σ Q) :
    JE E d m_Pr_moveToFront 0 [(0, pv E 59), (1, .int x1)] [] σ Q := by
  refine J_iload_n dc_Pr_moveToFront_0 (Eq.refl 1) 1 rfl ?_
  refine J_istore_n (L' := [(2, .int x1), (0, pv E 59), (1, .int x1)]) dc_Pr_moveToFront_1 (Eq.refl 2) (Nat.le_of_ble_eq_true rfl) rfl ?_
  refine J_sub [1, 0] rfl ?_
  exact h
theorem b_Pr_moveToFront_2 {E : En_t} {d : Nat} {σ : S_t} {Q : Option Value → S_t → Prop} {x2 : Int32}
    (h : ((809 : Int32) ≤ x2 → JE E d m_Pr_moveToFront 24 [(0, pv E 59), (2, .int x2)] [] σ Q) ∧ (¬ (809 : Int32) ≤ x2 → vp_in x2 810 ∧ ((¬ (gI σ 60 x2.toNatClampNeg) = 0 → JE E d m_Pr_moveToFront 24 [(0, pv E 59), (2, .int x2)] [] σ Q) ∧ ((gI σ 60 x2.toNatClampNeg) = 0 → JE E d m_Pr_moveToFront 2 [(0, pv E 59), (2, .int (x2 + (1 : Int32)))] [] σ Q)))) :
    JE E d m_Pr_moveToFront 2 [(0, pv E 59), (2, .int x2)] [] σ Q := by
  refine J_iload_n dc_Pr_moveToFront_2 (Eq.refl 3) 1 rfl ?_
  refine J_sipush (v := (809 : Int32)) dc_Pr_moveToFront_3 (Eq.refl 6) rfl ?_
  refine J_icmp_ge dc_Pr_moveToFront_6 (Eq.refl 9) rfl (fun hc => ?_) (fun hc => ?_)
  · have h := h.1 hc
    exact h
  · have h := h.2 hc
    refine J_aload_n dc_Pr_moveToFront_9 (Eq.refl 10) 0 rfl ?_
    refine J_getF (y := 60) dc_Pr_moveToFront_10 (Eq.refl 13) fl_Pr_18 (Nat.le_of_ble_eq_true rfl) rfl (Or.inl rfl) rfl ?_
    refine J_iload_n dc_Pr_moveToFront_13 (Eq.refl 14) 1 rfl ?_
    obtain ⟨hg, h⟩ := h
    refine J_bald dc_Pr_moveToFront_14 (Eq.refl 15) rfl rfl hg ?_
    refine J_if_ne dc_Pr_moveToFront_15 (Eq.refl 18) rfl (fun hc => ?_) (fun hc => ?_)
    · have h := h.1 hc
      exact h
    · have h := h.2 hc
      refine J_iinc (v := x2 + (1 : Int32)) (L' := [(2, .int (x2 + (1 : Int32))), (0, pv E 59)]) dc_Pr_moveToFront_18 (Eq.refl 21) 1 rfl rfl (Nat.le_of_ble_eq_true rfl) rfl ?_
      refine J_goto dc_Pr_moveToFront_21 rfl ?_
      refine J_sub [1, 0] rfl ?_
      exact h
theorem b_Pr_moveToFront_24 {E : En_t} {d : Nat} {σ : S_t} {Q : Option Value → S_t → Prop} {x2 : Int32}
    (h : JE E d m_Pr_moveToFront 35 [(0, pv E 59), (2, .int x2), (3, .int (0 : Int32))] [] (sI σ 59 2 ((810 : Int32) - x2)) Q) :
    JE E d m_Pr_moveToFront 24 [(0, pv E 59), (2, .int x2)] [] σ Q := by
  refine J_aload_n dc_Pr_moveToFront_24 (Eq.refl 25) 0 rfl ?_
  refine J_sipush (v := (810 : Int32)) dc_Pr_moveToFront_25 (Eq.refl 28) rfl ?_
  refine J_iload_n dc_Pr_moveToFront_28 (Eq.refl 29) 1 rfl ?_
  refine J_isub dc_Pr_moveToFront_29 (Eq.refl 30) ?_
  refine J_putI dc_Pr_moveToFront_30 (Eq.refl 33) pl_Pr_46 (Nat.le_of_ble_eq_true rfl) rfl rfl ?_
  refine J_iconst (v := (0 : Int32)) dc_Pr_moveToFront_33 (Eq.refl 34) rfl ?_
  refine J_istore_n (L' := [(3, .int (0 : Int32)), (0, pv E 59), (2, .int x2)]) dc_Pr_moveToFront_34 (Eq.refl 35) (Nat.le_of_ble_eq_true rfl) rfl ?_
  refine J_sub [1, 2, 0] rfl ?_
  exact h
theorem b_Pr_moveToFront_35 {E : En_t} {d : Nat} {σ : S_t} {Q : Option Value → S_t → Prop} {x2 : Int32} {x3 : Int32}
    (h : ((gI σ 59 2) ≤ x3 → Q none σ) ∧ (¬ (gI σ 59 2) ≤ x3 → vp_in (x2 + x3) 810 ∧ (vp_in x3 810 ∧ (JE E d m_Pr_moveToFront 35 [(0, pv E 59), (2, .int x2), (3, .int (x3 + (1 : Int32)))] [] (sI σ 60 x3.toNatClampNeg (vp_nar .byte (gI σ 60 (x2 + x3).toNatClampNeg))) Q)))) :
    JE E d m_Pr_moveToFront 35 [(0, pv E 59), (2, .int x2), (3, .int x3)] [] σ Q := by
  refine J_iload_n dc_Pr_moveToFront_35 (Eq.refl 36) 2 rfl ?_
  refine J_aload_n dc_Pr_moveToFront_36 (Eq.refl 37) 0 rfl ?_
  refine J_getI dc_Pr_moveToFront_37 (Eq.refl 40) fl_Pr_46 (Nat.le_of_ble_eq_true rfl) rfl (Or.inl rfl) ?_
  refine J_icmp_ge dc_Pr_moveToFront_40 (Eq.refl 43) rfl (fun hc => ?_) (fun hc => ?_)
  · have h := h.1 hc
    exact J_vret dc_Pr_moveToFront_63 rfl h
  · have h := h.2 hc
    refine J_aload_n dc_Pr_moveToFront_43 (Eq.refl 44) 0 rfl ?_
    refine J_getF (y := 60) dc_Pr_moveToFront_44 (Eq.refl 47) fl_Pr_18 (Nat.le_of_ble_eq_true rfl) rfl (Or.inl rfl) rfl ?_
    refine J_iload_n dc_Pr_moveToFront_47 (Eq.refl 48) 2 rfl ?_
    refine J_aload_n dc_Pr_moveToFront_48 (Eq.refl 49) 0 rfl ?_
    refine J_getF (y := 60) dc_Pr_moveToFront_49 (Eq.refl 52) fl_Pr_18 (Nat.le_of_ble_eq_true rfl) rfl (Or.inl rfl) rfl ?_
    refine J_iload_n dc_Pr_moveToFront_52 (Eq.refl 53) 1 rfl ?_
    refine J_iload_n dc_Pr_moveToFront_53 (Eq.refl 54) 2 rfl ?_
    refine J_iadd dc_Pr_moveToFront_54 (Eq.refl 55) ?_
    obtain ⟨hg, h⟩ := h
    refine J_bald dc_Pr_moveToFront_55 (Eq.refl 56) rfl rfl hg ?_
    obtain ⟨hg, h⟩ := h
    refine J_bast dc_Pr_moveToFront_56 (Eq.refl 57) rfl rfl hg ?_
    refine J_iinc (v := x3 + (1 : Int32)) (L' := [(3, .int (x3 + (1 : Int32))), (0, pv E 59), (2, .int x2)]) dc_Pr_moveToFront_57 (Eq.refl 60) 2 rfl rfl (Nat.le_of_ble_eq_true rfl) rfl ?_
    refine J_goto dc_Pr_moveToFront_60 rfl ?_
    refine J_sub [1, 2, 0] rfl ?_
    exact h
theorem dc_Pr_putDigits_0 : decode m_Pr_putDigits.2.1 0 = .ok (.iconst 0, 1) := by decide +kernel
theorem dc_Pr_putDigits_1 : decode m_Pr_putDigits.2.1 1 = .ok (.istore_n 3, 1) := by decide +kernel
theorem dc_Pr_putDigits_2 : decode m_Pr_putDigits.2.1 2 = .ok (.iload_n 3, 1) := by decide +kernel
theorem dc_Pr_putDigits_3 : decode m_Pr_putDigits.2.1 3 = .ok (.iload_n 1, 1) := by decide +kernel
theorem dc_Pr_putDigits_4 : decode m_Pr_putDigits.2.1 4 = .ok (.if_icmp .ge 46, 3) := by decide +kernel
theorem dc_Pr_putDigits_7 : decode m_Pr_putDigits.2.1 7 = .ok (.iload_n 3, 1) := by decide +kernel
theorem dc_Pr_putDigits_8 : decode m_Pr_putDigits.2.1 8 = .ok (.iconst 1, 1) := by decide +kernel
theorem dc_Pr_putDigits_9 : decode m_Pr_putDigits.2.1 9 = .ok (.if_icmp .ne 9, 3) := by decide +kernel
theorem dc_Pr_putDigits_12 : decode m_Pr_putDigits.2.1 12 = .ok (.aload_n 2, 1) := by decide +kernel
theorem dc_Pr_putDigits_13 : decode m_Pr_putDigits.2.1 13 = .ok (.bipush 46, 2) := by decide +kernel
theorem dc_Pr_putDigits_15 : decode m_Pr_putDigits.2.1 15 = .ok (.invokevirtual 24, 3) := by decide +kernel
theorem dc_Pr_putDigits_18 : decode m_Pr_putDigits.2.1 18 = .ok (.aload_n 2, 1) := by decide +kernel
theorem dc_Pr_putDigits_19 : decode m_Pr_putDigits.2.1 19 = .ok (.iload_n 3, 1) := by decide +kernel
theorem dc_Pr_putDigits_20 : decode m_Pr_putDigits.2.1 20 = .ok (.aload_n 0, 1) := by decide +kernel
theorem dc_Pr_putDigits_21 : decode m_Pr_putDigits.2.1 21 = .ok (.getfield 46, 3) := by decide +kernel
theorem dc_Pr_putDigits_24 : decode m_Pr_putDigits.2.1 24 = .ok (.if_icmp .ge 15, 3) := by decide +kernel
theorem dc_Pr_putDigits_27 : decode m_Pr_putDigits.2.1 27 = .ok (.bipush 48, 2) := by decide +kernel
theorem dc_Pr_putDigits_29 : decode m_Pr_putDigits.2.1 29 = .ok (.aload_n 0, 1) := by decide +kernel
theorem dc_Pr_putDigits_30 : decode m_Pr_putDigits.2.1 30 = .ok (.getfield 18, 3) := by decide +kernel
theorem dc_Pr_putDigits_33 : decode m_Pr_putDigits.2.1 33 = .ok (.iload_n 3, 1) := by decide +kernel
theorem dc_Pr_putDigits_34 : decode m_Pr_putDigits.2.1 34 = .ok (.baload, 1) := by decide +kernel
theorem dc_Pr_putDigits_35 : decode m_Pr_putDigits.2.1 35 = .ok (.iadd, 1) := by decide +kernel
theorem dc_Pr_putDigits_36 : decode m_Pr_putDigits.2.1 36 = .ok (.goto 5, 3) := by decide +kernel
theorem dc_Pr_putDigits_39 : decode m_Pr_putDigits.2.1 39 = .ok (.bipush 48, 2) := by decide +kernel
theorem dc_Pr_putDigits_41 : decode m_Pr_putDigits.2.1 41 = .ok (.invokevirtual 24, 3) := by decide +kernel
theorem dc_Pr_putDigits_44 : decode m_Pr_putDigits.2.1 44 = .ok (.iinc 3 1, 3) := by decide +kernel
theorem dc_Pr_putDigits_47 : decode m_Pr_putDigits.2.1 47 = .ok (.goto (-45), 3) := by decide +kernel
theorem dc_Pr_putDigits_50 : decode m_Pr_putDigits.2.1 50 = .ok (.return_, 1) := by decide +kernel
theorem b_Pr_putDigits_0 {E : En_t} {d : Nat} {σ : S_t} {Q : Option Value → S_t → Prop} {x1 : Int32}
    (h : JE E (d + 1) m_Pr_putDigits 2 [(0, pv E 59), (1, .int x1), (2, pv E 53), (3, .int (0 : Int32))] [] σ Q) :
    JE E (d + 1) m_Pr_putDigits 0 [(0, pv E 59), (1, .int x1), (2, pv E 53)] [] σ Q := by
  refine J_iconst (v := (0 : Int32)) dc_Pr_putDigits_0 (Eq.refl 1) rfl ?_
  refine J_istore_n (L' := [(3, .int (0 : Int32)), (0, pv E 59), (1, .int x1), (2, pv E 53)]) dc_Pr_putDigits_1 (Eq.refl 2) (Nat.le_of_ble_eq_true rfl) rfl ?_
  refine J_sub [1, 2, 3, 0] rfl ?_
  exact h
theorem b_Pr_putDigits_2 {E : En_t} {d : Nat} {σ : S_t} {Q : Option Value → S_t → Prop} {x1 : Int32} {x3 : Int32}
    (h : (x1 ≤ x3 → Q none σ) ∧ (¬ x1 ≤ x3 → (¬ x3 = (1 : Int32) → JE E (d + 1) m_Pr_putDigits 18 [(0, pv E 59), (1, .int x1), (2, pv E 53), (3, .int x3)] [] σ Q) ∧ (x3 = (1 : Int32) → CV E d m_Ou_put [pv E 53, .int (46 : Int32)] σ (fun σ1 => JE E (d + 1) m_Pr_putDigits 18 [(0, pv E 59), (1, .int x1), (2, pv E 53), (3, .int x3)] [] σ1 Q)))) :
    JE E (d + 1) m_Pr_putDigits 2 [(0, pv E 59), (1, .int x1), (2, pv E 53), (3, .int x3)] [] σ Q := by
  refine J_iload_n dc_Pr_putDigits_2 (Eq.refl 3) 3 rfl ?_
  refine J_iload_n dc_Pr_putDigits_3 (Eq.refl 4) 1 rfl ?_
  refine J_icmp_ge dc_Pr_putDigits_4 (Eq.refl 7) rfl (fun hc => ?_) (fun hc => ?_)
  · have h := h.1 hc
    exact J_vret dc_Pr_putDigits_50 rfl h
  · have h := h.2 hc
    refine J_iload_n dc_Pr_putDigits_7 (Eq.refl 8) 3 rfl ?_
    refine J_iconst (v := (1 : Int32)) dc_Pr_putDigits_8 (Eq.refl 9) rfl ?_
    refine J_icmp_ne dc_Pr_putDigits_9 (Eq.refl 12) rfl (fun hc => ?_) (fun hc => ?_)
    · have h := h.1 hc
      exact h
    · have h := h.2 hc
      refine J_aload_n dc_Pr_putDigits_12 (Eq.refl 13) 2 rfl ?_
      refine J_bipush (v := (46 : Int32)) dc_Pr_putDigits_13 (Eq.refl 15) rfl ?_
      refine J_callVV (As := [.int (46 : Int32)]) (st := []) dc_Pr_putDigits_15 (Eq.refl 18) lk_Pr_24 mi_Ou_put rfl (Nat.le_of_ble_eq_true rfl) rfl rfl (Nat.le_of_ble_eq_true rfl) rfl (Nat.le_of_ble_eq_true rfl) (CV.mono h (fun σ1 h => ?_))
      exact h
theorem b_Pr_putDigits_18 {E : En_t} {d : Nat} {σ : S_t} {Q : Option Value → S_t → Prop} {x1 : Int32} {x3 : Int32}
    (h : ((gI σ 59 2) ≤ x3 → JE E (d + 1) m_Pr_putDigits 41 [(0, pv E 59), (1, .int x1), (2, pv E 53), (3, .int x3)] [.int (48 : Int32), pv E 53] σ Q) ∧ (¬ (gI σ 59 2) ≤ x3 → vp_in x3 810 ∧ (JE E (d + 1) m_Pr_putDigits 41 [(0, pv E 59), (1, .int x1), (2, pv E 53), (3, .int x3)] [.int ((48 : Int32) + (gI σ 60 x3.toNatClampNeg)), pv E 53] σ Q))) :
    JE E (d + 1) m_Pr_putDigits 18 [(0, pv E 59), (1, .int x1), (2, pv E 53), (3, .int x3)] [] σ Q := by
  refine J_aload_n dc_Pr_putDigits_18 (Eq.refl 19) 2 rfl ?_
  refine J_iload_n dc_Pr_putDigits_19 (Eq.refl 20) 3 rfl ?_
  refine J_aload_n dc_Pr_putDigits_20 (Eq.refl 21) 0 rfl ?_
  refine J_getI dc_Pr_putDigits_21 (Eq.refl 24) fl_Pr_46 (Nat.le_of_ble_eq_true rfl) rfl (Or.inl rfl) ?_
  refine J_icmp_ge dc_Pr_putDigits_24 (Eq.refl 27) rfl (fun hc => ?_) (fun hc => ?_)
  · have h := h.1 hc
    refine J_bipush (v := (48 : Int32)) dc_Pr_putDigits_39 (Eq.refl 41) rfl ?_
    exact h
  · have h := h.2 hc
    refine J_bipush (v := (48 : Int32)) dc_Pr_putDigits_27 (Eq.refl 29) rfl ?_
    refine J_aload_n dc_Pr_putDigits_29 (Eq.refl 30) 0 rfl ?_
    refine J_getF (y := 60) dc_Pr_putDigits_30 (Eq.refl 33) fl_Pr_18 (Nat.le_of_ble_eq_true rfl) rfl (Or.inl rfl) rfl ?_
    refine J_iload_n dc_Pr_putDigits_33 (Eq.refl 34) 3 rfl ?_
    obtain ⟨hg, h⟩ := h
    refine J_bald dc_Pr_putDigits_34 (Eq.refl 35) rfl rfl hg ?_
    refine J_iadd dc_Pr_putDigits_35 (Eq.refl 36) ?_
    refine J_goto dc_Pr_putDigits_36 rfl ?_
    exact h
theorem b_Pr_putDigits_41 {E : En_t} {d : Nat} {σ : S_t} {Q : Option Value → S_t → Prop} {x1 : Int32} {x3 : Int32} {s0 : Int32}
    (h : CV E d m_Ou_put [pv E 53, .int s0] σ (fun σ1 => JE E (d + 1) m_Pr_putDigits 2 [(0, pv E 59), (1, .int x1), (2, pv E 53), (3, .int (x3 + (1 : Int32)))] [] σ1 Q)) :
    JE E (d + 1) m_Pr_putDigits 41 [(0, pv E 59), (1, .int x1), (2, pv E 53), (3, .int x3)] [.int s0, pv E 53] σ Q := by
  refine J_callVV (As := [.int s0]) (st := []) dc_Pr_putDigits_41 (Eq.refl 44) lk_Pr_24 mi_Ou_put rfl (Nat.le_of_ble_eq_true rfl) rfl rfl (Nat.le_of_ble_eq_true rfl) rfl (Nat.le_of_ble_eq_true rfl) (CV.mono h (fun σ1 h => ?_))
  refine J_iinc (v := x3 + (1 : Int32)) (L' := [(3, .int (x3 + (1 : Int32))), (0, pv E 59), (1, .int x1), (2, pv E 53)]) dc_Pr_putDigits_44 (Eq.refl 47) 3 rfl rfl (Nat.le_of_ble_eq_true rfl) rfl ?_
  refine J_goto dc_Pr_putDigits_47 rfl ?_
  refine J_sub [1, 2, 3, 0] rfl ?_
  exact h
theorem dc_Pr_putPower_0 : decode m_Pr_putPower.2.1 0 = .ok (.aload_n 0, 1) := by decide +kernel
theorem dc_Pr_putPower_1 : decode m_Pr_putPower.2.1 1 = .ok (.getfield 42, 3) := by decide +kernel
theorem dc_Pr_putPower_4 : decode m_Pr_putPower.2.1 4 = .ok (.iconst 1, 1) := by decide +kernel
theorem dc_Pr_putPower_5 : decode m_Pr_putPower.2.1 5 = .ok (.isub, 1) := by decide +kernel
theorem dc_Pr_putPower_6 : decode m_Pr_putPower.2.1 6 = .ok (.invokestatic 131, 3) := by decide +kernel
theorem dc_Pr_putPower_9 : decode m_Pr_putPower.2.1 9 = .ok (.istore_n 2, 1) := by decide +kernel
theorem dc_Pr_putPower_10 : decode m_Pr_putPower.2.1 10 = .ok (.aload_n 1, 1) := by decide +kernel
theorem dc_Pr_putPower_11 : decode m_Pr_putPower.2.1 11 = .ok (.bipush 101, 2) := by decide +kernel
theorem dc_Pr_putPower_13 : decode m_Pr_putPower.2.1 13 = .ok (.invokevirtual 24, 3) := by decide +kernel
theorem dc_Pr_putPower_16 : decode m_Pr_putPower.2.1 16 = .ok (.aload_n 1, 1) := by decide +kernel
theorem dc_Pr_putPower_17 : decode m_Pr_putPower.2.1 17 = .ok (.aload_n 0, 1) := by decide +kernel
theorem dc_Pr_putPower_18 : decode m_Pr_putPower.2.1 18 = .ok (.getfield 42, 3) := by decide +kernel
theorem dc_Pr_putPower_21 : decode m_Pr_putPower.2.1 21 = .ok (.iconst 1, 1) := by decide +kernel
theorem dc_Pr_putPower_22 : decode m_Pr_putPower.2.1 22 = .ok (.if_icmp .ge 8, 3) := by decide +kernel
theorem dc_Pr_putPower_25 : decode m_Pr_putPower.2.1 25 = .ok (.bipush 45, 2) := by decide +kernel
theorem dc_Pr_putPower_27 : decode m_Pr_putPower.2.1 27 = .ok (.goto 5, 3) := by decide +kernel
theorem dc_Pr_putPower_30 : decode m_Pr_putPower.2.1 30 = .ok (.bipush 43, 2) := by decide +kernel
theorem dc_Pr_putPower_32 : decode m_Pr_putPower.2.1 32 = .ok (.invokevirtual 24, 3) := by decide +kernel
theorem dc_Pr_putPower_35 : decode m_Pr_putPower.2.1 35 = .ok (.iload_n 2, 1) := by decide +kernel
theorem dc_Pr_putPower_36 : decode m_Pr_putPower.2.1 36 = .ok (.bipush 99, 2) := by decide +kernel
theorem dc_Pr_putPower_38 : decode m_Pr_putPower.2.1 38 = .ok (.if_icmp .le 14, 3) := by decide +kernel
theorem dc_Pr_putPower_41 : decode m_Pr_putPower.2.1 41 = .ok (.aload_n 1, 1) := by decide +kernel
theorem dc_Pr_putPower_42 : decode m_Pr_putPower.2.1 42 = .ok (.bipush 48, 2) := by decide +kernel
theorem dc_Pr_putPower_44 : decode m_Pr_putPower.2.1 44 = .ok (.iload_n 2, 1) := by decide +kernel
theorem dc_Pr_putPower_45 : decode m_Pr_putPower.2.1 45 = .ok (.bipush 100, 2) := by decide +kernel
theorem dc_Pr_putPower_47 : decode m_Pr_putPower.2.1 47 = .ok (.idiv, 1) := by decide +kernel
theorem dc_Pr_putPower_48 : decode m_Pr_putPower.2.1 48 = .ok (.iadd, 1) := by decide +kernel
theorem dc_Pr_putPower_49 : decode m_Pr_putPower.2.1 49 = .ok (.invokevirtual 24, 3) := by decide +kernel
theorem dc_Pr_putPower_52 : decode m_Pr_putPower.2.1 52 = .ok (.iload_n 2, 1) := by decide +kernel
theorem dc_Pr_putPower_53 : decode m_Pr_putPower.2.1 53 = .ok (.bipush 9, 2) := by decide +kernel
theorem dc_Pr_putPower_55 : decode m_Pr_putPower.2.1 55 = .ok (.if_icmp .le 17, 3) := by decide +kernel
theorem dc_Pr_putPower_58 : decode m_Pr_putPower.2.1 58 = .ok (.aload_n 1, 1) := by decide +kernel
theorem dc_Pr_putPower_59 : decode m_Pr_putPower.2.1 59 = .ok (.bipush 48, 2) := by decide +kernel
theorem dc_Pr_putPower_61 : decode m_Pr_putPower.2.1 61 = .ok (.iload_n 2, 1) := by decide +kernel
theorem dc_Pr_putPower_62 : decode m_Pr_putPower.2.1 62 = .ok (.bipush 10, 2) := by decide +kernel
theorem dc_Pr_putPower_64 : decode m_Pr_putPower.2.1 64 = .ok (.idiv, 1) := by decide +kernel
theorem dc_Pr_putPower_65 : decode m_Pr_putPower.2.1 65 = .ok (.bipush 10, 2) := by decide +kernel
theorem dc_Pr_putPower_67 : decode m_Pr_putPower.2.1 67 = .ok (.irem, 1) := by decide +kernel
theorem dc_Pr_putPower_68 : decode m_Pr_putPower.2.1 68 = .ok (.iadd, 1) := by decide +kernel
theorem dc_Pr_putPower_69 : decode m_Pr_putPower.2.1 69 = .ok (.invokevirtual 24, 3) := by decide +kernel
theorem dc_Pr_putPower_72 : decode m_Pr_putPower.2.1 72 = .ok (.aload_n 1, 1) := by decide +kernel
theorem dc_Pr_putPower_73 : decode m_Pr_putPower.2.1 73 = .ok (.bipush 48, 2) := by decide +kernel
theorem dc_Pr_putPower_75 : decode m_Pr_putPower.2.1 75 = .ok (.iload_n 2, 1) := by decide +kernel
theorem dc_Pr_putPower_76 : decode m_Pr_putPower.2.1 76 = .ok (.bipush 10, 2) := by decide +kernel
theorem dc_Pr_putPower_78 : decode m_Pr_putPower.2.1 78 = .ok (.irem, 1) := by decide +kernel
theorem dc_Pr_putPower_79 : decode m_Pr_putPower.2.1 79 = .ok (.iadd, 1) := by decide +kernel
theorem dc_Pr_putPower_80 : decode m_Pr_putPower.2.1 80 = .ok (.invokevirtual 24, 3) := by decide +kernel
theorem dc_Pr_putPower_83 : decode m_Pr_putPower.2.1 83 = .ok (.return_, 1) := by decide +kernel
theorem b_Pr_putPower_0 {E : En_t} {d : Nat} {σ : S_t} {Q : Option Value → S_t → Prop}
    (h : ∀ r1, r1 = abI ((gI σ 59 3) - (1 : Int32)) → (CV E d m_Ou_put [pv E 53, .int (101 : Int32)] σ (fun σ2 => ((1 : Int32) ≤ (gI σ2 59 3) → JE E (d + 1) m_Pr_putPower 32 [(1, pv E 53), (2, .int r1)] [.int (43 : Int32), pv E 53] σ2 Q) ∧ (¬ (1 : Int32) ≤ (gI σ2 59 3) → JE E (d + 1) m_Pr_putPower 32 [(1, pv E 53), (2, .int r1)] [.int (45 : Int32), pv E 53] σ2 Q)))) :
    JE E (d + 1) m_Pr_putPower 0 [(0, pv E 59), (1, pv E 53)] [] σ Q := by
  refine J_aload_n dc_Pr_putPower_0 (Eq.refl 1) 0 rfl ?_
  refine J_getI dc_Pr_putPower_1 (Eq.refl 4) fl_Pr_42 (Nat.le_of_ble_eq_true rfl) rfl (Or.inl rfl) ?_
  refine J_iconst (v := (1 : Int32)) dc_Pr_putPower_4 (Eq.refl 5) rfl ?_
  refine J_isub dc_Pr_putPower_5 (Eq.refl 6) ?_
  refine J_mabs dc_Pr_putPower_6 (Eq.refl 9) lk_Pr_131 (Nat.le_of_ble_eq_true rfl) (fun r1 er1 => ?_)
  have h := h r1 er1
  refine J_istore_n (L' := [(2, .int r1), (0, pv E 59), (1, pv E 53)]) dc_Pr_putPower_9 (Eq.refl 10) (Nat.le_of_ble_eq_true rfl) rfl ?_
  refine J_aload_n dc_Pr_putPower_10 (Eq.refl 11) 2 rfl ?_
  refine J_bipush (v := (101 : Int32)) dc_Pr_putPower_11 (Eq.refl 13) rfl ?_
  refine J_callVV (As := [.int (101 : Int32)]) (st := []) dc_Pr_putPower_13 (Eq.refl 16) lk_Pr_24 mi_Ou_put rfl (Nat.le_of_ble_eq_true rfl) rfl rfl (Nat.le_of_ble_eq_true rfl) rfl (Nat.le_of_ble_eq_true rfl) (CV.mono h (fun σ2 h => ?_))
  refine J_aload_n dc_Pr_putPower_16 (Eq.refl 17) 2 rfl ?_
  refine J_aload_n dc_Pr_putPower_17 (Eq.refl 18) 1 rfl ?_
  refine J_getI dc_Pr_putPower_18 (Eq.refl 21) fl_Pr_42 (Nat.le_of_ble_eq_true rfl) rfl (Or.inl rfl) ?_
  refine J_iconst (v := (1 : Int32)) dc_Pr_putPower_21 (Eq.refl 22) rfl ?_
  refine J_icmp_ge dc_Pr_putPower_22 (Eq.refl 25) rfl (fun hc => ?_) (fun hc => ?_)
  · have h := h.1 hc
    refine J_bipush (v := (43 : Int32)) dc_Pr_putPower_30 (Eq.refl 32) rfl ?_
    refine J_sub [2, 0] rfl ?_
    exact h
  · have h := h.2 hc
    refine J_bipush (v := (45 : Int32)) dc_Pr_putPower_25 (Eq.refl 27) rfl ?_
    refine J_goto dc_Pr_putPower_27 rfl ?_
    refine J_sub [2, 0] rfl ?_
    exact h
theorem b_Pr_putPower_32 {E : En_t} {d : Nat} {σ : S_t} {Q : Option Value → S_t → Prop} {x2 : Int32} {s0 : Int32}
    (h : CV E d m_Ou_put [pv E 53, .int s0] σ (fun σ1 => (x2 ≤ (99 : Int32) → JE E (d + 1) m_Pr_putPower 52 [(1, pv E 53), (2, .int x2)] [] σ1 Q) ∧ (¬ x2 ≤ (99 : Int32) → CV E d m_Ou_put [pv E 53, .int ((48 : Int32) + (x2 / (100 : Int32)))] σ1 (fun σ2 => JE E (d + 1) m_Pr_putPower 52 [(1, pv E 53), (2, .int x2)] [] σ2 Q)))) :
    JE E (d + 1) m_Pr_putPower 32 [(1, pv E 53), (2, .int x2)] [.int s0, pv E 53] σ Q := by
  refine J_callVV (As := [.int s0]) (st := []) dc_Pr_putPower_32 (Eq.refl 35) lk_Pr_24 mi_Ou_put rfl (Nat.le_of_ble_eq_true rfl) rfl rfl (Nat.le_of_ble_eq_true rfl) rfl (Nat.le_of_ble_eq_true rfl) (CV.mono h (fun σ1 h => ?_))
  refine J_iload_n dc_Pr_putPower_35 (Eq.refl 36) 1 rfl ?_
  refine J_bipush (v := (99 : Int32)) dc_Pr_putPower_36 (Eq.refl 38) rfl ?_
  refine J_icmp_le dc_Pr_putPower_38 (Eq.refl 41) rfl (fun hc => ?_) (fun hc => ?_)
  · have h := h.1 hc
    exact h
  · have h := h.2 hc
    refine J_aload_n dc_Pr_putPower_41 (Eq.refl 42) 0 rfl ?_
    refine J_bipush (v := (48 : Int32)) dc_Pr_putPower_42 (Eq.refl 44) rfl ?_
    refine J_iload_n dc_Pr_putPower_44 (Eq.refl 45) 1 rfl ?_
    refine J_bipush (v := (100 : Int32)) dc_Pr_putPower_45 (Eq.refl 47) rfl ?_
    refine J_idiv dc_Pr_putPower_47 (Eq.refl 48) (by decide) ?_
    refine J_iadd dc_Pr_putPower_48 (Eq.refl 49) ?_
    refine J_callVV (As := [.int ((48 : Int32) + (x2 / (100 : Int32)))]) (st := []) dc_Pr_putPower_49 (Eq.refl 52) lk_Pr_24 mi_Ou_put rfl (Nat.le_of_ble_eq_true rfl) rfl rfl (Nat.le_of_ble_eq_true rfl) rfl (Nat.le_of_ble_eq_true rfl) (CV.mono h (fun σ2 h => ?_))
    exact h
theorem b_Pr_putPower_52 {E : En_t} {d : Nat} {σ : S_t} {Q : Option Value → S_t → Prop} {x2 : Int32}
    (h : (x2 ≤ (9 : Int32) → JE E (d + 1) m_Pr_putPower 72 [(1, pv E 53), (2, .int x2)] [] σ Q) ∧ (¬ x2 ≤ (9 : Int32) → CV E d m_Ou_put [pv E 53, .int ((48 : Int32) + ((x2 / (10 : Int32)) - (x2 / (10 : Int32)) / (10 : Int32) * (10 : Int32)))] σ (fun σ1 => JE E (d + 1) m_Pr_putPower 72 [(1, pv E 53), (2, .int x2)] [] σ1 Q))) :
    JE E (d + 1) m_Pr_putPower 52 [(1, pv E 53), (2, .int x2)] [] σ Q := by
  refine J_iload_n dc_Pr_putPower_52 (Eq.refl 53) 1 rfl ?_
  refine J_bipush (v := (9 : Int32)) dc_Pr_putPower_53 (Eq.refl 55) rfl ?_
  refine J_icmp_le dc_Pr_putPower_55 (Eq.refl 58) rfl (fun hc => ?_) (fun hc => ?_)
  · have h := h.1 hc
    exact h
  · have h := h.2 hc
    refine J_aload_n dc_Pr_putPower_58 (Eq.refl 59) 0 rfl ?_
    refine J_bipush (v := (48 : Int32)) dc_Pr_putPower_59 (Eq.refl 61) rfl ?_
    refine J_iload_n dc_Pr_putPower_61 (Eq.refl 62) 1 rfl ?_
    refine J_bipush (v := (10 : Int32)) dc_Pr_putPower_62 (Eq.refl 64) rfl ?_
    refine J_idiv dc_Pr_putPower_64 (Eq.refl 65) (by decide) ?_
    refine J_bipush (v := (10 : Int32)) dc_Pr_putPower_65 (Eq.refl 67) rfl ?_
    refine J_irem dc_Pr_putPower_67 (Eq.refl 68) (by decide) ?_
    refine J_iadd dc_Pr_putPower_68 (Eq.refl 69) ?_
    refine J_callVV (As := [.int ((48 : Int32) + ((x2 / (10 : Int32)) - (x2 / (10 : Int32)) / (10 : Int32) * (10 : Int32)))]) (st := []) dc_Pr_putPower_69 (Eq.refl 72) lk_Pr_24 mi_Ou_put rfl (Nat.le_of_ble_eq_true rfl) rfl rfl (Nat.le_of_ble_eq_true rfl) rfl (Nat.le_of_ble_eq_true rfl) (CV.mono h (fun σ1 h => ?_))
    exact h
theorem b_Pr_putPower_72 {E : En_t} {d : Nat} {σ : S_t} {Q : Option Value → S_t → Prop} {x2 : Int32}
    (h : CV E d m_Ou_put [pv E 53, .int ((48 : Int32) + (x2 - x2 / (10 : Int32) * (10 : Int32)))] σ (fun σ1 => Q none σ1)) :
    JE E (d + 1) m_Pr_putPower 72 [(1, pv E 53), (2, .int x2)] [] σ Q := by
  refine J_aload_n dc_Pr_putPower_72 (Eq.refl 73) 0 rfl ?_
  refine J_bipush (v := (48 : Int32)) dc_Pr_putPower_73 (Eq.refl 75) rfl ?_
  refine J_iload_n dc_Pr_putPower_75 (Eq.refl 76) 1 rfl ?_
  refine J_bipush (v := (10 : Int32)) dc_Pr_putPower_76 (Eq.refl 78) rfl ?_
  refine J_irem dc_Pr_putPower_78 (Eq.refl 79) (by decide) ?_
  refine J_iadd dc_Pr_putPower_79 (Eq.refl 80) ?_
  refine J_callVV (As := [.int ((48 : Int32) + (x2 - x2 / (10 : Int32) * (10 : Int32)))]) (st := []) dc_Pr_putPower_80 (Eq.refl 83) lk_Pr_24 mi_Ou_put rfl (Nat.le_of_ble_eq_true rfl) rfl rfl (Nat.le_of_ble_eq_true rfl) rfl (Nat.le_of_ble_eq_true rfl) (CV.mono h (fun σ1 h => ?_))
  exact J_vret dc_Pr_putPower_83 rfl h
theorem dc_Pr_putPlain_0 : decode m_Pr_putPlain.2.1 0 = .ok (.aload_n 0, 1) := by decide +kernel
theorem dc_Pr_putPlain_1 : decode m_Pr_putPlain.2.1 1 = .ok (.getfield 42, 3) := by decide +kernel
theorem dc_Pr_putPlain_4 : decode m_Pr_putPlain.2.1 4 = .ok (.ifCond .gt 24, 3) := by decide +kernel
theorem dc_Pr_putPlain_7 : decode m_Pr_putPlain.2.1 7 = .ok (.aload_n 1, 1) := by decide +kernel
theorem dc_Pr_putPlain_8 : decode m_Pr_putPlain.2.1 8 = .ok (.bipush 48, 2) := by decide +kernel
theorem dc_Pr_putPlain_10 : decode m_Pr_putPlain.2.1 10 = .ok (.invokevirtual 24, 3) := by decide +kernel
theorem dc_Pr_putPlain_13 : decode m_Pr_putPlain.2.1 13 = .ok (.aload_n 1, 1) := by decide +kernel
theorem dc_Pr_putPlain_14 : decode m_Pr_putPlain.2.1 14 = .ok (.bipush 46, 2) := by decide +kernel
theorem dc_Pr_putPlain_16 : decode m_Pr_putPlain.2.1 16 = .ok (.invokevirtual 24, 3) := by decide +kernel
theorem dc_Pr_putPlain_19 : decode m_Pr_putPlain.2.1 19 = .ok (.aload_n 0, 1) := by decide +kernel
theorem dc_Pr_putPlain_20 : decode m_Pr_putPlain.2.1 20 = .ok (.getfield 42, 3) := by decide +kernel
theorem dc_Pr_putPlain_23 : decode m_Pr_putPlain.2.1 23 = .ok (.ineg, 1) := by decide +kernel
theorem dc_Pr_putPlain_24 : decode m_Pr_putPlain.2.1 24 = .ok (.aload_n 1, 1) := by decide +kernel
theorem dc_Pr_putPlain_25 : decode m_Pr_putPlain.2.1 25 = .ok (.invokestatic 128, 3) := by decide +kernel
theorem dc_Pr_putPlain_28 : decode m_Pr_putPlain.2.1 28 = .ok (.iconst 0, 1) := by decide +kernel
theorem dc_Pr_putPlain_29 : decode m_Pr_putPlain.2.1 29 = .ok (.istore_n 2, 1) := by decide +kernel
theorem dc_Pr_putPlain_30 : decode m_Pr_putPlain.2.1 30 = .ok (.iload_n 2, 1) := by decide +kernel
theorem dc_Pr_putPlain_31 : decode m_Pr_putPlain.2.1 31 = .ok (.aload_n 0, 1) := by decide +kernel
theorem dc_Pr_putPlain_32 : decode m_Pr_putPlain.2.1 32 = .ok (.getfield 46, 3) := by decide +kernel
theorem dc_Pr_putPlain_35 : decode m_Pr_putPlain.2.1 35 = .ok (.if_icmp .ge 40, 3) := by decide +kernel
theorem dc_Pr_putPlain_38 : decode m_Pr_putPlain.2.1 38 = .ok (.iload_n 2, 1) := by decide +kernel
theorem dc_Pr_putPlain_39 : decode m_Pr_putPlain.2.1 39 = .ok (.ifCond .le 17, 3) := by decide +kernel
theorem dc_Pr_putPlain_42 : decode m_Pr_putPlain.2.1 42 = .ok (.iload_n 2, 1) := by decide +kernel
theorem dc_Pr_putPlain_43 : decode m_Pr_putPlain.2.1 43 = .ok (.aload_n 0, 1) := by decide +kernel
theorem dc_Pr_putPlain_44 : decode m_Pr_putPlain.2.1 44 = .ok (.getfield 42, 3) := by decide +kernel
theorem dc_Pr_putPlain_47 : decode m_Pr_putPlain.2.1 47 = .ok (.if_icmp .ne 9, 3) := by decide +kernel
theorem dc_Pr_putPlain_50 : decode m_Pr_putPlain.2.1 50 = .ok (.aload_n 1, 1) := by decide +kernel
theorem dc_Pr_putPlain_51 : decode m_Pr_putPlain.2.1 51 = .ok (.bipush 46, 2) := by decide +kernel
theorem dc_Pr_putPlain_53 : decode m_Pr_putPlain.2.1 53 = .ok (.invokevirtual 24, 3) := by decide +kernel
theorem dc_Pr_putPlain_56 : decode m_Pr_putPlain.2.1 56 = .ok (.aload_n 1, 1) := by decide +kernel
theorem dc_Pr_putPlain_57 : decode m_Pr_putPlain.2.1 57 = .ok (.bipush 48, 2) := by decide +kernel
theorem dc_Pr_putPlain_59 : decode m_Pr_putPlain.2.1 59 = .ok (.aload_n 0, 1) := by decide +kernel
theorem dc_Pr_putPlain_60 : decode m_Pr_putPlain.2.1 60 = .ok (.getfield 18, 3) := by decide +kernel
theorem dc_Pr_putPlain_63 : decode m_Pr_putPlain.2.1 63 = .ok (.iload_n 2, 1) := by decide +kernel
theorem dc_Pr_putPlain_64 : decode m_Pr_putPlain.2.1 64 = .ok (.baload, 1) := by decide +kernel
theorem dc_Pr_putPlain_65 : decode m_Pr_putPlain.2.1 65 = .ok (.iadd, 1) := by decide +kernel
theorem dc_Pr_putPlain_66 : decode m_Pr_putPlain.2.1 66 = .ok (.invokevirtual 24, 3) := by decide +kernel
theorem dc_Pr_putPlain_69 : decode m_Pr_putPlain.2.1 69 = .ok (.iinc 2 1, 3) := by decide +kernel
theorem dc_Pr_putPlain_72 : decode m_Pr_putPlain.2.1 72 = .ok (.goto (-42), 3) := by decide +kernel
theorem dc_Pr_putPlain_75 : decode m_Pr_putPlain.2.1 75 = .ok (.aload_n 0, 1) := by decide +kernel
theorem dc_Pr_putPlain_76 : decode m_Pr_putPlain.2.1 76 = .ok (.getfield 42, 3) := by decide +kernel
theorem dc_Pr_putPlain_79 : decode m_Pr_putPlain.2.1 79 = .ok (.aload_n 0, 1) := by decide +kernel
theorem dc_Pr_putPlain_80 : decode m_Pr_putPlain.2.1 80 = .ok (.getfield 46, 3) := by decide +kernel
theorem dc_Pr_putPlain_83 : decode m_Pr_putPlain.2.1 83 = .ok (.isub, 1) := by decide +kernel
theorem dc_Pr_putPlain_84 : decode m_Pr_putPlain.2.1 84 = .ok (.aload_n 1, 1) := by decide +kernel
theorem dc_Pr_putPlain_85 : decode m_Pr_putPlain.2.1 85 = .ok (.invokestatic 128, 3) := by decide +kernel
theorem dc_Pr_putPlain_88 : decode m_Pr_putPlain.2.1 88 = .ok (.return_, 1) := by decide +kernel
theorem b_Pr_putPlain_0 {E : En_t} {d : Nat} {σ : S_t} {Q : Option Value → S_t → Prop}
    (h : (0 < (gI σ 59 3) → JE E (d + 1) m_Pr_putPlain 28 [(0, pv E 59), (1, pv E 53)] [] σ Q) ∧ (¬ 0 < (gI σ 59 3) → CV E d m_Ou_put [pv E 53, .int (48 : Int32)] σ (fun σ1 => CV E d m_Ou_put [pv E 53, .int (46 : Int32)] σ1 (fun σ2 => CV E d m_Pr_putZeros [.int (-(gI σ2 59 3)), pv E 53] σ2 (fun σ3 => JE E (d + 1) m_Pr_putPlain 28 [(0, pv E 59), (1, pv E 53)] [] σ3 Q))))) :
    JE E (d + 1) m_Pr_putPlain 0 [(0, pv E 59), (1, pv E 53)] [] σ Q := by
  refine J_aload_n dc_Pr_putPlain_0 (Eq.refl 1) 0 rfl ?_
  refine J_getI dc_Pr_putPlain_1 (Eq.refl 4) fl_Pr_42 (Nat.le_of_ble_eq_true rfl) rfl (Or.inl rfl) ?_
  refine J_if_gt dc_Pr_putPlain_4 (Eq.refl 7) rfl (fun hc => ?_) (fun hc => ?_)
  · have h := h.1 hc
    exact h
  · have h := h.2 hc
    refine J_aload_n dc_Pr_putPlain_7 (Eq.refl 8) 1 rfl ?_
    refine J_bipush (v := (48 : Int32)) dc_Pr_putPlain_8 (Eq.refl 10) rfl ?_
    refine J_callVV (As := [.int (48 : Int32)]) (st := []) dc_Pr_putPlain_10 (Eq.refl 13) lk_Pr_24 mi_Ou_put rfl (Nat.le_of_ble_eq_true rfl) rfl rfl (Nat.le_of_ble_eq_true rfl) rfl (Nat.le_of_ble_eq_true rfl) (CV.mono h (fun σ1 h => ?_))
    refine J_aload_n dc_Pr_putPlain_13 (Eq.refl 14) 1 rfl ?_
    refine J_bipush (v := (46 : Int32)) dc_Pr_putPlain_14 (Eq.refl 16) rfl ?_
    refine J_callVV (As := [.int (46 : Int32)]) (st := []) dc_Pr_putPlain_16 (Eq.refl 19) lk_Pr_24 mi_Ou_put rfl (Nat.le_of_ble_eq_true rfl) rfl rfl (Nat.le_of_ble_eq_true rfl) rfl (Nat.le_of_ble_eq_true rfl) (CV.mono h (fun σ2 h => ?_))
    refine J_aload_n dc_Pr_putPlain_19 (Eq.refl 20) 0 rfl ?_
    refine J_getI dc_Pr_putPlain_20 (Eq.refl 23) fl_Pr_42 (Nat.le_of_ble_eq_true rfl) rfl (Or.inl rfl) ?_
    refine J_ineg dc_Pr_putPlain_23 (Eq.refl 24) ?_
    refine J_aload_n dc_Pr_putPlain_24 (Eq.refl 25) 1 rfl ?_
    refine J_callSV (As := [.int (-(gI σ2 59 3)), pv E 53]) (st := []) dc_Pr_putPlain_25 (Eq.refl 28) lk_Pr_128 mi_Pr_putZeros (Nat.le_of_ble_eq_true rfl) rfl (Nat.le_of_ble_eq_true rfl) (CV.mono h (fun σ3 h => ?_))
    exact h
theorem b_Pr_putPlain_28 {E : En_t} {d : Nat} {σ : S_t} {Q : Option Value → S_t → Prop}
    (h : JE E (d + 1) m_Pr_putPlain 30 [(0, pv E 59), (1, pv E 53), (2, .int (0 : Int32))] [] σ Q) :
    JE E (d + 1) m_Pr_putPlain 28 [(0, pv E 59), (1, pv E 53)] [] σ Q := by
  refine J_iconst (v := (0 : Int32)) dc_Pr_putPlain_28 (Eq.refl 29) rfl ?_
  refine J_istore_n (L' := [(2, .int (0 : Int32)), (0, pv E 59), (1, pv E 53)]) dc_Pr_putPlain_29 (Eq.refl 30) (Nat.le_of_ble_eq_true rfl) rfl ?_
  refine J_sub [1, 2, 0] rfl ?_
  exact h
theorem b_Pr_putPlain_30 {E : En_t} {d : Nat} {σ : S_t} {Q : Option Value → S_t → Prop} {x2 : Int32}
    (h : ((gI σ 59 2) ≤ x2 → CV E d m_Pr_putZeros [.int ((gI σ 59 3) - (gI σ 59 2)), pv E 53] σ (fun σ1 => Q none σ1)) ∧ (¬ (gI σ 59 2) ≤ x2 → (x2 ≤ 0 → JE E (d + 1) m_Pr_putPlain 56 [(0, pv E 59), (1, pv E 53), (2, .int x2)] [] σ Q) ∧ (¬ x2 ≤ 0 → (¬ x2 = (gI σ 59 3) → JE E (d + 1) m_Pr_putPlain 56 [(0, pv E 59), (1, pv E 53), (2, .int x2)] [] σ Q) ∧ (x2 = (gI σ 59 3) → CV E d m_Ou_put [pv E 53, .int (46 : Int32)] σ (fun σ2 => JE E (d + 1) m_Pr_putPlain 56 [(0, pv E 59), (1, pv E 53), (2, .int x2)] [] σ2 Q))))) :
    JE E (d + 1) m_Pr_putPlain 30 [(0, pv E 59), (1, pv E 53), (2, .int x2)] [] σ Q := by
  refine J_iload_n dc_Pr_putPlain_30 (Eq.refl 31) 2 rfl ?_
  refine J_aload_n dc_Pr_putPlain_31 (Eq.refl 32) 0 rfl ?_
  refine J_getI dc_Pr_putPlain_32 (Eq.refl 35) fl_Pr_46 (Nat.le_of_ble_eq_true rfl) rfl (Or.inl rfl) ?_
  refine J_icmp_ge dc_Pr_putPlain_35 (Eq.refl 38) rfl (fun hc => ?_) (fun hc => ?_)
  · have h := h.1 hc
    refine J_aload_n dc_Pr_putPlain_75 (Eq.refl 76) 0 rfl ?_
    refine J_getI dc_Pr_putPlain_76 (Eq.refl 79) fl_Pr_42 (Nat.le_of_ble_eq_true rfl) rfl (Or.inl rfl) ?_
    refine J_aload_n dc_Pr_putPlain_79 (Eq.refl 80) 0 rfl ?_
    refine J_getI dc_Pr_putPlain_80 (Eq.refl 83) fl_Pr_46 (Nat.le_of_ble_eq_true rfl) rfl (Or.inl rfl) ?_
    refine J_isub dc_Pr_putPlain_83 (Eq.refl 84) ?_
    refine J_aload_n dc_Pr_putPlain_84 (Eq.refl 85) 1 rfl ?_
    refine J_callSV (As := [.int ((gI σ 59 3) - (gI σ 59 2)), pv E 53]) (st := []) dc_Pr_putPlain_85 (Eq.refl 88) lk_Pr_128 mi_Pr_putZeros (Nat.le_of_ble_eq_true rfl) rfl (Nat.le_of_ble_eq_true rfl) (CV.mono h (fun σ1 h => ?_))
    exact J_vret dc_Pr_putPlain_88 rfl h
  · have h := h.2 hc
    refine J_iload_n dc_Pr_putPlain_38 (Eq.refl 39) 2 rfl ?_
    refine J_if_le dc_Pr_putPlain_39 (Eq.refl 42) rfl (fun hc => ?_) (fun hc => ?_)
    · have h := h.1 hc
      exact h
    · have h := h.2 hc
      refine J_iload_n dc_Pr_putPlain_42 (Eq.refl 43) 2 rfl ?_
      refine J_aload_n dc_Pr_putPlain_43 (Eq.refl 44) 0 rfl ?_
      refine J_getI dc_Pr_putPlain_44 (Eq.refl 47) fl_Pr_42 (Nat.le_of_ble_eq_true rfl) rfl (Or.inl rfl) ?_
      refine J_icmp_ne dc_Pr_putPlain_47 (Eq.refl 50) rfl (fun hc => ?_) (fun hc => ?_)
      · have h := h.1 hc
        exact h
      · have h := h.2 hc
        refine J_aload_n dc_Pr_putPlain_50 (Eq.refl 51) 1 rfl ?_
        refine J_bipush (v := (46 : Int32)) dc_Pr_putPlain_51 (Eq.refl 53) rfl ?_
        refine J_callVV (As := [.int (46 : Int32)]) (st := []) dc_Pr_putPlain_53 (Eq.refl 56) lk_Pr_24 mi_Ou_put rfl (Nat.le_of_ble_eq_true rfl) rfl rfl (Nat.le_of_ble_eq_true rfl) rfl (Nat.le_of_ble_eq_true rfl) (CV.mono h (fun σ2 h => ?_))
        exact h
theorem b_Pr_putPlain_56 {E : En_t} {d : Nat} {σ : S_t} {Q : Option Value → S_t → Prop} {x2 : Int32}
    (h : vp_in x2 810 ∧ (CV E d m_Ou_put [pv E 53, .int ((48 : Int32) + (gI σ 60 x2.toNatClampNeg))] σ (fun σ1 => JE E (d + 1) m_Pr_putPlain 30 [(0, pv E 59), (1, pv E 53), (2, .int (x2 + (1 : Int32)))] [] σ1 Q))) :
    JE E (d + 1) m_Pr_putPlain 56 [(0, pv E 59), (1, pv E 53), (2, .int x2)] [] σ Q := by
  refine J_aload_n dc_Pr_putPlain_56 (Eq.refl 57) 1 rfl ?_
  refine J_bipush (v := (48 : Int32)) dc_Pr_putPlain_57 (Eq.refl 59) rfl ?_
  refine J_aload_n dc_Pr_putPlain_59 (Eq.refl 60) 0 rfl ?_
  refine J_getF (y := 60) dc_Pr_putPlain_60 (Eq.refl 63) fl_Pr_18 (Nat.le_of_ble_eq_true rfl) rfl (Or.inl rfl) rfl ?_
  refine J_iload_n dc_Pr_putPlain_63 (Eq.refl 64) 2 rfl ?_
  obtain ⟨hg, h⟩ := h
  refine J_bald dc_Pr_putPlain_64 (Eq.refl 65) rfl rfl hg ?_
  refine J_iadd dc_Pr_putPlain_65 (Eq.refl 66) ?_
  refine J_callVV (As := [.int ((48 : Int32) + (gI σ 60 x2.toNatClampNeg))]) (st := []) dc_Pr_putPlain_66 (Eq.refl 69) lk_Pr_24 mi_Ou_put rfl (Nat.le_of_ble_eq_true rfl) rfl rfl (Nat.le_of_ble_eq_true rfl) rfl (Nat.le_of_ble_eq_true rfl) (CV.mono h (fun σ1 h => ?_))
  refine J_iinc (v := x2 + (1 : Int32)) (L' := [(2, .int (x2 + (1 : Int32))), (0, pv E 59), (1, pv E 53)]) dc_Pr_putPlain_69 (Eq.refl 72) 2 rfl rfl (Nat.le_of_ble_eq_true rfl) rfl ?_
  refine J_goto dc_Pr_putPlain_72 rfl ?_
  refine J_sub [1, 2, 0] rfl ?_
  exact h
theorem dc_Pr_putZeros_0 : decode m_Pr_putZeros.2.1 0 = .ok (.iconst 0, 1) := by decide +kernel
theorem dc_Pr_putZeros_1 : decode m_Pr_putZeros.2.1 1 = .ok (.istore_n 2, 1) := by decide +kernel
theorem dc_Pr_putZeros_2 : decode m_Pr_putZeros.2.1 2 = .ok (.iload_n 2, 1) := by decide +kernel
theorem dc_Pr_putZeros_3 : decode m_Pr_putZeros.2.1 3 = .ok (.iload_n 0, 1) := by decide +kernel
theorem dc_Pr_putZeros_4 : decode m_Pr_putZeros.2.1 4 = .ok (.if_icmp .ge 15, 3) := by decide +kernel
theorem dc_Pr_putZeros_7 : decode m_Pr_putZeros.2.1 7 = .ok (.aload_n 1, 1) := by decide +kernel
theorem dc_Pr_putZeros_8 : decode m_Pr_putZeros.2.1 8 = .ok (.bipush 48, 2) := by decide +kernel
theorem dc_Pr_putZeros_10 : decode m_Pr_putZeros.2.1 10 = .ok (.invokevirtual 24, 3) := by decide +kernel
theorem dc_Pr_putZeros_13 : decode m_Pr_putZeros.2.1 13 = .ok (.iinc 2 1, 3) := by decide +kernel
theorem dc_Pr_putZeros_16 : decode m_Pr_putZeros.2.1 16 = .ok (.goto (-14), 3) := by decide +kernel
theorem dc_Pr_putZeros_19 : decode m_Pr_putZeros.2.1 19 = .ok (.return_, 1) := by decide +kernel
theorem b_Pr_putZeros_0 {E : En_t} {d : Nat} {σ : S_t} {Q : Option Value → S_t → Prop} {x0 : Int32}
    (h : JE E (d + 1) m_Pr_putZeros 2 [(0, .int x0), (1, pv E 53), (2, .int (0 : Int32))] [] σ Q) :
    JE E (d + 1) m_Pr_putZeros 0 [(0, .int x0), (1, pv E 53)] [] σ Q := by
  refine J_iconst (v := (0 : Int32)) dc_Pr_putZeros_0 (Eq.refl 1) rfl ?_
  refine J_istore_n (L' := [(2, .int (0 : Int32)), (0, .int x0), (1, pv E 53)]) dc_Pr_putZeros_1 (Eq.refl 2) (Nat.le_of_ble_eq_true rfl) rfl ?_
  refine J_sub [1, 2, 0] rfl ?_
  exact h
theorem b_Pr_putZeros_2 {E : En_t} {d : Nat} {σ : S_t} {Q : Option Value → S_t → Prop} {x0 : Int32} {x2 : Int32}
    (h : (x0 ≤ x2 → Q none σ) ∧ (¬ x0 ≤ x2 → CV E d m_Ou_put [pv E 53, .int (48 : Int32)] σ (fun σ1 => JE E (d + 1) m_Pr_putZeros 2 [(0, .int x0), (1, pv E 53), (2, .int (x2 + (1 : Int32)))] [] σ1 Q))) :
    JE E (d + 1) m_Pr_putZeros 2 [(0, .int x0), (1, pv E 53), (2, .int x2)] [] σ Q := by
  refine J_iload_n dc_Pr_putZeros_2 (Eq.refl 3) 2 rfl ?_
  refine J_iload_n dc_Pr_putZeros_3 (Eq.refl 4) 0 rfl ?_
  refine J_icmp_ge dc_Pr_putZeros_4 (Eq.refl 7) rfl (fun hc => ?_) (fun hc => ?_)
  · have h := h.1 hc
    exact J_vret dc_Pr_putZeros_19 rfl h
  · have h := h.2 hc
    refine J_aload_n dc_Pr_putZeros_7 (Eq.refl 8) 1 rfl ?_
    refine J_bipush (v := (48 : Int32)) dc_Pr_putZeros_8 (Eq.refl 10) rfl ?_
    refine J_callVV (As := [.int (48 : Int32)]) (st := []) dc_Pr_putZeros_10 (Eq.refl 13) lk_Pr_24 mi_Ou_put rfl (Nat.le_of_ble_eq_true rfl) rfl rfl (Nat.le_of_ble_eq_true rfl) rfl (Nat.le_of_ble_eq_true rfl) (CV.mono h (fun σ1 h => ?_))
    refine J_iinc (v := x2 + (1 : Int32)) (L' := [(2, .int (x2 + (1 : Int32))), (0, .int x0), (1, pv E 53)]) dc_Pr_putZeros_13 (Eq.refl 16) 2 rfl rfl (Nat.le_of_ble_eq_true rfl) rfl ?_
    refine J_goto dc_Pr_putZeros_16 rfl ?_
    refine J_sub [1, 2, 0] rfl ?_
    exact h
theorem dc_Pr_putRounded_0 : decode m_Pr_putRounded.2.1 0 = .ok (.lload_n 1, 1) := by decide +kernel
theorem dc_Pr_putRounded_1 : decode m_Pr_putRounded.2.1 1 = .ok (.lconst 0, 1) := by decide +kernel
theorem dc_Pr_putRounded_2 : decode m_Pr_putRounded.2.1 2 = .ok (.lcmp, 1) := by decide +kernel
theorem dc_Pr_putRounded_3 : decode m_Pr_putRounded.2.1 3 = .ok (.ifCond .ge 10, 3) := by decide +kernel
theorem dc_Pr_putRounded_6 : decode m_Pr_putRounded.2.1 6 = .ok (.aload 4, 2) := by decide +kernel
theorem dc_Pr_putRounded_8 : decode m_Pr_putRounded.2.1 8 = .ok (.bipush 45, 2) := by decide +kernel
theorem dc_Pr_putRounded_10 : decode m_Pr_putRounded.2.1 10 = .ok (.invokevirtual 24, 3) := by decide +kernel
theorem dc_Pr_putRounded_13 : decode m_Pr_putRounded.2.1 13 = .ok (.aload_n 0, 1) := by decide +kernel
theorem dc_Pr_putRounded_14 : decode m_Pr_putRounded.2.1 14 = .ok (.lload_n 1, 1) := by decide +kernel
theorem dc_Pr_putRounded_15 : decode m_Pr_putRounded.2.1 15 = .ok (.invokestatic 30, 3) := by decide +kernel
theorem dc_Pr_putRounded_18 : decode m_Pr_putRounded.2.1 18 = .ok (.lload_n 1, 1) := by decide +kernel
theorem dc_Pr_putRounded_19 : decode m_Pr_putRounded.2.1 19 = .ok (.invokestatic 34, 3) := by decide +kernel
theorem dc_Pr_putRounded_22 : decode m_Pr_putRounded.2.1 22 = .ok (.invokevirtual 134, 3) := by decide +kernel
theorem dc_Pr_putRounded_25 : decode m_Pr_putRounded.2.1 25 = .ok (.iload_n 3, 1) := by decide +kernel
theorem dc_Pr_putRounded_26 : decode m_Pr_putRounded.2.1 26 = .ok (.aload_n 0, 1) := by decide +kernel
theorem dc_Pr_putRounded_27 : decode m_Pr_putRounded.2.1 27 = .ok (.getfield 46, 3) := by decide +kernel
theorem dc_Pr_putRounded_30 : decode m_Pr_putRounded.2.1 30 = .ok (.if_icmp .ge 8, 3) := by decide +kernel
theorem dc_Pr_putRounded_33 : decode m_Pr_putRounded.2.1 33 = .ok (.aload_n 0, 1) := by decide +kernel
theorem dc_Pr_putRounded_34 : decode m_Pr_putRounded.2.1 34 = .ok (.iload_n 3, 1) := by decide +kernel
theorem dc_Pr_putRounded_35 : decode m_Pr_putRounded.2.1 35 = .ok (.invokevirtual 137, 3) := by decide +kernel
theorem dc_Pr_putRounded_38 : decode m_Pr_putRounded.2.1 38 = .ok (.aload_n 0, 1) := by decide +kernel
theorem dc_Pr_putRounded_39 : decode m_Pr_putRounded.2.1 39 = .ok (.iload_n 3, 1) := by decide +kernel
theorem dc_Pr_putRounded_40 : decode m_Pr_putRounded.2.1 40 = .ok (.aload 4, 2) := by decide +kernel
theorem dc_Pr_putRounded_42 : decode m_Pr_putRounded.2.1 42 = .ok (.invokevirtual 49, 3) := by decide +kernel
theorem dc_Pr_putRounded_45 : decode m_Pr_putRounded.2.1 45 = .ok (.aload_n 0, 1) := by decide +kernel
theorem dc_Pr_putRounded_46 : decode m_Pr_putRounded.2.1 46 = .ok (.aload 4, 2) := by decide +kernel
theorem dc_Pr_putRounded_48 : decode m_Pr_putRounded.2.1 48 = .ok (.invokevirtual 53, 3) := by decide +kernel
theorem dc_Pr_putRounded_51 : decode m_Pr_putRounded.2.1 51 = .ok (.return_, 1) := by decide +kernel
theorem b_Pr_putRounded_0 {E : En_t} {d : Nat} {σ : S_t} {Q : Option Value → S_t → Prop} {x1 : Int64} {x3 : Int32}
    (h : (0 ≤ (lg_cmp x1 (0 : Int64)) → JE E (d + 1) m_Pr_putRounded 13 [(0, pv E 59), (1, .long x1), (3, .int x3), (4, pv E 53)] [] σ Q) ∧ (¬ 0 ≤ (lg_cmp x1 (0 : Int64)) → CV E d m_Ou_put [pv E 53, .int (45 : Int32)] σ (fun σ1 => JE E (d + 1) m_Pr_putRounded 13 [(0, pv E 59), (1, .long x1), (3, .int x3), (4, pv E 53)] [] σ1 Q))) :
    JE E (d + 1) m_Pr_putRounded 0 [(0, pv E 59), (1, .long x1), (3, .int x3), (4, pv E 53)] [] σ Q := by
  refine J_lload_n dc_Pr_putRounded_0 (Eq.refl 1) 1 rfl ?_
  refine J_lconst (v := (0 : Int64)) dc_Pr_putRounded_1 (Eq.refl 2) rfl ?_
  refine J_lcmp dc_Pr_putRounded_2 (Eq.refl 3) ?_
  refine J_if_ge dc_Pr_putRounded_3 (Eq.refl 6) rfl (fun hc => ?_) (fun hc => ?_)
  · have h := h.1 hc
    exact h
  · have h := h.2 hc
    refine J_aload dc_Pr_putRounded_6 (Eq.refl 8) 3 rfl ?_
    refine J_bipush (v := (45 : Int32)) dc_Pr_putRounded_8 (Eq.refl 10) rfl ?_
    refine J_callVV (As := [.int (45 : Int32)]) (st := []) dc_Pr_putRounded_10 (Eq.refl 13) lk_Pr_24 mi_Ou_put rfl (Nat.le_of_ble_eq_true rfl) rfl rfl (Nat.le_of_ble_eq_true rfl) rfl (Nat.le_of_ble_eq_true rfl) (CV.mono h (fun σ1 h => ?_))
    exact h
theorem b_Pr_putRounded_13 {E : En_t} {d : Nat} {σ : S_t} {Q : Option Value → S_t → Prop} {x1 : Int64} {x3 : Int32}
    (h : CL E d m_Pr_fractionOf [.long x1] σ (fun r2 σ1 => CI E d m_Pr_twosOf [.long x1] σ1 (fun r4 σ3 => CV E d m_Pr_findAllDigits [pv E 59, .long r2, .int r4] σ3 (fun σ5 => ((gI σ5 59 2) ≤ x3 → JE E (d + 1) m_Pr_putRounded 38 [(0, pv E 59), (3, .int x3), (4, pv E 53)] [] σ5 Q) ∧ (¬ (gI σ5 59 2) ≤ x3 → CV E d m_Pr_cutTo [pv E 59, .int x3] σ5 (fun σ6 => JE E (d + 1) m_Pr_putRounded 38 [(0, pv E 59), (3, .int x3), (4, pv E 53)] [] σ6 Q)))))) :
    JE E (d + 1) m_Pr_putRounded 13 [(0, pv E 59), (1, .long x1), (3, .int x3), (4, pv E 53)] [] σ Q := by
  refine J_aload_n dc_Pr_putRounded_13 (Eq.refl 14) 0 rfl ?_
  refine J_lload_n dc_Pr_putRounded_14 (Eq.refl 15) 1 rfl ?_
  refine J_callSL (As := [.long x1]) (st := [pv E 59]) dc_Pr_putRounded_15 (Eq.refl 18) lk_Pr_30 mi_Pr_fractionOf (Nat.le_of_ble_eq_true rfl) rfl (Nat.le_of_ble_eq_true rfl) (CL.mono h (fun r2 σ1 h => ?_))
  refine J_lload_n dc_Pr_putRounded_18 (Eq.refl 19) 1 rfl ?_
  refine J_callSI (As := [.long x1]) (st := [.long r2, pv E 59]) dc_Pr_putRounded_19 (Eq.refl 22) lk_Pr_34 mi_Pr_twosOf (Nat.le_of_ble_eq_true rfl) rfl (Nat.le_of_ble_eq_true rfl) (CI.mono h (fun r4 σ3 h => ?_))
  refine J_callVV (As := [.long r2, .int r4]) (st := []) dc_Pr_putRounded_22 (Eq.refl 25) lk_Pr_134 mi_Pr_findAllDigits rfl (Nat.le_of_ble_eq_true rfl) rfl rfl (Nat.le_of_ble_eq_true rfl) rfl (Nat.le_of_ble_eq_true rfl) (CV.mono h (fun σ5 h => ?_))
  refine J_iload_n dc_Pr_putRounded_25 (Eq.refl 26) 2 rfl ?_
  refine J_aload_n dc_Pr_putRounded_26 (Eq.refl 27) 0 rfl ?_
  refine J_getI dc_Pr_putRounded_27 (Eq.refl 30) fl_Pr_46 (Nat.le_of_ble_eq_true rfl) rfl (Or.inl rfl) ?_
  refine J_icmp_ge dc_Pr_putRounded_30 (Eq.refl 33) rfl (fun hc => ?_) (fun hc => ?_)
  · have h := h.1 hc
    refine J_sub [0, 2, 3] rfl ?_
    exact h
  · have h := h.2 hc
    refine J_aload_n dc_Pr_putRounded_33 (Eq.refl 34) 0 rfl ?_
    refine J_iload_n dc_Pr_putRounded_34 (Eq.refl 35) 2 rfl ?_
    refine J_callVV (As := [.int x3]) (st := []) dc_Pr_putRounded_35 (Eq.refl 38) lk_Pr_137 mi_Pr_cutTo rfl (Nat.le_of_ble_eq_true rfl) rfl rfl (Nat.le_of_ble_eq_true rfl) rfl (Nat.le_of_ble_eq_true rfl) (CV.mono h (fun σ6 h => ?_))
    refine J_sub [0, 2, 3] rfl ?_
    exact h
theorem b_Pr_putRounded_38 {E : En_t} {d : Nat} {σ : S_t} {Q : Option Value → S_t → Prop} {x3 : Int32}
    (h : CV E d m_Pr_putDigits [pv E 59, .int x3, pv E 53] σ (fun σ1 => CV E d m_Pr_putPower [pv E 59, pv E 53] σ1 (fun σ2 => Q none σ2))) :
    JE E (d + 1) m_Pr_putRounded 38 [(0, pv E 59), (3, .int x3), (4, pv E 53)] [] σ Q := by
  refine J_aload_n dc_Pr_putRounded_38 (Eq.refl 39) 0 rfl ?_
  refine J_iload_n dc_Pr_putRounded_39 (Eq.refl 40) 1 rfl ?_
  refine J_aload dc_Pr_putRounded_40 (Eq.refl 42) 2 rfl ?_
  refine J_callVV (As := [.int x3, pv E 53]) (st := []) dc_Pr_putRounded_42 (Eq.refl 45) lk_Pr_49 mi_Pr_putDigits rfl (Nat.le_of_ble_eq_true rfl) rfl rfl (Nat.le_of_ble_eq_true rfl) rfl (Nat.le_of_ble_eq_true rfl) (CV.mono h (fun σ1 h => ?_))
  refine J_aload_n dc_Pr_putRounded_45 (Eq.refl 46) 0 rfl ?_
  refine J_aload dc_Pr_putRounded_46 (Eq.refl 48) 2 rfl ?_
  refine J_callVV (As := [pv E 53]) (st := []) dc_Pr_putRounded_48 (Eq.refl 51) lk_Pr_53 mi_Pr_putPower rfl (Nat.le_of_ble_eq_true rfl) rfl rfl (Nat.le_of_ble_eq_true rfl) rfl (Nat.le_of_ble_eq_true rfl) (CV.mono h (fun σ2 h => ?_))
  exact J_vret dc_Pr_putRounded_51 rfl h
theorem dc_Pr_findAllDigits_0 : decode m_Pr_findAllDigits.2.1 0 = .ok (.lload_n 1, 1) := by decide +kernel
theorem dc_Pr_findAllDigits_1 : decode m_Pr_findAllDigits.2.1 1 = .ok (.lconst 0, 1) := by decide +kernel
theorem dc_Pr_findAllDigits_2 : decode m_Pr_findAllDigits.2.1 2 = .ok (.lcmp, 1) := by decide +kernel
theorem dc_Pr_findAllDigits_3 : decode m_Pr_findAllDigits.2.1 3 = .ok (.ifCond .ne 8, 3) := by decide +kernel
theorem dc_Pr_findAllDigits_6 : decode m_Pr_findAllDigits.2.1 6 = .ok (.iload_n 3, 1) := by decide +kernel
theorem dc_Pr_findAllDigits_7 : decode m_Pr_findAllDigits.2.1 7 = .ok (.ineg, 1) := by decide +kernel
theorem dc_Pr_findAllDigits_8 : decode m_Pr_findAllDigits.2.1 8 = .ok (.goto 7, 3) := by decide +kernel
theorem dc_Pr_findAllDigits_11 : decode m_Pr_findAllDigits.2.1 11 = .ok (.lload_n 1, 1) := by decide +kernel
theorem dc_Pr_findAllDigits_12 : decode m_Pr_findAllDigits.2.1 12 = .ok (.invokestatic 140, 3) := by decide +kernel
theorem dc_Pr_findAllDigits_15 : decode m_Pr_findAllDigits.2.1 15 = .ok (.istore 4, 2) := by decide +kernel
theorem dc_Pr_findAllDigits_17 : decode m_Pr_findAllDigits.2.1 17 = .ok (.iconst 0, 1) := by decide +kernel
theorem dc_Pr_findAllDigits_18 : decode m_Pr_findAllDigits.2.1 18 = .ok (.iload_n 3, 1) := by decide +kernel
theorem dc_Pr_findAllDigits_19 : decode m_Pr_findAllDigits.2.1 19 = .ok (.iload 4, 2) := by decide +kernel
theorem dc_Pr_findAllDigits_21 : decode m_Pr_findAllDigits.2.1 21 = .ok (.iadd, 1) := by decide +kernel
theorem dc_Pr_findAllDigits_22 : decode m_Pr_findAllDigits.2.1 22 = .ok (.invokestatic 143, 3) := by decide +kernel
theorem dc_Pr_findAllDigits_25 : decode m_Pr_findAllDigits.2.1 25 = .ok (.istore 5, 2) := by decide +kernel
theorem dc_Pr_findAllDigits_27 : decode m_Pr_findAllDigits.2.1 27 = .ok (.aload_n 0, 1) := by decide +kernel
theorem dc_Pr_findAllDigits_28 : decode m_Pr_findAllDigits.2.1 28 = .ok (.getfield 12, 3) := by decide +kernel
theorem dc_Pr_findAllDigits_31 : decode m_Pr_findAllDigits.2.1 31 = .ok (.lload_n 1, 1) := by decide +kernel
theorem dc_Pr_findAllDigits_32 : decode m_Pr_findAllDigits.2.1 32 = .ok (.lconst 0, 1) := by decide +kernel
theorem dc_Pr_findAllDigits_33 : decode m_Pr_findAllDigits.2.1 33 = .ok (.lcmp, 1) := by decide +kernel
theorem dc_Pr_findAllDigits_34 : decode m_Pr_findAllDigits.2.1 34 = .ok (.ifCond .ne 7, 3) := by decide +kernel
theorem dc_Pr_findAllDigits_37 : decode m_Pr_findAllDigits.2.1 37 = .ok (.lconst 0, 1) := by decide +kernel
theorem dc_Pr_findAllDigits_38 : decode m_Pr_findAllDigits.2.1 38 = .ok (.goto 7, 3) := by decide +kernel
theorem dc_Pr_findAllDigits_41 : decode m_Pr_findAllDigits.2.1 41 = .ok (.lload_n 1, 1) := by decide +kernel
theorem dc_Pr_findAllDigits_42 : decode m_Pr_findAllDigits.2.1 42 = .ok (.iload 4, 2) := by decide +kernel
theorem dc_Pr_findAllDigits_44 : decode m_Pr_findAllDigits.2.1 44 = .ok (.lushr, 1) := by decide +kernel
theorem dc_Pr_findAllDigits_45 : decode m_Pr_findAllDigits.2.1 45 = .ok (.invokevirtual 105, 3) := by decide +kernel
theorem dc_Pr_findAllDigits_48 : decode m_Pr_findAllDigits.2.1 48 = .ok (.aload_n 0, 1) := by decide +kernel
theorem dc_Pr_findAllDigits_49 : decode m_Pr_findAllDigits.2.1 49 = .ok (.getfield 12, 3) := by decide +kernel
theorem dc_Pr_findAllDigits_52 : decode m_Pr_findAllDigits.2.1 52 = .ok (.iload_n 3, 1) := by decide +kernel
theorem dc_Pr_findAllDigits_53 : decode m_Pr_findAllDigits.2.1 53 = .ok (.iload 4, 2) := by decide +kernel
theorem dc_Pr_findAllDigits_55 : decode m_Pr_findAllDigits.2.1 55 = .ok (.iadd, 1) := by decide +kernel
theorem dc_Pr_findAllDigits_56 : decode m_Pr_findAllDigits.2.1 56 = .ok (.invokevirtual 109, 3) := by decide +kernel
theorem dc_Pr_findAllDigits_59 : decode m_Pr_findAllDigits.2.1 59 = .ok (.aload_n 0, 1) := by decide +kernel
theorem dc_Pr_findAllDigits_60 : decode m_Pr_findAllDigits.2.1 60 = .ok (.getfield 12, 3) := by decide +kernel
theorem dc_Pr_findAllDigits_63 : decode m_Pr_findAllDigits.2.1 63 = .ok (.iload 5, 2) := by decide +kernel
theorem dc_Pr_findAllDigits_65 : decode m_Pr_findAllDigits.2.1 65 = .ok (.ineg, 1) := by decide +kernel
theorem dc_Pr_findAllDigits_66 : decode m_Pr_findAllDigits.2.1 66 = .ok (.invokevirtual 118, 3) := by decide +kernel
theorem dc_Pr_findAllDigits_69 : decode m_Pr_findAllDigits.2.1 69 = .ok (.sipush 810, 3) := by decide +kernel
theorem dc_Pr_findAllDigits_72 : decode m_Pr_findAllDigits.2.1 72 = .ok (.istore 6, 2) := by decide +kernel
theorem dc_Pr_findAllDigits_74 : decode m_Pr_findAllDigits.2.1 74 = .ok (.aload_n 0, 1) := by decide +kernel
theorem dc_Pr_findAllDigits_75 : decode m_Pr_findAllDigits.2.1 75 = .ok (.getfield 12, 3) := by decide +kernel
theorem dc_Pr_findAllDigits_78 : decode m_Pr_findAllDigits.2.1 78 = .ok (.ldc 146, 2) := by decide +kernel
theorem dc_Pr_findAllDigits_80 : decode m_Pr_findAllDigits.2.1 80 = .ok (.invokevirtual 147, 3) := by decide +kernel
theorem dc_Pr_findAllDigits_83 : decode m_Pr_findAllDigits.2.1 83 = .ok (.istore 7, 2) := by decide +kernel
theorem dc_Pr_findAllDigits_85 : decode m_Pr_findAllDigits.2.1 85 = .ok (.iconst 0, 1) := by decide +kernel
theorem dc_Pr_findAllDigits_86 : decode m_Pr_findAllDigits.2.1 86 = .ok (.istore 8, 2) := by decide +kernel
theorem dc_Pr_findAllDigits_88 : decode m_Pr_findAllDigits.2.1 88 = .ok (.iload 8, 2) := by decide +kernel
theorem dc_Pr_findAllDigits_90 : decode m_Pr_findAllDigits.2.1 90 = .ok (.bipush 9, 2) := by decide +kernel
theorem dc_Pr_findAllDigits_92 : decode m_Pr_findAllDigits.2.1 92 = .ok (.if_icmp .ge 37, 3) := by decide +kernel
theorem dc_Pr_findAllDigits_95 : decode m_Pr_findAllDigits.2.1 95 = .ok (.iload 6, 2) := by decide +kernel
theorem dc_Pr_findAllDigits_97 : decode m_Pr_findAllDigits.2.1 97 = .ok (.ifCond .le 32, 3) := by decide +kernel
theorem dc_Pr_findAllDigits_100 : decode m_Pr_findAllDigits.2.1 100 = .ok (.iinc 6 (-1), 3) := by decide +kernel
theorem dc_Pr_findAllDigits_103 : decode m_Pr_findAllDigits.2.1 103 = .ok (.aload_n 0, 1) := by decide +kernel
theorem dc_Pr_findAllDigits_104 : decode m_Pr_findAllDigits.2.1 104 = .ok (.getfield 18, 3) := by decide +kernel
theorem dc_Pr_findAllDigits_107 : decode m_Pr_findAllDigits.2.1 107 = .ok (.iload 6, 2) := by decide +kernel
theorem dc_Pr_findAllDigits_109 : decode m_Pr_findAllDigits.2.1 109 = .ok (.iload 7, 2) := by decide +kernel
theorem dc_Pr_findAllDigits_111 : decode m_Pr_findAllDigits.2.1 111 = .ok (.bipush 10, 2) := by decide +kernel
theorem dc_Pr_findAllDigits_113 : decode m_Pr_findAllDigits.2.1 113 = .ok (.irem, 1) := by decide +kernel
theorem dc_Pr_findAllDigits_114 : decode m_Pr_findAllDigits.2.1 114 = .ok (.i2b, 1) := by decide +kernel
theorem dc_Pr_findAllDigits_115 : decode m_Pr_findAllDigits.2.1 115 = .ok (.bastore, 1) := by decide +kernel
theorem dc_Pr_findAllDigits_116 : decode m_Pr_findAllDigits.2.1 116 = .ok (.iload 7, 2) := by decide +kernel
theorem dc_Pr_findAllDigits_118 : decode m_Pr_findAllDigits.2.1 118 = .ok (.bipush 10, 2) := by decide +kernel
theorem dc_Pr_findAllDigits_120 : decode m_Pr_findAllDigits.2.1 120 = .ok (.idiv, 1) := by decide +kernel
theorem dc_Pr_findAllDigits_121 : decode m_Pr_findAllDigits.2.1 121 = .ok (.istore 7, 2) := by decide +kernel
theorem dc_Pr_findAllDigits_123 : decode m_Pr_findAllDigits.2.1 123 = .ok (.iinc 8 1, 3) := by decide +kernel
theorem dc_Pr_findAllDigits_126 : decode m_Pr_findAllDigits.2.1 126 = .ok (.goto (-38), 3) := by decide +kernel
theorem dc_Pr_findAllDigits_129 : decode m_Pr_findAllDigits.2.1 129 = .ok (.aload_n 0, 1) := by decide +kernel
theorem dc_Pr_findAllDigits_130 : decode m_Pr_findAllDigits.2.1 130 = .ok (.getfield 12, 3) := by decide +kernel
theorem dc_Pr_findAllDigits_133 : decode m_Pr_findAllDigits.2.1 133 = .ok (.invokevirtual 150, 3) := by decide +kernel
theorem dc_Pr_findAllDigits_136 : decode m_Pr_findAllDigits.2.1 136 = .ok (.ifCond .ne 8, 3) := by decide +kernel
theorem dc_Pr_findAllDigits_139 : decode m_Pr_findAllDigits.2.1 139 = .ok (.iload 6, 2) := by decide +kernel
theorem dc_Pr_findAllDigits_141 : decode m_Pr_findAllDigits.2.1 141 = .ok (.ifCond .gt (-67), 3) := by decide +kernel
theorem dc_Pr_findAllDigits_144 : decode m_Pr_findAllDigits.2.1 144 = .ok (.aload_n 0, 1) := by decide +kernel
theorem dc_Pr_findAllDigits_145 : decode m_Pr_findAllDigits.2.1 145 = .ok (.iload 6, 2) := by decide +kernel
theorem dc_Pr_findAllDigits_147 : decode m_Pr_findAllDigits.2.1 147 = .ok (.invokevirtual 125, 3) := by decide +kernel
theorem dc_Pr_findAllDigits_150 : decode m_Pr_findAllDigits.2.1 150 = .ok (.aload_n 0, 1) := by decide +kernel
theorem dc_Pr_findAllDigits_151 : decode m_Pr_findAllDigits.2.1 151 = .ok (.aload_n 0, 1) := by decide +kernel
theorem dc_Pr_findAllDigits_152 : decode m_Pr_findAllDigits.2.1 152 = .ok (.getfield 46, 3) := by decide +kernel
theorem dc_Pr_findAllDigits_155 : decode m_Pr_findAllDigits.2.1 155 = .ok (.iload 5, 2) := by decide +kernel
theorem dc_Pr_findAllDigits_157 : decode m_Pr_findAllDigits.2.1 157 = .ok (.iadd, 1) := by decide +kernel
theorem dc_Pr_findAllDigits_158 : decode m_Pr_findAllDigits.2.1 158 = .ok (.putfield 42, 3) := by decide +kernel
theorem dc_Pr_findAllDigits_161 : decode m_Pr_findAllDigits.2.1 161 = .ok (.return_, 1) := by decide +kernel
theorem b_Pr_findAllDigits_0 {E : En_t} {d : Nat} {σ : S_t} {Q : Option Value → S_t → Prop} {x1 : Int64} {x3 : Int32}
    (h : (¬ (lg_cmp x1 (0 : Int64)) = 0 → CI E d m_JLo_numberOfTrailingZeros [.long x1] σ (fun r2 σ1 => JE E (d + 1) m_Pr_findAllDigits 15 [(0, pv E 59), (1, .long x1), (3, .int x3)] [.int r2] σ1 Q)) ∧ ((lg_cmp x1 (0 : Int64)) = 0 → JE E (d + 1) m_Pr_findAllDigits 15 [(0, pv E 59), (1, .long x1), (3, .int x3)] [.int (-x3)] σ Q)) :
    JE E (d + 1) m_Pr_findAllDigits 0 [(0, pv E 59), (1, .long x1), (3, .int x3)] [] σ Q := by
  refine J_lload_n dc_Pr_findAllDigits_0 (Eq.refl 1) 1 rfl ?_
  refine J_lconst (v := (0 : Int64)) dc_Pr_findAllDigits_1 (Eq.refl 2) rfl ?_
  refine J_lcmp dc_Pr_findAllDigits_2 (Eq.refl 3) ?_
  refine J_if_ne dc_Pr_findAllDigits_3 (Eq.refl 6) rfl (fun hc => ?_) (fun hc => ?_)
  · have h := h.1 hc
    refine J_lload_n dc_Pr_findAllDigits_11 (Eq.refl 12) 1 rfl ?_
    refine J_callSI (As := [.long x1]) (st := []) dc_Pr_findAllDigits_12 (Eq.refl 15) lk_Pr_140 mi_JLo_numberOfTrailingZeros (Nat.le_of_ble_eq_true rfl) rfl (Nat.le_of_ble_eq_true rfl) (CI.mono h (fun r2 σ1 h => ?_))
    exact h
  · have h := h.2 hc
    refine J_iload_n dc_Pr_findAllDigits_6 (Eq.refl 7) 2 rfl ?_
    refine J_ineg dc_Pr_findAllDigits_7 (Eq.refl 8) ?_
    refine J_goto dc_Pr_findAllDigits_8 rfl ?_
    exact h
theorem b_Pr_findAllDigits_15 {E : En_t} {d : Nat} {σ : S_t} {Q : Option Value → S_t → Prop} {x1 : Int64} {x3 : Int32} {s0 : Int32}
    (h : ∀ r1, r1 = mnI (0 : Int32) (x3 + s0) → ((¬ (lg_cmp x1 (0 : Int64)) = 0 → JE E (d + 1) m_Pr_findAllDigits 45 [(0, pv E 59), (3, .int x3), (4, .int s0), (5, .int r1)] [.long ((x1.toUInt64 >>> (s0.toInt64.toUInt64 &&& Int64.toUInt64 63)).toInt64), pv E 61] σ Q) ∧ ((lg_cmp x1 (0 : Int64)) = 0 → JE E (d + 1) m_Pr_findAllDigits 45 [(0, pv E 59), (3, .int x3), (4, .int s0), (5, .int r1)] [.long (0 : Int64), pv E 61] σ Q))) :
    JE E (d + 1) m_Pr_findAllDigits 15 [(0, pv E 59), (1, .long x1), (3, .int x3)] [.int s0] σ Q := by
  refine J_istore (L' := [(4, .int s0), (0, pv E 59), (1, .long x1), (3, .int x3)]) dc_Pr_findAllDigits_15 (Eq.refl 17) (Nat.le_of_ble_eq_true rfl) rfl ?_
  refine J_iconst (v := (0 : Int32)) dc_Pr_findAllDigits_17 (Eq.refl 18) rfl ?_
  refine J_iload_n dc_Pr_findAllDigits_18 (Eq.refl 19) 3 rfl ?_
  refine J_iload dc_Pr_findAllDigits_19 (Eq.refl 21) 0 rfl ?_
  refine J_iadd dc_Pr_findAllDigits_21 (Eq.refl 22) ?_
  refine J_mmin dc_Pr_findAllDigits_22 (Eq.refl 25) lk_Pr_143 (Nat.le_of_ble_eq_true rfl) (fun r1 er1 => ?_)
  have h := h r1 er1
  refine J_istore (L' := [(5, .int r1), (4, .int s0), (0, pv E 59), (1, .long x1), (3, .int x3)]) dc_Pr_findAllDigits_25 (Eq.refl 27) (Nat.le_of_ble_eq_true rfl) rfl ?_
  refine J_aload_n dc_Pr_findAllDigits_27 (Eq.refl 28) 2 rfl ?_
  refine J_getF (y := 61) dc_Pr_findAllDigits_28 (Eq.refl 31) fl_Pr_12 (Nat.le_of_ble_eq_true rfl) rfl (Or.inr rfl) rfl ?_
  refine J_lload_n dc_Pr_findAllDigits_31 (Eq.refl 32) 3 rfl ?_
  refine J_lconst (v := (0 : Int64)) dc_Pr_findAllDigits_32 (Eq.refl 33) rfl ?_
  refine J_lcmp dc_Pr_findAllDigits_33 (Eq.refl 34) ?_
  refine J_if_ne dc_Pr_findAllDigits_34 (Eq.refl 37) rfl (fun hc => ?_) (fun hc => ?_)
  · have h := h.1 hc
    refine J_lload_n dc_Pr_findAllDigits_41 (Eq.refl 42) 3 rfl ?_
    refine J_iload dc_Pr_findAllDigits_42 (Eq.refl 44) 1 rfl ?_
    refine J_lushr dc_Pr_findAllDigits_44 (Eq.refl 45) ?_
    refine J_sub [2, 4, 1, 0] rfl ?_
    exact h
  · have h := h.2 hc
    refine J_lconst (v := (0 : Int64)) dc_Pr_findAllDigits_37 (Eq.refl 38) rfl ?_
    refine J_goto dc_Pr_findAllDigits_38 rfl ?_
    refine J_sub [2, 4, 1, 0] rfl ?_
    exact h
theorem b_Pr_findAllDigits_45 {E : En_t} {d : Nat} {σ : S_t} {Q : Option Value → S_t → Prop} {x3 : Int32} {x4 : Int32} {x5 : Int32} {s0 : Int64} {q1 : Nat} (hk_q1 : kindP q1 = 5)
    (h : CV E d m_Bi_set [pv E q1, .long s0] σ (fun σ1 => CV E d m_Bi_shiftLeft [pv E 61, .int (x3 + x4)] σ1 (fun σ2 => CV E d m_Bi_timesFive [pv E 61, .int (-x5)] σ2 (fun σ3 => JE E (d + 1) m_Pr_findAllDigits 74 [(0, pv E 59), (5, .int x5), (6, .int (810 : Int32))] [] σ3 Q)))) :
    JE E (d + 1) m_Pr_findAllDigits 45 [(0, pv E 59), (3, .int x3), (4, .int x4), (5, .int x5)] [.long s0, pv E q1] σ Q := by
  refine J_callVV (As := [.long s0]) (st := []) dc_Pr_findAllDigits_45 (Eq.refl 48) lk_Pr_105 mi_Bi_set hk_q1 (Nat.le_of_ble_eq_true rfl) rfl rfl (Nat.le_of_ble_eq_true rfl) rfl (Nat.le_of_ble_eq_true rfl) (CV.mono h (fun σ1 h => ?_))
  refine J_aload_n dc_Pr_findAllDigits_48 (Eq.refl 49) 0 rfl ?_
  refine J_getF (y := 61) dc_Pr_findAllDigits_49 (Eq.refl 52) fl_Pr_12 (Nat.le_of_ble_eq_true rfl) rfl (Or.inr rfl) rfl ?_
  refine J_iload_n dc_Pr_findAllDigits_52 (Eq.refl 53) 1 rfl ?_
  refine J_iload dc_Pr_findAllDigits_53 (Eq.refl 55) 2 rfl ?_
  refine J_iadd dc_Pr_findAllDigits_55 (Eq.refl 56) ?_
  refine J_callVV (As := [.int (x3 + x4)]) (st := []) dc_Pr_findAllDigits_56 (Eq.refl 59) lk_Pr_109 mi_Bi_shiftLeft rfl (Nat.le_of_ble_eq_true rfl) rfl rfl (Nat.le_of_ble_eq_true rfl) rfl (Nat.le_of_ble_eq_true rfl) (CV.mono h (fun σ2 h => ?_))
  refine J_aload_n dc_Pr_findAllDigits_59 (Eq.refl 60) 0 rfl ?_
  refine J_getF (y := 61) dc_Pr_findAllDigits_60 (Eq.refl 63) fl_Pr_12 (Nat.le_of_ble_eq_true rfl) rfl (Or.inr rfl) rfl ?_
  refine J_iload dc_Pr_findAllDigits_63 (Eq.refl 65) 3 rfl ?_
  refine J_ineg dc_Pr_findAllDigits_65 (Eq.refl 66) ?_
  refine J_callVV (As := [.int (-x5)]) (st := []) dc_Pr_findAllDigits_66 (Eq.refl 69) lk_Pr_118 mi_Bi_timesFive rfl (Nat.le_of_ble_eq_true rfl) rfl rfl (Nat.le_of_ble_eq_true rfl) rfl (Nat.le_of_ble_eq_true rfl) (CV.mono h (fun σ3 h => ?_))
  refine J_sipush (v := (810 : Int32)) dc_Pr_findAllDigits_69 (Eq.refl 72) rfl ?_
  refine J_istore (L' := [(6, .int (810 : Int32)), (0, pv E 59), (3, .int x3), (4, .int x4), (5, .int x5)]) dc_Pr_findAllDigits_72 (Eq.refl 74) (Nat.le_of_ble_eq_true rfl) rfl ?_
  refine J_sub [1, 4, 0] rfl ?_
  exact h
theorem b_Pr_findAllDigits_74 {E : En_t} {d : Nat} {σ : S_t} {Q : Option Value → S_t → Prop} {x5 : Int32} {x6 : Int32}
    (h : CI E d m_Bi_divide [pv E 61, .int (1000000000 : Int32)] σ (fun r2 σ1 => JE E (d + 1) m_Pr_findAllDigits 88 [(0, pv E 59), (5, .int x5), (6, .int x6), (7, .int r2), (8, .int (0 : Int32))] [] σ1 Q)) :
    JE E (d + 1) m_Pr_findAllDigits 74 [(0, pv E 59), (5, .int x5), (6, .int x6)] [] σ Q := by
  refine J_aload_n dc_Pr_findAllDigits_74 (Eq.refl 75) 0 rfl ?_
  refine J_getF (y := 61) dc_Pr_findAllDigits_75 (Eq.refl 78) fl_Pr_12 (Nat.le_of_ble_eq_true rfl) rfl (Or.inr rfl) rfl ?_
  refine J_ldc dc_Pr_findAllDigits_78 (Eq.refl 80) kc_Pr_146 ?_
  refine J_callVI (As := [.int (1000000000 : Int32)]) (st := []) dc_Pr_findAllDigits_80 (Eq.refl 83) lk_Pr_147 mi_Bi_divide rfl (Nat.le_of_ble_eq_true rfl) rfl rfl (Nat.le_of_ble_eq_true rfl) rfl (Nat.le_of_ble_eq_true rfl) (CI.mono h (fun r2 σ1 h => ?_))
  refine J_istore (L' := [(7, .int r2), (0, pv E 59), (5, .int x5), (6, .int x6)]) dc_Pr_findAllDigits_83 (Eq.refl 85) (Nat.le_of_ble_eq_true rfl) rfl ?_
  refine J_iconst (v := (0 : Int32)) dc_Pr_findAllDigits_85 (Eq.refl 86) rfl ?_
  refine J_istore (L' := [(8, .int (0 : Int32)), (7, .int r2), (0, pv E 59), (5, .int x5), (6, .int x6)]) dc_Pr_findAllDigits_86 (Eq.refl 88) (Nat.le_of_ble_eq_true rfl) rfl ?_
  refine J_sub [2, 3, 4, 1, 0] rfl ?_
  exact h
theorem b_Pr_findAllDigits_88 {E : En_t} {d : Nat} {σ : S_t} {Q : Option Value → S_t → Prop} {x5 : Int32} {x6 : Int32} {x7 : Int32} {x8 : Int32}
    (h : ((9 : Int32) ≤ x8 → JE E (d + 1) m_Pr_findAllDigits 129 [(0, pv E 59), (5, .int x5), (6, .int x6)] [] σ Q) ∧ (¬ (9 : Int32) ≤ x8 → (x6 ≤ 0 → JE E (d + 1) m_Pr_findAllDigits 129 [(0, pv E 59), (5, .int x5), (6, .int x6)] [] σ Q) ∧ (¬ x6 ≤ 0 → vp_in (x6 + (-1 : Int32)) 810 ∧ (JE E (d + 1) m_Pr_findAllDigits 88 [(0, pv E 59), (5, .int x5), (6, .int (x6 + (-1 : Int32))), (7, .int (x7 / (10 : Int32))), (8, .int (x8 + (1 : Int32)))] [] (sI σ 60 (x6 + (-1 : Int32)).toNatClampNeg (vp_nar .byte ((x7 - x7 / (10 : Int32) * (10 : Int32)).toInt8.toInt32))) Q)))) :
    JE E (d + 1) m_Pr_findAllDigits 88 [(0, pv E 59), (5, .int x5), (6, .int x6), (7, .int x7), (8, .int x8)] [] σ Q := by
  refine J_iload dc_Pr_findAllDigits_88 (Eq.refl 90) 4 rfl ?_
  refine J_bipush (v := (9 : Int32)) dc_Pr_findAllDigits_90 (Eq.refl 92) rfl ?_
  refine J_icmp_ge dc_Pr_findAllDigits_92 (Eq.refl 95) rfl (fun hc => ?_) (fun hc => ?_)
  · have h := h.1 hc
    refine J_sub [0, 1, 2] rfl ?_
    exact h
  · have h := h.2 hc
    refine J_iload dc_Pr_findAllDigits_95 (Eq.refl 97) 2 rfl ?_
    refine J_if_le dc_Pr_findAllDigits_97 (Eq.refl 100) rfl (fun hc => ?_) (fun hc => ?_)
    · have h := h.1 hc
      refine J_sub [0, 1, 2] rfl ?_
      exact h
    · have h := h.2 hc
      refine J_iinc (v := x6 + (-1 : Int32)) (L' := [(6, .int (x6 + (-1 : Int32))), (0, pv E 59), (5, .int x5), (7, .int x7), (8, .int x8)]) dc_Pr_findAllDigits_100 (Eq.refl 103) 2 rfl rfl (Nat.le_of_ble_eq_true rfl) rfl ?_
      refine J_aload_n dc_Pr_findAllDigits_103 (Eq.refl 104) 1 rfl ?_
      refine J_getF (y := 60) dc_Pr_findAllDigits_104 (Eq.refl 107) fl_Pr_18 (Nat.le_of_ble_eq_true rfl) rfl (Or.inl rfl) rfl ?_
      refine J_iload dc_Pr_findAllDigits_107 (Eq.refl 109) 0 rfl ?_
      refine J_iload dc_Pr_findAllDigits_109 (Eq.refl 111) 3 rfl ?_
      refine J_bipush (v := (10 : Int32)) dc_Pr_findAllDigits_111 (Eq.refl 113) rfl ?_
      refine J_irem dc_Pr_findAllDigits_113 (Eq.refl 114) (by decide) ?_
      refine J_i2b dc_Pr_findAllDigits_114 (Eq.refl 115) ?_
      obtain ⟨hg, h⟩ := h
      refine J_bast dc_Pr_findAllDigits_115 (Eq.refl 116) rfl rfl hg ?_
      refine J_iload dc_Pr_findAllDigits_116 (Eq.refl 118) 3 rfl ?_
      refine J_bipush (v := (10 : Int32)) dc_Pr_findAllDigits_118 (Eq.refl 120) rfl ?_
      refine J_idiv dc_Pr_findAllDigits_120 (Eq.refl 121) (by decide) ?_
      refine J_istore (L' := [(7, .int (x7 / (10 : Int32))), (6, .int (x6 + (-1 : Int32))), (0, pv E 59), (5, .int x5), (8, .int x8)]) dc_Pr_findAllDigits_121 (Eq.refl 123) (Nat.le_of_ble_eq_true rfl) rfl ?_
      refine J_iinc (v := x8 + (1 : Int32)) (L' := [(8, .int (x8 + (1 : Int32))), (7, .int (x7 / (10 : Int32))), (6, .int (x6 + (-1 : Int32))), (0, pv E 59), (5, .int x5)]) dc_Pr_findAllDigits_123 (Eq.refl 126) 4 rfl rfl (Nat.le_of_ble_eq_true rfl) rfl ?_
      refine J_goto dc_Pr_findAllDigits_126 rfl ?_
      refine J_sub [3, 4, 2, 1, 0] rfl ?_
      exact h
theorem b_Pr_findAllDigits_129 {E : En_t} {d : Nat} {σ : S_t} {Q : Option Value → S_t → Prop} {x5 : Int32} {x6 : Int32}
    (h : CI E d m_Bi_isZero [pv E 61] σ (fun r2 σ1 => (¬ r2 = 0 → JE E (d + 1) m_Pr_findAllDigits 144 [(0, pv E 59), (5, .int x5), (6, .int x6)] [] σ1 Q) ∧ (r2 = 0 → (0 < x6 → JE E (d + 1) m_Pr_findAllDigits 74 [(0, pv E 59), (5, .int x5), (6, .int x6)] [] σ1 Q) ∧ (¬ 0 < x6 → JE E (d + 1) m_Pr_findAllDigits 144 [(0, pv E 59), (5, .int x5), (6, .int x6)] [] σ1 Q)))) :
    JE E (d + 1) m_Pr_findAllDigits 129 [(0, pv E 59), (5, .int x5), (6, .int x6)] [] σ Q := by
  refine J_aload_n dc_Pr_findAllDigits_129 (Eq.refl 130) 0 rfl ?_
  refine J_getF (y := 61) dc_Pr_findAllDigits_130 (Eq.refl 133) fl_Pr_12 (Nat.le_of_ble_eq_true rfl) rfl (Or.inr rfl) rfl ?_
  refine J_callVI (As := []) (st := []) dc_Pr_findAllDigits_133 (Eq.refl 136) lk_Pr_150 mi_Bi_isZero rfl (Nat.le_of_ble_eq_true rfl) rfl rfl (Nat.le_of_ble_eq_true rfl) rfl (Nat.le_of_ble_eq_true rfl) (CI.mono h (fun r2 σ1 h => ?_))
  refine J_if_ne dc_Pr_findAllDigits_136 (Eq.refl 139) rfl (fun hc => ?_) (fun hc => ?_)
  · have h := h.1 hc
    exact h
  · have h := h.2 hc
    refine J_iload dc_Pr_findAllDigits_139 (Eq.refl 141) 2 rfl ?_
    refine J_if_gt dc_Pr_findAllDigits_141 (Eq.refl 144) rfl (fun hc => ?_) (fun hc => ?_)
    · have h := h.1 hc
      exact h
    · have h := h.2 hc
      exact h
theorem b_Pr_findAllDigits_144 {E : En_t} {d : Nat} {σ : S_t} {Q : Option Value → S_t → Prop} {x5 : Int32} {x6 : Int32}
    (h : CV E d m_Pr_moveToFront [pv E 59, .int x6] σ (fun σ1 => Q none (sI σ1 59 3 ((gI σ1 59 2) + x5)))) :
    JE E (d + 1) m_Pr_findAllDigits 144 [(0, pv E 59), (5, .int x5), (6, .int x6)] [] σ Q := by
  refine J_aload_n dc_Pr_findAllDigits_144 (Eq.refl 145) 0 rfl ?_
  refine J_iload dc_Pr_findAllDigits_145 (Eq.refl 147) 2 rfl ?_
  refine J_callVV (As := [.int x6]) (st := []) dc_Pr_findAllDigits_147 (Eq.refl 150) lk_Pr_125 mi_Pr_moveToFront rfl (Nat.le_of_ble_eq_true rfl) rfl rfl (Nat.le_of_ble_eq_true rfl) rfl (Nat.le_of_ble_eq_true rfl) (CV.mono h (fun σ1 h => ?_))
  refine J_aload_n dc_Pr_findAllDigits_150 (Eq.refl 151) 0 rfl ?_
  refine J_aload_n dc_Pr_findAllDigits_151 (Eq.refl 152) 0 rfl ?_
  refine J_getI dc_Pr_findAllDigits_152 (Eq.refl 155) fl_Pr_46 (Nat.le_of_ble_eq_true rfl) rfl (Or.inl rfl) ?_
  refine J_iload dc_Pr_findAllDigits_155 (Eq.refl 157) 1 rfl ?_
  refine J_iadd dc_Pr_findAllDigits_157 (Eq.refl 158) ?_
  refine J_putI dc_Pr_findAllDigits_158 (Eq.refl 161) pl_Pr_42 (Nat.le_of_ble_eq_true rfl) rfl rfl ?_
  exact J_vret dc_Pr_findAllDigits_161 rfl h
theorem dc_Pr_cutTo_0 : decode m_Pr_cutTo.2.1 0 = .ok (.aload_n 0, 1) := by decide +kernel
theorem dc_Pr_cutTo_1 : decode m_Pr_cutTo.2.1 1 = .ok (.iload_n 1, 1) := by decide +kernel
theorem dc_Pr_cutTo_2 : decode m_Pr_cutTo.2.1 2 = .ok (.invokevirtual 154, 3) := by decide +kernel
theorem dc_Pr_cutTo_5 : decode m_Pr_cutTo.2.1 5 = .ok (.istore_n 2, 1) := by decide +kernel
theorem dc_Pr_cutTo_6 : decode m_Pr_cutTo.2.1 6 = .ok (.aload_n 0, 1) := by decide +kernel
theorem dc_Pr_cutTo_7 : decode m_Pr_cutTo.2.1 7 = .ok (.iload_n 1, 1) := by decide +kernel
theorem dc_Pr_cutTo_8 : decode m_Pr_cutTo.2.1 8 = .ok (.putfield 46, 3) := by decide +kernel
theorem dc_Pr_cutTo_11 : decode m_Pr_cutTo.2.1 11 = .ok (.iload_n 1, 1) := by decide +kernel
theorem dc_Pr_cutTo_12 : decode m_Pr_cutTo.2.1 12 = .ok (.iconst 1, 1) := by decide +kernel
theorem dc_Pr_cutTo_13 : decode m_Pr_cutTo.2.1 13 = .ok (.isub, 1) := by decide +kernel
theorem dc_Pr_cutTo_14 : decode m_Pr_cutTo.2.1 14 = .ok (.istore_n 3, 1) := by decide +kernel
theorem dc_Pr_cutTo_15 : decode m_Pr_cutTo.2.1 15 = .ok (.iload_n 3, 1) := by decide +kernel
theorem dc_Pr_cutTo_16 : decode m_Pr_cutTo.2.1 16 = .ok (.ifCond .lt 53, 3) := by decide +kernel
theorem dc_Pr_cutTo_19 : decode m_Pr_cutTo.2.1 19 = .ok (.iload_n 2, 1) := by decide +kernel
theorem dc_Pr_cutTo_20 : decode m_Pr_cutTo.2.1 20 = .ok (.ifCond .eq 49, 3) := by decide +kernel
theorem dc_Pr_cutTo_23 : decode m_Pr_cutTo.2.1 23 = .ok (.aload_n 0, 1) := by decide +kernel
theorem dc_Pr_cutTo_24 : decode m_Pr_cutTo.2.1 24 = .ok (.getfield 18, 3) := by decide +kernel
theorem dc_Pr_cutTo_27 : decode m_Pr_cutTo.2.1 27 = .ok (.iload_n 3, 1) := by decide +kernel
theorem dc_Pr_cutTo_28 : decode m_Pr_cutTo.2.1 28 = .ok (.baload, 1) := by decide +kernel
theorem dc_Pr_cutTo_29 : decode m_Pr_cutTo.2.1 29 = .ok (.bipush 9, 2) := by decide +kernel
theorem dc_Pr_cutTo_31 : decode m_Pr_cutTo.2.1 31 = .ok (.if_icmp .ne 7, 3) := by decide +kernel
theorem dc_Pr_cutTo_34 : decode m_Pr_cutTo.2.1 34 = .ok (.iconst 1, 1) := by decide +kernel
theorem dc_Pr_cutTo_35 : decode m_Pr_cutTo.2.1 35 = .ok (.goto 4, 3) := by decide +kernel
theorem dc_Pr_cutTo_38 : decode m_Pr_cutTo.2.1 38 = .ok (.iconst 0, 1) := by decide +kernel
theorem dc_Pr_cutTo_39 : decode m_Pr_cutTo.2.1 39 = .ok (.istore_n 2, 1) := by decide +kernel
theorem dc_Pr_cutTo_40 : decode m_Pr_cutTo.2.1 40 = .ok (.aload_n 0, 1) := by decide +kernel
theorem dc_Pr_cutTo_41 : decode m_Pr_cutTo.2.1 41 = .ok (.getfield 18, 3) := by decide +kernel
theorem dc_Pr_cutTo_44 : decode m_Pr_cutTo.2.1 44 = .ok (.iload_n 3, 1) := by decide +kernel
theorem dc_Pr_cutTo_45 : decode m_Pr_cutTo.2.1 45 = .ok (.iload_n 2, 1) := by decide +kernel
theorem dc_Pr_cutTo_46 : decode m_Pr_cutTo.2.1 46 = .ok (.ifCond .eq 7, 3) := by decide +kernel
theorem dc_Pr_cutTo_49 : decode m_Pr_cutTo.2.1 49 = .ok (.iconst 0, 1) := by decide +kernel
theorem dc_Pr_cutTo_50 : decode m_Pr_cutTo.2.1 50 = .ok (.goto 12, 3) := by decide +kernel
theorem dc_Pr_cutTo_53 : decode m_Pr_cutTo.2.1 53 = .ok (.aload_n 0, 1) := by decide +kernel
theorem dc_Pr_cutTo_54 : decode m_Pr_cutTo.2.1 54 = .ok (.getfield 18, 3) := by decide +kernel
theorem dc_Pr_cutTo_57 : decode m_Pr_cutTo.2.1 57 = .ok (.iload_n 3, 1) := by decide +kernel
theorem dc_Pr_cutTo_58 : decode m_Pr_cutTo.2.1 58 = .ok (.baload, 1) := by decide +kernel
theorem dc_Pr_cutTo_59 : decode m_Pr_cutTo.2.1 59 = .ok (.iconst 1, 1) := by decide +kernel
theorem dc_Pr_cutTo_60 : decode m_Pr_cutTo.2.1 60 = .ok (.iadd, 1) := by decide +kernel
theorem dc_Pr_cutTo_61 : decode m_Pr_cutTo.2.1 61 = .ok (.i2b, 1) := by decide +kernel
theorem dc_Pr_cutTo_62 : decode m_Pr_cutTo.2.1 62 = .ok (.bastore, 1) := by decide +kernel
theorem dc_Pr_cutTo_63 : decode m_Pr_cutTo.2.1 63 = .ok (.iinc 3 (-1), 3) := by decide +kernel
theorem dc_Pr_cutTo_66 : decode m_Pr_cutTo.2.1 66 = .ok (.goto (-51), 3) := by decide +kernel
theorem dc_Pr_cutTo_69 : decode m_Pr_cutTo.2.1 69 = .ok (.iload_n 2, 1) := by decide +kernel
theorem dc_Pr_cutTo_70 : decode m_Pr_cutTo.2.1 70 = .ok (.ifCond .eq 20, 3) := by decide +kernel
theorem dc_Pr_cutTo_73 : decode m_Pr_cutTo.2.1 73 = .ok (.aload_n 0, 1) := by decide +kernel
theorem dc_Pr_cutTo_74 : decode m_Pr_cutTo.2.1 74 = .ok (.getfield 18, 3) := by decide +kernel
theorem dc_Pr_cutTo_77 : decode m_Pr_cutTo.2.1 77 = .ok (.iconst 0, 1) := by decide +kernel
theorem dc_Pr_cutTo_78 : decode m_Pr_cutTo.2.1 78 = .ok (.iconst 1, 1) := by decide +kernel
theorem dc_Pr_cutTo_79 : decode m_Pr_cutTo.2.1 79 = .ok (.bastore, 1) := by decide +kernel
theorem dc_Pr_cutTo_80 : decode m_Pr_cutTo.2.1 80 = .ok (.aload_n 0, 1) := by decide +kernel
theorem dc_Pr_cutTo_81 : decode m_Pr_cutTo.2.1 81 = .ok (.dup, 1) := by decide +kernel
theorem dc_Pr_cutTo_82 : decode m_Pr_cutTo.2.1 82 = .ok (.getfield 42, 3) := by decide +kernel
theorem dc_Pr_cutTo_85 : decode m_Pr_cutTo.2.1 85 = .ok (.iconst 1, 1) := by decide +kernel
theorem dc_Pr_cutTo_86 : decode m_Pr_cutTo.2.1 86 = .ok (.iadd, 1) := by decide +kernel
theorem dc_Pr_cutTo_87 : decode m_Pr_cutTo.2.1 87 = .ok (.putfield 42, 3) := by decide +kernel
theorem dc_Pr_cutTo_90 : decode m_Pr_cutTo.2.1 90 = .ok (.return_, 1) := by decide +kernel
theorem b_Pr_cutTo_0 {E : En_t} {d : Nat} {σ : S_t} {Q : Option Value → S_t → Prop} {x1 : Int32}
    (h : CI E d m_Pr_isUpper [pv E 59, .int x1] σ (fun r2 σ1 => JE E (d + 1) m_Pr_cutTo 15 [(0, pv E 59), (2, .int r2), (3, .int (x1 - (1 : Int32)))] [] (sI σ1 59 2 x1) Q)) :
    JE E (d + 1) m_Pr_cutTo 0 [(0, pv E 59), (1, .int x1)] [] σ Q := by
  refine J_aload_n dc_Pr_cutTo_0 (Eq.refl 1) 0 rfl ?_
  refine J_iload_n dc_Pr_cutTo_1 (Eq.refl 2) 1 rfl ?_
  refine J_callVI (As := [.int x1]) (st := []) dc_Pr_cutTo_2 (Eq.refl 5) lk_Pr_154 mi_Pr_isUpper rfl (Nat.le_of_ble_eq_true rfl) rfl rfl (Nat.le_of_ble_eq_true rfl) rfl (Nat.le_of_ble_eq_true rfl) (CI.mono h (fun r2 σ1 h => ?_))
  refine J_istore_n (L' := [(2, .int r2), (0, pv E 59), (1, .int x1)]) dc_Pr_cutTo_5 (Eq.refl 6) (Nat.le_of_ble_eq_true rfl) rfl ?_
  refine J_aload_n dc_Pr_cutTo_6 (Eq.refl 7) 1 rfl ?_
  refine J_iload_n dc_Pr_cutTo_7 (Eq.refl 8) 2 rfl ?_
  refine J_putI dc_Pr_cutTo_8 (Eq.refl 11) pl_Pr_46 (Nat.le_of_ble_eq_true rfl) rfl rfl ?_
  refine J_iload_n dc_Pr_cutTo_11 (Eq.refl 12) 2 rfl ?_
  refine J_iconst (v := (1 : Int32)) dc_Pr_cutTo_12 (Eq.refl 13) rfl ?_
  refine J_isub dc_Pr_cutTo_13 (Eq.refl 14) ?_
  refine J_istore_n (L' := [(3, .int (x1 - (1 : Int32))), (2, .int r2), (0, pv E 59), (1, .int x1)]) dc_Pr_cutTo_14 (Eq.refl 15) (Nat.le_of_ble_eq_true rfl) rfl ?_
  refine J_sub [2, 1, 0] rfl ?_
  exact h
theorem b_Pr_cutTo_15 {E : En_t} {d : Nat} {σ : S_t} {Q : Option Value → S_t → Prop} {x2 : Int32} {x3 : Int32}
    (h : (x3 < 0 → JE E (d + 1) m_Pr_cutTo 69 [(0, pv E 59), (2, .int x2)] [] σ Q) ∧ (¬ x3 < 0 → (x2 = 0 → JE E (d + 1) m_Pr_cutTo 69 [(0, pv E 59), (2, .int x2)] [] σ Q) ∧ (¬ x2 = 0 → vp_in x3 810 ∧ ((¬ (gI σ 60 x3.toNatClampNeg) = (9 : Int32) → JE E (d + 1) m_Pr_cutTo 39 [(0, pv E 59), (3, .int x3)] [.int (0 : Int32)] σ Q) ∧ ((gI σ 60 x3.toNatClampNeg) = (9 : Int32) → JE E (d + 1) m_Pr_cutTo 39 [(0, pv E 59), (3, .int x3)] [.int (1 : Int32)] σ Q))))) :
    JE E (d + 1) m_Pr_cutTo 15 [(0, pv E 59), (2, .int x2), (3, .int x3)] [] σ Q := by
  refine J_iload_n dc_Pr_cutTo_15 (Eq.refl 16) 2 rfl ?_
  refine J_if_lt dc_Pr_cutTo_16 (Eq.refl 19) rfl (fun hc => ?_) (fun hc => ?_)
  · have h := h.1 hc
    refine J_sub [0, 1] rfl ?_
    exact h
  · have h := h.2 hc
    refine J_iload_n dc_Pr_cutTo_19 (Eq.refl 20) 1 rfl ?_
    refine J_if_eq dc_Pr_cutTo_20 (Eq.refl 23) rfl (fun hc => ?_) (fun hc => ?_)
    · have h := h.1 hc
      refine J_sub [0, 1] rfl ?_
      exact h
    · have h := h.2 hc
      refine J_aload_n dc_Pr_cutTo_23 (Eq.refl 24) 0 rfl ?_
      refine J_getF (y := 60) dc_Pr_cutTo_24 (Eq.refl 27) fl_Pr_18 (Nat.le_of_ble_eq_true rfl) rfl (Or.inl rfl) rfl ?_
      refine J_iload_n dc_Pr_cutTo_27 (Eq.refl 28) 2 rfl ?_
      obtain ⟨hg, h⟩ := h
      refine J_bald dc_Pr_cutTo_28 (Eq.refl 29) rfl rfl hg ?_
      refine J_bipush (v := (9 : Int32)) dc_Pr_cutTo_29 (Eq.refl 31) rfl ?_
      refine J_icmp_ne dc_Pr_cutTo_31 (Eq.refl 34) rfl (fun hc => ?_) (fun hc => ?_)
      · have h := h.1 hc
        refine J_iconst (v := (0 : Int32)) dc_Pr_cutTo_38 (Eq.refl 39) rfl ?_
        refine J_sub [0, 2] rfl ?_
        exact h
      · have h := h.2 hc
        refine J_iconst (v := (1 : Int32)) dc_Pr_cutTo_34 (Eq.refl 35) rfl ?_
        refine J_goto dc_Pr_cutTo_35 rfl ?_
        refine J_sub [0, 2] rfl ?_
        exact h
theorem b_Pr_cutTo_39 {E : En_t} {d : Nat} {σ : S_t} {Q : Option Value → S_t → Prop} {x3 : Int32} {s0 : Int32}
    (h : (s0 = 0 → vp_in x3 810 ∧ (JE E (d + 1) m_Pr_cutTo 62 [(0, pv E 59), (2, .int s0), (3, .int x3)] [.int (((gI σ 60 x3.toNatClampNeg) + (1 : Int32)).toInt8.toInt32), .int x3, pv E 60] σ Q)) ∧ (¬ s0 = 0 → JE E (d + 1) m_Pr_cutTo 62 [(0, pv E 59), (2, .int s0), (3, .int x3)] [.int (0 : Int32), .int x3, pv E 60] σ Q)) :
    JE E (d + 1) m_Pr_cutTo 39 [(0, pv E 59), (3, .int x3)] [.int s0] σ Q := by
  refine J_istore_n (L' := [(2, .int s0), (0, pv E 59), (3, .int x3)]) dc_Pr_cutTo_39 (Eq.refl 40) (Nat.le_of_ble_eq_true rfl) rfl ?_
  refine J_aload_n dc_Pr_cutTo_40 (Eq.refl 41) 1 rfl ?_
  refine J_getF (y := 60) dc_Pr_cutTo_41 (Eq.refl 44) fl_Pr_18 (Nat.le_of_ble_eq_true rfl) rfl (Or.inl rfl) rfl ?_
  refine J_iload_n dc_Pr_cutTo_44 (Eq.refl 45) 2 rfl ?_
  refine J_iload_n dc_Pr_cutTo_45 (Eq.refl 46) 0 rfl ?_
  refine J_if_eq dc_Pr_cutTo_46 (Eq.refl 49) rfl (fun hc => ?_) (fun hc => ?_)
  · have h := h.1 hc
    refine J_aload_n dc_Pr_cutTo_53 (Eq.refl 54) 1 rfl ?_
    refine J_getF (y := 60) dc_Pr_cutTo_54 (Eq.refl 57) fl_Pr_18 (Nat.le_of_ble_eq_true rfl) rfl (Or.inl rfl) rfl ?_
    refine J_iload_n dc_Pr_cutTo_57 (Eq.refl 58) 2 rfl ?_
    obtain ⟨hg, h⟩ := h
    refine J_bald dc_Pr_cutTo_58 (Eq.refl 59) rfl rfl hg ?_
    refine J_iconst (v := (1 : Int32)) dc_Pr_cutTo_59 (Eq.refl 60) rfl ?_
    refine J_iadd dc_Pr_cutTo_60 (Eq.refl 61) ?_
    refine J_i2b dc_Pr_cutTo_61 (Eq.refl 62) ?_
    refine J_sub [1, 0, 2] rfl ?_
    exact h
  · have h := h.2 hc
    refine J_iconst (v := (0 : Int32)) dc_Pr_cutTo_49 (Eq.refl 50) rfl ?_
    refine J_goto dc_Pr_cutTo_50 rfl ?_
    refine J_sub [1, 0, 2] rfl ?_
    exact h
theorem b_Pr_cutTo_62 {E : En_t} {d : Nat} {σ : S_t} {Q : Option Value → S_t → Prop} {x2 : Int32} {x3 : Int32} {s0 : Int32} {s1 : Int32} {q2 : Nat} (hk_q2 : kindP q2 = 21)
    (h : vp_in s1 (lenP q2) ∧ (JE E (d + 1) m_Pr_cutTo 15 [(0, pv E 59), (2, .int x2), (3, .int (x3 + (-1 : Int32)))] [] (sI σ q2 s1.toNatClampNeg (vp_nar .byte s0)) Q)) :
    JE E (d + 1) m_Pr_cutTo 62 [(0, pv E 59), (2, .int x2), (3, .int x3)] [.int s0, .int s1, pv E q2] σ Q := by
  obtain ⟨hg, h⟩ := h
  refine J_bast dc_Pr_cutTo_62 (Eq.refl 63) hk_q2 rfl hg ?_
  refine J_iinc (v := x3 + (-1 : Int32)) (L' := [(3, .int (x3 + (-1 : Int32))), (0, pv E 59), (2, .int x2)]) dc_Pr_cutTo_63 (Eq.refl 66) 2 rfl rfl (Nat.le_of_ble_eq_true rfl) rfl ?_
  refine J_goto dc_Pr_cutTo_66 rfl ?_
  refine J_sub [1, 2, 0] rfl ?_
  exact h
theorem b_Pr_cutTo_69 {E : En_t} {d : Nat} {σ : S_t} {Q : Option Value → S_t → Prop} {x2 : Int32}
    (h : (x2 = 0 → Q none σ) ∧ (¬ x2 = 0 → vp_in (0 : Int32) 810 ∧ (∀ σ1, σ1 = sI (sI σ 60 (0 : Int32).toNatClampNeg (vp_nar .byte (1 : Int32))) 59 3 ((gI (sI σ 60 (0 : Int32).toNatClampNeg (vp_nar .byte (1 : Int32))) 59 3) + (1 : Int32)) → (Q none σ1)))) :
    JE E (d + 1) m_Pr_cutTo 69 [(0, pv E 59), (2, .int x2)] [] σ Q := by
  refine J_iload_n dc_Pr_cutTo_69 (Eq.refl 70) 1 rfl ?_
  refine J_if_eq dc_Pr_cutTo_70 (Eq.refl 73) rfl (fun hc => ?_) (fun hc => ?_)
  · have h := h.1 hc
    exact J_vret dc_Pr_cutTo_90 rfl h
  · have h := h.2 hc
    refine J_aload_n dc_Pr_cutTo_73 (Eq.refl 74) 0 rfl ?_
    refine J_getF (y := 60) dc_Pr_cutTo_74 (Eq.refl 77) fl_Pr_18 (Nat.le_of_ble_eq_true rfl) rfl (Or.inl rfl) rfl ?_
    refine J_iconst (v := (0 : Int32)) dc_Pr_cutTo_77 (Eq.refl 78) rfl ?_
    refine J_iconst (v := (1 : Int32)) dc_Pr_cutTo_78 (Eq.refl 79) rfl ?_
    obtain ⟨hg, h⟩ := h
    refine J_bast dc_Pr_cutTo_79 (Eq.refl 80) rfl rfl hg ?_
    refine J_aload_n dc_Pr_cutTo_80 (Eq.refl 81) 0 rfl ?_
    refine J_dup dc_Pr_cutTo_81 (Eq.refl 82) rfl ?_
    refine J_getI dc_Pr_cutTo_82 (Eq.refl 85) fl_Pr_42 (Nat.le_of_ble_eq_true rfl) rfl (Or.inl rfl) ?_
    refine J_iconst (v := (1 : Int32)) dc_Pr_cutTo_85 (Eq.refl 86) rfl ?_
    refine J_iadd dc_Pr_cutTo_86 (Eq.refl 87) ?_
    refine J_putI dc_Pr_cutTo_87 (Eq.refl 90) pl_Pr_42 (Nat.le_of_ble_eq_true rfl) rfl rfl ?_
    refine J_st (fun σ1 eσ1 => ?_)
    have h := h σ1 eσ1
    exact J_vret dc_Pr_cutTo_90 rfl h
theorem dc_Pr_isUpper_0 : decode m_Pr_isUpper.2.1 0 = .ok (.aload_n 0, 1) := by decide +kernel
theorem dc_Pr_isUpper_1 : decode m_Pr_isUpper.2.1 1 = .ok (.getfield 18, 3) := by decide +kernel
theorem dc_Pr_isUpper_4 : decode m_Pr_isUpper.2.1 4 = .ok (.iload_n 1, 1) := by decide +kernel
theorem dc_Pr_isUpper_5 : decode m_Pr_isUpper.2.1 5 = .ok (.baload, 1) := by decide +kernel
theorem dc_Pr_isUpper_6 : decode m_Pr_isUpper.2.1 6 = .ok (.iconst 5, 1) := by decide +kernel
theorem dc_Pr_isUpper_7 : decode m_Pr_isUpper.2.1 7 = .ok (.if_icmp .eq 19, 3) := by decide +kernel
theorem dc_Pr_isUpper_10 : decode m_Pr_isUpper.2.1 10 = .ok (.aload_n 0, 1) := by decide +kernel
theorem dc_Pr_isUpper_11 : decode m_Pr_isUpper.2.1 11 = .ok (.getfield 18, 3) := by decide +kernel
theorem dc_Pr_isUpper_14 : decode m_Pr_isUpper.2.1 14 = .ok (.iload_n 1, 1) := by decide +kernel
theorem dc_Pr_isUpper_15 : decode m_Pr_isUpper.2.1 15 = .ok (.baload, 1) := by decide +kernel
theorem dc_Pr_isUpper_16 : decode m_Pr_isUpper.2.1 16 = .ok (.iconst 5, 1) := by decide +kernel
theorem dc_Pr_isUpper_17 : decode m_Pr_isUpper.2.1 17 = .ok (.if_icmp .le 7, 3) := by decide +kernel
theorem dc_Pr_isUpper_20 : decode m_Pr_isUpper.2.1 20 = .ok (.iconst 1, 1) := by decide +kernel
theorem dc_Pr_isUpper_21 : decode m_Pr_isUpper.2.1 21 = .ok (.goto 4, 3) := by decide +kernel
theorem dc_Pr_isUpper_24 : decode m_Pr_isUpper.2.1 24 = .ok (.iconst 0, 1) := by decide +kernel
theorem dc_Pr_isUpper_25 : decode m_Pr_isUpper.2.1 25 = .ok (.ireturn, 1) := by decide +kernel
theorem dc_Pr_isUpper_26 : decode m_Pr_isUpper.2.1 26 = .ok (.iload_n 1, 1) := by decide +kernel
theorem dc_Pr_isUpper_27 : decode m_Pr_isUpper.2.1 27 = .ok (.iconst 1, 1) := by decide +kernel
theorem dc_Pr_isUpper_28 : decode m_Pr_isUpper.2.1 28 = .ok (.iadd, 1) := by decide +kernel
theorem dc_Pr_isUpper_29 : decode m_Pr_isUpper.2.1 29 = .ok (.istore_n 2, 1) := by decide +kernel
theorem dc_Pr_isUpper_30 : decode m_Pr_isUpper.2.1 30 = .ok (.iload_n 2, 1) := by decide +kernel
theorem dc_Pr_isUpper_31 : decode m_Pr_isUpper.2.1 31 = .ok (.aload_n 0, 1) := by decide +kernel
theorem dc_Pr_isUpper_32 : decode m_Pr_isUpper.2.1 32 = .ok (.getfield 46, 3) := by decide +kernel
theorem dc_Pr_isUpper_35 : decode m_Pr_isUpper.2.1 35 = .ok (.if_icmp .ge 20, 3) := by decide +kernel
theorem dc_Pr_isUpper_38 : decode m_Pr_isUpper.2.1 38 = .ok (.aload_n 0, 1) := by decide +kernel
theorem dc_Pr_isUpper_39 : decode m_Pr_isUpper.2.1 39 = .ok (.getfield 18, 3) := by decide +kernel
theorem dc_Pr_isUpper_42 : decode m_Pr_isUpper.2.1 42 = .ok (.iload_n 2, 1) := by decide +kernel
theorem dc_Pr_isUpper_43 : decode m_Pr_isUpper.2.1 43 = .ok (.baload, 1) := by decide +kernel
theorem dc_Pr_isUpper_44 : decode m_Pr_isUpper.2.1 44 = .ok (.ifCond .eq 5, 3) := by decide +kernel
theorem dc_Pr_isUpper_47 : decode m_Pr_isUpper.2.1 47 = .ok (.iconst 1, 1) := by decide +kernel
theorem dc_Pr_isUpper_48 : decode m_Pr_isUpper.2.1 48 = .ok (.ireturn, 1) := by decide +kernel
theorem dc_Pr_isUpper_49 : decode m_Pr_isUpper.2.1 49 = .ok (.iinc 2 1, 3) := by decide +kernel
theorem dc_Pr_isUpper_52 : decode m_Pr_isUpper.2.1 52 = .ok (.goto (-22), 3) := by decide +kernel
theorem dc_Pr_isUpper_55 : decode m_Pr_isUpper.2.1 55 = .ok (.aload_n 0, 1) := by decide +kernel
theorem dc_Pr_isUpper_56 : decode m_Pr_isUpper.2.1 56 = .ok (.getfield 18, 3) := by decide +kernel
theorem dc_Pr_isUpper_59 : decode m_Pr_isUpper.2.1 59 = .ok (.iload_n 1, 1) := by decide +kernel
theorem dc_Pr_isUpper_60 : decode m_Pr_isUpper.2.1 60 = .ok (.iconst 1, 1) := by decide +kernel
theorem dc_Pr_isUpper_61 : decode m_Pr_isUpper.2.1 61 = .ok (.isub, 1) := by decide +kernel
theorem dc_Pr_isUpper_62 : decode m_Pr_isUpper.2.1 62 = .ok (.baload, 1) := by decide +kernel
theorem dc_Pr_isUpper_63 : decode m_Pr_isUpper.2.1 63 = .ok (.iconst 1, 1) := by decide +kernel
theorem dc_Pr_isUpper_64 : decode m_Pr_isUpper.2.1 64 = .ok (.iand, 1) := by decide +kernel
theorem dc_Pr_isUpper_65 : decode m_Pr_isUpper.2.1 65 = .ok (.ifCond .eq 7, 3) := by decide +kernel
theorem dc_Pr_isUpper_68 : decode m_Pr_isUpper.2.1 68 = .ok (.iconst 1, 1) := by decide +kernel
theorem dc_Pr_isUpper_69 : decode m_Pr_isUpper.2.1 69 = .ok (.goto 4, 3) := by decide +kernel
theorem dc_Pr_isUpper_72 : decode m_Pr_isUpper.2.1 72 = .ok (.iconst 0, 1) := by decide +kernel
theorem dc_Pr_isUpper_73 : decode m_Pr_isUpper.2.1 73 = .ok (.ireturn, 1) := by decide +kernel
theorem b_Pr_isUpper_0 {E : En_t} {d : Nat} {σ : S_t} {Q : Option Value → S_t → Prop} {x1 : Int32}
    (h : vp_in x1 810 ∧ (((gI σ 60 x1.toNatClampNeg) = (5 : Int32) → JE E d m_Pr_isUpper 30 [(0, pv E 59), (1, .int x1), (2, .int (x1 + (1 : Int32)))] [] σ Q) ∧ (¬ (gI σ 60 x1.toNatClampNeg) = (5 : Int32) → vp_in x1 810 ∧ (((gI σ 60 x1.toNatClampNeg) ≤ (5 : Int32) → Q (some (.int (0 : Int32))) σ) ∧ (¬ (gI σ 60 x1.toNatClampNeg) ≤ (5 : Int32) → Q (some (.int (1 : Int32))) σ))))) :
    JE E d m_Pr_isUpper 0 [(0, pv E 59), (1, .int x1)] [] σ Q := by
  refine J_aload_n dc_Pr_isUpper_0 (Eq.refl 1) 0 rfl ?_
  refine J_getF (y := 60) dc_Pr_isUpper_1 (Eq.refl 4) fl_Pr_18 (Nat.le_of_ble_eq_true rfl) rfl (Or.inl rfl) rfl ?_
  refine J_iload_n dc_Pr_isUpper_4 (Eq.refl 5) 1 rfl ?_
  obtain ⟨hg, h⟩ := h
  refine J_bald dc_Pr_isUpper_5 (Eq.refl 6) rfl rfl hg ?_
  refine J_iconst (v := (5 : Int32)) dc_Pr_isUpper_6 (Eq.refl 7) rfl ?_
  refine J_icmp_eq dc_Pr_isUpper_7 (Eq.refl 10) rfl (fun hc => ?_) (fun hc => ?_)
  · have h := h.1 hc
    refine J_iload_n dc_Pr_isUpper_26 (Eq.refl 27) 1 rfl ?_
    refine J_iconst (v := (1 : Int32)) dc_Pr_isUpper_27 (Eq.refl 28) rfl ?_
    refine J_iadd dc_Pr_isUpper_28 (Eq.refl 29) ?_
    refine J_istore_n (L' := [(2, .int (x1 + (1 : Int32))), (0, pv E 59), (1, .int x1)]) dc_Pr_isUpper_29 (Eq.refl 30) (Nat.le_of_ble_eq_true rfl) rfl ?_
    refine J_sub [1, 2, 0] rfl ?_
    exact h
  · have h := h.2 hc
    refine J_aload_n dc_Pr_isUpper_10 (Eq.refl 11) 0 rfl ?_
    refine J_getF (y := 60) dc_Pr_isUpper_11 (Eq.refl 14) fl_Pr_18 (Nat.le_of_ble_eq_true rfl) rfl (Or.inl rfl) rfl ?_
    refine J_iload_n dc_Pr_isUpper_14 (Eq.refl 15) 1 rfl ?_
    obtain ⟨hg, h⟩ := h
    refine J_bald dc_Pr_isUpper_15 (Eq.refl 16) rfl rfl hg ?_
    refine J_iconst (v := (5 : Int32)) dc_Pr_isUpper_16 (Eq.refl 17) rfl ?_
    refine J_icmp_le dc_Pr_isUpper_17 (Eq.refl 20) rfl (fun hc => ?_) (fun hc => ?_)
    · have h := h.1 hc
      refine J_iconst (v := (0 : Int32)) dc_Pr_isUpper_24 (Eq.refl 25) rfl ?_
      exact J_zret dc_Pr_isUpper_25 rfl rfl h
    · have h := h.2 hc
      refine J_iconst (v := (1 : Int32)) dc_Pr_isUpper_20 (Eq.refl 21) rfl ?_
      refine J_goto dc_Pr_isUpper_21 rfl ?_
      exact J_zret dc_Pr_isUpper_25 rfl rfl h
theorem b_Pr_isUpper_30 {E : En_t} {d : Nat} {σ : S_t} {Q : Option Value → S_t → Prop} {x1 : Int32} {x2 : Int32}
    (h : ((gI σ 59 2) ≤ x2 → vp_in (x1 - (1 : Int32)) 810 ∧ ((((gI σ 60 (x1 - (1 : Int32)).toNatClampNeg) &&& (1 : Int32)) = 0 → Q (some (.int (0 : Int32))) σ) ∧ (¬ ((gI σ 60 (x1 - (1 : Int32)).toNatClampNeg) &&& (1 : Int32)) = 0 → Q (some (.int (1 : Int32))) σ))) ∧ (¬ (gI σ 59 2) ≤ x2 → vp_in x2 810 ∧ (((gI σ 60 x2.toNatClampNeg) = 0 → JE E d m_Pr_isUpper 30 [(0, pv E 59), (1, .int x1), (2, .int (x2 + (1 : Int32)))] [] σ Q) ∧ (¬ (gI σ 60 x2.toNatClampNeg) = 0 → Q (some (.int (1 : Int32))) σ)))) :
    JE E d m_Pr_isUpper 30 [(0, pv E 59), (1, .int x1), (2, .int x2)] [] σ Q := by
  refine J_iload_n dc_Pr_isUpper_30 (Eq.refl 31) 2 rfl ?_
  refine J_aload_n dc_Pr_isUpper_31 (Eq.refl 32) 0 rfl ?_
  refine J_getI dc_Pr_isUpper_32 (Eq.refl 35) fl_Pr_46 (Nat.le_of_ble_eq_true rfl) rfl (Or.inl rfl) ?_
  refine J_icmp_ge dc_Pr_isUpper_35 (Eq.refl 38) rfl (fun hc => ?_) (fun hc => ?_)
  · have h := h.1 hc
    refine J_aload_n dc_Pr_isUpper_55 (Eq.refl 56) 0 rfl ?_
    refine J_getF (y := 60) dc_Pr_isUpper_56 (Eq.refl 59) fl_Pr_18 (Nat.le_of_ble_eq_true rfl) rfl (Or.inl rfl) rfl ?_
    refine J_iload_n dc_Pr_isUpper_59 (Eq.refl 60) 1 rfl ?_
    refine J_iconst (v := (1 : Int32)) dc_Pr_isUpper_60 (Eq.refl 61) rfl ?_
    refine J_isub dc_Pr_isUpper_61 (Eq.refl 62) ?_
    obtain ⟨hg, h⟩ := h
    refine J_bald dc_Pr_isUpper_62 (Eq.refl 63) rfl rfl hg ?_
    refine J_iconst (v := (1 : Int32)) dc_Pr_isUpper_63 (Eq.refl 64) rfl ?_
    refine J_iand dc_Pr_isUpper_64 (Eq.refl 65) ?_
    refine J_if_eq dc_Pr_isUpper_65 (Eq.refl 68) rfl (fun hc => ?_) (fun hc => ?_)
    · have h := h.1 hc
      refine J_iconst (v := (0 : Int32)) dc_Pr_isUpper_72 (Eq.refl 73) rfl ?_
      exact J_zret dc_Pr_isUpper_73 rfl rfl h
    · have h := h.2 hc
      refine J_iconst (v := (1 : Int32)) dc_Pr_isUpper_68 (Eq.refl 69) rfl ?_
      refine J_goto dc_Pr_isUpper_69 rfl ?_
      exact J_zret dc_Pr_isUpper_73 rfl rfl h
  · have h := h.2 hc
    refine J_aload_n dc_Pr_isUpper_38 (Eq.refl 39) 0 rfl ?_
    refine J_getF (y := 60) dc_Pr_isUpper_39 (Eq.refl 42) fl_Pr_18 (Nat.le_of_ble_eq_true rfl) rfl (Or.inl rfl) rfl ?_
    refine J_iload_n dc_Pr_isUpper_42 (Eq.refl 43) 2 rfl ?_
    obtain ⟨hg, h⟩ := h
    refine J_bald dc_Pr_isUpper_43 (Eq.refl 44) rfl rfl hg ?_
    refine J_if_eq dc_Pr_isUpper_44 (Eq.refl 47) rfl (fun hc => ?_) (fun hc => ?_)
    · have h := h.1 hc
      refine J_iinc (v := x2 + (1 : Int32)) (L' := [(2, .int (x2 + (1 : Int32))), (0, pv E 59), (1, .int x1)]) dc_Pr_isUpper_49 (Eq.refl 52) 2 rfl rfl (Nat.le_of_ble_eq_true rfl) rfl ?_
      refine J_goto dc_Pr_isUpper_52 rfl ?_
      refine J_sub [1, 2, 0] rfl ?_
      exact h
    · have h := h.2 hc
      refine J_iconst (v := (1 : Int32)) dc_Pr_isUpper_47 (Eq.refl 48) rfl ?_
      exact J_zret dc_Pr_isUpper_48 rfl rfl h
