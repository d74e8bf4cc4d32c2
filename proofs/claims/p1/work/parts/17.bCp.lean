theorem dc_Cp_feed_0 : decode m_Cp_feed.2.1 0 = .ok (.aload_n 0, 1) := by decide +kernel
theorem dc_Cp_feed_1 : decode m_Cp_feed.2.1 1 = .ok (.getfield 10, 3) := by decide +kernel
theorem dc_Cp_feed_4 : decode m_Cp_feed.2.1 4 = .ok (.getfield 84, 3) := by decide +kernel
theorem dc_Cp_feed_7 : decode m_Cp_feed.2.1 7 = .ok (.sipush 1980, 3) := by decide +kernel
theorem dc_Cp_feed_10 : decode m_Cp_feed.2.1 10 = .ok (.if_icmp .le 5, 3) := by decide +kernel
theorem dc_Cp_feed_13 : decode m_Cp_feed.2.1 13 = .ok (.iconst (-1), 1) := by decide +kernel
theorem dc_Cp_feed_14 : decode m_Cp_feed.2.1 14 = .ok (.ireturn, 1) := by decide +kernel
theorem dc_Cp_feed_15 : decode m_Cp_feed.2.1 15 = .ok (.aload_n 0, 1) := by decide +kernel
theorem dc_Cp_feed_16 : decode m_Cp_feed.2.1 16 = .ok (.getfield 10, 3) := by decide +kernel
theorem dc_Cp_feed_19 : decode m_Cp_feed.2.1 19 = .ok (.iload_n 1, 1) := by decide +kernel
theorem dc_Cp_feed_20 : decode m_Cp_feed.2.1 20 = .ok (.invokevirtual 87, 3) := by decide +kernel
theorem dc_Cp_feed_23 : decode m_Cp_feed.2.1 23 = .ok (.aload_n 0, 1) := by decide +kernel
theorem dc_Cp_feed_24 : decode m_Cp_feed.2.1 24 = .ok (.getfield 10, 3) := by decide +kernel
theorem dc_Cp_feed_27 : decode m_Cp_feed.2.1 27 = .ok (.iload_n 2, 1) := by decide +kernel
theorem dc_Cp_feed_28 : decode m_Cp_feed.2.1 28 = .ok (.invokevirtual 87, 3) := by decide +kernel
theorem dc_Cp_feed_31 : decode m_Cp_feed.2.1 31 = .ok (.aload_n 0, 1) := by decide +kernel
theorem dc_Cp_feed_32 : decode m_Cp_feed.2.1 32 = .ok (.getfield 10, 3) := by decide +kernel
theorem dc_Cp_feed_35 : decode m_Cp_feed.2.1 35 = .ok (.iload_n 3, 1) := by decide +kernel
theorem dc_Cp_feed_36 : decode m_Cp_feed.2.1 36 = .ok (.invokevirtual 87, 3) := by decide +kernel
theorem dc_Cp_feed_39 : decode m_Cp_feed.2.1 39 = .ok (.aload_n 0, 1) := by decide +kernel
theorem dc_Cp_feed_40 : decode m_Cp_feed.2.1 40 = .ok (.getfield 10, 3) := by decide +kernel
theorem dc_Cp_feed_43 : decode m_Cp_feed.2.1 43 = .ok (.iload 4, 2) := by decide +kernel
theorem dc_Cp_feed_45 : decode m_Cp_feed.2.1 45 = .ok (.invokevirtual 87, 3) := by decide +kernel
theorem dc_Cp_feed_48 : decode m_Cp_feed.2.1 48 = .ok (.aload_n 0, 1) := by decide +kernel
theorem dc_Cp_feed_49 : decode m_Cp_feed.2.1 49 = .ok (.getfield 10, 3) := by decide +kernel
theorem dc_Cp_feed_52 : decode m_Cp_feed.2.1 52 = .ok (.iload 5, 2) := by decide +kernel
theorem dc_Cp_feed_54 : decode m_Cp_feed.2.1 54 = .ok (.invokevirtual 87, 3) := by decide +kernel
theorem dc_Cp_feed_57 : decode m_Cp_feed.2.1 57 = .ok (.aload_n 0, 1) := by decide +kernel
theorem dc_Cp_feed_58 : decode m_Cp_feed.2.1 58 = .ok (.getfield 10, 3) := by decide +kernel
theorem dc_Cp_feed_61 : decode m_Cp_feed.2.1 61 = .ok (.getfield 84, 3) := by decide +kernel
theorem dc_Cp_feed_64 : decode m_Cp_feed.2.1 64 = .ok (.ireturn, 1) := by decide +kernel
theorem b_Cp_feed_0 {E : En_t} {d : Nat} {σ : S_t} {Q : Option Value → S_t → Prop} {x1 : Int32} {x2 : Int32} {x3 : Int32} {x4 : Int32} {x5 : Int32}
    (h : ((gI σ 51 1) ≤ (1980 : Int32) → CV E d m_Te_push [pv E 51, .int x1] σ (fun σ1 => CV E d m_Te_push [pv E 51, .int x2] σ1 (fun σ2 => CV E d m_Te_push [pv E 51, .int x3] σ2 (fun σ3 => CV E d m_Te_push [pv E 51, .int x4] σ3 (fun σ4 => CV E d m_Te_push [pv E 51, .int x5] σ4 (fun σ5 => Q (some (.int (gI σ5 51 1))) σ5)))))) ∧ (¬ (gI σ 51 1) ≤ (1980 : Int32) → Q (some (.int (-1 : Int32))) σ)) :
    JE E (d + 1) m_Cp_feed 0 [(0, pv E 49), (1, .int x1), (2, .int x2), (3, .int x3), (4, .int x4), (5, .int x5)] [] σ Q := by
  refine J_aload_n dc_Cp_feed_0 (Eq.refl 1) 0 rfl ?_
  refine J_getF (y := 51) dc_Cp_feed_1 (Eq.refl 4) fl_Cp_10 (Nat.le_of_ble_eq_true rfl) rfl (Or.inr rfl) rfl ?_
  refine J_getI dc_Cp_feed_4 (Eq.refl 7) fl_Cp_84 (Nat.le_of_ble_eq_true rfl) rfl (Or.inl rfl) ?_
  refine J_sipush (v := (1980 : Int32)) dc_Cp_feed_7 (Eq.refl 10) rfl ?_
  refine J_icmp_le dc_Cp_feed_10 (Eq.refl 13) rfl (fun hc => ?_) (fun hc => ?_)
  · have h := h.1 hc
    refine J_aload_n dc_Cp_feed_15 (Eq.refl 16) 0 rfl ?_
    refine J_getF (y := 51) dc_Cp_feed_16 (Eq.refl 19) fl_Cp_10 (Nat.le_of_ble_eq_true rfl) rfl (Or.inr rfl) rfl ?_
    refine J_iload_n dc_Cp_feed_19 (Eq.refl 20) 1 rfl ?_
    refine J_callVV (As := [.int x1]) (st := []) dc_Cp_feed_20 (Eq.refl 23) lk_Cp_87 mi_Te_push rfl (Nat.le_of_ble_eq_true rfl) rfl rfl (Nat.le_of_ble_eq_true rfl) rfl (Nat.le_of_ble_eq_true rfl) (CV.mono h (fun σ1 h => ?_))
    refine J_aload_n dc_Cp_feed_23 (Eq.refl 24) 0 rfl ?_
    refine J_getF (y := 51) dc_Cp_feed_24 (Eq.refl 27) fl_Cp_10 (Nat.le_of_ble_eq_true rfl) rfl (Or.inr rfl) rfl ?_
    refine J_iload_n dc_Cp_feed_27 (Eq.refl 28) 2 rfl ?_
    refine J_callVV (As := [.int x2]) (st := []) dc_Cp_feed_28 (Eq.refl 31) lk_Cp_87 mi_Te_push rfl (Nat.le_of_ble_eq_true rfl) rfl rfl (Nat.le_of_ble_eq_true rfl) rfl (Nat.le_of_ble_eq_true rfl) (CV.mono h (fun σ2 h => ?_))
    refine J_aload_n dc_Cp_feed_31 (Eq.refl 32) 0 rfl ?_
    refine J_getF (y := 51) dc_Cp_feed_32 (Eq.refl 35) fl_Cp_10 (Nat.le_of_ble_eq_true rfl) rfl (Or.inr rfl) rfl ?_
    refine J_iload_n dc_Cp_feed_35 (Eq.refl 36) 3 rfl ?_
    refine J_callVV (As := [.int x3]) (st := []) dc_Cp_feed_36 (Eq.refl 39) lk_Cp_87 mi_Te_push rfl (Nat.le_of_ble_eq_true rfl) rfl rfl (Nat.le_of_ble_eq_true rfl) rfl (Nat.le_of_ble_eq_true rfl) (CV.mono h (fun σ3 h => ?_))
    refine J_aload_n dc_Cp_feed_39 (Eq.refl 40) 0 rfl ?_
    refine J_getF (y := 51) dc_Cp_feed_40 (Eq.refl 43) fl_Cp_10 (Nat.le_of_ble_eq_true rfl) rfl (Or.inr rfl) rfl ?_
    refine J_iload dc_Cp_feed_43 (Eq.refl 45) 4 rfl ?_
    refine J_callVV (As := [.int x4]) (st := []) dc_Cp_feed_45 (Eq.refl 48) lk_Cp_87 mi_Te_push rfl (Nat.le_of_ble_eq_true rfl) rfl rfl (Nat.le_of_ble_eq_true rfl) rfl (Nat.le_of_ble_eq_true rfl) (CV.mono h (fun σ4 h => ?_))
    refine J_aload_n dc_Cp_feed_48 (Eq.refl 49) 0 rfl ?_
    refine J_getF (y := 51) dc_Cp_feed_49 (Eq.refl 52) fl_Cp_10 (Nat.le_of_ble_eq_true rfl) rfl (Or.inr rfl) rfl ?_
    refine J_iload dc_Cp_feed_52 (Eq.refl 54) 5 rfl ?_
    refine J_callVV (As := [.int x5]) (st := []) dc_Cp_feed_54 (Eq.refl 57) lk_Cp_87 mi_Te_push rfl (Nat.le_of_ble_eq_true rfl) rfl rfl (Nat.le_of_ble_eq_true rfl) rfl (Nat.le_of_ble_eq_true rfl) (CV.mono h (fun σ5 h => ?_))
    refine J_aload_n dc_Cp_feed_57 (Eq.refl 58) 0 rfl ?_
    refine J_getF (y := 51) dc_Cp_feed_58 (Eq.refl 61) fl_Cp_10 (Nat.le_of_ble_eq_true rfl) rfl (Or.inr rfl) rfl ?_
    refine J_getI dc_Cp_feed_61 (Eq.refl 64) fl_Cp_84 (Nat.le_of_ble_eq_true rfl) rfl (Or.inl rfl) ?_
    exact J_iret dc_Cp_feed_64 rfl h
  · have h := h.2 hc
    refine J_iconst (v := (-1 : Int32)) dc_Cp_feed_13 (Eq.refl 14) rfl ?_
    exact J_iret dc_Cp_feed_14 rfl h
theorem dc_Cp_end_0 : decode m_Cp_end.2.1 0 = .ok (.iload_n 1, 1) := by decide +kernel
theorem dc_Cp_end_1 : decode m_Cp_end.2.1 1 = .ok (.ifCond .lt 14, 3) := by decide +kernel
theorem dc_Cp_end_4 : decode m_Cp_end.2.1 4 = .ok (.iload_n 1, 1) := by decide +kernel
theorem dc_Cp_end_5 : decode m_Cp_end.2.1 5 = .ok (.aload_n 0, 1) := by decide +kernel
theorem dc_Cp_end_6 : decode m_Cp_end.2.1 6 = .ok (.getfield 10, 3) := by decide +kernel
theorem dc_Cp_end_9 : decode m_Cp_end.2.1 9 = .ok (.getfield 84, 3) := by decide +kernel
theorem dc_Cp_end_12 : decode m_Cp_end.2.1 12 = .ok (.if_icmp .le 5, 3) := by decide +kernel
theorem dc_Cp_end_15 : decode m_Cp_end.2.1 15 = .ok (.iconst (-1), 1) := by decide +kernel
theorem dc_Cp_end_16 : decode m_Cp_end.2.1 16 = .ok (.ireturn, 1) := by decide +kernel
theorem dc_Cp_end_17 : decode m_Cp_end.2.1 17 = .ok (.aload_n 0, 1) := by decide +kernel
theorem dc_Cp_end_18 : decode m_Cp_end.2.1 18 = .ok (.getfield 10, 3) := by decide +kernel
theorem dc_Cp_end_21 : decode m_Cp_end.2.1 21 = .ok (.iload_n 1, 1) := by decide +kernel
theorem dc_Cp_end_22 : decode m_Cp_end.2.1 22 = .ok (.putfield 84, 3) := by decide +kernel
theorem dc_Cp_end_25 : decode m_Cp_end.2.1 25 = .ok (.iload_n 1, 1) := by decide +kernel
theorem dc_Cp_end_26 : decode m_Cp_end.2.1 26 = .ok (.ireturn, 1) := by decide +kernel
theorem b_Cp_end_0 {E : En_t} {d : Nat} {σ : S_t} {Q : Option Value → S_t → Prop} {x1 : Int32}
    (h : (x1 < 0 → Q (some (.int (-1 : Int32))) σ) ∧ (¬ x1 < 0 → (x1 ≤ (gI σ 51 1) → Q (some (.int x1)) (sI σ 51 1 x1)) ∧ (¬ x1 ≤ (gI σ 51 1) → Q (some (.int (-1 : Int32))) σ))) :
    JE E d m_Cp_end 0 [(0, pv E 49), (1, .int x1)] [] σ Q := by
  refine J_iload_n dc_Cp_end_0 (Eq.refl 1) 1 rfl ?_
  refine J_if_lt dc_Cp_end_1 (Eq.refl 4) rfl (fun hc => ?_) (fun hc => ?_)
  · have h := h.1 hc
    refine J_iconst (v := (-1 : Int32)) dc_Cp_end_15 (Eq.refl 16) rfl ?_
    exact J_iret dc_Cp_end_16 rfl h
  · have h := h.2 hc
    refine J_iload_n dc_Cp_end_4 (Eq.refl 5) 1 rfl ?_
    refine J_aload_n dc_Cp_end_5 (Eq.refl 6) 0 rfl ?_
    refine J_getF (y := 51) dc_Cp_end_6 (Eq.refl 9) fl_Cp_10 (Nat.le_of_ble_eq_true rfl) rfl (Or.inr rfl) rfl ?_
    refine J_getI dc_Cp_end_9 (Eq.refl 12) fl_Cp_84 (Nat.le_of_ble_eq_true rfl) rfl (Or.inl rfl) ?_
    refine J_icmp_le dc_Cp_end_12 (Eq.refl 15) rfl (fun hc => ?_) (fun hc => ?_)
    · have h := h.1 hc
      refine J_aload_n dc_Cp_end_17 (Eq.refl 18) 0 rfl ?_
      refine J_getF (y := 51) dc_Cp_end_18 (Eq.refl 21) fl_Cp_10 (Nat.le_of_ble_eq_true rfl) rfl (Or.inr rfl) rfl ?_
      refine J_iload_n dc_Cp_end_21 (Eq.refl 22) 1 rfl ?_
      refine J_putI dc_Cp_end_22 (Eq.refl 25) pl_Cp_84 (Nat.le_of_ble_eq_true rfl) rfl rfl ?_
      refine J_iload_n dc_Cp_end_25 (Eq.refl 26) 1 rfl ?_
      exact J_iret dc_Cp_end_26 rfl h
    · have h := h.2 hc
      refine J_iconst (v := (-1 : Int32)) dc_Cp_end_15 (Eq.refl 16) rfl ?_
      exact J_iret dc_Cp_end_16 rfl h
theorem dc_Cp_numeral_0 : decode m_Cp_numeral.2.1 0 = .ok (.aload_n 0, 1) := by decide +kernel
theorem dc_Cp_numeral_1 : decode m_Cp_numeral.2.1 1 = .ok (.getfield 10, 3) := by decide +kernel
theorem dc_Cp_numeral_4 : decode m_Cp_numeral.2.1 4 = .ok (.iconst 0, 1) := by decide +kernel
theorem dc_Cp_numeral_5 : decode m_Cp_numeral.2.1 5 = .ok (.putfield 108, 3) := by decide +kernel
theorem dc_Cp_numeral_8 : decode m_Cp_numeral.2.1 8 = .ok (.aload_n 0, 1) := by decide +kernel
theorem dc_Cp_numeral_9 : decode m_Cp_numeral.2.1 9 = .ok (.getfield 26, 3) := by decide +kernel
theorem dc_Cp_numeral_12 : decode m_Cp_numeral.2.1 12 = .ok (.aload_n 0, 1) := by decide +kernel
theorem dc_Cp_numeral_13 : decode m_Cp_numeral.2.1 13 = .ok (.getfield 10, 3) := by decide +kernel
theorem dc_Cp_numeral_16 : decode m_Cp_numeral.2.1 16 = .ok (.invokevirtual 111, 3) := by decide +kernel
theorem dc_Cp_numeral_19 : decode m_Cp_numeral.2.1 19 = .ok (.ifCond .eq 24, 3) := by decide +kernel
theorem dc_Cp_numeral_22 : decode m_Cp_numeral.2.1 22 = .ok (.aload_n 0, 1) := by decide +kernel
theorem dc_Cp_numeral_23 : decode m_Cp_numeral.2.1 23 = .ok (.getfield 10, 3) := by decide +kernel
theorem dc_Cp_numeral_26 : decode m_Cp_numeral.2.1 26 = .ok (.getfield 108, 3) := by decide +kernel
theorem dc_Cp_numeral_29 : decode m_Cp_numeral.2.1 29 = .ok (.aload_n 0, 1) := by decide +kernel
theorem dc_Cp_numeral_30 : decode m_Cp_numeral.2.1 30 = .ok (.getfield 10, 3) := by decide +kernel
theorem dc_Cp_numeral_33 : decode m_Cp_numeral.2.1 33 = .ok (.getfield 84, 3) := by decide +kernel
theorem dc_Cp_numeral_36 : decode m_Cp_numeral.2.1 36 = .ok (.if_icmp .ne 7, 3) := by decide +kernel
theorem dc_Cp_numeral_39 : decode m_Cp_numeral.2.1 39 = .ok (.iconst 1, 1) := by decide +kernel
theorem dc_Cp_numeral_40 : decode m_Cp_numeral.2.1 40 = .ok (.goto 4, 3) := by decide +kernel
theorem dc_Cp_numeral_43 : decode m_Cp_numeral.2.1 43 = .ok (.iconst 0, 1) := by decide +kernel
theorem dc_Cp_numeral_44 : decode m_Cp_numeral.2.1 44 = .ok (.istore_n 1, 1) := by decide +kernel
theorem dc_Cp_numeral_45 : decode m_Cp_numeral.2.1 45 = .ok (.aload_n 0, 1) := by decide +kernel
theorem dc_Cp_numeral_46 : decode m_Cp_numeral.2.1 46 = .ok (.getfield 10, 3) := by decide +kernel
theorem dc_Cp_numeral_49 : decode m_Cp_numeral.2.1 49 = .ok (.invokevirtual 115, 3) := by decide +kernel
theorem dc_Cp_numeral_52 : decode m_Cp_numeral.2.1 52 = .ok (.iload_n 1, 1) := by decide +kernel
theorem dc_Cp_numeral_53 : decode m_Cp_numeral.2.1 53 = .ok (.ifCond .eq 13, 3) := by decide +kernel
theorem dc_Cp_numeral_56 : decode m_Cp_numeral.2.1 56 = .ok (.aload_n 0, 1) := by decide +kernel
theorem dc_Cp_numeral_57 : decode m_Cp_numeral.2.1 57 = .ok (.getfield 26, 3) := by decide +kernel
theorem dc_Cp_numeral_60 : decode m_Cp_numeral.2.1 60 = .ok (.invokevirtual 118, 3) := by decide +kernel
theorem dc_Cp_numeral_63 : decode m_Cp_numeral.2.1 63 = .ok (.goto 6, 3) := by decide +kernel
theorem dc_Cp_numeral_66 : decode m_Cp_numeral.2.1 66 = .ok (.ldc2_w 122, 3) := by decide +kernel
theorem dc_Cp_numeral_69 : decode m_Cp_numeral.2.1 69 = .ok (.lreturn, 1) := by decide +kernel
theorem b_Cp_numeral_0 {E : En_t} {d : Nat} {σ : S_t} {Q : Option Value → S_t → Prop}
    (h : CI E d m_Nu_scan [pv E 55, pv E 51] (sI σ 51 2 (0 : Int32)) (fun r2 σ1 => (r2 = 0 → JE E (d + 1) m_Cp_numeral 43 [(0, pv E 49)] [] σ1 Q) ∧ (¬ r2 = 0 → (¬ (gI σ1 51 2) = (gI σ1 51 1) → JE E (d + 1) m_Cp_numeral 43 [(0, pv E 49)] [] σ1 Q) ∧ ((gI σ1 51 2) = (gI σ1 51 1) → JE E (d + 1) m_Cp_numeral 44 [(0, pv E 49)] [.int (1 : Int32)] σ1 Q)))) :
    JE E (d + 1) m_Cp_numeral 0 [(0, pv E 49)] [] σ Q := by
  refine J_aload_n dc_Cp_numeral_0 (Eq.refl 1) 0 rfl ?_
  refine J_getF (y := 51) dc_Cp_numeral_1 (Eq.refl 4) fl_Cp_10 (Nat.le_of_ble_eq_true rfl) rfl (Or.inr rfl) rfl ?_
  refine J_iconst (v := (0 : Int32)) dc_Cp_numeral_4 (Eq.refl 5) rfl ?_
  refine J_putI dc_Cp_numeral_5 (Eq.refl 8) pl_Cp_108 (Nat.le_of_ble_eq_true rfl) rfl rfl ?_
  refine J_aload_n dc_Cp_numeral_8 (Eq.refl 9) 0 rfl ?_
  refine J_getF (y := 55) dc_Cp_numeral_9 (Eq.refl 12) fl_Cp_26 (Nat.le_of_ble_eq_true rfl) rfl (Or.inr rfl) rfl ?_
  refine J_aload_n dc_Cp_numeral_12 (Eq.refl 13) 0 rfl ?_
  refine J_getF (y := 51) dc_Cp_numeral_13 (Eq.refl 16) fl_Cp_10 (Nat.le_of_ble_eq_true rfl) rfl (Or.inr rfl) rfl ?_
  refine J_callVI (As := [pv E 51]) (st := []) dc_Cp_numeral_16 (Eq.refl 19) lk_Cp_111 mi_Nu_scan rfl (Nat.le_of_ble_eq_true rfl) rfl rfl (Nat.le_of_ble_eq_true rfl) rfl (Nat.le_of_ble_eq_true rfl) (CI.mono h (fun r2 σ1 h => ?_))
  refine J_if_eq dc_Cp_numeral_19 (Eq.refl 22) rfl (fun hc => ?_) (fun hc => ?_)
  · have h := h.1 hc
    exact h
  · have h := h.2 hc
    refine J_aload_n dc_Cp_numeral_22 (Eq.refl 23) 0 rfl ?_
    refine J_getF (y := 51) dc_Cp_numeral_23 (Eq.refl 26) fl_Cp_10 (Nat.le_of_ble_eq_true rfl) rfl (Or.inr rfl) rfl ?_
    refine J_getI dc_Cp_numeral_26 (Eq.refl 29) fl_Cp_108 (Nat.le_of_ble_eq_true rfl) rfl (Or.inl rfl) ?_
    refine J_aload_n dc_Cp_numeral_29 (Eq.refl 30) 0 rfl ?_
    refine J_getF (y := 51) dc_Cp_numeral_30 (Eq.refl 33) fl_Cp_10 (Nat.le_of_ble_eq_true rfl) rfl (Or.inr rfl) rfl ?_
    refine J_getI dc_Cp_numeral_33 (Eq.refl 36) fl_Cp_84 (Nat.le_of_ble_eq_true rfl) rfl (Or.inl rfl) ?_
    refine J_icmp_ne dc_Cp_numeral_36 (Eq.refl 39) rfl (fun hc => ?_) (fun hc => ?_)
    · have h := h.1 hc
      exact h
    · have h := h.2 hc
      refine J_iconst (v := (1 : Int32)) dc_Cp_numeral_39 (Eq.refl 40) rfl ?_
      refine J_goto dc_Cp_numeral_40 rfl ?_
      exact h
theorem b_Cp_numeral_43 {E : En_t} {d : Nat} {σ : S_t} {Q : Option Value → S_t → Prop}
    (h : JE E (d + 1) m_Cp_numeral 44 [(0, pv E 49)] [.int (0 : Int32)] σ Q) :
    JE E (d + 1) m_Cp_numeral 43 [(0, pv E 49)] [] σ Q := by
  refine J_iconst (v := (0 : Int32)) dc_Cp_numeral_43 (Eq.refl 44) rfl ?_
  exact h
theorem b_Cp_numeral_44 {E : En_t} {d : Nat} {σ : S_t} {Q : Option Value → S_t → Prop} {s0 : Int32}
    (h : CV E d m_Te_clear [pv E 51] σ (fun σ1 => (s0 = 0 → Q (some (.long (9221120237041090560 : Int64))) σ1) ∧ (¬ s0 = 0 → CL E d m_Nu_toBits [pv E 55] σ1 (fun r3 σ2 => Q (some (.long r3)) σ2)))) :
    JE E (d + 1) m_Cp_numeral 44 [(0, pv E 49)] [.int s0] σ Q := by
  refine J_istore_n (L' := [(1, .int s0), (0, pv E 49)]) dc_Cp_numeral_44 (Eq.refl 45) (Nat.le_of_ble_eq_true rfl) rfl ?_
  refine J_aload_n dc_Cp_numeral_45 (Eq.refl 46) 1 rfl ?_
  refine J_getF (y := 51) dc_Cp_numeral_46 (Eq.refl 49) fl_Cp_10 (Nat.le_of_ble_eq_true rfl) rfl (Or.inr rfl) rfl ?_
  refine J_callVV (As := []) (st := []) dc_Cp_numeral_49 (Eq.refl 52) lk_Cp_115 mi_Te_clear rfl (Nat.le_of_ble_eq_true rfl) rfl rfl (Nat.le_of_ble_eq_true rfl) rfl (Nat.le_of_ble_eq_true rfl) (CV.mono h (fun σ1 h => ?_))
  refine J_iload_n dc_Cp_numeral_52 (Eq.refl 53) 0 rfl ?_
  refine J_if_eq dc_Cp_numeral_53 (Eq.refl 56) rfl (fun hc => ?_) (fun hc => ?_)
  · have h := h.1 hc
    refine J_ldc2 dc_Cp_numeral_66 (Eq.refl 69) kc_Cp_122 ?_
    exact J_lret dc_Cp_numeral_69 rfl h
  · have h := h.2 hc
    refine J_aload_n dc_Cp_numeral_56 (Eq.refl 57) 1 rfl ?_
    refine J_getF (y := 55) dc_Cp_numeral_57 (Eq.refl 60) fl_Cp_26 (Nat.le_of_ble_eq_true rfl) rfl (Or.inr rfl) rfl ?_
    refine J_callVL (As := []) (st := []) dc_Cp_numeral_60 (Eq.refl 63) lk_Cp_118 mi_Nu_toBits rfl (Nat.le_of_ble_eq_true rfl) rfl rfl (Nat.le_of_ble_eq_true rfl) rfl (Nat.le_of_ble_eq_true rfl) (CL.mono h (fun r3 σ2 h => ?_))
    refine J_goto dc_Cp_numeral_63 rfl ?_
    exact J_lret dc_Cp_numeral_69 rfl h
theorem dc_Cp_print_0 : decode m_Cp_print.2.1 0 = .ok (.lload_n 1, 1) := by decide +kernel
theorem dc_Cp_print_1 : decode m_Cp_print.2.1 1 = .ok (.invokestatic 124, 3) := by decide +kernel
theorem dc_Cp_print_4 : decode m_Cp_print.2.1 4 = .ok (.ifCond .ne 5, 3) := by decide +kernel
theorem dc_Cp_print_7 : decode m_Cp_print.2.1 7 = .ok (.iconst (-1), 1) := by decide +kernel
theorem dc_Cp_print_8 : decode m_Cp_print.2.1 8 = .ok (.ireturn, 1) := by decide +kernel
theorem dc_Cp_print_9 : decode m_Cp_print.2.1 9 = .ok (.aload_n 0, 1) := by decide +kernel
theorem dc_Cp_print_10 : decode m_Cp_print.2.1 10 = .ok (.getfield 19, 3) := by decide +kernel
theorem dc_Cp_print_13 : decode m_Cp_print.2.1 13 = .ok (.invokevirtual 128, 3) := by decide +kernel
theorem dc_Cp_print_16 : decode m_Cp_print.2.1 16 = .ok (.aload_n 0, 1) := by decide +kernel
theorem dc_Cp_print_17 : decode m_Cp_print.2.1 17 = .ok (.getfield 33, 3) := by decide +kernel
theorem dc_Cp_print_20 : decode m_Cp_print.2.1 20 = .ok (.lload_n 1, 1) := by decide +kernel
theorem dc_Cp_print_21 : decode m_Cp_print.2.1 21 = .ok (.aload_n 0, 1) := by decide +kernel
theorem dc_Cp_print_22 : decode m_Cp_print.2.1 22 = .ok (.getfield 19, 3) := by decide +kernel
theorem dc_Cp_print_25 : decode m_Cp_print.2.1 25 = .ok (.invokevirtual 129, 3) := by decide +kernel
theorem dc_Cp_print_28 : decode m_Cp_print.2.1 28 = .ok (.aload_n 0, 1) := by decide +kernel
theorem dc_Cp_print_29 : decode m_Cp_print.2.1 29 = .ok (.getfield 19, 3) := by decide +kernel
theorem dc_Cp_print_32 : decode m_Cp_print.2.1 32 = .ok (.getfield 133, 3) := by decide +kernel
theorem dc_Cp_print_35 : decode m_Cp_print.2.1 35 = .ok (.ireturn, 1) := by decide +kernel
theorem b_Cp_print_0 {E : En_t} {d : Nat} {σ : S_t} {Q : Option Value → S_t → Prop} {x1 : Int64}
    (h : CI E d m_Cp_isNumber [.long x1] σ (fun r2 σ1 => (¬ r2 = 0 → CV E d m_Ou_clear [pv E 53] σ1 (fun σ3 => CV E d m_Pr_putShortest [pv E 59, .long x1, pv E 53] σ3 (fun σ4 => Q (some (.int (gI σ4 53 1))) σ4))) ∧ (r2 = 0 → Q (some (.int (-1 : Int32))) σ1))) :
    JE E (d + 1) m_Cp_print 0 [(0, pv E 49), (1, .long x1)] [] σ Q := by
  refine J_lload_n dc_Cp_print_0 (Eq.refl 1) 1 rfl ?_
  refine J_callSI (As := [.long x1]) (st := []) dc_Cp_print_1 (Eq.refl 4) lk_Cp_124 mi_Cp_isNumber (Nat.le_of_ble_eq_true rfl) rfl (Nat.le_of_ble_eq_true rfl) (CI.mono h (fun r2 σ1 h => ?_))
  refine J_if_ne dc_Cp_print_4 (Eq.refl 7) rfl (fun hc => ?_) (fun hc => ?_)
  · have h := h.1 hc
    refine J_aload_n dc_Cp_print_9 (Eq.refl 10) 0 rfl ?_
    refine J_getF (y := 53) dc_Cp_print_10 (Eq.refl 13) fl_Cp_19 (Nat.le_of_ble_eq_true rfl) rfl (Or.inr rfl) rfl ?_
    refine J_callVV (As := []) (st := []) dc_Cp_print_13 (Eq.refl 16) lk_Cp_128 mi_Ou_clear rfl (Nat.le_of_ble_eq_true rfl) rfl rfl (Nat.le_of_ble_eq_true rfl) rfl (Nat.le_of_ble_eq_true rfl) (CV.mono h (fun σ3 h => ?_))
    refine J_aload_n dc_Cp_print_16 (Eq.refl 17) 0 rfl ?_
    refine J_getF (y := 59) dc_Cp_print_17 (Eq.refl 20) fl_Cp_33 (Nat.le_of_ble_eq_true rfl) rfl (Or.inr rfl) rfl ?_
    refine J_lload_n dc_Cp_print_20 (Eq.refl 21) 1 rfl ?_
    refine J_aload_n dc_Cp_print_21 (Eq.refl 22) 0 rfl ?_
    refine J_getF (y := 53) dc_Cp_print_22 (Eq.refl 25) fl_Cp_19 (Nat.le_of_ble_eq_true rfl) rfl (Or.inr rfl) rfl ?_
    refine J_callVV (As := [.long x1, pv E 53]) (st := []) dc_Cp_print_25 (Eq.refl 28) lk_Cp_129 mi_Pr_putShortest rfl (Nat.le_of_ble_eq_true rfl) rfl rfl (Nat.le_of_ble_eq_true rfl) rfl (Nat.le_of_ble_eq_true rfl) (CV.mono h (fun σ4 h => ?_))
    refine J_aload_n dc_Cp_print_28 (Eq.refl 29) 0 rfl ?_
    refine J_getF (y := 53) dc_Cp_print_29 (Eq.refl 32) fl_Cp_19 (Nat.le_of_ble_eq_true rfl) rfl (Or.inr rfl) rfl ?_
    refine J_getI dc_Cp_print_32 (Eq.refl 35) fl_Cp_133 (Nat.le_of_ble_eq_true rfl) rfl (Or.inl rfl) ?_
    exact J_iret dc_Cp_print_35 rfl h
  · have h := h.2 hc
    refine J_iconst (v := (-1 : Int32)) dc_Cp_print_7 (Eq.refl 8) rfl ?_
    exact J_iret dc_Cp_print_8 rfl h
theorem dc_Cp_isNumber_0 : decode m_Cp_isNumber.2.1 0 = .ok (.lload_n 0, 1) := by decide +kernel
theorem dc_Cp_isNumber_1 : decode m_Cp_isNumber.2.1 1 = .ok (.ldc2_w 223, 3) := by decide +kernel
theorem dc_Cp_isNumber_4 : decode m_Cp_isNumber.2.1 4 = .ok (.land, 1) := by decide +kernel
theorem dc_Cp_isNumber_5 : decode m_Cp_isNumber.2.1 5 = .ok (.ldc2_w 223, 3) := by decide +kernel
theorem dc_Cp_isNumber_8 : decode m_Cp_isNumber.2.1 8 = .ok (.lcmp, 1) := by decide +kernel
theorem dc_Cp_isNumber_9 : decode m_Cp_isNumber.2.1 9 = .ok (.ifCond .eq 7, 3) := by decide +kernel
theorem dc_Cp_isNumber_12 : decode m_Cp_isNumber.2.1 12 = .ok (.iconst 1, 1) := by decide +kernel
theorem dc_Cp_isNumber_13 : decode m_Cp_isNumber.2.1 13 = .ok (.goto 4, 3) := by decide +kernel
theorem dc_Cp_isNumber_16 : decode m_Cp_isNumber.2.1 16 = .ok (.iconst 0, 1) := by decide +kernel
theorem dc_Cp_isNumber_17 : decode m_Cp_isNumber.2.1 17 = .ok (.ireturn, 1) := by decide +kernel
theorem b_Cp_isNumber_0 {E : En_t} {d : Nat} {σ : S_t} {Q : Option Value → S_t → Prop} {x0 : Int64}
    (h : ((lg_cmp (x0 &&& (9218868437227405312 : Int64)) (9218868437227405312 : Int64)) = 0 → Q (some (.int (0 : Int32))) σ) ∧ (¬ (lg_cmp (x0 &&& (9218868437227405312 : Int64)) (9218868437227405312 : Int64)) = 0 → Q (some (.int (1 : Int32))) σ)) :
    JE E d m_Cp_isNumber 0 [(0, .long x0)] [] σ Q := by
  refine J_lload_n dc_Cp_isNumber_0 (Eq.refl 1) 0 rfl ?_
  refine J_ldc2 dc_Cp_isNumber_1 (Eq.refl 4) kc_Cp_223 ?_
  refine J_land dc_Cp_isNumber_4 (Eq.refl 5) ?_
  refine J_ldc2 dc_Cp_isNumber_5 (Eq.refl 8) kc_Cp_223 ?_
  refine J_lcmp dc_Cp_isNumber_8 (Eq.refl 9) ?_
  refine J_if_eq dc_Cp_isNumber_9 (Eq.refl 12) rfl (fun hc => ?_) (fun hc => ?_)
  · have h := h.1 hc
    refine J_iconst (v := (0 : Int32)) dc_Cp_isNumber_16 (Eq.refl 17) rfl ?_
    exact J_zret dc_Cp_isNumber_17 rfl rfl h
  · have h := h.2 hc
    refine J_iconst (v := (1 : Int32)) dc_Cp_isNumber_12 (Eq.refl 13) rfl ?_
    refine J_goto dc_Cp_isNumber_13 rfl ?_
    exact J_zret dc_Cp_isNumber_17 rfl rfl h
theorem dc_Cp_round_0 : decode m_Cp_round.2.1 0 = .ok (.lload_n 1, 1) := by decide +kernel
theorem dc_Cp_round_1 : decode m_Cp_round.2.1 1 = .ok (.invokestatic 124, 3) := by decide +kernel
theorem dc_Cp_round_4 : decode m_Cp_round.2.1 4 = .ok (.ifCond .eq 15, 3) := by decide +kernel
theorem dc_Cp_round_7 : decode m_Cp_round.2.1 7 = .ok (.iload_n 3, 1) := by decide +kernel
theorem dc_Cp_round_8 : decode m_Cp_round.2.1 8 = .ok (.iconst 1, 1) := by decide +kernel
theorem dc_Cp_round_9 : decode m_Cp_round.2.1 9 = .ok (.if_icmp .lt 10, 3) := by decide +kernel
theorem dc_Cp_round_12 : decode m_Cp_round.2.1 12 = .ok (.iload_n 3, 1) := by decide +kernel
theorem dc_Cp_round_13 : decode m_Cp_round.2.1 13 = .ok (.sipush 800, 3) := by decide +kernel
theorem dc_Cp_round_16 : decode m_Cp_round.2.1 16 = .ok (.if_icmp .le 5, 3) := by decide +kernel
theorem dc_Cp_round_19 : decode m_Cp_round.2.1 19 = .ok (.iconst (-1), 1) := by decide +kernel
theorem dc_Cp_round_20 : decode m_Cp_round.2.1 20 = .ok (.ireturn, 1) := by decide +kernel
theorem dc_Cp_round_21 : decode m_Cp_round.2.1 21 = .ok (.aload_n 0, 1) := by decide +kernel
theorem dc_Cp_round_22 : decode m_Cp_round.2.1 22 = .ok (.getfield 19, 3) := by decide +kernel
theorem dc_Cp_round_25 : decode m_Cp_round.2.1 25 = .ok (.invokevirtual 128, 3) := by decide +kernel
theorem dc_Cp_round_28 : decode m_Cp_round.2.1 28 = .ok (.aload_n 0, 1) := by decide +kernel
theorem dc_Cp_round_29 : decode m_Cp_round.2.1 29 = .ok (.getfield 33, 3) := by decide +kernel
theorem dc_Cp_round_32 : decode m_Cp_round.2.1 32 = .ok (.lload_n 1, 1) := by decide +kernel
theorem dc_Cp_round_33 : decode m_Cp_round.2.1 33 = .ok (.iload_n 3, 1) := by decide +kernel
theorem dc_Cp_round_34 : decode m_Cp_round.2.1 34 = .ok (.aload_n 0, 1) := by decide +kernel
theorem dc_Cp_round_35 : decode m_Cp_round.2.1 35 = .ok (.getfield 19, 3) := by decide +kernel
theorem dc_Cp_round_38 : decode m_Cp_round.2.1 38 = .ok (.invokevirtual 136, 3) := by decide +kernel
theorem dc_Cp_round_41 : decode m_Cp_round.2.1 41 = .ok (.aload_n 0, 1) := by decide +kernel
theorem dc_Cp_round_42 : decode m_Cp_round.2.1 42 = .ok (.getfield 19, 3) := by decide +kernel
theorem dc_Cp_round_45 : decode m_Cp_round.2.1 45 = .ok (.getfield 133, 3) := by decide +kernel
theorem dc_Cp_round_48 : decode m_Cp_round.2.1 48 = .ok (.ireturn, 1) := by decide +kernel
theorem b_Cp_round_0 {E : En_t} {d : Nat} {σ : S_t} {Q : Option Value → S_t → Prop} {x1 : Int64} {x3 : Int32}
    (h : CI E d m_Cp_isNumber [.long x1] σ (fun r2 σ1 => (r2 = 0 → Q (some (.int (-1 : Int32))) σ1) ∧ (¬ r2 = 0 → (x3 < (1 : Int32) → Q (some (.int (-1 : Int32))) σ1) ∧ (¬ x3 < (1 : Int32) → (x3 ≤ (800 : Int32) → CV E d m_Ou_clear [pv E 53] σ1 (fun σ3 => CV E d m_Pr_putRounded [pv E 59, .long x1, .int x3, pv E 53] σ3 (fun σ4 => Q (some (.int (gI σ4 53 1))) σ4))) ∧ (¬ x3 ≤ (800 : Int32) → Q (some (.int (-1 : Int32))) σ1))))) :
    JE E (d + 1) m_Cp_round 0 [(0, pv E 49), (1, .long x1), (3, .int x3)] [] σ Q := by
  refine J_lload_n dc_Cp_round_0 (Eq.refl 1) 1 rfl ?_
  refine J_callSI (As := [.long x1]) (st := []) dc_Cp_round_1 (Eq.refl 4) lk_Cp_124 mi_Cp_isNumber (Nat.le_of_ble_eq_true rfl) rfl (Nat.le_of_ble_eq_true rfl) (CI.mono h (fun r2 σ1 h => ?_))
  refine J_if_eq dc_Cp_round_4 (Eq.refl 7) rfl (fun hc => ?_) (fun hc => ?_)
  · have h := h.1 hc
    refine J_iconst (v := (-1 : Int32)) dc_Cp_round_19 (Eq.refl 20) rfl ?_
    exact J_iret dc_Cp_round_20 rfl h
  · have h := h.2 hc
    refine J_iload_n dc_Cp_round_7 (Eq.refl 8) 2 rfl ?_
    refine J_iconst (v := (1 : Int32)) dc_Cp_round_8 (Eq.refl 9) rfl ?_
    refine J_icmp_lt dc_Cp_round_9 (Eq.refl 12) rfl (fun hc => ?_) (fun hc => ?_)
    · have h := h.1 hc
      refine J_iconst (v := (-1 : Int32)) dc_Cp_round_19 (Eq.refl 20) rfl ?_
      exact J_iret dc_Cp_round_20 rfl h
    · have h := h.2 hc
      refine J_iload_n dc_Cp_round_12 (Eq.refl 13) 2 rfl ?_
      refine J_sipush (v := (800 : Int32)) dc_Cp_round_13 (Eq.refl 16) rfl ?_
      refine J_icmp_le dc_Cp_round_16 (Eq.refl 19) rfl (fun hc => ?_) (fun hc => ?_)
      · have h := h.1 hc
        refine J_aload_n dc_Cp_round_21 (Eq.refl 22) 0 rfl ?_
        refine J_getF (y := 53) dc_Cp_round_22 (Eq.refl 25) fl_Cp_19 (Nat.le_of_ble_eq_true rfl) rfl (Or.inr rfl) rfl ?_
        refine J_callVV (As := []) (st := []) dc_Cp_round_25 (Eq.refl 28) lk_Cp_128 mi_Ou_clear rfl (Nat.le_of_ble_eq_true rfl) rfl rfl (Nat.le_of_ble_eq_true rfl) rfl (Nat.le_of_ble_eq_true rfl) (CV.mono h (fun σ3 h => ?_))
        refine J_aload_n dc_Cp_round_28 (Eq.refl 29) 0 rfl ?_
        refine J_getF (y := 59) dc_Cp_round_29 (Eq.refl 32) fl_Cp_33 (Nat.le_of_ble_eq_true rfl) rfl (Or.inr rfl) rfl ?_
        refine J_lload_n dc_Cp_round_32 (Eq.refl 33) 1 rfl ?_
        refine J_iload_n dc_Cp_round_33 (Eq.refl 34) 2 rfl ?_
        refine J_aload_n dc_Cp_round_34 (Eq.refl 35) 0 rfl ?_
        refine J_getF (y := 53) dc_Cp_round_35 (Eq.refl 38) fl_Cp_19 (Nat.le_of_ble_eq_true rfl) rfl (Or.inr rfl) rfl ?_
        refine J_callVV (As := [.long x1, .int x3, pv E 53]) (st := []) dc_Cp_round_38 (Eq.refl 41) lk_Cp_136 mi_Pr_putRounded rfl (Nat.le_of_ble_eq_true rfl) rfl rfl (Nat.le_of_ble_eq_true rfl) rfl (Nat.le_of_ble_eq_true rfl) (CV.mono h (fun σ4 h => ?_))
        refine J_aload_n dc_Cp_round_41 (Eq.refl 42) 0 rfl ?_
        refine J_getF (y := 53) dc_Cp_round_42 (Eq.refl 45) fl_Cp_19 (Nat.le_of_ble_eq_true rfl) rfl (Or.inr rfl) rfl ?_
        refine J_getI dc_Cp_round_45 (Eq.refl 48) fl_Cp_133 (Nat.le_of_ble_eq_true rfl) rfl (Or.inl rfl) ?_
        exact J_iret dc_Cp_round_48 rfl h
      · have h := h.2 hc
        refine J_iconst (v := (-1 : Int32)) dc_Cp_round_19 (Eq.refl 20) rfl ?_
        exact J_iret dc_Cp_round_20 rfl h
theorem dc_Cp_out_0 : decode m_Cp_out.2.1 0 = .ok (.iload_n 1, 1) := by decide +kernel
theorem dc_Cp_out_1 : decode m_Cp_out.2.1 1 = .ok (.ifCond .lt 14, 3) := by decide +kernel
theorem dc_Cp_out_4 : decode m_Cp_out.2.1 4 = .ok (.iload_n 1, 1) := by decide +kernel
theorem dc_Cp_out_5 : decode m_Cp_out.2.1 5 = .ok (.aload_n 0, 1) := by decide +kernel
theorem dc_Cp_out_6 : decode m_Cp_out.2.1 6 = .ok (.getfield 19, 3) := by decide +kernel
theorem dc_Cp_out_9 : decode m_Cp_out.2.1 9 = .ok (.invokevirtual 91, 3) := by decide +kernel
theorem dc_Cp_out_12 : decode m_Cp_out.2.1 12 = .ok (.if_icmp .lt 7, 3) := by decide +kernel
theorem dc_Cp_out_15 : decode m_Cp_out.2.1 15 = .ok (.iconst (-1), 1) := by decide +kernel
theorem dc_Cp_out_16 : decode m_Cp_out.2.1 16 = .ok (.goto 16, 3) := by decide +kernel
theorem dc_Cp_out_19 : decode m_Cp_out.2.1 19 = .ok (.aload_n 0, 1) := by decide +kernel
theorem dc_Cp_out_20 : decode m_Cp_out.2.1 20 = .ok (.getfield 19, 3) := by decide +kernel
theorem dc_Cp_out_23 : decode m_Cp_out.2.1 23 = .ok (.getfield 95, 3) := by decide +kernel
theorem dc_Cp_out_26 : decode m_Cp_out.2.1 26 = .ok (.iload_n 1, 1) := by decide +kernel
theorem dc_Cp_out_27 : decode m_Cp_out.2.1 27 = .ok (.baload, 1) := by decide +kernel
theorem dc_Cp_out_28 : decode m_Cp_out.2.1 28 = .ok (.sipush 255, 3) := by decide +kernel
theorem dc_Cp_out_31 : decode m_Cp_out.2.1 31 = .ok (.iand, 1) := by decide +kernel
theorem dc_Cp_out_32 : decode m_Cp_out.2.1 32 = .ok (.ireturn, 1) := by decide +kernel
theorem b_Cp_out_0 {E : En_t} {d : Nat} {σ : S_t} {Q : Option Value → S_t → Prop} {x1 : Int32}
    (h : (x1 < 0 → JE E (d + 1) m_Cp_out 15 [] [] σ Q) ∧ (¬ x1 < 0 → CI E d m_Ou_keptBytes [pv E 53] σ (fun r2 σ1 => (x1 < r2 → vp_in x1 12000 ∧ (Q (some (.int ((gI σ1 54 x1.toNatClampNeg) &&& (255 : Int32)))) σ1)) ∧ (¬ x1 < r2 → JE E (d + 1) m_Cp_out 15 [] [] σ1 Q)))) :
    JE E (d + 1) m_Cp_out 0 [(0, pv E 49), (1, .int x1)] [] σ Q := by
  refine J_iload_n dc_Cp_out_0 (Eq.refl 1) 1 rfl ?_
  refine J_if_lt dc_Cp_out_1 (Eq.refl 4) rfl (fun hc => ?_) (fun hc => ?_)
  · have h := h.1 hc
    refine J_sub [] rfl ?_
    exact h
  · have h := h.2 hc
    refine J_iload_n dc_Cp_out_4 (Eq.refl 5) 1 rfl ?_
    refine J_aload_n dc_Cp_out_5 (Eq.refl 6) 0 rfl ?_
    refine J_getF (y := 53) dc_Cp_out_6 (Eq.refl 9) fl_Cp_19 (Nat.le_of_ble_eq_true rfl) rfl (Or.inr rfl) rfl ?_
    refine J_callVI (As := []) (st := [.int x1]) dc_Cp_out_9 (Eq.refl 12) lk_Cp_91 mi_Ou_keptBytes rfl (Nat.le_of_ble_eq_true rfl) rfl rfl (Nat.le_of_ble_eq_true rfl) rfl (Nat.le_of_ble_eq_true rfl) (CI.mono h (fun r2 σ1 h => ?_))
    refine J_icmp_lt dc_Cp_out_12 (Eq.refl 15) rfl (fun hc => ?_) (fun hc => ?_)
    · have h := h.1 hc
      refine J_aload_n dc_Cp_out_19 (Eq.refl 20) 0 rfl ?_
      refine J_getF (y := 53) dc_Cp_out_20 (Eq.refl 23) fl_Cp_19 (Nat.le_of_ble_eq_true rfl) rfl (Or.inr rfl) rfl ?_
      refine J_getF (y := 54) dc_Cp_out_23 (Eq.refl 26) fl_Cp_95 (Nat.le_of_ble_eq_true rfl) rfl (Or.inl rfl) rfl ?_
      refine J_iload_n dc_Cp_out_26 (Eq.refl 27) 1 rfl ?_
      obtain ⟨hg, h⟩ := h
      refine J_bald dc_Cp_out_27 (Eq.refl 28) rfl rfl hg ?_
      refine J_sipush (v := (255 : Int32)) dc_Cp_out_28 (Eq.refl 31) rfl ?_
      refine J_iand dc_Cp_out_31 (Eq.refl 32) ?_
      exact J_iret dc_Cp_out_32 rfl h
    · have h := h.2 hc
      refine J_sub [] rfl ?_
      exact h
theorem b_Cp_out_15 {E : En_t} {d : Nat} {σ : S_t} {Q : Option Value → S_t → Prop}
    (h : Q (some (.int (-1 : Int32))) σ) :
    JE E (d + 1) m_Cp_out 15 [] [] σ Q := by
  refine J_iconst (v := (-1 : Int32)) dc_Cp_out_15 (Eq.refl 16) rfl ?_
  refine J_goto dc_Cp_out_16 rfl ?_
  exact J_iret dc_Cp_out_32 rfl h
theorem dc_Cp_document_0 : decode m_Cp_document.2.1 0 = .ok (.iload_n 1, 1) := by decide +kernel
theorem dc_Cp_document_1 : decode m_Cp_document.2.1 1 = .ok (.invokestatic 140, 3) := by decide +kernel
theorem dc_Cp_document_4 : decode m_Cp_document.2.1 4 = .ok (.ifCond .ne 5, 3) := by decide +kernel
theorem dc_Cp_document_7 : decode m_Cp_document.2.1 7 = .ok (.iconst (-1), 1) := by decide +kernel
theorem dc_Cp_document_8 : decode m_Cp_document.2.1 8 = .ok (.ireturn, 1) := by decide +kernel
theorem dc_Cp_document_9 : decode m_Cp_document.2.1 9 = .ok (.aload_n 0, 1) := by decide +kernel
theorem dc_Cp_document_10 : decode m_Cp_document.2.1 10 = .ok (.getfield 42, 3) := by decide +kernel
theorem dc_Cp_document_13 : decode m_Cp_document.2.1 13 = .ok (.aload_n 0, 1) := by decide +kernel
theorem dc_Cp_document_14 : decode m_Cp_document.2.1 14 = .ok (.getfield 76, 3) := by decide +kernel
theorem dc_Cp_document_17 : decode m_Cp_document.2.1 17 = .ok (.invokevirtual 144, 3) := by decide +kernel
theorem dc_Cp_document_20 : decode m_Cp_document.2.1 20 = .ok (.istore_n 2, 1) := by decide +kernel
theorem dc_Cp_document_21 : decode m_Cp_document.2.1 21 = .ok (.aload_n 0, 1) := by decide +kernel
theorem dc_Cp_document_22 : decode m_Cp_document.2.1 22 = .ok (.iload_n 2, 1) := by decide +kernel
theorem dc_Cp_document_23 : decode m_Cp_document.2.1 23 = .ok (.ifCond .ne 7, 3) := by decide +kernel
theorem dc_Cp_document_26 : decode m_Cp_document.2.1 26 = .ok (.iconst (-1), 1) := by decide +kernel
theorem dc_Cp_document_27 : decode m_Cp_document.2.1 27 = .ok (.goto 10, 3) := by decide +kernel
theorem dc_Cp_document_30 : decode m_Cp_document.2.1 30 = .ok (.aload_n 0, 1) := by decide +kernel
theorem dc_Cp_document_31 : decode m_Cp_document.2.1 31 = .ok (.getfield 42, 3) := by decide +kernel
theorem dc_Cp_document_34 : decode m_Cp_document.2.1 34 = .ok (.getfield 148, 3) := by decide +kernel
theorem dc_Cp_document_37 : decode m_Cp_document.2.1 37 = .ok (.putfield 80, 3) := by decide +kernel
theorem dc_Cp_document_40 : decode m_Cp_document.2.1 40 = .ok (.aload_n 0, 1) := by decide +kernel
theorem dc_Cp_document_41 : decode m_Cp_document.2.1 41 = .ok (.getfield 10, 3) := by decide +kernel
theorem dc_Cp_document_44 : decode m_Cp_document.2.1 44 = .ok (.invokevirtual 115, 3) := by decide +kernel
theorem dc_Cp_document_47 : decode m_Cp_document.2.1 47 = .ok (.iload_n 2, 1) := by decide +kernel
theorem dc_Cp_document_48 : decode m_Cp_document.2.1 48 = .ok (.ifCond .ne 8, 3) := by decide +kernel
theorem dc_Cp_document_51 : decode m_Cp_document.2.1 51 = .ok (.aload_n 0, 1) := by decide +kernel
theorem dc_Cp_document_52 : decode m_Cp_document.2.1 52 = .ok (.iload_n 1, 1) := by decide +kernel
theorem dc_Cp_document_53 : decode m_Cp_document.2.1 53 = .ok (.invokevirtual 149, 3) := by decide +kernel
theorem dc_Cp_document_56 : decode m_Cp_document.2.1 56 = .ok (.iload_n 2, 1) := by decide +kernel
theorem dc_Cp_document_57 : decode m_Cp_document.2.1 57 = .ok (.ireturn, 1) := by decide +kernel
theorem b_Cp_document_0 {E : En_t} {d : Nat} {σ : S_t} {Q : Option Value → S_t → Prop} {x1 : Int32}
    (h : CI E d m_Cp_isShelf [.int x1] σ (fun r2 σ1 => (¬ r2 = 0 → ∃ t3, gR σ1 49 9 = some t3 ∧ kindP t3 = 11 ∧ (CI E d m_Re_read [pv E 63, pv E t3] σ1 (fun r5 σ4 => (¬ r5 = 0 → JE E (d + 1) m_Cp_document 37 [(0, pv E 49), (1, .int x1), (2, .int r5)] [.int (gI σ4 63 14), pv E 49] σ4 Q) ∧ (r5 = 0 → JE E (d + 1) m_Cp_document 37 [(0, pv E 49), (1, .int x1), (2, .int r5)] [.int (-1 : Int32), pv E 49] σ4 Q)))) ∧ (r2 = 0 → Q (some (.int (-1 : Int32))) σ1))) :
    JE E (d + 1) m_Cp_document 0 [(0, pv E 49), (1, .int x1)] [] σ Q := by
  refine J_iload_n dc_Cp_document_0 (Eq.refl 1) 1 rfl ?_
  refine J_callSI (As := [.int x1]) (st := []) dc_Cp_document_1 (Eq.refl 4) lk_Cp_140 mi_Cp_isShelf (Nat.le_of_ble_eq_true rfl) rfl (Nat.le_of_ble_eq_true rfl) (CI.mono h (fun r2 σ1 h => ?_))
  refine J_if_ne dc_Cp_document_4 (Eq.refl 7) rfl (fun hc => ?_) (fun hc => ?_)
  · have h := h.1 hc
    refine J_aload_n dc_Cp_document_9 (Eq.refl 10) 0 rfl ?_
    refine J_getF (y := 63) dc_Cp_document_10 (Eq.refl 13) fl_Cp_42 (Nat.le_of_ble_eq_true rfl) rfl (Or.inr rfl) rfl ?_
    refine J_aload_n dc_Cp_document_13 (Eq.refl 14) 0 rfl ?_
    obtain ⟨t3, hr_t3, hk_t3, h⟩ := h
    refine J_getR dc_Cp_document_14 (Eq.refl 17) fl_Cp_76 (Nat.le_of_ble_eq_true rfl) rfl rfl hr_t3 ?_
    refine J_callVI (As := [pv E t3]) (st := []) dc_Cp_document_17 (Eq.refl 20) lk_Cp_144 mi_Re_read rfl (Nat.le_of_ble_eq_true rfl) rfl rfl (Nat.le_of_ble_eq_true rfl) rfl (Nat.le_of_ble_eq_true rfl) (CI.mono h (fun r5 σ4 h => ?_))
    refine J_istore_n (L' := [(2, .int r5), (0, pv E 49), (1, .int x1)]) dc_Cp_document_20 (Eq.refl 21) (Nat.le_of_ble_eq_true rfl) rfl ?_
    refine J_aload_n dc_Cp_document_21 (Eq.refl 22) 1 rfl ?_
    refine J_iload_n dc_Cp_document_22 (Eq.refl 23) 0 rfl ?_
    refine J_if_ne dc_Cp_document_23 (Eq.refl 26) rfl (fun hc => ?_) (fun hc => ?_)
    · have h := h.1 hc
      refine J_aload_n dc_Cp_document_30 (Eq.refl 31) 1 rfl ?_
      refine J_getF (y := 63) dc_Cp_document_31 (Eq.refl 34) fl_Cp_42 (Nat.le_of_ble_eq_true rfl) rfl (Or.inr rfl) rfl ?_
      refine J_getI dc_Cp_document_34 (Eq.refl 37) fl_Cp_148 (Nat.le_of_ble_eq_true rfl) rfl (Or.inl rfl) ?_
      refine J_sub [1, 2, 0] rfl ?_
      exact h
    · have h := h.2 hc
      refine J_iconst (v := (-1 : Int32)) dc_Cp_document_26 (Eq.refl 27) rfl ?_
      refine J_goto dc_Cp_document_27 rfl ?_
      refine J_sub [1, 2, 0] rfl ?_
      exact h
  · have h := h.2 hc
    refine J_iconst (v := (-1 : Int32)) dc_Cp_document_7 (Eq.refl 8) rfl ?_
    exact J_iret dc_Cp_document_8 rfl h
theorem b_Cp_document_37 {E : En_t} {d : Nat} {σ : S_t} {Q : Option Value → S_t → Prop} {x1 : Int32} {x2 : Int32} {s0 : Int32}
    (h : CV E d m_Te_clear [pv E 51] (sI σ 49 10 s0) (fun σ1 => (¬ x2 = 0 → Q (some (.int x2)) σ1) ∧ (x2 = 0 → CV E d m_Cp_bringSpareTo [pv E 49, .int x1] σ1 (fun σ2 => Q (some (.int x2)) σ2)))) :
    JE E (d + 1) m_Cp_document 37 [(0, pv E 49), (1, .int x1), (2, .int x2)] [.int s0, pv E 49] σ Q := by
  refine J_putI dc_Cp_document_37 (Eq.refl 40) pl_Cp_80 (Nat.le_of_ble_eq_true rfl) rfl rfl ?_
  refine J_aload_n dc_Cp_document_40 (Eq.refl 41) 0 rfl ?_
  refine J_getF (y := 51) dc_Cp_document_41 (Eq.refl 44) fl_Cp_10 (Nat.le_of_ble_eq_true rfl) rfl (Or.inr rfl) rfl ?_
  refine J_callVV (As := []) (st := []) dc_Cp_document_44 (Eq.refl 47) lk_Cp_115 mi_Te_clear rfl (Nat.le_of_ble_eq_true rfl) rfl rfl (Nat.le_of_ble_eq_true rfl) rfl (Nat.le_of_ble_eq_true rfl) (CV.mono h (fun σ1 h => ?_))
  refine J_iload_n dc_Cp_document_47 (Eq.refl 48) 2 rfl ?_
  refine J_if_ne dc_Cp_document_48 (Eq.refl 51) rfl (fun hc => ?_) (fun hc => ?_)
  · have h := h.1 hc
    refine J_iload_n dc_Cp_document_56 (Eq.refl 57) 2 rfl ?_
    exact J_iret dc_Cp_document_57 rfl h
  · have h := h.2 hc
    refine J_aload_n dc_Cp_document_51 (Eq.refl 52) 0 rfl ?_
    refine J_iload_n dc_Cp_document_52 (Eq.refl 53) 1 rfl ?_
    refine J_callVV (As := [.int x1]) (st := []) dc_Cp_document_53 (Eq.refl 56) lk_Cp_149 mi_Cp_bringSpareTo rfl (Nat.le_of_ble_eq_true rfl) rfl rfl (Nat.le_of_ble_eq_true rfl) rfl (Nat.le_of_ble_eq_true rfl) (CV.mono h (fun σ2 h => ?_))
    refine J_iload_n dc_Cp_document_56 (Eq.refl 57) 2 rfl ?_
    exact J_iret dc_Cp_document_57 rfl h
theorem dc_Cp_isShelf_0 : decode m_Cp_isShelf.2.1 0 = .ok (.iload_n 0, 1) := by decide +kernel
theorem dc_Cp_isShelf_1 : decode m_Cp_isShelf.2.1 1 = .ok (.ifCond .lt 13, 3) := by decide +kernel
theorem dc_Cp_isShelf_4 : decode m_Cp_isShelf.2.1 4 = .ok (.iload_n 0, 1) := by decide +kernel
theorem dc_Cp_isShelf_5 : decode m_Cp_isShelf.2.1 5 = .ok (.bipush 8, 2) := by decide +kernel
theorem dc_Cp_isShelf_7 : decode m_Cp_isShelf.2.1 7 = .ok (.if_icmp .ge 7, 3) := by decide +kernel
theorem dc_Cp_isShelf_10 : decode m_Cp_isShelf.2.1 10 = .ok (.iconst 1, 1) := by decide +kernel
theorem dc_Cp_isShelf_11 : decode m_Cp_isShelf.2.1 11 = .ok (.goto 4, 3) := by decide +kernel
theorem dc_Cp_isShelf_14 : decode m_Cp_isShelf.2.1 14 = .ok (.iconst 0, 1) := by decide +kernel
theorem dc_Cp_isShelf_15 : decode m_Cp_isShelf.2.1 15 = .ok (.ireturn, 1) := by decide +kernel
theorem b_Cp_isShelf_0 {E : En_t} {d : Nat} {σ : S_t} {Q : Option Value → S_t → Prop} {x0 : Int32}
    (h : (x0 < 0 → Q (some (.int (0 : Int32))) σ) ∧ (¬ x0 < 0 → ((8 : Int32) ≤ x0 → Q (some (.int (0 : Int32))) σ) ∧ (¬ (8 : Int32) ≤ x0 → Q (some (.int (1 : Int32))) σ))) :
    JE E d m_Cp_isShelf 0 [(0, .int x0)] [] σ Q := by
  refine J_iload_n dc_Cp_isShelf_0 (Eq.refl 1) 0 rfl ?_
  refine J_if_lt dc_Cp_isShelf_1 (Eq.refl 4) rfl (fun hc => ?_) (fun hc => ?_)
  · have h := h.1 hc
    refine J_iconst (v := (0 : Int32)) dc_Cp_isShelf_14 (Eq.refl 15) rfl ?_
    exact J_zret dc_Cp_isShelf_15 rfl rfl h
  · have h := h.2 hc
    refine J_iload_n dc_Cp_isShelf_4 (Eq.refl 5) 0 rfl ?_
    refine J_bipush (v := (8 : Int32)) dc_Cp_isShelf_5 (Eq.refl 7) rfl ?_
    refine J_icmp_ge dc_Cp_isShelf_7 (Eq.refl 10) rfl (fun hc => ?_) (fun hc => ?_)
    · have h := h.1 hc
      refine J_iconst (v := (0 : Int32)) dc_Cp_isShelf_14 (Eq.refl 15) rfl ?_
      exact J_zret dc_Cp_isShelf_15 rfl rfl h
    · have h := h.2 hc
      refine J_iconst (v := (1 : Int32)) dc_Cp_isShelf_10 (Eq.refl 11) rfl ?_
      refine J_goto dc_Cp_isShelf_11 rfl ?_
      exact J_zret dc_Cp_isShelf_15 rfl rfl h
theorem dc_Cp_bringSpareTo_0 : decode m_Cp_bringSpareTo.2.1 0 = .ok (.aload_n 0, 1) := by decide +kernel
theorem dc_Cp_bringSpareTo_1 : decode m_Cp_bringSpareTo.2.1 1 = .ok (.getfield 71, 3) := by decide +kernel
theorem dc_Cp_bringSpareTo_4 : decode m_Cp_bringSpareTo.2.1 4 = .ok (.iload_n 1, 1) := by decide +kernel
theorem dc_Cp_bringSpareTo_5 : decode m_Cp_bringSpareTo.2.1 5 = .ok (.aaload, 1) := by decide +kernel
theorem dc_Cp_bringSpareTo_6 : decode m_Cp_bringSpareTo.2.1 6 = .ok (.astore_n 2, 1) := by decide +kernel
theorem dc_Cp_bringSpareTo_7 : decode m_Cp_bringSpareTo.2.1 7 = .ok (.aload_n 0, 1) := by decide +kernel
theorem dc_Cp_bringSpareTo_8 : decode m_Cp_bringSpareTo.2.1 8 = .ok (.getfield 71, 3) := by decide +kernel
theorem dc_Cp_bringSpareTo_11 : decode m_Cp_bringSpareTo.2.1 11 = .ok (.iload_n 1, 1) := by decide +kernel
theorem dc_Cp_bringSpareTo_12 : decode m_Cp_bringSpareTo.2.1 12 = .ok (.aload_n 0, 1) := by decide +kernel
theorem dc_Cp_bringSpareTo_13 : decode m_Cp_bringSpareTo.2.1 13 = .ok (.getfield 76, 3) := by decide +kernel
theorem dc_Cp_bringSpareTo_16 : decode m_Cp_bringSpareTo.2.1 16 = .ok (.aastore, 1) := by decide +kernel
theorem dc_Cp_bringSpareTo_17 : decode m_Cp_bringSpareTo.2.1 17 = .ok (.aload_n 0, 1) := by decide +kernel
theorem dc_Cp_bringSpareTo_18 : decode m_Cp_bringSpareTo.2.1 18 = .ok (.aload_n 2, 1) := by decide +kernel
theorem dc_Cp_bringSpareTo_19 : decode m_Cp_bringSpareTo.2.1 19 = .ok (.putfield 76, 3) := by decide +kernel
theorem dc_Cp_bringSpareTo_22 : decode m_Cp_bringSpareTo.2.1 22 = .ok (.return_, 1) := by decide +kernel
theorem b_Cp_bringSpareTo_0 {E : En_t} {d : Nat} {σ : S_t} {Q : Option Value → S_t → Prop} {x1 : Int32}
    (h : vp_in x1 8 ∧ ∃ t1, gR σ 50 x1.toNatClampNeg = some t1 ∧ kindP t1 = 11 ∧ (∃ t2, gR σ 49 9 = some t2 ∧ kindP t2 = 11 ∧ (vp_in x1 8 ∧ (Q none (sR (sR σ 50 x1.toNatClampNeg (some t2)) 49 9 (some t1)))))) :
    JE E d m_Cp_bringSpareTo 0 [(0, pv E 49), (1, .int x1)] [] σ Q := by
  refine J_aload_n dc_Cp_bringSpareTo_0 (Eq.refl 1) 0 rfl ?_
  refine J_getF (y := 50) dc_Cp_bringSpareTo_1 (Eq.refl 4) fl_Cp_71 (Nat.le_of_ble_eq_true rfl) rfl (Or.inl rfl) rfl ?_
  refine J_iload_n dc_Cp_bringSpareTo_4 (Eq.refl 5) 1 rfl ?_
  obtain ⟨hg, h⟩ := h
  obtain ⟨t1, hr_t1, hk_t1, h⟩ := h
  refine J_aald dc_Cp_bringSpareTo_5 (Eq.refl 6) rfl rfl hg hr_t1 ?_
  refine J_astore_n (L' := [(2, pv E t1), (0, pv E 49), (1, .int x1)]) dc_Cp_bringSpareTo_6 (Eq.refl 7) (Nat.le_of_ble_eq_true rfl) rfl ?_
  refine J_aload_n dc_Cp_bringSpareTo_7 (Eq.refl 8) 1 rfl ?_
  refine J_getF (y := 50) dc_Cp_bringSpareTo_8 (Eq.refl 11) fl_Cp_71 (Nat.le_of_ble_eq_true rfl) rfl (Or.inl rfl) rfl ?_
  refine J_iload_n dc_Cp_bringSpareTo_11 (Eq.refl 12) 2 rfl ?_
  refine J_aload_n dc_Cp_bringSpareTo_12 (Eq.refl 13) 1 rfl ?_
  obtain ⟨t2, hr_t2, hk_t2, h⟩ := h
  refine J_getR dc_Cp_bringSpareTo_13 (Eq.refl 16) fl_Cp_76 (Nat.le_of_ble_eq_true rfl) rfl rfl hr_t2 ?_
  obtain ⟨hg, h⟩ := h
  refine J_aast dc_Cp_bringSpareTo_16 (Eq.refl 17) rfl rfl hg hk_t2 ?_
  refine J_aload_n dc_Cp_bringSpareTo_17 (Eq.refl 18) 1 rfl ?_
  refine J_aload_n dc_Cp_bringSpareTo_18 (Eq.refl 19) 0 rfl ?_
  refine J_putR dc_Cp_bringSpareTo_19 (Eq.refl 22) pl_Cp_76 (Nat.le_of_ble_eq_true rfl) rfl rfl ?_
  exact J_vret dc_Cp_bringSpareTo_22 rfl h
theorem dc_Cp_place_0 : decode m_Cp_place.2.1 0 = .ok (.aload_n 0, 1) := by decide +kernel
theorem dc_Cp_place_1 : decode m_Cp_place.2.1 1 = .ok (.getfield 80, 3) := by decide +kernel
theorem dc_Cp_place_4 : decode m_Cp_place.2.1 4 = .ok (.ireturn, 1) := by decide +kernel
theorem b_Cp_place_0 {E : En_t} {d : Nat} {σ : S_t} {Q : Option Value → S_t → Prop}
    (h : Q (some (.int (gI σ 49 10))) σ) :
    JE E d m_Cp_place 0 [(0, pv E 49)] [] σ Q := by
  refine J_aload_n dc_Cp_place_0 (Eq.refl 1) 0 rfl ?_
  refine J_getI dc_Cp_place_1 (Eq.refl 4) fl_Cp_80 (Nat.le_of_ble_eq_true rfl) rfl (Or.inl rfl) ?_
  exact J_iret dc_Cp_place_4 rfl h
theorem dc_Cp_form_0 : decode m_Cp_form.2.1 0 = .ok (.aload_n 0, 1) := by decide +kernel
theorem dc_Cp_form_1 : decode m_Cp_form.2.1 1 = .ok (.iload_n 1, 1) := by decide +kernel
theorem dc_Cp_form_2 : decode m_Cp_form.2.1 2 = .ok (.iload_n 2, 1) := by decide +kernel
theorem dc_Cp_form_3 : decode m_Cp_form.2.1 3 = .ok (.invokevirtual 152, 3) := by decide +kernel
theorem dc_Cp_form_6 : decode m_Cp_form.2.1 6 = .ok (.ifCond .ne 5, 3) := by decide +kernel
theorem dc_Cp_form_9 : decode m_Cp_form.2.1 9 = .ok (.iconst (-1), 1) := by decide +kernel
theorem dc_Cp_form_10 : decode m_Cp_form.2.1 10 = .ok (.ireturn, 1) := by decide +kernel
theorem dc_Cp_form_11 : decode m_Cp_form.2.1 11 = .ok (.aload_n 0, 1) := by decide +kernel
theorem dc_Cp_form_12 : decode m_Cp_form.2.1 12 = .ok (.getfield 19, 3) := by decide +kernel
theorem dc_Cp_form_15 : decode m_Cp_form.2.1 15 = .ok (.invokevirtual 128, 3) := by decide +kernel
theorem dc_Cp_form_18 : decode m_Cp_form.2.1 18 = .ok (.aload_n 0, 1) := by decide +kernel
theorem dc_Cp_form_19 : decode m_Cp_form.2.1 19 = .ok (.getfield 51, 3) := by decide +kernel
theorem dc_Cp_form_22 : decode m_Cp_form.2.1 22 = .ok (.aload_n 0, 1) := by decide +kernel
theorem dc_Cp_form_23 : decode m_Cp_form.2.1 23 = .ok (.getfield 71, 3) := by decide +kernel
theorem dc_Cp_form_26 : decode m_Cp_form.2.1 26 = .ok (.iload_n 1, 1) := by decide +kernel
theorem dc_Cp_form_27 : decode m_Cp_form.2.1 27 = .ok (.aaload, 1) := by decide +kernel
theorem dc_Cp_form_28 : decode m_Cp_form.2.1 28 = .ok (.iload_n 2, 1) := by decide +kernel
theorem dc_Cp_form_29 : decode m_Cp_form.2.1 29 = .ok (.aload_n 0, 1) := by decide +kernel
theorem dc_Cp_form_30 : decode m_Cp_form.2.1 30 = .ok (.getfield 19, 3) := by decide +kernel
theorem dc_Cp_form_33 : decode m_Cp_form.2.1 33 = .ok (.invokevirtual 156, 3) := by decide +kernel
theorem dc_Cp_form_36 : decode m_Cp_form.2.1 36 = .ok (.aload_n 0, 1) := by decide +kernel
theorem dc_Cp_form_37 : decode m_Cp_form.2.1 37 = .ok (.getfield 19, 3) := by decide +kernel
theorem dc_Cp_form_40 : decode m_Cp_form.2.1 40 = .ok (.getfield 133, 3) := by decide +kernel
theorem dc_Cp_form_43 : decode m_Cp_form.2.1 43 = .ok (.ireturn, 1) := by decide +kernel
theorem b_Cp_form_0 {E : En_t} {d : Nat} {σ : S_t} {Q : Option Value → S_t → Prop} {x1 : Int32} {x2 : Int32}
    (h : CI E d m_Cp_hasValue [pv E 49, .int x1, .int x2] σ (fun r2 σ1 => (¬ r2 = 0 → CV E d m_Ou_clear [pv E 53] σ1 (fun σ3 => vp_in x1 8 ∧ ∃ t4, gR σ3 50 x1.toNatClampNeg = some t4 ∧ kindP t4 = 11 ∧ (CV E d m_Fo_write [pv E 68, pv E t4, .int x2, pv E 53] σ3 (fun σ5 => Q (some (.int (gI σ5 53 1))) σ5)))) ∧ (r2 = 0 → Q (some (.int (-1 : Int32))) σ1))) :
    JE E (d + 1) m_Cp_form 0 [(0, pv E 49), (1, .int x1), (2, .int x2)] [] σ Q := by
  refine J_aload_n dc_Cp_form_0 (Eq.refl 1) 0 rfl ?_
  refine J_iload_n dc_Cp_form_1 (Eq.refl 2) 1 rfl ?_
  refine J_iload_n dc_Cp_form_2 (Eq.refl 3) 2 rfl ?_
  refine J_callVI (As := [.int x1, .int x2]) (st := []) dc_Cp_form_3 (Eq.refl 6) lk_Cp_152 mi_Cp_hasValue rfl (Nat.le_of_ble_eq_true rfl) rfl rfl (Nat.le_of_ble_eq_true rfl) rfl (Nat.le_of_ble_eq_true rfl) (CI.mono h (fun r2 σ1 h => ?_))
  refine J_if_ne dc_Cp_form_6 (Eq.refl 9) rfl (fun hc => ?_) (fun hc => ?_)
  · have h := h.1 hc
    refine J_aload_n dc_Cp_form_11 (Eq.refl 12) 0 rfl ?_
    refine J_getF (y := 53) dc_Cp_form_12 (Eq.refl 15) fl_Cp_19 (Nat.le_of_ble_eq_true rfl) rfl (Or.inr rfl) rfl ?_
    refine J_callVV (As := []) (st := []) dc_Cp_form_15 (Eq.refl 18) lk_Cp_128 mi_Ou_clear rfl (Nat.le_of_ble_eq_true rfl) rfl rfl (Nat.le_of_ble_eq_true rfl) rfl (Nat.le_of_ble_eq_true rfl) (CV.mono h (fun σ3 h => ?_))
    refine J_aload_n dc_Cp_form_18 (Eq.refl 19) 0 rfl ?_
    refine J_getF (y := 68) dc_Cp_form_19 (Eq.refl 22) fl_Cp_51 (Nat.le_of_ble_eq_true rfl) rfl (Or.inr rfl) rfl ?_
    refine J_aload_n dc_Cp_form_22 (Eq.refl 23) 0 rfl ?_
    refine J_getF (y := 50) dc_Cp_form_23 (Eq.refl 26) fl_Cp_71 (Nat.le_of_ble_eq_true rfl) rfl (Or.inl rfl) rfl ?_
    refine J_iload_n dc_Cp_form_26 (Eq.refl 27) 1 rfl ?_
    obtain ⟨hg, h⟩ := h
    obtain ⟨t4, hr_t4, hk_t4, h⟩ := h
    refine J_aald dc_Cp_form_27 (Eq.refl 28) rfl rfl hg hr_t4 ?_
    refine J_iload_n dc_Cp_form_28 (Eq.refl 29) 2 rfl ?_
    refine J_aload_n dc_Cp_form_29 (Eq.refl 30) 0 rfl ?_
    refine J_getF (y := 53) dc_Cp_form_30 (Eq.refl 33) fl_Cp_19 (Nat.le_of_ble_eq_true rfl) rfl (Or.inr rfl) rfl ?_
    refine J_callVV (As := [pv E t4, .int x2, pv E 53]) (st := []) dc_Cp_form_33 (Eq.refl 36) lk_Cp_156 mi_Fo_write rfl (Nat.le_of_ble_eq_true rfl) rfl rfl (Nat.le_of_ble_eq_true rfl) rfl (Nat.le_of_ble_eq_true rfl) (CV.mono h (fun σ5 h => ?_))
    refine J_aload_n dc_Cp_form_36 (Eq.refl 37) 0 rfl ?_
    refine J_getF (y := 53) dc_Cp_form_37 (Eq.refl 40) fl_Cp_19 (Nat.le_of_ble_eq_true rfl) rfl (Or.inr rfl) rfl ?_
    refine J_getI dc_Cp_form_40 (Eq.refl 43) fl_Cp_133 (Nat.le_of_ble_eq_true rfl) rfl (Or.inl rfl) ?_
    exact J_iret dc_Cp_form_43 rfl h
  · have h := h.2 hc
    refine J_iconst (v := (-1 : Int32)) dc_Cp_form_9 (Eq.refl 10) rfl ?_
    exact J_iret dc_Cp_form_10 rfl h
theorem dc_Cp_hasValue_0 : decode m_Cp_hasValue.2.1 0 = .ok (.iload_n 1, 1) := by decide +kernel
theorem dc_Cp_hasValue_1 : decode m_Cp_hasValue.2.1 1 = .ok (.invokestatic 140, 3) := by decide +kernel
theorem dc_Cp_hasValue_4 : decode m_Cp_hasValue.2.1 4 = .ok (.ifCond .eq 24, 3) := by decide +kernel
theorem dc_Cp_hasValue_7 : decode m_Cp_hasValue.2.1 7 = .ok (.iload_n 2, 1) := by decide +kernel
theorem dc_Cp_hasValue_8 : decode m_Cp_hasValue.2.1 8 = .ok (.ifCond .lt 20, 3) := by decide +kernel
theorem dc_Cp_hasValue_11 : decode m_Cp_hasValue.2.1 11 = .ok (.iload_n 2, 1) := by decide +kernel
theorem dc_Cp_hasValue_12 : decode m_Cp_hasValue.2.1 12 = .ok (.aload_n 0, 1) := by decide +kernel
theorem dc_Cp_hasValue_13 : decode m_Cp_hasValue.2.1 13 = .ok (.getfield 71, 3) := by decide +kernel
theorem dc_Cp_hasValue_16 : decode m_Cp_hasValue.2.1 16 = .ok (.iload_n 1, 1) := by decide +kernel
theorem dc_Cp_hasValue_17 : decode m_Cp_hasValue.2.1 17 = .ok (.aaload, 1) := by decide +kernel
theorem dc_Cp_hasValue_18 : decode m_Cp_hasValue.2.1 18 = .ok (.getfield 225, 3) := by decide +kernel
theorem dc_Cp_hasValue_21 : decode m_Cp_hasValue.2.1 21 = .ok (.if_icmp .ge 7, 3) := by decide +kernel
theorem dc_Cp_hasValue_24 : decode m_Cp_hasValue.2.1 24 = .ok (.iconst 1, 1) := by decide +kernel
theorem dc_Cp_hasValue_25 : decode m_Cp_hasValue.2.1 25 = .ok (.goto 4, 3) := by decide +kernel
theorem dc_Cp_hasValue_28 : decode m_Cp_hasValue.2.1 28 = .ok (.iconst 0, 1) := by decide +kernel
theorem dc_Cp_hasValue_29 : decode m_Cp_hasValue.2.1 29 = .ok (.ireturn, 1) := by decide +kernel
theorem b_Cp_hasValue_0 {E : En_t} {d : Nat} {σ : S_t} {Q : Option Value → S_t → Prop} {x1 : Int32} {x2 : Int32}
    (h : CI E d m_Cp_isShelf [.int x1] σ (fun r2 σ1 => (r2 = 0 → Q (some (.int (0 : Int32))) σ1) ∧ (¬ r2 = 0 → (x2 < 0 → Q (some (.int (0 : Int32))) σ1) ∧ (¬ x2 < 0 → vp_in x1 8 ∧ ∃ t3, gR σ1 50 x1.toNatClampNeg = some t3 ∧ kindP t3 = 11 ∧ (((gI σ1 t3 13) ≤ x2 → Q (some (.int (0 : Int32))) σ1) ∧ (¬ (gI σ1 t3 13) ≤ x2 → Q (some (.int (1 : Int32))) σ1)))))) :
    JE E (d + 1) m_Cp_hasValue 0 [(0, pv E 49), (1, .int x1), (2, .int x2)] [] σ Q := by
  refine J_iload_n dc_Cp_hasValue_0 (Eq.refl 1) 1 rfl ?_
  refine J_callSI (As := [.int x1]) (st := []) dc_Cp_hasValue_1 (Eq.refl 4) lk_Cp_140 mi_Cp_isShelf (Nat.le_of_ble_eq_true rfl) rfl (Nat.le_of_ble_eq_true rfl) (CI.mono h (fun r2 σ1 h => ?_))
  refine J_if_eq dc_Cp_hasValue_4 (Eq.refl 7) rfl (fun hc => ?_) (fun hc => ?_)
  · have h := h.1 hc
    refine J_iconst (v := (0 : Int32)) dc_Cp_hasValue_28 (Eq.refl 29) rfl ?_
    exact J_zret dc_Cp_hasValue_29 rfl rfl h
  · have h := h.2 hc
    refine J_iload_n dc_Cp_hasValue_7 (Eq.refl 8) 2 rfl ?_
    refine J_if_lt dc_Cp_hasValue_8 (Eq.refl 11) rfl (fun hc => ?_) (fun hc => ?_)
    · have h := h.1 hc
      refine J_iconst (v := (0 : Int32)) dc_Cp_hasValue_28 (Eq.refl 29) rfl ?_
      exact J_zret dc_Cp_hasValue_29 rfl rfl h
    · have h := h.2 hc
      refine J_iload_n dc_Cp_hasValue_11 (Eq.refl 12) 2 rfl ?_
      refine J_aload_n dc_Cp_hasValue_12 (Eq.refl 13) 0 rfl ?_
      refine J_getF (y := 50) dc_Cp_hasValue_13 (Eq.refl 16) fl_Cp_71 (Nat.le_of_ble_eq_true rfl) rfl (Or.inl rfl) rfl ?_
      refine J_iload_n dc_Cp_hasValue_16 (Eq.refl 17) 1 rfl ?_
      obtain ⟨hg, h⟩ := h
      obtain ⟨t3, hr_t3, hk_t3, h⟩ := h
      refine J_aald dc_Cp_hasValue_17 (Eq.refl 18) rfl rfl hg hr_t3 ?_
      refine J_getI dc_Cp_hasValue_18 (Eq.refl 21) fl_Cp_225 (Nat.le_of_ble_eq_true rfl) hk_t3 (Or.inl rfl) ?_
      refine J_icmp_ge dc_Cp_hasValue_21 (Eq.refl 24) rfl (fun hc => ?_) (fun hc => ?_)
      · have h := h.1 hc
        refine J_iconst (v := (0 : Int32)) dc_Cp_hasValue_28 (Eq.refl 29) rfl ?_
        exact J_zret dc_Cp_hasValue_29 rfl rfl h
      · have h := h.2 hc
        refine J_iconst (v := (1 : Int32)) dc_Cp_hasValue_24 (Eq.refl 25) rfl ?_
        refine J_goto dc_Cp_hasValue_25 rfl ?_
        exact J_zret dc_Cp_hasValue_29 rfl rfl h
theorem dc_Cp_value_0 : decode m_Cp_value.2.1 0 = .ok (.aload_n 0, 1) := by decide +kernel
theorem dc_Cp_value_1 : decode m_Cp_value.2.1 1 = .ok (.iload_n 1, 1) := by decide +kernel
theorem dc_Cp_value_2 : decode m_Cp_value.2.1 2 = .ok (.iload_n 2, 1) := by decide +kernel
theorem dc_Cp_value_3 : decode m_Cp_value.2.1 3 = .ok (.invokevirtual 152, 3) := by decide +kernel
theorem dc_Cp_value_6 : decode m_Cp_value.2.1 6 = .ok (.ifCond .ne 5, 3) := by decide +kernel
theorem dc_Cp_value_9 : decode m_Cp_value.2.1 9 = .ok (.iconst (-1), 1) := by decide +kernel
theorem dc_Cp_value_10 : decode m_Cp_value.2.1 10 = .ok (.ireturn, 1) := by decide +kernel
theorem dc_Cp_value_11 : decode m_Cp_value.2.1 11 = .ok (.aload_n 0, 1) := by decide +kernel
theorem dc_Cp_value_12 : decode m_Cp_value.2.1 12 = .ok (.getfield 71, 3) := by decide +kernel
theorem dc_Cp_value_15 : decode m_Cp_value.2.1 15 = .ok (.iload_n 1, 1) := by decide +kernel
theorem dc_Cp_value_16 : decode m_Cp_value.2.1 16 = .ok (.aaload, 1) := by decide +kernel
theorem dc_Cp_value_17 : decode m_Cp_value.2.1 17 = .ok (.astore 4, 2) := by decide +kernel
theorem dc_Cp_value_19 : decode m_Cp_value.2.1 19 = .ok (.iload_n 3, 1) := by decide +kernel
theorem dc_Cp_value_20 : decode m_Cp_value.2.1 20 = .ok (.tableswitch 88 0 5 #[40, 48, 56, 64, 72, 80], 40) := by decide +kernel
theorem dc_Cp_value_60 : decode m_Cp_value.2.1 60 = .ok (.aload 4, 2) := by decide +kernel
theorem dc_Cp_value_62 : decode m_Cp_value.2.1 62 = .ok (.getfield 160, 3) := by decide +kernel
theorem dc_Cp_value_65 : decode m_Cp_value.2.1 65 = .ok (.iload_n 2, 1) := by decide +kernel
theorem dc_Cp_value_66 : decode m_Cp_value.2.1 66 = .ok (.iaload, 1) := by decide +kernel
theorem dc_Cp_value_67 : decode m_Cp_value.2.1 67 = .ok (.ireturn, 1) := by decide +kernel
theorem dc_Cp_value_68 : decode m_Cp_value.2.1 68 = .ok (.aload 4, 2) := by decide +kernel
theorem dc_Cp_value_70 : decode m_Cp_value.2.1 70 = .ok (.getfield 164, 3) := by decide +kernel
theorem dc_Cp_value_73 : decode m_Cp_value.2.1 73 = .ok (.iload_n 2, 1) := by decide +kernel
theorem dc_Cp_value_74 : decode m_Cp_value.2.1 74 = .ok (.iaload, 1) := by decide +kernel
theorem dc_Cp_value_75 : decode m_Cp_value.2.1 75 = .ok (.ireturn, 1) := by decide +kernel
theorem dc_Cp_value_76 : decode m_Cp_value.2.1 76 = .ok (.aload 4, 2) := by decide +kernel
theorem dc_Cp_value_78 : decode m_Cp_value.2.1 78 = .ok (.getfield 167, 3) := by decide +kernel
theorem dc_Cp_value_81 : decode m_Cp_value.2.1 81 = .ok (.iload_n 2, 1) := by decide +kernel
theorem dc_Cp_value_82 : decode m_Cp_value.2.1 82 = .ok (.iaload, 1) := by decide +kernel
theorem dc_Cp_value_83 : decode m_Cp_value.2.1 83 = .ok (.ireturn, 1) := by decide +kernel
theorem dc_Cp_value_84 : decode m_Cp_value.2.1 84 = .ok (.aload 4, 2) := by decide +kernel
theorem dc_Cp_value_86 : decode m_Cp_value.2.1 86 = .ok (.getfield 170, 3) := by decide +kernel
theorem dc_Cp_value_89 : decode m_Cp_value.2.1 89 = .ok (.iload_n 2, 1) := by decide +kernel
theorem dc_Cp_value_90 : decode m_Cp_value.2.1 90 = .ok (.iaload, 1) := by decide +kernel
theorem dc_Cp_value_91 : decode m_Cp_value.2.1 91 = .ok (.ireturn, 1) := by decide +kernel
theorem dc_Cp_value_92 : decode m_Cp_value.2.1 92 = .ok (.aload 4, 2) := by decide +kernel
theorem dc_Cp_value_94 : decode m_Cp_value.2.1 94 = .ok (.getfield 173, 3) := by decide +kernel
theorem dc_Cp_value_97 : decode m_Cp_value.2.1 97 = .ok (.iload_n 2, 1) := by decide +kernel
theorem dc_Cp_value_98 : decode m_Cp_value.2.1 98 = .ok (.iaload, 1) := by decide +kernel
theorem dc_Cp_value_99 : decode m_Cp_value.2.1 99 = .ok (.ireturn, 1) := by decide +kernel
theorem dc_Cp_value_100 : decode m_Cp_value.2.1 100 = .ok (.aload 4, 2) := by decide +kernel
theorem dc_Cp_value_102 : decode m_Cp_value.2.1 102 = .ok (.getfield 176, 3) := by decide +kernel
theorem dc_Cp_value_105 : decode m_Cp_value.2.1 105 = .ok (.iload_n 2, 1) := by decide +kernel
theorem dc_Cp_value_106 : decode m_Cp_value.2.1 106 = .ok (.iaload, 1) := by decide +kernel
theorem dc_Cp_value_107 : decode m_Cp_value.2.1 107 = .ok (.ireturn, 1) := by decide +kernel
theorem dc_Cp_value_108 : decode m_Cp_value.2.1 108 = .ok (.iconst (-1), 1) := by decide +kernel
theorem dc_Cp_value_109 : decode m_Cp_value.2.1 109 = .ok (.ireturn, 1) := by decide +kernel
theorem b_Cp_value_0 {E : En_t} {d : Nat} {σ : S_t} {Q : Option Value → S_t → Prop} {x1 : Int32} {x2 : Int32} {x3 : Int32}
    (h : CI E d m_Cp_hasValue [pv E 49, .int x1, .int x2] σ (fun r2 σ1 => (¬ r2 = 0 → vp_in x1 8 ∧ ∃ t3, gR σ1 50 x1.toNatClampNeg = some t3 ∧ kindP t3 = 11 ∧ ((x3 = (0 : Int32) → vp_in x2 500 ∧ (Q (some (.int (gI σ1 (t3 + 1) x2.toNatClampNeg))) σ1)) ∧ (x3 = (1 : Int32) → vp_in x2 500 ∧ (Q (some (.int (gI σ1 (t3 + 2) x2.toNatClampNeg))) σ1)) ∧ (x3 = (2 : Int32) → vp_in x2 500 ∧ (Q (some (.int (gI σ1 (t3 + 3) x2.toNatClampNeg))) σ1)) ∧ (x3 = (3 : Int32) → vp_in x2 500 ∧ (Q (some (.int (gI σ1 (t3 + 4) x2.toNatClampNeg))) σ1)) ∧ (x3 = (4 : Int32) → vp_in x2 500 ∧ (Q (some (.int (gI σ1 (t3 + 5) x2.toNatClampNeg))) σ1)) ∧ (x3 = (5 : Int32) → vp_in x2 500 ∧ (Q (some (.int (gI σ1 (t3 + 6) x2.toNatClampNeg))) σ1)) ∧ (¬ x3 = (0 : Int32) → ¬ x3 = (1 : Int32) → ¬ x3 = (2 : Int32) → ¬ x3 = (3 : Int32) → ¬ x3 = (4 : Int32) → ¬ x3 = (5 : Int32) → Q (some (.int (-1 : Int32))) σ1))) ∧ (r2 = 0 → Q (some (.int (-1 : Int32))) σ1))) :
    JE E (d + 1) m_Cp_value 0 [(0, pv E 49), (1, .int x1), (2, .int x2), (3, .int x3)] [] σ Q := by
  refine J_aload_n dc_Cp_value_0 (Eq.refl 1) 0 rfl ?_
  refine J_iload_n dc_Cp_value_1 (Eq.refl 2) 1 rfl ?_
  refine J_iload_n dc_Cp_value_2 (Eq.refl 3) 2 rfl ?_
  refine J_callVI (As := [.int x1, .int x2]) (st := []) dc_Cp_value_3 (Eq.refl 6) lk_Cp_152 mi_Cp_hasValue rfl (Nat.le_of_ble_eq_true rfl) rfl rfl (Nat.le_of_ble_eq_true rfl) rfl (Nat.le_of_ble_eq_true rfl) (CI.mono h (fun r2 σ1 h => ?_))
  refine J_if_ne dc_Cp_value_6 (Eq.refl 9) rfl (fun hc => ?_) (fun hc => ?_)
  · have h := h.1 hc
    refine J_aload_n dc_Cp_value_11 (Eq.refl 12) 0 rfl ?_
    refine J_getF (y := 50) dc_Cp_value_12 (Eq.refl 15) fl_Cp_71 (Nat.le_of_ble_eq_true rfl) rfl (Or.inl rfl) rfl ?_
    refine J_iload_n dc_Cp_value_15 (Eq.refl 16) 1 rfl ?_
    obtain ⟨hg, h⟩ := h
    obtain ⟨t3, hr_t3, hk_t3, h⟩ := h
    refine J_aald dc_Cp_value_16 (Eq.refl 17) rfl rfl hg hr_t3 ?_
    refine J_astore (L' := [(4, pv E t3), (0, pv E 49), (1, .int x1), (2, .int x2), (3, .int x3)]) dc_Cp_value_17 (Eq.refl 19) (Nat.le_of_ble_eq_true rfl) rfl ?_
    refine J_iload_n dc_Cp_value_19 (Eq.refl 20) 4 rfl ?_
    by_cases q0 : x3 = (0 : Int32)
    · have h := h.1 q0
      refine J_tableIn (tgt := 60) dc_Cp_value_20 (by rw [q0]; decide) (by rw [q0]; decide) (by rw [q0]; rfl) rfl ?_
      refine J_aload dc_Cp_value_60 (Eq.refl 62) 0 rfl ?_
      refine J_getF (y := t3 + 1) dc_Cp_value_62 (Eq.refl 65) fl_Cp_160 (Nat.le_of_ble_eq_true rfl) hk_t3 (Or.inl rfl) rfl ?_
      refine J_iload_n dc_Cp_value_65 (Eq.refl 66) 3 rfl ?_
      obtain ⟨hg, h⟩ := h
      refine J_iald dc_Cp_value_66 (Eq.refl 67) (ak_Tr_0 hk_t3).1 (ak_Tr_0 hk_t3).2 hg ?_
      exact J_iret dc_Cp_value_67 rfl h
    have h := h.2
    by_cases q1 : x3 = (1 : Int32)
    · have h := h.1 q1
      refine J_tableIn (tgt := 68) dc_Cp_value_20 (by rw [q1]; decide) (by rw [q1]; decide) (by rw [q1]; rfl) rfl ?_
      refine J_aload dc_Cp_value_68 (Eq.refl 70) 0 rfl ?_
      refine J_getF (y := t3 + 2) dc_Cp_value_70 (Eq.refl 73) fl_Cp_164 (Nat.le_of_ble_eq_true rfl) hk_t3 (Or.inl rfl) rfl ?_
      refine J_iload_n dc_Cp_value_73 (Eq.refl 74) 3 rfl ?_
      obtain ⟨hg, h⟩ := h
      refine J_iald dc_Cp_value_74 (Eq.refl 75) (ak_Tr_1 hk_t3).1 (ak_Tr_1 hk_t3).2 hg ?_
      exact J_iret dc_Cp_value_75 rfl h
    have h := h.2
    by_cases q2 : x3 = (2 : Int32)
    · have h := h.1 q2
      refine J_tableIn (tgt := 76) dc_Cp_value_20 (by rw [q2]; decide) (by rw [q2]; decide) (by rw [q2]; rfl) rfl ?_
      refine J_aload dc_Cp_value_76 (Eq.refl 78) 0 rfl ?_
      refine J_getF (y := t3 + 3) dc_Cp_value_78 (Eq.refl 81) fl_Cp_167 (Nat.le_of_ble_eq_true rfl) hk_t3 (Or.inl rfl) rfl ?_
      refine J_iload_n dc_Cp_value_81 (Eq.refl 82) 3 rfl ?_
      obtain ⟨hg, h⟩ := h
      refine J_iald dc_Cp_value_82 (Eq.refl 83) (ak_Tr_2 hk_t3).1 (ak_Tr_2 hk_t3).2 hg ?_
      exact J_iret dc_Cp_value_83 rfl h
    have h := h.2
    by_cases q3 : x3 = (3 : Int32)
    · have h := h.1 q3
      refine J_tableIn (tgt := 84) dc_Cp_value_20 (by rw [q3]; decide) (by rw [q3]; decide) (by rw [q3]; rfl) rfl ?_
      refine J_aload dc_Cp_value_84 (Eq.refl 86) 0 rfl ?_
      refine J_getF (y := t3 + 4) dc_Cp_value_86 (Eq.refl 89) fl_Cp_170 (Nat.le_of_ble_eq_true rfl) hk_t3 (Or.inl rfl) rfl ?_
      refine J_iload_n dc_Cp_value_89 (Eq.refl 90) 3 rfl ?_
      obtain ⟨hg, h⟩ := h
      refine J_iald dc_Cp_value_90 (Eq.refl 91) (ak_Tr_3 hk_t3).1 (ak_Tr_3 hk_t3).2 hg ?_
      exact J_iret dc_Cp_value_91 rfl h
    have h := h.2
    by_cases q4 : x3 = (4 : Int32)
    · have h := h.1 q4
      refine J_tableIn (tgt := 92) dc_Cp_value_20 (by rw [q4]; decide) (by rw [q4]; decide) (by rw [q4]; rfl) rfl ?_
      refine J_aload dc_Cp_value_92 (Eq.refl 94) 0 rfl ?_
      refine J_getF (y := t3 + 5) dc_Cp_value_94 (Eq.refl 97) fl_Cp_173 (Nat.le_of_ble_eq_true rfl) hk_t3 (Or.inl rfl) rfl ?_
      refine J_iload_n dc_Cp_value_97 (Eq.refl 98) 3 rfl ?_
      obtain ⟨hg, h⟩ := h
      refine J_iald dc_Cp_value_98 (Eq.refl 99) (ak_Tr_4 hk_t3).1 (ak_Tr_4 hk_t3).2 hg ?_
      exact J_iret dc_Cp_value_99 rfl h
    have h := h.2
    by_cases q5 : x3 = (5 : Int32)
    · have h := h.1 q5
      refine J_tableIn (tgt := 100) dc_Cp_value_20 (by rw [q5]; decide) (by rw [q5]; decide) (by rw [q5]; rfl) rfl ?_
      refine J_aload dc_Cp_value_100 (Eq.refl 102) 0 rfl ?_
      refine J_getF (y := t3 + 6) dc_Cp_value_102 (Eq.refl 105) fl_Cp_176 (Nat.le_of_ble_eq_true rfl) hk_t3 (Or.inl rfl) rfl ?_
      refine J_iload_n dc_Cp_value_105 (Eq.refl 106) 3 rfl ?_
      obtain ⟨hg, h⟩ := h
      refine J_iald dc_Cp_value_106 (Eq.refl 107) (ak_Tr_5 hk_t3).1 (ak_Tr_5 hk_t3).2 hg ?_
      exact J_iret dc_Cp_value_107 rfl h
    have h := h.2
    have h := h q0 q1 q2 q3 q4 q5
    refine J_tableOut (tgt := 108) dc_Cp_value_20 (sw_out (n := 5) (by decide) (fun k hk => ?_)) rfl ?_
    · have hk : k = 0 ∨ k = 1 ∨ k = 2 ∨ k = 3 ∨ k = 4 ∨ k = 5 := by omega
      rcases hk with rfl | rfl | rfl | rfl | rfl | rfl
      · exact q0
      · exact q1
      · exact q2
      · exact q3
      · exact q4
      · exact q5
    · skip
      refine J_iconst (v := (-1 : Int32)) dc_Cp_value_108 (Eq.refl 109) rfl ?_
      exact J_iret dc_Cp_value_109 rfl h
  · have h := h.2 hc
    refine J_iconst (v := (-1 : Int32)) dc_Cp_value_9 (Eq.refl 10) rfl ?_
    exact J_iret dc_Cp_value_10 rfl h
theorem dc_Cp_bits_0 : decode m_Cp_bits.2.1 0 = .ok (.aload_n 0, 1) := by decide +kernel
theorem dc_Cp_bits_1 : decode m_Cp_bits.2.1 1 = .ok (.iload_n 1, 1) := by decide +kernel
theorem dc_Cp_bits_2 : decode m_Cp_bits.2.1 2 = .ok (.iload_n 2, 1) := by decide +kernel
theorem dc_Cp_bits_3 : decode m_Cp_bits.2.1 3 = .ok (.invokevirtual 152, 3) := by decide +kernel
theorem dc_Cp_bits_6 : decode m_Cp_bits.2.1 6 = .ok (.ifCond .eq 18, 3) := by decide +kernel
theorem dc_Cp_bits_9 : decode m_Cp_bits.2.1 9 = .ok (.aload_n 0, 1) := by decide +kernel
theorem dc_Cp_bits_10 : decode m_Cp_bits.2.1 10 = .ok (.getfield 71, 3) := by decide +kernel
theorem dc_Cp_bits_13 : decode m_Cp_bits.2.1 13 = .ok (.iload_n 1, 1) := by decide +kernel
theorem dc_Cp_bits_14 : decode m_Cp_bits.2.1 14 = .ok (.aaload, 1) := by decide +kernel
theorem dc_Cp_bits_15 : decode m_Cp_bits.2.1 15 = .ok (.getfield 160, 3) := by decide +kernel
theorem dc_Cp_bits_18 : decode m_Cp_bits.2.1 18 = .ok (.iload_n 2, 1) := by decide +kernel
theorem dc_Cp_bits_19 : decode m_Cp_bits.2.1 19 = .ok (.iaload, 1) := by decide +kernel
theorem dc_Cp_bits_20 : decode m_Cp_bits.2.1 20 = .ok (.iconst 3, 1) := by decide +kernel
theorem dc_Cp_bits_21 : decode m_Cp_bits.2.1 21 = .ok (.if_icmp .eq 5, 3) := by decide +kernel
theorem dc_Cp_bits_24 : decode m_Cp_bits.2.1 24 = .ok (.lconst 0, 1) := by decide +kernel
theorem dc_Cp_bits_25 : decode m_Cp_bits.2.1 25 = .ok (.lreturn, 1) := by decide +kernel
theorem dc_Cp_bits_26 : decode m_Cp_bits.2.1 26 = .ok (.aload_n 0, 1) := by decide +kernel
theorem dc_Cp_bits_27 : decode m_Cp_bits.2.1 27 = .ok (.getfield 71, 3) := by decide +kernel
theorem dc_Cp_bits_30 : decode m_Cp_bits.2.1 30 = .ok (.iload_n 1, 1) := by decide +kernel
theorem dc_Cp_bits_31 : decode m_Cp_bits.2.1 31 = .ok (.aaload, 1) := by decide +kernel
theorem dc_Cp_bits_32 : decode m_Cp_bits.2.1 32 = .ok (.getfield 179, 3) := by decide +kernel
theorem dc_Cp_bits_35 : decode m_Cp_bits.2.1 35 = .ok (.iload_n 2, 1) := by decide +kernel
theorem dc_Cp_bits_36 : decode m_Cp_bits.2.1 36 = .ok (.laload, 1) := by decide +kernel
theorem dc_Cp_bits_37 : decode m_Cp_bits.2.1 37 = .ok (.lreturn, 1) := by decide +kernel
theorem b_Cp_bits_0 {E : En_t} {d : Nat} {σ : S_t} {Q : Option Value → S_t → Prop} {x1 : Int32} {x2 : Int32}
    (h : CI E d m_Cp_hasValue [pv E 49, .int x1, .int x2] σ (fun r2 σ1 => (r2 = 0 → Q (some (.long (0 : Int64))) σ1) ∧ (¬ r2 = 0 → vp_in x1 8 ∧ ∃ t3, gR σ1 50 x1.toNatClampNeg = some t3 ∧ kindP t3 = 11 ∧ (vp_in x2 500 ∧ (((gI σ1 (t3 + 1) x2.toNatClampNeg) = (3 : Int32) → vp_in x1 8 ∧ ∃ t4, gR σ1 50 x1.toNatClampNeg = some t4 ∧ kindP t4 = 11 ∧ (vp_in x2 500 ∧ (Q (some (.long (gL σ1 (t4 + 7) x2.toNatClampNeg))) σ1))) ∧ (¬ (gI σ1 (t3 + 1) x2.toNatClampNeg) = (3 : Int32) → Q (some (.long (0 : Int64))) σ1)))))) :
    JE E (d + 1) m_Cp_bits 0 [(0, pv E 49), (1, .int x1), (2, .int x2)] [] σ Q := by
  refine J_aload_n dc_Cp_bits_0 (Eq.refl 1) 0 rfl ?_
  refine J_iload_n dc_Cp_bits_1 (Eq.refl 2) 1 rfl ?_
  refine J_iload_n dc_Cp_bits_2 (Eq.refl 3) 2 rfl ?_
  refine J_callVI (As := [.int x1, .int x2]) (st := []) dc_Cp_bits_3 (Eq.refl 6) lk_Cp_152 mi_Cp_hasValue rfl (Nat.le_of_ble_eq_true rfl) rfl rfl (Nat.le_of_ble_eq_true rfl) rfl (Nat.le_of_ble_eq_true rfl) (CI.mono h (fun r2 σ1 h => ?_))
  refine J_if_eq dc_Cp_bits_6 (Eq.refl 9) rfl (fun hc => ?_) (fun hc => ?_)
  · have h := h.1 hc
    refine J_lconst (v := (0 : Int64)) dc_Cp_bits_24 (Eq.refl 25) rfl ?_
    exact J_lret dc_Cp_bits_25 rfl h
  · have h := h.2 hc
    refine J_aload_n dc_Cp_bits_9 (Eq.refl 10) 0 rfl ?_
    refine J_getF (y := 50) dc_Cp_bits_10 (Eq.refl 13) fl_Cp_71 (Nat.le_of_ble_eq_true rfl) rfl (Or.inl rfl) rfl ?_
    refine J_iload_n dc_Cp_bits_13 (Eq.refl 14) 1 rfl ?_
    obtain ⟨hg, h⟩ := h
    obtain ⟨t3, hr_t3, hk_t3, h⟩ := h
    refine J_aald dc_Cp_bits_14 (Eq.refl 15) rfl rfl hg hr_t3 ?_
    refine J_getF (y := t3 + 1) dc_Cp_bits_15 (Eq.refl 18) fl_Cp_160 (Nat.le_of_ble_eq_true rfl) hk_t3 (Or.inl rfl) rfl ?_
    refine J_iload_n dc_Cp_bits_18 (Eq.refl 19) 2 rfl ?_
    obtain ⟨hg, h⟩ := h
    refine J_iald dc_Cp_bits_19 (Eq.refl 20) (ak_Tr_0 hk_t3).1 (ak_Tr_0 hk_t3).2 hg ?_
    refine J_iconst (v := (3 : Int32)) dc_Cp_bits_20 (Eq.refl 21) rfl ?_
    refine J_icmp_eq dc_Cp_bits_21 (Eq.refl 24) rfl (fun hc => ?_) (fun hc => ?_)
    · have h := h.1 hc
      refine J_aload_n dc_Cp_bits_26 (Eq.refl 27) 0 rfl ?_
      refine J_getF (y := 50) dc_Cp_bits_27 (Eq.refl 30) fl_Cp_71 (Nat.le_of_ble_eq_true rfl) rfl (Or.inl rfl) rfl ?_
      refine J_iload_n dc_Cp_bits_30 (Eq.refl 31) 1 rfl ?_
      obtain ⟨hg, h⟩ := h
      obtain ⟨t4, hr_t4, hk_t4, h⟩ := h
      refine J_aald dc_Cp_bits_31 (Eq.refl 32) rfl rfl hg hr_t4 ?_
      refine J_getF (y := t4 + 7) dc_Cp_bits_32 (Eq.refl 35) fl_Cp_179 (Nat.le_of_ble_eq_true rfl) hk_t4 (Or.inl rfl) rfl ?_
      refine J_iload_n dc_Cp_bits_35 (Eq.refl 36) 2 rfl ?_
      obtain ⟨hg, h⟩ := h
      refine J_lald dc_Cp_bits_36 (Eq.refl 37) (ak_Tr_6 hk_t4).1 (ak_Tr_6 hk_t4).2 hg ?_
      exact J_lret dc_Cp_bits_37 rfl h
    · have h := h.2 hc
      refine J_lconst (v := (0 : Int64)) dc_Cp_bits_24 (Eq.refl 25) rfl ?_
      exact J_lret dc_Cp_bits_25 rfl h
theorem dc_Cp_character_0 : decode m_Cp_character.2.1 0 = .ok (.aload_n 0, 1) := by decide +kernel
theorem dc_Cp_character_1 : decode m_Cp_character.2.1 1 = .ok (.iload_n 1, 1) := by decide +kernel
theorem dc_Cp_character_2 : decode m_Cp_character.2.1 2 = .ok (.iload_n 2, 1) := by decide +kernel
theorem dc_Cp_character_3 : decode m_Cp_character.2.1 3 = .ok (.invokevirtual 152, 3) := by decide +kernel
theorem dc_Cp_character_6 : decode m_Cp_character.2.1 6 = .ok (.ifCond .ne 5, 3) := by decide +kernel
theorem dc_Cp_character_9 : decode m_Cp_character.2.1 9 = .ok (.iconst (-1), 1) := by decide +kernel
theorem dc_Cp_character_10 : decode m_Cp_character.2.1 10 = .ok (.ireturn, 1) := by decide +kernel
theorem dc_Cp_character_11 : decode m_Cp_character.2.1 11 = .ok (.aload_n 0, 1) := by decide +kernel
theorem dc_Cp_character_12 : decode m_Cp_character.2.1 12 = .ok (.getfield 71, 3) := by decide +kernel
theorem dc_Cp_character_15 : decode m_Cp_character.2.1 15 = .ok (.iload_n 1, 1) := by decide +kernel
theorem dc_Cp_character_16 : decode m_Cp_character.2.1 16 = .ok (.aaload, 1) := by decide +kernel
theorem dc_Cp_character_17 : decode m_Cp_character.2.1 17 = .ok (.astore 5, 2) := by decide +kernel
theorem dc_Cp_character_19 : decode m_Cp_character.2.1 19 = .ok (.iload_n 3, 1) := by decide +kernel
theorem dc_Cp_character_20 : decode m_Cp_character.2.1 20 = .ok (.ifCond .ne 12, 3) := by decide +kernel
theorem dc_Cp_character_23 : decode m_Cp_character.2.1 23 = .ok (.aload 5, 2) := by decide +kernel
theorem dc_Cp_character_25 : decode m_Cp_character.2.1 25 = .ok (.iload_n 2, 1) := by decide +kernel
theorem dc_Cp_character_26 : decode m_Cp_character.2.1 26 = .ok (.iload 4, 2) := by decide +kernel
theorem dc_Cp_character_28 : decode m_Cp_character.2.1 28 = .ok (.invokevirtual 183, 3) := by decide +kernel
theorem dc_Cp_character_31 : decode m_Cp_character.2.1 31 = .ok (.ireturn, 1) := by decide +kernel
theorem dc_Cp_character_32 : decode m_Cp_character.2.1 32 = .ok (.iload_n 3, 1) := by decide +kernel
theorem dc_Cp_character_33 : decode m_Cp_character.2.1 33 = .ok (.iconst 1, 1) := by decide +kernel
theorem dc_Cp_character_34 : decode m_Cp_character.2.1 34 = .ok (.if_icmp .ne 14, 3) := by decide +kernel
theorem dc_Cp_character_37 : decode m_Cp_character.2.1 37 = .ok (.aload 5, 2) := by decide +kernel
theorem dc_Cp_character_39 : decode m_Cp_character.2.1 39 = .ok (.iload_n 2, 1) := by decide +kernel
theorem dc_Cp_character_40 : decode m_Cp_character.2.1 40 = .ok (.iload 4, 2) := by decide +kernel
theorem dc_Cp_character_42 : decode m_Cp_character.2.1 42 = .ok (.invokevirtual 187, 3) := by decide +kernel
theorem dc_Cp_character_45 : decode m_Cp_character.2.1 45 = .ok (.goto 4, 3) := by decide +kernel
theorem dc_Cp_character_48 : decode m_Cp_character.2.1 48 = .ok (.iconst (-1), 1) := by decide +kernel
theorem dc_Cp_character_49 : decode m_Cp_character.2.1 49 = .ok (.ireturn, 1) := by decide +kernel
theorem b_Cp_character_0 {E : En_t} {d : Nat} {σ : S_t} {Q : Option Value → S_t → Prop} {x1 : Int32} {x2 : Int32} {x3 : Int32} {x4 : Int32}
    (h : CI E d m_Cp_hasValue [pv E 49, .int x1, .int x2] σ (fun r2 σ1 => (¬ r2 = 0 → vp_in x1 8 ∧ ∃ t3, gR σ1 50 x1.toNatClampNeg = some t3 ∧ kindP t3 = 11 ∧ ((¬ x3 = 0 → (¬ x3 = (1 : Int32) → Q (some (.int (-1 : Int32))) σ1) ∧ (x3 = (1 : Int32) → CI E d m_Tr_textCharacter [pv E t3, .int x2, .int x4] σ1 (fun r5 σ4 => Q (some (.int r5)) σ4))) ∧ (x3 = 0 → CI E d m_Tr_nameCharacter [pv E t3, .int x2, .int x4] σ1 (fun r7 σ6 => Q (some (.int r7)) σ6)))) ∧ (r2 = 0 → Q (some (.int (-1 : Int32))) σ1))) :
    JE E (d + 1) m_Cp_character 0 [(0, pv E 49), (1, .int x1), (2, .int x2), (3, .int x3), (4, .int x4)] [] σ Q := by
  refine J_aload_n dc_Cp_character_0 (Eq.refl 1) 0 rfl ?_
  refine J_iload_n dc_Cp_character_1 (Eq.refl 2) 1 rfl ?_
  refine J_iload_n dc_Cp_character_2 (Eq.refl 3) 2 rfl ?_
  refine J_callVI (As := [.int x1, .int x2]) (st := []) dc_Cp_character_3 (Eq.refl 6) lk_Cp_152 mi_Cp_hasValue rfl (Nat.le_of_ble_eq_true rfl) rfl rfl (Nat.le_of_ble_eq_true rfl) rfl (Nat.le_of_ble_eq_true rfl) (CI.mono h (fun r2 σ1 h => ?_))
  refine J_if_ne dc_Cp_character_6 (Eq.refl 9) rfl (fun hc => ?_) (fun hc => ?_)
  · have h := h.1 hc
    refine J_aload_n dc_Cp_character_11 (Eq.refl 12) 0 rfl ?_
    refine J_getF (y := 50) dc_Cp_character_12 (Eq.refl 15) fl_Cp_71 (Nat.le_of_ble_eq_true rfl) rfl (Or.inl rfl) rfl ?_
    refine J_iload_n dc_Cp_character_15 (Eq.refl 16) 1 rfl ?_
    obtain ⟨hg, h⟩ := h
    obtain ⟨t3, hr_t3, hk_t3, h⟩ := h
    refine J_aald dc_Cp_character_16 (Eq.refl 17) rfl rfl hg hr_t3 ?_
    refine J_astore (L' := [(5, pv E t3), (0, pv E 49), (1, .int x1), (2, .int x2), (3, .int x3), (4, .int x4)]) dc_Cp_character_17 (Eq.refl 19) (Nat.le_of_ble_eq_true rfl) rfl ?_
    refine J_iload_n dc_Cp_character_19 (Eq.refl 20) 4 rfl ?_
    refine J_if_ne dc_Cp_character_20 (Eq.refl 23) rfl (fun hc => ?_) (fun hc => ?_)
    · have h := h.1 hc
      refine J_iload_n dc_Cp_character_32 (Eq.refl 33) 4 rfl ?_
      refine J_iconst (v := (1 : Int32)) dc_Cp_character_33 (Eq.refl 34) rfl ?_
      refine J_icmp_ne dc_Cp_character_34 (Eq.refl 37) rfl (fun hc => ?_) (fun hc => ?_)
      · have h := h.1 hc
        refine J_iconst (v := (-1 : Int32)) dc_Cp_character_48 (Eq.refl 49) rfl ?_
        exact J_iret dc_Cp_character_49 rfl h
      · have h := h.2 hc
        refine J_aload dc_Cp_character_37 (Eq.refl 39) 0 rfl ?_
        refine J_iload_n dc_Cp_character_39 (Eq.refl 40) 3 rfl ?_
        refine J_iload dc_Cp_character_40 (Eq.refl 42) 5 rfl ?_
        refine J_callVI (As := [.int x2, .int x4]) (st := []) dc_Cp_character_42 (Eq.refl 45) lk_Cp_187 mi_Tr_textCharacter hk_t3 (Nat.le_of_ble_eq_true rfl) rfl rfl (Nat.le_of_ble_eq_true rfl) rfl (Nat.le_of_ble_eq_true rfl) (CI.mono h (fun r5 σ4 h => ?_))
        refine J_goto dc_Cp_character_45 rfl ?_
        exact J_iret dc_Cp_character_49 rfl h
    · have h := h.2 hc
      refine J_aload dc_Cp_character_23 (Eq.refl 25) 0 rfl ?_
      refine J_iload_n dc_Cp_character_25 (Eq.refl 26) 3 rfl ?_
      refine J_iload dc_Cp_character_26 (Eq.refl 28) 5 rfl ?_
      refine J_callVI (As := [.int x2, .int x4]) (st := []) dc_Cp_character_28 (Eq.refl 31) lk_Cp_183 mi_Tr_nameCharacter hk_t3 (Nat.le_of_ble_eq_true rfl) rfl rfl (Nat.le_of_ble_eq_true rfl) rfl (Nat.le_of_ble_eq_true rfl) (CI.mono h (fun r7 σ6 h => ?_))
      exact J_iret dc_Cp_character_31 rfl h
  · have h := h.2 hc
    refine J_iconst (v := (-1 : Int32)) dc_Cp_character_9 (Eq.refl 10) rfl ?_
    exact J_iret dc_Cp_character_10 rfl h
theorem dc_Cp_point_0 : decode m_Cp_point.2.1 0 = .ok (.aload_n 0, 1) := by decide +kernel
theorem dc_Cp_point_1 : decode m_Cp_point.2.1 1 = .ok (.getfield 58, 3) := by decide +kernel
theorem dc_Cp_point_4 : decode m_Cp_point.2.1 4 = .ok (.aload_n 0, 1) := by decide +kernel
theorem dc_Cp_point_5 : decode m_Cp_point.2.1 5 = .ok (.getfield 10, 3) := by decide +kernel
theorem dc_Cp_point_8 : decode m_Cp_point.2.1 8 = .ok (.invokevirtual 190, 3) := by decide +kernel
theorem dc_Cp_point_11 : decode m_Cp_point.2.1 11 = .ok (.istore_n 2, 1) := by decide +kernel
theorem dc_Cp_point_12 : decode m_Cp_point.2.1 12 = .ok (.aload_n 0, 1) := by decide +kernel
theorem dc_Cp_point_13 : decode m_Cp_point.2.1 13 = .ok (.getfield 10, 3) := by decide +kernel
theorem dc_Cp_point_16 : decode m_Cp_point.2.1 16 = .ok (.invokevirtual 115, 3) := by decide +kernel
theorem dc_Cp_point_19 : decode m_Cp_point.2.1 19 = .ok (.iload_n 2, 1) := by decide +kernel
theorem dc_Cp_point_20 : decode m_Cp_point.2.1 20 = .ok (.ifCond .eq 11, 3) := by decide +kernel
theorem dc_Cp_point_23 : decode m_Cp_point.2.1 23 = .ok (.aload_n 0, 1) := by decide +kernel
theorem dc_Cp_point_24 : decode m_Cp_point.2.1 24 = .ok (.iload_n 1, 1) := by decide +kernel
theorem dc_Cp_point_25 : decode m_Cp_point.2.1 25 = .ok (.invokevirtual 193, 3) := by decide +kernel
theorem dc_Cp_point_28 : decode m_Cp_point.2.1 28 = .ok (.ifCond .ne 6, 3) := by decide +kernel
theorem dc_Cp_point_31 : decode m_Cp_point.2.1 31 = .ok (.bipush (-2), 2) := by decide +kernel
theorem dc_Cp_point_33 : decode m_Cp_point.2.1 33 = .ok (.ireturn, 1) := by decide +kernel
theorem dc_Cp_point_34 : decode m_Cp_point.2.1 34 = .ok (.aload_n 0, 1) := by decide +kernel
theorem dc_Cp_point_35 : decode m_Cp_point.2.1 35 = .ok (.getfield 58, 3) := by decide +kernel
theorem dc_Cp_point_38 : decode m_Cp_point.2.1 38 = .ok (.aload_n 0, 1) := by decide +kernel
theorem dc_Cp_point_39 : decode m_Cp_point.2.1 39 = .ok (.getfield 71, 3) := by decide +kernel
theorem dc_Cp_point_42 : decode m_Cp_point.2.1 42 = .ok (.iload_n 1, 1) := by decide +kernel
theorem dc_Cp_point_43 : decode m_Cp_point.2.1 43 = .ok (.aaload, 1) := by decide +kernel
theorem dc_Cp_point_44 : decode m_Cp_point.2.1 44 = .ok (.invokevirtual 196, 3) := by decide +kernel
theorem dc_Cp_point_47 : decode m_Cp_point.2.1 47 = .ok (.ireturn, 1) := by decide +kernel
theorem b_Cp_point_0 {E : En_t} {d : Nat} {σ : S_t} {Q : Option Value → S_t → Prop} {x1 : Int32}
    (h : CI E d m_Po_decode [pv E 69, pv E 51] σ (fun r2 σ1 => CV E d m_Te_clear [pv E 51] σ1 (fun σ3 => (r2 = 0 → Q (some (.int (-2 : Int32))) σ3) ∧ (¬ r2 = 0 → CI E d m_Cp_hasDocument [pv E 49, .int x1] σ3 (fun r5 σ4 => (¬ r5 = 0 → vp_in x1 8 ∧ ∃ t6, gR σ4 50 x1.toNatClampNeg = some t6 ∧ kindP t6 = 11 ∧ (CI E d m_Po_find [pv E 69, pv E t6] σ4 (fun r8 σ7 => Q (some (.int r8)) σ7))) ∧ (r5 = 0 → Q (some (.int (-2 : Int32))) σ4)))))) :
    JE E (d + 1) m_Cp_point 0 [(0, pv E 49), (1, .int x1)] [] σ Q := by
  refine J_aload_n dc_Cp_point_0 (Eq.refl 1) 0 rfl ?_
  refine J_getF (y := 69) dc_Cp_point_1 (Eq.refl 4) fl_Cp_58 (Nat.le_of_ble_eq_true rfl) rfl (Or.inr rfl) rfl ?_
  refine J_aload_n dc_Cp_point_4 (Eq.refl 5) 0 rfl ?_
  refine J_getF (y := 51) dc_Cp_point_5 (Eq.refl 8) fl_Cp_10 (Nat.le_of_ble_eq_true rfl) rfl (Or.inr rfl) rfl ?_
  refine J_callVI (As := [pv E 51]) (st := []) dc_Cp_point_8 (Eq.refl 11) lk_Cp_190 mi_Po_decode rfl (Nat.le_of_ble_eq_true rfl) rfl rfl (Nat.le_of_ble_eq_true rfl) rfl (Nat.le_of_ble_eq_true rfl) (CI.mono h (fun r2 σ1 h => ?_))
  refine J_istore_n (L' := [(2, .int r2), (0, pv E 49), (1, .int x1)]) dc_Cp_point_11 (Eq.refl 12) (Nat.le_of_ble_eq_true rfl) rfl ?_
  refine J_aload_n dc_Cp_point_12 (Eq.refl 13) 1 rfl ?_
  refine J_getF (y := 51) dc_Cp_point_13 (Eq.refl 16) fl_Cp_10 (Nat.le_of_ble_eq_true rfl) rfl (Or.inr rfl) rfl ?_
  refine J_callVV (As := []) (st := []) dc_Cp_point_16 (Eq.refl 19) lk_Cp_115 mi_Te_clear rfl (Nat.le_of_ble_eq_true rfl) rfl rfl (Nat.le_of_ble_eq_true rfl) rfl (Nat.le_of_ble_eq_true rfl) (CV.mono h (fun σ3 h => ?_))
  refine J_iload_n dc_Cp_point_19 (Eq.refl 20) 0 rfl ?_
  refine J_if_eq dc_Cp_point_20 (Eq.refl 23) rfl (fun hc => ?_) (fun hc => ?_)
  · have h := h.1 hc
    refine J_bipush (v := (-2 : Int32)) dc_Cp_point_31 (Eq.refl 33) rfl ?_
    exact J_iret dc_Cp_point_33 rfl h
  · have h := h.2 hc
    refine J_aload_n dc_Cp_point_23 (Eq.refl 24) 1 rfl ?_
    refine J_iload_n dc_Cp_point_24 (Eq.refl 25) 2 rfl ?_
    refine J_callVI (As := [.int x1]) (st := []) dc_Cp_point_25 (Eq.refl 28) lk_Cp_193 mi_Cp_hasDocument rfl (Nat.le_of_ble_eq_true rfl) rfl rfl (Nat.le_of_ble_eq_true rfl) rfl (Nat.le_of_ble_eq_true rfl) (CI.mono h (fun r5 σ4 h => ?_))
    refine J_if_ne dc_Cp_point_28 (Eq.refl 31) rfl (fun hc => ?_) (fun hc => ?_)
    · have h := h.1 hc
      refine J_aload_n dc_Cp_point_34 (Eq.refl 35) 1 rfl ?_
      refine J_getF (y := 69) dc_Cp_point_35 (Eq.refl 38) fl_Cp_58 (Nat.le_of_ble_eq_true rfl) rfl (Or.inr rfl) rfl ?_
      refine J_aload_n dc_Cp_point_38 (Eq.refl 39) 1 rfl ?_
      refine J_getF (y := 50) dc_Cp_point_39 (Eq.refl 42) fl_Cp_71 (Nat.le_of_ble_eq_true rfl) rfl (Or.inl rfl) rfl ?_
      refine J_iload_n dc_Cp_point_42 (Eq.refl 43) 2 rfl ?_
      obtain ⟨hg, h⟩ := h
      obtain ⟨t6, hr_t6, hk_t6, h⟩ := h
      refine J_aald dc_Cp_point_43 (Eq.refl 44) rfl rfl hg hr_t6 ?_
      refine J_callVI (As := [pv E t6]) (st := []) dc_Cp_point_44 (Eq.refl 47) lk_Cp_196 mi_Po_find rfl (Nat.le_of_ble_eq_true rfl) rfl rfl (Nat.le_of_ble_eq_true rfl) rfl (Nat.le_of_ble_eq_true rfl) (CI.mono h (fun r8 σ7 h => ?_))
      exact J_iret dc_Cp_point_47 rfl h
    · have h := h.2 hc
      refine J_bipush (v := (-2 : Int32)) dc_Cp_point_31 (Eq.refl 33) rfl ?_
      exact J_iret dc_Cp_point_33 rfl h
theorem dc_Cp_hasDocument_0 : decode m_Cp_hasDocument.2.1 0 = .ok (.iload_n 1, 1) := by decide +kernel
theorem dc_Cp_hasDocument_1 : decode m_Cp_hasDocument.2.1 1 = .ok (.invokestatic 140, 3) := by decide +kernel
theorem dc_Cp_hasDocument_4 : decode m_Cp_hasDocument.2.1 4 = .ok (.ifCond .eq 19, 3) := by decide +kernel
theorem dc_Cp_hasDocument_7 : decode m_Cp_hasDocument.2.1 7 = .ok (.aload_n 0, 1) := by decide +kernel
theorem dc_Cp_hasDocument_8 : decode m_Cp_hasDocument.2.1 8 = .ok (.getfield 71, 3) := by decide +kernel
theorem dc_Cp_hasDocument_11 : decode m_Cp_hasDocument.2.1 11 = .ok (.iload_n 1, 1) := by decide +kernel
theorem dc_Cp_hasDocument_12 : decode m_Cp_hasDocument.2.1 12 = .ok (.aaload, 1) := by decide +kernel
theorem dc_Cp_hasDocument_13 : decode m_Cp_hasDocument.2.1 13 = .ok (.getfield 225, 3) := by decide +kernel
theorem dc_Cp_hasDocument_16 : decode m_Cp_hasDocument.2.1 16 = .ok (.ifCond .le 7, 3) := by decide +kernel
theorem dc_Cp_hasDocument_19 : decode m_Cp_hasDocument.2.1 19 = .ok (.iconst 1, 1) := by decide +kernel
theorem dc_Cp_hasDocument_20 : decode m_Cp_hasDocument.2.1 20 = .ok (.goto 4, 3) := by decide +kernel
theorem dc_Cp_hasDocument_23 : decode m_Cp_hasDocument.2.1 23 = .ok (.iconst 0, 1) := by decide +kernel
theorem dc_Cp_hasDocument_24 : decode m_Cp_hasDocument.2.1 24 = .ok (.ireturn, 1) := by decide +kernel
theorem b_Cp_hasDocument_0 {E : En_t} {d : Nat} {σ : S_t} {Q : Option Value → S_t → Prop} {x1 : Int32}
    (h : CI E d m_Cp_isShelf [.int x1] σ (fun r2 σ1 => (r2 = 0 → Q (some (.int (0 : Int32))) σ1) ∧ (¬ r2 = 0 → vp_in x1 8 ∧ ∃ t3, gR σ1 50 x1.toNatClampNeg = some t3 ∧ kindP t3 = 11 ∧ (((gI σ1 t3 13) ≤ 0 → Q (some (.int (0 : Int32))) σ1) ∧ (¬ (gI σ1 t3 13) ≤ 0 → Q (some (.int (1 : Int32))) σ1))))) :
    JE E (d + 1) m_Cp_hasDocument 0 [(0, pv E 49), (1, .int x1)] [] σ Q := by
  refine J_iload_n dc_Cp_hasDocument_0 (Eq.refl 1) 1 rfl ?_
  refine J_callSI (As := [.int x1]) (st := []) dc_Cp_hasDocument_1 (Eq.refl 4) lk_Cp_140 mi_Cp_isShelf (Nat.le_of_ble_eq_true rfl) rfl (Nat.le_of_ble_eq_true rfl) (CI.mono h (fun r2 σ1 h => ?_))
  refine J_if_eq dc_Cp_hasDocument_4 (Eq.refl 7) rfl (fun hc => ?_) (fun hc => ?_)
  · have h := h.1 hc
    refine J_iconst (v := (0 : Int32)) dc_Cp_hasDocument_23 (Eq.refl 24) rfl ?_
    exact J_zret dc_Cp_hasDocument_24 rfl rfl h
  · have h := h.2 hc
    refine J_aload_n dc_Cp_hasDocument_7 (Eq.refl 8) 0 rfl ?_
    refine J_getF (y := 50) dc_Cp_hasDocument_8 (Eq.refl 11) fl_Cp_71 (Nat.le_of_ble_eq_true rfl) rfl (Or.inl rfl) rfl ?_
    refine J_iload_n dc_Cp_hasDocument_11 (Eq.refl 12) 1 rfl ?_
    obtain ⟨hg, h⟩ := h
    obtain ⟨t3, hr_t3, hk_t3, h⟩ := h
    refine J_aald dc_Cp_hasDocument_12 (Eq.refl 13) rfl rfl hg hr_t3 ?_
    refine J_getI dc_Cp_hasDocument_13 (Eq.refl 16) fl_Cp_225 (Nat.le_of_ble_eq_true rfl) hk_t3 (Or.inl rfl) ?_
    refine J_if_le dc_Cp_hasDocument_16 (Eq.refl 19) rfl (fun hc => ?_) (fun hc => ?_)
    · have h := h.1 hc
      refine J_iconst (v := (0 : Int32)) dc_Cp_hasDocument_23 (Eq.refl 24) rfl ?_
      exact J_zret dc_Cp_hasDocument_24 rfl rfl h
    · have h := h.2 hc
      refine J_iconst (v := (1 : Int32)) dc_Cp_hasDocument_19 (Eq.refl 20) rfl ?_
      refine J_goto dc_Cp_hasDocument_20 rfl ?_
      exact J_zret dc_Cp_hasDocument_24 rfl rfl h
theorem dc_Cp_same_0 : decode m_Cp_same.2.1 0 = .ok (.aload_n 0, 1) := by decide +kernel
theorem dc_Cp_same_1 : decode m_Cp_same.2.1 1 = .ok (.iload_n 1, 1) := by decide +kernel
theorem dc_Cp_same_2 : decode m_Cp_same.2.1 2 = .ok (.iload_n 2, 1) := by decide +kernel
theorem dc_Cp_same_3 : decode m_Cp_same.2.1 3 = .ok (.invokevirtual 152, 3) := by decide +kernel
theorem dc_Cp_same_6 : decode m_Cp_same.2.1 6 = .ok (.ifCond .eq 13, 3) := by decide +kernel
theorem dc_Cp_same_9 : decode m_Cp_same.2.1 9 = .ok (.aload_n 0, 1) := by decide +kernel
theorem dc_Cp_same_10 : decode m_Cp_same.2.1 10 = .ok (.iload_n 3, 1) := by decide +kernel
theorem dc_Cp_same_11 : decode m_Cp_same.2.1 11 = .ok (.iload 4, 2) := by decide +kernel
theorem dc_Cp_same_13 : decode m_Cp_same.2.1 13 = .ok (.invokevirtual 152, 3) := by decide +kernel
theorem dc_Cp_same_16 : decode m_Cp_same.2.1 16 = .ok (.ifCond .ne 5, 3) := by decide +kernel
theorem dc_Cp_same_19 : decode m_Cp_same.2.1 19 = .ok (.iconst (-1), 1) := by decide +kernel
theorem dc_Cp_same_20 : decode m_Cp_same.2.1 20 = .ok (.ireturn, 1) := by decide +kernel
theorem dc_Cp_same_21 : decode m_Cp_same.2.1 21 = .ok (.aload_n 0, 1) := by decide +kernel
theorem dc_Cp_same_22 : decode m_Cp_same.2.1 22 = .ok (.getfield 71, 3) := by decide +kernel
theorem dc_Cp_same_25 : decode m_Cp_same.2.1 25 = .ok (.iload_n 1, 1) := by decide +kernel
theorem dc_Cp_same_26 : decode m_Cp_same.2.1 26 = .ok (.aaload, 1) := by decide +kernel
theorem dc_Cp_same_27 : decode m_Cp_same.2.1 27 = .ok (.iload_n 2, 1) := by decide +kernel
theorem dc_Cp_same_28 : decode m_Cp_same.2.1 28 = .ok (.aload_n 0, 1) := by decide +kernel
theorem dc_Cp_same_29 : decode m_Cp_same.2.1 29 = .ok (.getfield 71, 3) := by decide +kernel
theorem dc_Cp_same_32 : decode m_Cp_same.2.1 32 = .ok (.iload_n 3, 1) := by decide +kernel
theorem dc_Cp_same_33 : decode m_Cp_same.2.1 33 = .ok (.aaload, 1) := by decide +kernel
theorem dc_Cp_same_34 : decode m_Cp_same.2.1 34 = .ok (.iload 4, 2) := by decide +kernel
theorem dc_Cp_same_36 : decode m_Cp_same.2.1 36 = .ok (.invokevirtual 199, 3) := by decide +kernel
theorem dc_Cp_same_39 : decode m_Cp_same.2.1 39 = .ok (.ifCond .eq 7, 3) := by decide +kernel
theorem dc_Cp_same_42 : decode m_Cp_same.2.1 42 = .ok (.iconst 1, 1) := by decide +kernel
theorem dc_Cp_same_43 : decode m_Cp_same.2.1 43 = .ok (.goto 4, 3) := by decide +kernel
theorem dc_Cp_same_46 : decode m_Cp_same.2.1 46 = .ok (.iconst 0, 1) := by decide +kernel
theorem dc_Cp_same_47 : decode m_Cp_same.2.1 47 = .ok (.ireturn, 1) := by decide +kernel
theorem b_Cp_same_0 {E : En_t} {d : Nat} {σ : S_t} {Q : Option Value → S_t → Prop} {x1 : Int32} {x2 : Int32} {x3 : Int32} {x4 : Int32}
    (h : CI E d m_Cp_hasValue [pv E 49, .int x1, .int x2] σ (fun r2 σ1 => (r2 = 0 → Q (some (.int (-1 : Int32))) σ1) ∧ (¬ r2 = 0 → CI E d m_Cp_hasValue [pv E 49, .int x3, .int x4] σ1 (fun r4 σ3 => (¬ r4 = 0 → vp_in x1 8 ∧ ∃ t5, gR σ3 50 x1.toNatClampNeg = some t5 ∧ kindP t5 = 11 ∧ (vp_in x3 8 ∧ ∃ t6, gR σ3 50 x3.toNatClampNeg = some t6 ∧ kindP t6 = 11 ∧ (CI E d m_Tr_isAlike [pv E t5, .int x2, pv E t6, .int x4] σ3 (fun r8 σ7 => (r8 = 0 → Q (some (.int (0 : Int32))) σ7) ∧ (¬ r8 = 0 → Q (some (.int (1 : Int32))) σ7))))) ∧ (r4 = 0 → Q (some (.int (-1 : Int32))) σ3))))) :
    JE E (d + 1) m_Cp_same 0 [(0, pv E 49), (1, .int x1), (2, .int x2), (3, .int x3), (4, .int x4)] [] σ Q := by
  refine J_aload_n dc_Cp_same_0 (Eq.refl 1) 0 rfl ?_
  refine J_iload_n dc_Cp_same_1 (Eq.refl 2) 1 rfl ?_
  refine J_iload_n dc_Cp_same_2 (Eq.refl 3) 2 rfl ?_
  refine J_callVI (As := [.int x1, .int x2]) (st := []) dc_Cp_same_3 (Eq.refl 6) lk_Cp_152 mi_Cp_hasValue rfl (Nat.le_of_ble_eq_true rfl) rfl rfl (Nat.le_of_ble_eq_true rfl) rfl (Nat.le_of_ble_eq_true rfl) (CI.mono h (fun r2 σ1 h => ?_))
  refine J_if_eq dc_Cp_same_6 (Eq.refl 9) rfl (fun hc => ?_) (fun hc => ?_)
  · have h := h.1 hc
    refine J_iconst (v := (-1 : Int32)) dc_Cp_same_19 (Eq.refl 20) rfl ?_
    exact J_iret dc_Cp_same_20 rfl h
  · have h := h.2 hc
    refine J_aload_n dc_Cp_same_9 (Eq.refl 10) 0 rfl ?_
    refine J_iload_n dc_Cp_same_10 (Eq.refl 11) 3 rfl ?_
    refine J_iload dc_Cp_same_11 (Eq.refl 13) 4 rfl ?_
    refine J_callVI (As := [.int x3, .int x4]) (st := []) dc_Cp_same_13 (Eq.refl 16) lk_Cp_152 mi_Cp_hasValue rfl (Nat.le_of_ble_eq_true rfl) rfl rfl (Nat.le_of_ble_eq_true rfl) rfl (Nat.le_of_ble_eq_true rfl) (CI.mono h (fun r4 σ3 h => ?_))
    refine J_if_ne dc_Cp_same_16 (Eq.refl 19) rfl (fun hc => ?_) (fun hc => ?_)
    · have h := h.1 hc
      refine J_aload_n dc_Cp_same_21 (Eq.refl 22) 0 rfl ?_
      refine J_getF (y := 50) dc_Cp_same_22 (Eq.refl 25) fl_Cp_71 (Nat.le_of_ble_eq_true rfl) rfl (Or.inl rfl) rfl ?_
      refine J_iload_n dc_Cp_same_25 (Eq.refl 26) 1 rfl ?_
      obtain ⟨hg, h⟩ := h
      obtain ⟨t5, hr_t5, hk_t5, h⟩ := h
      refine J_aald dc_Cp_same_26 (Eq.refl 27) rfl rfl hg hr_t5 ?_
      refine J_iload_n dc_Cp_same_27 (Eq.refl 28) 2 rfl ?_
      refine J_aload_n dc_Cp_same_28 (Eq.refl 29) 0 rfl ?_
      refine J_getF (y := 50) dc_Cp_same_29 (Eq.refl 32) fl_Cp_71 (Nat.le_of_ble_eq_true rfl) rfl (Or.inl rfl) rfl ?_
      refine J_iload_n dc_Cp_same_32 (Eq.refl 33) 3 rfl ?_
      obtain ⟨hg, h⟩ := h
      obtain ⟨t6, hr_t6, hk_t6, h⟩ := h
      refine J_aald dc_Cp_same_33 (Eq.refl 34) rfl rfl hg hr_t6 ?_
      refine J_iload dc_Cp_same_34 (Eq.refl 36) 4 rfl ?_
      refine J_callVI (As := [.int x2, pv E t6, .int x4]) (st := []) dc_Cp_same_36 (Eq.refl 39) lk_Cp_199 mi_Tr_isAlike hk_t5 (Nat.le_of_ble_eq_true rfl) rfl rfl (Nat.le_of_ble_eq_true rfl) rfl (Nat.le_of_ble_eq_true rfl) (CI.mono h (fun r8 σ7 h => ?_))
      refine J_if_eq dc_Cp_same_39 (Eq.refl 42) rfl (fun hc => ?_) (fun hc => ?_)
      · have h := h.1 hc
        refine J_iconst (v := (0 : Int32)) dc_Cp_same_46 (Eq.refl 47) rfl ?_
        exact J_iret dc_Cp_same_47 rfl h
      · have h := h.2 hc
        refine J_iconst (v := (1 : Int32)) dc_Cp_same_42 (Eq.refl 43) rfl ?_
        refine J_goto dc_Cp_same_43 rfl ?_
        exact J_iret dc_Cp_same_47 rfl h
    · have h := h.2 hc
      refine J_iconst (v := (-1 : Int32)) dc_Cp_same_19 (Eq.refl 20) rfl ?_
      exact J_iret dc_Cp_same_20 rfl h
theorem dc_Cp_merge_0 : decode m_Cp_merge.2.1 0 = .ok (.aload_n 0, 1) := by decide +kernel
theorem dc_Cp_merge_1 : decode m_Cp_merge.2.1 1 = .ok (.iload_n 1, 1) := by decide +kernel
theorem dc_Cp_merge_2 : decode m_Cp_merge.2.1 2 = .ok (.invokevirtual 193, 3) := by decide +kernel
theorem dc_Cp_merge_5 : decode m_Cp_merge.2.1 5 = .ok (.ifCond .eq 18, 3) := by decide +kernel
theorem dc_Cp_merge_8 : decode m_Cp_merge.2.1 8 = .ok (.aload_n 0, 1) := by decide +kernel
theorem dc_Cp_merge_9 : decode m_Cp_merge.2.1 9 = .ok (.iload_n 2, 1) := by decide +kernel
theorem dc_Cp_merge_10 : decode m_Cp_merge.2.1 10 = .ok (.invokevirtual 193, 3) := by decide +kernel
theorem dc_Cp_merge_13 : decode m_Cp_merge.2.1 13 = .ok (.ifCond .eq 10, 3) := by decide +kernel
theorem dc_Cp_merge_16 : decode m_Cp_merge.2.1 16 = .ok (.iload_n 3, 1) := by decide +kernel
theorem dc_Cp_merge_17 : decode m_Cp_merge.2.1 17 = .ok (.invokestatic 140, 3) := by decide +kernel
theorem dc_Cp_merge_20 : decode m_Cp_merge.2.1 20 = .ok (.ifCond .ne 5, 3) := by decide +kernel
theorem dc_Cp_merge_23 : decode m_Cp_merge.2.1 23 = .ok (.iconst (-1), 1) := by decide +kernel
theorem dc_Cp_merge_24 : decode m_Cp_merge.2.1 24 = .ok (.ireturn, 1) := by decide +kernel
theorem dc_Cp_merge_25 : decode m_Cp_merge.2.1 25 = .ok (.aload_n 0, 1) := by decide +kernel
theorem dc_Cp_merge_26 : decode m_Cp_merge.2.1 26 = .ok (.getfield 65, 3) := by decide +kernel
theorem dc_Cp_merge_29 : decode m_Cp_merge.2.1 29 = .ok (.aload_n 0, 1) := by decide +kernel
theorem dc_Cp_merge_30 : decode m_Cp_merge.2.1 30 = .ok (.getfield 71, 3) := by decide +kernel
theorem dc_Cp_merge_33 : decode m_Cp_merge.2.1 33 = .ok (.iload_n 1, 1) := by decide +kernel
theorem dc_Cp_merge_34 : decode m_Cp_merge.2.1 34 = .ok (.aaload, 1) := by decide +kernel
theorem dc_Cp_merge_35 : decode m_Cp_merge.2.1 35 = .ok (.aload_n 0, 1) := by decide +kernel
theorem dc_Cp_merge_36 : decode m_Cp_merge.2.1 36 = .ok (.getfield 71, 3) := by decide +kernel
theorem dc_Cp_merge_39 : decode m_Cp_merge.2.1 39 = .ok (.iload_n 2, 1) := by decide +kernel
theorem dc_Cp_merge_40 : decode m_Cp_merge.2.1 40 = .ok (.aaload, 1) := by decide +kernel
theorem dc_Cp_merge_41 : decode m_Cp_merge.2.1 41 = .ok (.aload_n 0, 1) := by decide +kernel
theorem dc_Cp_merge_42 : decode m_Cp_merge.2.1 42 = .ok (.getfield 76, 3) := by decide +kernel
theorem dc_Cp_merge_45 : decode m_Cp_merge.2.1 45 = .ok (.iconst 0, 1) := by decide +kernel
theorem dc_Cp_merge_46 : decode m_Cp_merge.2.1 46 = .ok (.invokevirtual 203, 3) := by decide +kernel
theorem dc_Cp_merge_49 : decode m_Cp_merge.2.1 49 = .ok (.aload_n 0, 1) := by decide +kernel
theorem dc_Cp_merge_50 : decode m_Cp_merge.2.1 50 = .ok (.iload_n 3, 1) := by decide +kernel
theorem dc_Cp_merge_51 : decode m_Cp_merge.2.1 51 = .ok (.invokevirtual 207, 3) := by decide +kernel
theorem dc_Cp_merge_54 : decode m_Cp_merge.2.1 54 = .ok (.ireturn, 1) := by decide +kernel
theorem b_Cp_merge_0 {E : En_t} {d : Nat} {σ : S_t} {Q : Option Value → S_t → Prop} {x1 : Int32} {x2 : Int32} {x3 : Int32}
    (h : CI E d m_Cp_hasDocument [pv E 49, .int x1] σ (fun r2 σ1 => (r2 = 0 → Q (some (.int (-1 : Int32))) σ1) ∧ (¬ r2 = 0 → CI E d m_Cp_hasDocument [pv E 49, .int x2] σ1 (fun r4 σ3 => (r4 = 0 → Q (some (.int (-1 : Int32))) σ3) ∧ (¬ r4 = 0 → CI E d m_Cp_isShelf [.int x3] σ3 (fun r6 σ5 => (¬ r6 = 0 → vp_in x1 8 ∧ ∃ t7, gR σ5 50 x1.toNatClampNeg = some t7 ∧ kindP t7 = 11 ∧ (vp_in x2 8 ∧ ∃ t8, gR σ5 50 x2.toNatClampNeg = some t8 ∧ kindP t8 = 11 ∧ (∃ t9, gR σ5 49 9 = some t9 ∧ kindP t9 = 11 ∧ (CV E d m_We_make [pv E 71, pv E t7, pv E t8, pv E t9, .int (0 : Int32)] σ5 (fun σ10 => CI E d m_Cp_bringIfItFits [pv E 49, .int x3] σ10 (fun r12 σ11 => Q (some (.int r12)) σ11)))))) ∧ (r6 = 0 → Q (some (.int (-1 : Int32))) σ5))))))) :
    JE E (d + 1) m_Cp_merge 0 [(0, pv E 49), (1, .int x1), (2, .int x2), (3, .int x3)] [] σ Q := by
  refine J_aload_n dc_Cp_merge_0 (Eq.refl 1) 0 rfl ?_
  refine J_iload_n dc_Cp_merge_1 (Eq.refl 2) 1 rfl ?_
  refine J_callVI (As := [.int x1]) (st := []) dc_Cp_merge_2 (Eq.refl 5) lk_Cp_193 mi_Cp_hasDocument rfl (Nat.le_of_ble_eq_true rfl) rfl rfl (Nat.le_of_ble_eq_true rfl) rfl (Nat.le_of_ble_eq_true rfl) (CI.mono h (fun r2 σ1 h => ?_))
  refine J_if_eq dc_Cp_merge_5 (Eq.refl 8) rfl (fun hc => ?_) (fun hc => ?_)
  · have h := h.1 hc
    refine J_iconst (v := (-1 : Int32)) dc_Cp_merge_23 (Eq.refl 24) rfl ?_
    exact J_iret dc_Cp_merge_24 rfl h
  · have h := h.2 hc
    refine J_aload_n dc_Cp_merge_8 (Eq.refl 9) 0 rfl ?_
    refine J_iload_n dc_Cp_merge_9 (Eq.refl 10) 2 rfl ?_
    refine J_callVI (As := [.int x2]) (st := []) dc_Cp_merge_10 (Eq.refl 13) lk_Cp_193 mi_Cp_hasDocument rfl (Nat.le_of_ble_eq_true rfl) rfl rfl (Nat.le_of_ble_eq_true rfl) rfl (Nat.le_of_ble_eq_true rfl) (CI.mono h (fun r4 σ3 h => ?_))
    refine J_if_eq dc_Cp_merge_13 (Eq.refl 16) rfl (fun hc => ?_) (fun hc => ?_)
    · have h := h.1 hc
      refine J_iconst (v := (-1 : Int32)) dc_Cp_merge_23 (Eq.refl 24) rfl ?_
      exact J_iret dc_Cp_merge_24 rfl h
    · have h := h.2 hc
      refine J_iload_n dc_Cp_merge_16 (Eq.refl 17) 3 rfl ?_
      refine J_callSI (As := [.int x3]) (st := []) dc_Cp_merge_17 (Eq.refl 20) lk_Cp_140 mi_Cp_isShelf (Nat.le_of_ble_eq_true rfl) rfl (Nat.le_of_ble_eq_true rfl) (CI.mono h (fun r6 σ5 h => ?_))
      refine J_if_ne dc_Cp_merge_20 (Eq.refl 23) rfl (fun hc => ?_) (fun hc => ?_)
      · have h := h.1 hc
        refine J_aload_n dc_Cp_merge_25 (Eq.refl 26) 0 rfl ?_
        refine J_getF (y := 71) dc_Cp_merge_26 (Eq.refl 29) fl_Cp_65 (Nat.le_of_ble_eq_true rfl) rfl (Or.inr rfl) rfl ?_
        refine J_aload_n dc_Cp_merge_29 (Eq.refl 30) 0 rfl ?_
        refine J_getF (y := 50) dc_Cp_merge_30 (Eq.refl 33) fl_Cp_71 (Nat.le_of_ble_eq_true rfl) rfl (Or.inl rfl) rfl ?_
        refine J_iload_n dc_Cp_merge_33 (Eq.refl 34) 1 rfl ?_
        obtain ⟨hg, h⟩ := h
        obtain ⟨t7, hr_t7, hk_t7, h⟩ := h
        refine J_aald dc_Cp_merge_34 (Eq.refl 35) rfl rfl hg hr_t7 ?_
        refine J_aload_n dc_Cp_merge_35 (Eq.refl 36) 0 rfl ?_
        refine J_getF (y := 50) dc_Cp_merge_36 (Eq.refl 39) fl_Cp_71 (Nat.le_of_ble_eq_true rfl) rfl (Or.inl rfl) rfl ?_
        refine J_iload_n dc_Cp_merge_39 (Eq.refl 40) 2 rfl ?_
        obtain ⟨hg, h⟩ := h
        obtain ⟨t8, hr_t8, hk_t8, h⟩ := h
        refine J_aald dc_Cp_merge_40 (Eq.refl 41) rfl rfl hg hr_t8 ?_
        refine J_aload_n dc_Cp_merge_41 (Eq.refl 42) 0 rfl ?_
        obtain ⟨t9, hr_t9, hk_t9, h⟩ := h
        refine J_getR dc_Cp_merge_42 (Eq.refl 45) fl_Cp_76 (Nat.le_of_ble_eq_true rfl) rfl rfl hr_t9 ?_
        refine J_iconst (v := (0 : Int32)) dc_Cp_merge_45 (Eq.refl 46) rfl ?_
        refine J_callVV (As := [pv E t7, pv E t8, pv E t9, .int (0 : Int32)]) (st := []) dc_Cp_merge_46 (Eq.refl 49) lk_Cp_203 mi_We_make rfl (Nat.le_of_ble_eq_true rfl) rfl rfl (Nat.le_of_ble_eq_true rfl) rfl (Nat.le_of_ble_eq_true rfl) (CV.mono h (fun σ10 h => ?_))
        refine J_aload_n dc_Cp_merge_49 (Eq.refl 50) 0 rfl ?_
        refine J_iload_n dc_Cp_merge_50 (Eq.refl 51) 3 rfl ?_
        refine J_callVI (As := [.int x3]) (st := []) dc_Cp_merge_51 (Eq.refl 54) lk_Cp_207 mi_Cp_bringIfItFits rfl (Nat.le_of_ble_eq_true rfl) rfl rfl (Nat.le_of_ble_eq_true rfl) rfl (Nat.le_of_ble_eq_true rfl) (CI.mono h (fun r12 σ11 h => ?_))
        exact J_iret dc_Cp_merge_54 rfl h
      · have h := h.2 hc
        refine J_iconst (v := (-1 : Int32)) dc_Cp_merge_23 (Eq.refl 24) rfl ?_
        exact J_iret dc_Cp_merge_24 rfl h
theorem dc_Cp_bringIfItFits_0 : decode m_Cp_bringIfItFits.2.1 0 = .ok (.aload_n 0, 1) := by decide +kernel
theorem dc_Cp_bringIfItFits_1 : decode m_Cp_bringIfItFits.2.1 1 = .ok (.getfield 76, 3) := by decide +kernel
theorem dc_Cp_bringIfItFits_4 : decode m_Cp_bringIfItFits.2.1 4 = .ok (.getfield 228, 3) := by decide +kernel
theorem dc_Cp_bringIfItFits_7 : decode m_Cp_bringIfItFits.2.1 7 = .ok (.ifCond .ne 10, 3) := by decide +kernel
theorem dc_Cp_bringIfItFits_10 : decode m_Cp_bringIfItFits.2.1 10 = .ok (.iload_n 1, 1) := by decide +kernel
theorem dc_Cp_bringIfItFits_11 : decode m_Cp_bringIfItFits.2.1 11 = .ok (.invokestatic 140, 3) := by decide +kernel
theorem dc_Cp_bringIfItFits_14 : decode m_Cp_bringIfItFits.2.1 14 = .ok (.ifCond .ne 5, 3) := by decide +kernel
theorem dc_Cp_bringIfItFits_17 : decode m_Cp_bringIfItFits.2.1 17 = .ok (.iconst (-1), 1) := by decide +kernel
theorem dc_Cp_bringIfItFits_18 : decode m_Cp_bringIfItFits.2.1 18 = .ok (.ireturn, 1) := by decide +kernel
theorem dc_Cp_bringIfItFits_19 : decode m_Cp_bringIfItFits.2.1 19 = .ok (.aload_n 0, 1) := by decide +kernel
theorem dc_Cp_bringIfItFits_20 : decode m_Cp_bringIfItFits.2.1 20 = .ok (.getfield 76, 3) := by decide +kernel
theorem dc_Cp_bringIfItFits_23 : decode m_Cp_bringIfItFits.2.1 23 = .ok (.invokevirtual 231, 3) := by decide +kernel
theorem dc_Cp_bringIfItFits_26 : decode m_Cp_bringIfItFits.2.1 26 = .ok (.aload_n 0, 1) := by decide +kernel
theorem dc_Cp_bringIfItFits_27 : decode m_Cp_bringIfItFits.2.1 27 = .ok (.iload_n 1, 1) := by decide +kernel
theorem dc_Cp_bringIfItFits_28 : decode m_Cp_bringIfItFits.2.1 28 = .ok (.invokevirtual 149, 3) := by decide +kernel
theorem dc_Cp_bringIfItFits_31 : decode m_Cp_bringIfItFits.2.1 31 = .ok (.aload_n 0, 1) := by decide +kernel
theorem dc_Cp_bringIfItFits_32 : decode m_Cp_bringIfItFits.2.1 32 = .ok (.getfield 71, 3) := by decide +kernel
theorem dc_Cp_bringIfItFits_35 : decode m_Cp_bringIfItFits.2.1 35 = .ok (.iload_n 1, 1) := by decide +kernel
theorem dc_Cp_bringIfItFits_36 : decode m_Cp_bringIfItFits.2.1 36 = .ok (.aaload, 1) := by decide +kernel
theorem dc_Cp_bringIfItFits_37 : decode m_Cp_bringIfItFits.2.1 37 = .ok (.getfield 225, 3) := by decide +kernel
theorem dc_Cp_bringIfItFits_40 : decode m_Cp_bringIfItFits.2.1 40 = .ok (.ireturn, 1) := by decide +kernel
theorem b_Cp_bringIfItFits_0 {E : En_t} {d : Nat} {σ : S_t} {Q : Option Value → S_t → Prop} {x1 : Int32}
    (h : ∃ t1, gR σ 49 9 = some t1 ∧ kindP t1 = 11 ∧ ((¬ (gI σ t1 14) = 0 → Q (some (.int (-1 : Int32))) σ) ∧ ((gI σ t1 14) = 0 → CI E d m_Cp_isShelf [.int x1] σ (fun r3 σ2 => (¬ r3 = 0 → ∃ t4, gR σ2 49 9 = some t4 ∧ kindP t4 = 11 ∧ (CV E d m_Tr_measure [pv E t4] σ2 (fun σ5 => CV E d m_Cp_bringSpareTo [pv E 49, .int x1] σ5 (fun σ6 => vp_in x1 8 ∧ ∃ t7, gR σ6 50 x1.toNatClampNeg = some t7 ∧ kindP t7 = 11 ∧ (Q (some (.int (gI σ6 t7 13))) σ6))))) ∧ (r3 = 0 → Q (some (.int (-1 : Int32))) σ2))))) :
    JE E (d + 1) m_Cp_bringIfItFits 0 [(0, pv E 49), (1, .int x1)] [] σ Q := by
  refine J_aload_n dc_Cp_bringIfItFits_0 (Eq.refl 1) 0 rfl ?_
  obtain ⟨t1, hr_t1, hk_t1, h⟩ := h
  refine J_getR dc_Cp_bringIfItFits_1 (Eq.refl 4) fl_Cp_76 (Nat.le_of_ble_eq_true rfl) rfl rfl hr_t1 ?_
  refine J_getI dc_Cp_bringIfItFits_4 (Eq.refl 7) fl_Cp_228 (Nat.le_of_ble_eq_true rfl) hk_t1 (Or.inr rfl) ?_
  refine J_if_ne dc_Cp_bringIfItFits_7 (Eq.refl 10) rfl (fun hc => ?_) (fun hc => ?_)
  · have h := h.1 hc
    refine J_iconst (v := (-1 : Int32)) dc_Cp_bringIfItFits_17 (Eq.refl 18) rfl ?_
    exact J_iret dc_Cp_bringIfItFits_18 rfl h
  · have h := h.2 hc
    refine J_iload_n dc_Cp_bringIfItFits_10 (Eq.refl 11) 1 rfl ?_
    refine J_callSI (As := [.int x1]) (st := []) dc_Cp_bringIfItFits_11 (Eq.refl 14) lk_Cp_140 mi_Cp_isShelf (Nat.le_of_ble_eq_true rfl) rfl (Nat.le_of_ble_eq_true rfl) (CI.mono h (fun r3 σ2 h => ?_))
    refine J_if_ne dc_Cp_bringIfItFits_14 (Eq.refl 17) rfl (fun hc => ?_) (fun hc => ?_)
    · have h := h.1 hc
      refine J_aload_n dc_Cp_bringIfItFits_19 (Eq.refl 20) 0 rfl ?_
      obtain ⟨t4, hr_t4, hk_t4, h⟩ := h
      refine J_getR dc_Cp_bringIfItFits_20 (Eq.refl 23) fl_Cp_76 (Nat.le_of_ble_eq_true rfl) rfl rfl hr_t4 ?_
      refine J_callVV (As := []) (st := []) dc_Cp_bringIfItFits_23 (Eq.refl 26) lk_Cp_231 mi_Tr_measure hk_t4 (Nat.le_of_ble_eq_true rfl) rfl rfl (Nat.le_of_ble_eq_true rfl) rfl (Nat.le_of_ble_eq_true rfl) (CV.mono h (fun σ5 h => ?_))
      refine J_aload_n dc_Cp_bringIfItFits_26 (Eq.refl 27) 0 rfl ?_
      refine J_iload_n dc_Cp_bringIfItFits_27 (Eq.refl 28) 1 rfl ?_
      refine J_callVV (As := [.int x1]) (st := []) dc_Cp_bringIfItFits_28 (Eq.refl 31) lk_Cp_149 mi_Cp_bringSpareTo rfl (Nat.le_of_ble_eq_true rfl) rfl rfl (Nat.le_of_ble_eq_true rfl) rfl (Nat.le_of_ble_eq_true rfl) (CV.mono h (fun σ6 h => ?_))
      refine J_aload_n dc_Cp_bringIfItFits_31 (Eq.refl 32) 0 rfl ?_
      refine J_getF (y := 50) dc_Cp_bringIfItFits_32 (Eq.refl 35) fl_Cp_71 (Nat.le_of_ble_eq_true rfl) rfl (Or.inl rfl) rfl ?_
      refine J_iload_n dc_Cp_bringIfItFits_35 (Eq.refl 36) 1 rfl ?_
      obtain ⟨hg, h⟩ := h
      obtain ⟨t7, hr_t7, hk_t7, h⟩ := h
      refine J_aald dc_Cp_bringIfItFits_36 (Eq.refl 37) rfl rfl hg hr_t7 ?_
      refine J_getI dc_Cp_bringIfItFits_37 (Eq.refl 40) fl_Cp_225 (Nat.le_of_ble_eq_true rfl) hk_t7 (Or.inl rfl) ?_
      exact J_iret dc_Cp_bringIfItFits_40 rfl h
    · have h := h.2 hc
      refine J_iconst (v := (-1 : Int32)) dc_Cp_bringIfItFits_17 (Eq.refl 18) rfl ?_
      exact J_iret dc_Cp_bringIfItFits_18 rfl h
theorem dc_Cp_patch_0 : decode m_Cp_patch.2.1 0 = .ok (.aload_n 0, 1) := by decide +kernel
theorem dc_Cp_patch_1 : decode m_Cp_patch.2.1 1 = .ok (.iload_n 1, 1) := by decide +kernel
theorem dc_Cp_patch_2 : decode m_Cp_patch.2.1 2 = .ok (.invokevirtual 193, 3) := by decide +kernel
theorem dc_Cp_patch_5 : decode m_Cp_patch.2.1 5 = .ok (.ifCond .eq 18, 3) := by decide +kernel
theorem dc_Cp_patch_8 : decode m_Cp_patch.2.1 8 = .ok (.aload_n 0, 1) := by decide +kernel
theorem dc_Cp_patch_9 : decode m_Cp_patch.2.1 9 = .ok (.iload_n 2, 1) := by decide +kernel
theorem dc_Cp_patch_10 : decode m_Cp_patch.2.1 10 = .ok (.invokevirtual 193, 3) := by decide +kernel
theorem dc_Cp_patch_13 : decode m_Cp_patch.2.1 13 = .ok (.ifCond .eq 10, 3) := by decide +kernel
theorem dc_Cp_patch_16 : decode m_Cp_patch.2.1 16 = .ok (.iload_n 3, 1) := by decide +kernel
theorem dc_Cp_patch_17 : decode m_Cp_patch.2.1 17 = .ok (.invokestatic 140, 3) := by decide +kernel
theorem dc_Cp_patch_20 : decode m_Cp_patch.2.1 20 = .ok (.ifCond .ne 5, 3) := by decide +kernel
theorem dc_Cp_patch_23 : decode m_Cp_patch.2.1 23 = .ok (.iconst (-1), 1) := by decide +kernel
theorem dc_Cp_patch_24 : decode m_Cp_patch.2.1 24 = .ok (.ireturn, 1) := by decide +kernel
theorem dc_Cp_patch_25 : decode m_Cp_patch.2.1 25 = .ok (.aload_n 0, 1) := by decide +kernel
theorem dc_Cp_patch_26 : decode m_Cp_patch.2.1 26 = .ok (.getfield 65, 3) := by decide +kernel
theorem dc_Cp_patch_29 : decode m_Cp_patch.2.1 29 = .ok (.aload_n 0, 1) := by decide +kernel
theorem dc_Cp_patch_30 : decode m_Cp_patch.2.1 30 = .ok (.getfield 71, 3) := by decide +kernel
theorem dc_Cp_patch_33 : decode m_Cp_patch.2.1 33 = .ok (.iload_n 1, 1) := by decide +kernel
theorem dc_Cp_patch_34 : decode m_Cp_patch.2.1 34 = .ok (.aaload, 1) := by decide +kernel
theorem dc_Cp_patch_35 : decode m_Cp_patch.2.1 35 = .ok (.aload_n 0, 1) := by decide +kernel
theorem dc_Cp_patch_36 : decode m_Cp_patch.2.1 36 = .ok (.getfield 71, 3) := by decide +kernel
theorem dc_Cp_patch_39 : decode m_Cp_patch.2.1 39 = .ok (.iload_n 2, 1) := by decide +kernel
theorem dc_Cp_patch_40 : decode m_Cp_patch.2.1 40 = .ok (.aaload, 1) := by decide +kernel
theorem dc_Cp_patch_41 : decode m_Cp_patch.2.1 41 = .ok (.aload_n 0, 1) := by decide +kernel
theorem dc_Cp_patch_42 : decode m_Cp_patch.2.1 42 = .ok (.getfield 76, 3) := by decide +kernel
theorem dc_Cp_patch_45 : decode m_Cp_patch.2.1 45 = .ok (.iconst 1, 1) := by decide +kernel
theorem dc_Cp_patch_46 : decode m_Cp_patch.2.1 46 = .ok (.invokevirtual 203, 3) := by decide +kernel
theorem dc_Cp_patch_49 : decode m_Cp_patch.2.1 49 = .ok (.aload_n 0, 1) := by decide +kernel
theorem dc_Cp_patch_50 : decode m_Cp_patch.2.1 50 = .ok (.getfield 65, 3) := by decide +kernel
theorem dc_Cp_patch_53 : decode m_Cp_patch.2.1 53 = .ok (.getfield 211, 3) := by decide +kernel
theorem dc_Cp_patch_56 : decode m_Cp_patch.2.1 56 = .ok (.ifCond .eq 8, 3) := by decide +kernel
theorem dc_Cp_patch_59 : decode m_Cp_patch.2.1 59 = .ok (.bipush (-2), 2) := by decide +kernel
theorem dc_Cp_patch_61 : decode m_Cp_patch.2.1 61 = .ok (.goto 8, 3) := by decide +kernel
theorem dc_Cp_patch_64 : decode m_Cp_patch.2.1 64 = .ok (.aload_n 0, 1) := by decide +kernel
theorem dc_Cp_patch_65 : decode m_Cp_patch.2.1 65 = .ok (.iload_n 3, 1) := by decide +kernel
theorem dc_Cp_patch_66 : decode m_Cp_patch.2.1 66 = .ok (.invokevirtual 207, 3) := by decide +kernel
theorem dc_Cp_patch_69 : decode m_Cp_patch.2.1 69 = .ok (.ireturn, 1) := by decide +kernel
theorem b_Cp_patch_0 {E : En_t} {d : Nat} {σ : S_t} {Q : Option Value → S_t → Prop} {x1 : Int32} {x2 : Int32} {x3 : Int32}
    (h : CI E d m_Cp_hasDocument [pv E 49, .int x1] σ (fun r2 σ1 => (r2 = 0 → Q (some (.int (-1 : Int32))) σ1) ∧ (¬ r2 = 0 → CI E d m_Cp_hasDocument [pv E 49, .int x2] σ1 (fun r4 σ3 => (r4 = 0 → Q (some (.int (-1 : Int32))) σ3) ∧ (¬ r4 = 0 → CI E d m_Cp_isShelf [.int x3] σ3 (fun r6 σ5 => (¬ r6 = 0 → vp_in x1 8 ∧ ∃ t7, gR σ5 50 x1.toNatClampNeg = some t7 ∧ kindP t7 = 11 ∧ (vp_in x2 8 ∧ ∃ t8, gR σ5 50 x2.toNatClampNeg = some t8 ∧ kindP t8 = 11 ∧ (∃ t9, gR σ5 49 9 = some t9 ∧ kindP t9 = 11 ∧ (CV E d m_We_make [pv E 71, pv E t7, pv E t8, pv E t9, .int (1 : Int32)] σ5 (fun σ10 => ((gI σ10 71 4) = 0 → CI E d m_Cp_bringIfItFits [pv E 49, .int x3] σ10 (fun r12 σ11 => Q (some (.int r12)) σ11)) ∧ (¬ (gI σ10 71 4) = 0 → Q (some (.int (-2 : Int32))) σ10)))))) ∧ (r6 = 0 → Q (some (.int (-1 : Int32))) σ5))))))) :
    JE E (d + 1) m_Cp_patch 0 [(0, pv E 49), (1, .int x1), (2, .int x2), (3, .int x3)] [] σ Q := by
  refine J_aload_n dc_Cp_patch_0 (Eq.refl 1) 0 rfl ?_
  refine J_iload_n dc_Cp_patch_1 (Eq.refl 2) 1 rfl ?_
  refine J_callVI (As := [.int x1]) (st := []) dc_Cp_patch_2 (Eq.refl 5) lk_Cp_193 mi_Cp_hasDocument rfl (Nat.le_of_ble_eq_true rfl) rfl rfl (Nat.le_of_ble_eq_true rfl) rfl (Nat.le_of_ble_eq_true rfl) (CI.mono h (fun r2 σ1 h => ?_))
  refine J_if_eq dc_Cp_patch_5 (Eq.refl 8) rfl (fun hc => ?_) (fun hc => ?_)
  · have h := h.1 hc
    refine J_iconst (v := (-1 : Int32)) dc_Cp_patch_23 (Eq.refl 24) rfl ?_
    exact J_iret dc_Cp_patch_24 rfl h
  · have h := h.2 hc
    refine J_aload_n dc_Cp_patch_8 (Eq.refl 9) 0 rfl ?_
    refine J_iload_n dc_Cp_patch_9 (Eq.refl 10) 2 rfl ?_
    refine J_callVI (As := [.int x2]) (st := []) dc_Cp_patch_10 (Eq.refl 13) lk_Cp_193 mi_Cp_hasDocument rfl (Nat.le_of_ble_eq_true rfl) rfl rfl (Nat.le_of_ble_eq_true rfl) rfl (Nat.le_of_ble_eq_true rfl) (CI.mono h (fun r4 σ3 h => ?_))
    refine J_if_eq dc_Cp_patch_13 (Eq.refl 16) rfl (fun hc => ?_) (fun hc => ?_)
    · have h := h.1 hc
      refine J_iconst (v := (-1 : Int32)) dc_Cp_patch_23 (Eq.refl 24) rfl ?_
      exact J_iret dc_Cp_patch_24 rfl h
    · have h := h.2 hc
      refine J_iload_n dc_Cp_patch_16 (Eq.refl 17) 3 rfl ?_
      refine J_callSI (As := [.int x3]) (st := []) dc_Cp_patch_17 (Eq.refl 20) lk_Cp_140 mi_Cp_isShelf (Nat.le_of_ble_eq_true rfl) rfl (Nat.le_of_ble_eq_true rfl) (CI.mono h (fun r6 σ5 h => ?_))
      refine J_if_ne dc_Cp_patch_20 (Eq.refl 23) rfl (fun hc => ?_) (fun hc => ?_)
      · have h := h.1 hc
        refine J_aload_n dc_Cp_patch_25 (Eq.refl 26) 0 rfl ?_
        refine J_getF (y := 71) dc_Cp_patch_26 (Eq.refl 29) fl_Cp_65 (Nat.le_of_ble_eq_true rfl) rfl (Or.inr rfl) rfl ?_
        refine J_aload_n dc_Cp_patch_29 (Eq.refl 30) 0 rfl ?_
        refine J_getF (y := 50) dc_Cp_patch_30 (Eq.refl 33) fl_Cp_71 (Nat.le_of_ble_eq_true rfl) rfl (Or.inl rfl) rfl ?_
        refine J_iload_n dc_Cp_patch_33 (Eq.refl 34) 1 rfl ?_
        obtain ⟨hg, h⟩ := h
        obtain ⟨t7, hr_t7, hk_t7, h⟩ := h
        refine J_aald dc_Cp_patch_34 (Eq.refl 35) rfl rfl hg hr_t7 ?_
        refine J_aload_n dc_Cp_patch_35 (Eq.refl 36) 0 rfl ?_
        refine J_getF (y := 50) dc_Cp_patch_36 (Eq.refl 39) fl_Cp_71 (Nat.le_of_ble_eq_true rfl) rfl (Or.inl rfl) rfl ?_
        refine J_iload_n dc_Cp_patch_39 (Eq.refl 40) 2 rfl ?_
        obtain ⟨hg, h⟩ := h
        obtain ⟨t8, hr_t8, hk_t8, h⟩ := h
        refine J_aald dc_Cp_patch_40 (Eq.refl 41) rfl rfl hg hr_t8 ?_
        refine J_aload_n dc_Cp_patch_41 (Eq.refl 42) 0 rfl ?_
        obtain ⟨t9, hr_t9, hk_t9, h⟩ := h
        refine J_getR dc_Cp_patch_42 (Eq.refl 45) fl_Cp_76 (Nat.le_of_ble_eq_true rfl) rfl rfl hr_t9 ?_
        refine J_iconst (v := (1 : Int32)) dc_Cp_patch_45 (Eq.refl 46) rfl ?_
        refine J_callVV (As := [pv E t7, pv E t8, pv E t9, .int (1 : Int32)]) (st := []) dc_Cp_patch_46 (Eq.refl 49) lk_Cp_203 mi_We_make rfl (Nat.le_of_ble_eq_true rfl) rfl rfl (Nat.le_of_ble_eq_true rfl) rfl (Nat.le_of_ble_eq_true rfl) (CV.mono h (fun σ10 h => ?_))
        refine J_aload_n dc_Cp_patch_49 (Eq.refl 50) 0 rfl ?_
        refine J_getF (y := 71) dc_Cp_patch_50 (Eq.refl 53) fl_Cp_65 (Nat.le_of_ble_eq_true rfl) rfl (Or.inr rfl) rfl ?_
        refine J_getI dc_Cp_patch_53 (Eq.refl 56) fl_Cp_211 (Nat.le_of_ble_eq_true rfl) rfl (Or.inr rfl) ?_
        refine J_if_eq dc_Cp_patch_56 (Eq.refl 59) rfl (fun hc => ?_) (fun hc => ?_)
        · have h := h.1 hc
          refine J_aload_n dc_Cp_patch_64 (Eq.refl 65) 0 rfl ?_
          refine J_iload_n dc_Cp_patch_65 (Eq.refl 66) 3 rfl ?_
          refine J_callVI (As := [.int x3]) (st := []) dc_Cp_patch_66 (Eq.refl 69) lk_Cp_207 mi_Cp_bringIfItFits rfl (Nat.le_of_ble_eq_true rfl) rfl rfl (Nat.le_of_ble_eq_true rfl) rfl (Nat.le_of_ble_eq_true rfl) (CI.mono h (fun r12 σ11 h => ?_))
          exact J_iret dc_Cp_patch_69 rfl h
        · have h := h.2 hc
          refine J_bipush (v := (-2 : Int32)) dc_Cp_patch_59 (Eq.refl 61) rfl ?_
          refine J_goto dc_Cp_patch_61 rfl ?_
          exact J_iret dc_Cp_patch_69 rfl h
      · have h := h.2 hc
        refine J_iconst (v := (-1 : Int32)) dc_Cp_patch_23 (Eq.refl 24) rfl ?_
        exact J_iret dc_Cp_patch_24 rfl h
theorem dc_Cp_part_0 : decode m_Cp_part.2.1 0 = .ok (.aload_n 0, 1) := by decide +kernel
theorem dc_Cp_part_1 : decode m_Cp_part.2.1 1 = .ok (.iload_n 1, 1) := by decide +kernel
theorem dc_Cp_part_2 : decode m_Cp_part.2.1 2 = .ok (.iload_n 2, 1) := by decide +kernel
theorem dc_Cp_part_3 : decode m_Cp_part.2.1 3 = .ok (.invokevirtual 152, 3) := by decide +kernel
theorem dc_Cp_part_6 : decode m_Cp_part.2.1 6 = .ok (.ifCond .eq 10, 3) := by decide +kernel
theorem dc_Cp_part_9 : decode m_Cp_part.2.1 9 = .ok (.iload_n 3, 1) := by decide +kernel
theorem dc_Cp_part_10 : decode m_Cp_part.2.1 10 = .ok (.invokestatic 140, 3) := by decide +kernel
theorem dc_Cp_part_13 : decode m_Cp_part.2.1 13 = .ok (.ifCond .ne 5, 3) := by decide +kernel
theorem dc_Cp_part_16 : decode m_Cp_part.2.1 16 = .ok (.iconst (-1), 1) := by decide +kernel
theorem dc_Cp_part_17 : decode m_Cp_part.2.1 17 = .ok (.ireturn, 1) := by decide +kernel
theorem dc_Cp_part_18 : decode m_Cp_part.2.1 18 = .ok (.aload_n 0, 1) := by decide +kernel
theorem dc_Cp_part_19 : decode m_Cp_part.2.1 19 = .ok (.getfield 76, 3) := by decide +kernel
theorem dc_Cp_part_22 : decode m_Cp_part.2.1 22 = .ok (.invokevirtual 215, 3) := by decide +kernel
theorem dc_Cp_part_25 : decode m_Cp_part.2.1 25 = .ok (.aload_n 0, 1) := by decide +kernel
theorem dc_Cp_part_26 : decode m_Cp_part.2.1 26 = .ok (.getfield 76, 3) := by decide +kernel
theorem dc_Cp_part_29 : decode m_Cp_part.2.1 29 = .ok (.aload_n 0, 1) := by decide +kernel
theorem dc_Cp_part_30 : decode m_Cp_part.2.1 30 = .ok (.getfield 71, 3) := by decide +kernel
theorem dc_Cp_part_33 : decode m_Cp_part.2.1 33 = .ok (.iload_n 1, 1) := by decide +kernel
theorem dc_Cp_part_34 : decode m_Cp_part.2.1 34 = .ok (.aaload, 1) := by decide +kernel
theorem dc_Cp_part_35 : decode m_Cp_part.2.1 35 = .ok (.iload_n 2, 1) := by decide +kernel
theorem dc_Cp_part_36 : decode m_Cp_part.2.1 36 = .ok (.iconst (-1), 1) := by decide +kernel
theorem dc_Cp_part_37 : decode m_Cp_part.2.1 37 = .ok (.invokevirtual 216, 3) := by decide +kernel
theorem dc_Cp_part_40 : decode m_Cp_part.2.1 40 = .ok (.aload_n 0, 1) := by decide +kernel
theorem dc_Cp_part_41 : decode m_Cp_part.2.1 41 = .ok (.iload_n 3, 1) := by decide +kernel
theorem dc_Cp_part_42 : decode m_Cp_part.2.1 42 = .ok (.invokevirtual 207, 3) := by decide +kernel
theorem dc_Cp_part_45 : decode m_Cp_part.2.1 45 = .ok (.ireturn, 1) := by decide +kernel
theorem b_Cp_part_0 {E : En_t} {d : Nat} {σ : S_t} {Q : Option Value → S_t → Prop} {x1 : Int32} {x2 : Int32} {x3 : Int32}
    (h : CI E d m_Cp_hasValue [pv E 49, .int x1, .int x2] σ (fun r2 σ1 => (r2 = 0 → Q (some (.int (-1 : Int32))) σ1) ∧ (¬ r2 = 0 → CI E d m_Cp_isShelf [.int x3] σ1 (fun r4 σ3 => (¬ r4 = 0 → ∃ t5, gR σ3 49 9 = some t5 ∧ kindP t5 = 11 ∧ (CV E d m_Tr_clear [pv E t5] σ3 (fun σ6 => ∃ t7, gR σ6 49 9 = some t7 ∧ kindP t7 = 11 ∧ (vp_in x1 8 ∧ ∃ t8, gR σ6 50 x1.toNatClampNeg = some t8 ∧ kindP t8 = 11 ∧ (CV E d m_Tr_addWhole [pv E t7, pv E t8, .int x2, .int (-1 : Int32)] σ6 (fun σ9 => CI E d m_Cp_bringIfItFits [pv E 49, .int x3] σ9 (fun r11 σ10 => Q (some (.int r11)) σ10))))))) ∧ (r4 = 0 → Q (some (.int (-1 : Int32))) σ3))))) :
    JE E (d + 1) m_Cp_part 0 [(0, pv E 49), (1, .int x1), (2, .int x2), (3, .int x3)] [] σ Q := by
  refine J_aload_n dc_Cp_part_0 (Eq.refl 1) 0 rfl ?_
  refine J_iload_n dc_Cp_part_1 (Eq.refl 2) 1 rfl ?_
  refine J_iload_n dc_Cp_part_2 (Eq.refl 3) 2 rfl ?_
  refine J_callVI (As := [.int x1, .int x2]) (st := []) dc_Cp_part_3 (Eq.refl 6) lk_Cp_152 mi_Cp_hasValue rfl (Nat.le_of_ble_eq_true rfl) rfl rfl (Nat.le_of_ble_eq_true rfl) rfl (Nat.le_of_ble_eq_true rfl) (CI.mono h (fun r2 σ1 h => ?_))
  refine J_if_eq dc_Cp_part_6 (Eq.refl 9) rfl (fun hc => ?_) (fun hc => ?_)
  · have h := h.1 hc
    refine J_iconst (v := (-1 : Int32)) dc_Cp_part_16 (Eq.refl 17) rfl ?_
    exact J_iret dc_Cp_part_17 rfl h
  · have h := h.2 hc
    refine J_iload_n dc_Cp_part_9 (Eq.refl 10) 3 rfl ?_
    refine J_callSI (As := [.int x3]) (st := []) dc_Cp_part_10 (Eq.refl 13) lk_Cp_140 mi_Cp_isShelf (Nat.le_of_ble_eq_true rfl) rfl (Nat.le_of_ble_eq_true rfl) (CI.mono h (fun r4 σ3 h => ?_))
    refine J_if_ne dc_Cp_part_13 (Eq.refl 16) rfl (fun hc => ?_) (fun hc => ?_)
    · have h := h.1 hc
      refine J_aload_n dc_Cp_part_18 (Eq.refl 19) 0 rfl ?_
      obtain ⟨t5, hr_t5, hk_t5, h⟩ := h
      refine J_getR dc_Cp_part_19 (Eq.refl 22) fl_Cp_76 (Nat.le_of_ble_eq_true rfl) rfl rfl hr_t5 ?_
      refine J_callVV (As := []) (st := []) dc_Cp_part_22 (Eq.refl 25) lk_Cp_215 mi_Tr_clear hk_t5 (Nat.le_of_ble_eq_true rfl) rfl rfl (Nat.le_of_ble_eq_true rfl) rfl (Nat.le_of_ble_eq_true rfl) (CV.mono h (fun σ6 h => ?_))
      refine J_aload_n dc_Cp_part_25 (Eq.refl 26) 0 rfl ?_
      obtain ⟨t7, hr_t7, hk_t7, h⟩ := h
      refine J_getR dc_Cp_part_26 (Eq.refl 29) fl_Cp_76 (Nat.le_of_ble_eq_true rfl) rfl rfl hr_t7 ?_
      refine J_aload_n dc_Cp_part_29 (Eq.refl 30) 0 rfl ?_
      refine J_getF (y := 50) dc_Cp_part_30 (Eq.refl 33) fl_Cp_71 (Nat.le_of_ble_eq_true rfl) rfl (Or.inl rfl) rfl ?_
      refine J_iload_n dc_Cp_part_33 (Eq.refl 34) 1 rfl ?_
      obtain ⟨hg, h⟩ := h
      obtain ⟨t8, hr_t8, hk_t8, h⟩ := h
      refine J_aald dc_Cp_part_34 (Eq.refl 35) rfl rfl hg hr_t8 ?_
      refine J_iload_n dc_Cp_part_35 (Eq.refl 36) 2 rfl ?_
      refine J_iconst (v := (-1 : Int32)) dc_Cp_part_36 (Eq.refl 37) rfl ?_
      refine J_callVV (As := [pv E t8, .int x2, .int (-1 : Int32)]) (st := []) dc_Cp_part_37 (Eq.refl 40) lk_Cp_216 mi_Tr_addWhole hk_t7 (Nat.le_of_ble_eq_true rfl) rfl rfl (Nat.le_of_ble_eq_true rfl) rfl (Nat.le_of_ble_eq_true rfl) (CV.mono h (fun σ9 h => ?_))
      refine J_aload_n dc_Cp_part_40 (Eq.refl 41) 0 rfl ?_
      refine J_iload_n dc_Cp_part_41 (Eq.refl 42) 3 rfl ?_
      refine J_callVI (As := [.int x3]) (st := []) dc_Cp_part_42 (Eq.refl 45) lk_Cp_207 mi_Cp_bringIfItFits rfl (Nat.le_of_ble_eq_true rfl) rfl rfl (Nat.le_of_ble_eq_true rfl) rfl (Nat.le_of_ble_eq_true rfl) (CI.mono h (fun r11 σ10 h => ?_))
      exact J_iret dc_Cp_part_45 rfl h
    · have h := h.2 hc
      refine J_iconst (v := (-1 : Int32)) dc_Cp_part_16 (Eq.refl 17) rfl ?_
      exact J_iret dc_Cp_part_17 rfl h
theorem dc_Cp_about_0 : decode m_Cp_about.2.1 0 = .ok (.iload_n 1, 1) := by decide +kernel
theorem dc_Cp_about_1 : decode m_Cp_about.2.1 1 = .ok (.tableswitch 48 0 2 #[27, 35, 43], 27) := by decide +kernel
theorem dc_Cp_about_28 : decode m_Cp_about.2.1 28 = .ok (.aload_n 0, 1) := by decide +kernel
theorem dc_Cp_about_29 : decode m_Cp_about.2.1 29 = .ok (.getfield 10, 3) := by decide +kernel
theorem dc_Cp_about_32 : decode m_Cp_about.2.1 32 = .ok (.getfield 84, 3) := by decide +kernel
theorem dc_Cp_about_35 : decode m_Cp_about.2.1 35 = .ok (.ireturn, 1) := by decide +kernel
theorem dc_Cp_about_36 : decode m_Cp_about.2.1 36 = .ok (.aload_n 0, 1) := by decide +kernel
theorem dc_Cp_about_37 : decode m_Cp_about.2.1 37 = .ok (.getfield 19, 3) := by decide +kernel
theorem dc_Cp_about_40 : decode m_Cp_about.2.1 40 = .ok (.invokevirtual 91, 3) := by decide +kernel
theorem dc_Cp_about_43 : decode m_Cp_about.2.1 43 = .ok (.ireturn, 1) := by decide +kernel
theorem dc_Cp_about_44 : decode m_Cp_about.2.1 44 = .ok (.aload_n 0, 1) := by decide +kernel
theorem dc_Cp_about_45 : decode m_Cp_about.2.1 45 = .ok (.invokevirtual 220, 3) := by decide +kernel
theorem dc_Cp_about_48 : decode m_Cp_about.2.1 48 = .ok (.ireturn, 1) := by decide +kernel
theorem dc_Cp_about_49 : decode m_Cp_about.2.1 49 = .ok (.iconst (-1), 1) := by decide +kernel
theorem dc_Cp_about_50 : decode m_Cp_about.2.1 50 = .ok (.ireturn, 1) := by decide +kernel
theorem b_Cp_about_0 {E : En_t} {d : Nat} {σ : S_t} {Q : Option Value → S_t → Prop} {x1 : Int32}
    (h : (x1 = (0 : Int32) → Q (some (.int (gI σ 51 1))) σ) ∧ (x1 = (1 : Int32) → CI E d m_Ou_keptBytes [pv E 53] σ (fun r2 σ1 => Q (some (.int r2)) σ1)) ∧ (x1 = (2 : Int32) → CI E d m_Cp_countDocuments [pv E 49] σ (fun r4 σ3 => Q (some (.int r4)) σ3)) ∧ (¬ x1 = (0 : Int32) → ¬ x1 = (1 : Int32) → ¬ x1 = (2 : Int32) → Q (some (.int (-1 : Int32))) σ)) :
    JE E (d + 1) m_Cp_about 0 [(0, pv E 49), (1, .int x1)] [] σ Q := by
  refine J_iload_n dc_Cp_about_0 (Eq.refl 1) 1 rfl ?_
  by_cases q0 : x1 = (0 : Int32)
  · have h := h.1 q0
    refine J_tableIn (tgt := 28) dc_Cp_about_1 (by rw [q0]; decide) (by rw [q0]; decide) (by rw [q0]; rfl) rfl ?_
    refine J_aload_n dc_Cp_about_28 (Eq.refl 29) 0 rfl ?_
    refine J_getF (y := 51) dc_Cp_about_29 (Eq.refl 32) fl_Cp_10 (Nat.le_of_ble_eq_true rfl) rfl (Or.inr rfl) rfl ?_
    refine J_getI dc_Cp_about_32 (Eq.refl 35) fl_Cp_84 (Nat.le_of_ble_eq_true rfl) rfl (Or.inl rfl) ?_
    exact J_iret dc_Cp_about_35 rfl h
  have h := h.2
  by_cases q1 : x1 = (1 : Int32)
  · have h := h.1 q1
    refine J_tableIn (tgt := 36) dc_Cp_about_1 (by rw [q1]; decide) (by rw [q1]; decide) (by rw [q1]; rfl) rfl ?_
    refine J_aload_n dc_Cp_about_36 (Eq.refl 37) 0 rfl ?_
    refine J_getF (y := 53) dc_Cp_about_37 (Eq.refl 40) fl_Cp_19 (Nat.le_of_ble_eq_true rfl) rfl (Or.inr rfl) rfl ?_
    refine J_callVI (As := []) (st := []) dc_Cp_about_40 (Eq.refl 43) lk_Cp_91 mi_Ou_keptBytes rfl (Nat.le_of_ble_eq_true rfl) rfl rfl (Nat.le_of_ble_eq_true rfl) rfl (Nat.le_of_ble_eq_true rfl) (CI.mono h (fun r2 σ1 h => ?_))
    exact J_iret dc_Cp_about_43 rfl h
  have h := h.2
  by_cases q2 : x1 = (2 : Int32)
  · have h := h.1 q2
    refine J_tableIn (tgt := 44) dc_Cp_about_1 (by rw [q2]; decide) (by rw [q2]; decide) (by rw [q2]; rfl) rfl ?_
    refine J_aload_n dc_Cp_about_44 (Eq.refl 45) 0 rfl ?_
    refine J_callVI (As := []) (st := []) dc_Cp_about_45 (Eq.refl 48) lk_Cp_220 mi_Cp_countDocuments rfl (Nat.le_of_ble_eq_true rfl) rfl rfl (Nat.le_of_ble_eq_true rfl) rfl (Nat.le_of_ble_eq_true rfl) (CI.mono h (fun r4 σ3 h => ?_))
    exact J_iret dc_Cp_about_48 rfl h
  have h := h.2
  have h := h q0 q1 q2
  refine J_tableOut (tgt := 49) dc_Cp_about_1 (sw_out (n := 2) (by decide) (fun k hk => ?_)) rfl ?_
  · have hk : k = 0 ∨ k = 1 ∨ k = 2 := by omega
    rcases hk with rfl | rfl | rfl
    · exact q0
    · exact q1
    · exact q2
  · skip
    refine J_iconst (v := (-1 : Int32)) dc_Cp_about_49 (Eq.refl 50) rfl ?_
    exact J_iret dc_Cp_about_50 rfl h
theorem dc_Cp_countDocuments_0 : decode m_Cp_countDocuments.2.1 0 = .ok (.iconst 0, 1) := by decide +kernel
theorem dc_Cp_countDocuments_1 : decode m_Cp_countDocuments.2.1 1 = .ok (.istore_n 1, 1) := by decide +kernel
theorem dc_Cp_countDocuments_2 : decode m_Cp_countDocuments.2.1 2 = .ok (.iconst 0, 1) := by decide +kernel
theorem dc_Cp_countDocuments_3 : decode m_Cp_countDocuments.2.1 3 = .ok (.istore_n 2, 1) := by decide +kernel
theorem dc_Cp_countDocuments_4 : decode m_Cp_countDocuments.2.1 4 = .ok (.iload_n 2, 1) := by decide +kernel
theorem dc_Cp_countDocuments_5 : decode m_Cp_countDocuments.2.1 5 = .ok (.bipush 8, 2) := by decide +kernel
theorem dc_Cp_countDocuments_7 : decode m_Cp_countDocuments.2.1 7 = .ok (.if_icmp .ge 20, 3) := by decide +kernel
theorem dc_Cp_countDocuments_10 : decode m_Cp_countDocuments.2.1 10 = .ok (.aload_n 0, 1) := by decide +kernel
theorem dc_Cp_countDocuments_11 : decode m_Cp_countDocuments.2.1 11 = .ok (.iload_n 2, 1) := by decide +kernel
theorem dc_Cp_countDocuments_12 : decode m_Cp_countDocuments.2.1 12 = .ok (.invokevirtual 193, 3) := by decide +kernel
theorem dc_Cp_countDocuments_15 : decode m_Cp_countDocuments.2.1 15 = .ok (.ifCond .eq 6, 3) := by decide +kernel
theorem dc_Cp_countDocuments_18 : decode m_Cp_countDocuments.2.1 18 = .ok (.iinc 1 1, 3) := by decide +kernel
theorem dc_Cp_countDocuments_21 : decode m_Cp_countDocuments.2.1 21 = .ok (.iinc 2 1, 3) := by decide +kernel
theorem dc_Cp_countDocuments_24 : decode m_Cp_countDocuments.2.1 24 = .ok (.goto (-20), 3) := by decide +kernel
theorem dc_Cp_countDocuments_27 : decode m_Cp_countDocuments.2.1 27 = .ok (.iload_n 1, 1) := by decide +kernel
theorem dc_Cp_countDocuments_28 : decode m_Cp_countDocuments.2.1 28 = .ok (.ireturn, 1) := by decide +kernel
theorem b_Cp_countDocuments_0 {E : En_t} {d : Nat} {σ : S_t} {Q : Option Value → S_t → Prop}
    (h : JE E (d + 1) m_Cp_countDocuments 4 [(0, pv E 49), (1, .int (0 : Int32)), (2, .int (0 : Int32))] [] σ Q) :
    JE E (d + 1) m_Cp_countDocuments 0 [(0, pv E 49)] [] σ Q := by
  refine J_iconst (v := (0 : Int32)) dc_Cp_countDocuments_0 (Eq.refl 1) rfl ?_
  refine J_istore_n (L' := [(1, .int (0 : Int32)), (0, pv E 49)]) dc_Cp_countDocuments_1 (Eq.refl 2) (Nat.le_of_ble_eq_true rfl) rfl ?_
  refine J_iconst (v := (0 : Int32)) dc_Cp_countDocuments_2 (Eq.refl 3) rfl ?_
  refine J_istore_n (L' := [(2, .int (0 : Int32)), (1, .int (0 : Int32)), (0, pv E 49)]) dc_Cp_countDocuments_3 (Eq.refl 4) (Nat.le_of_ble_eq_true rfl) rfl ?_
  refine J_sub [2, 1, 0] rfl ?_
  exact h
theorem b_Cp_countDocuments_4 {E : En_t} {d : Nat} {σ : S_t} {Q : Option Value → S_t → Prop} {x1 : Int32} {x2 : Int32}
    (h : ((8 : Int32) ≤ x2 → Q (some (.int x1)) σ) ∧ (¬ (8 : Int32) ≤ x2 → CI E d m_Cp_hasDocument [pv E 49, .int x2] σ (fun r2 σ1 => (r2 = 0 → JE E (d + 1) m_Cp_countDocuments 21 [(0, pv E 49), (1, .int x1), (2, .int x2)] [] σ1 Q) ∧ (¬ r2 = 0 → JE E (d + 1) m_Cp_countDocuments 21 [(0, pv E 49), (1, .int (x1 + (1 : Int32))), (2, .int x2)] [] σ1 Q)))) :
    JE E (d + 1) m_Cp_countDocuments 4 [(0, pv E 49), (1, .int x1), (2, .int x2)] [] σ Q := by
  refine J_iload_n dc_Cp_countDocuments_4 (Eq.refl 5) 2 rfl ?_
  refine J_bipush (v := (8 : Int32)) dc_Cp_countDocuments_5 (Eq.refl 7) rfl ?_
  refine J_icmp_ge dc_Cp_countDocuments_7 (Eq.refl 10) rfl (fun hc => ?_) (fun hc => ?_)
  · have h := h.1 hc
    refine J_iload_n dc_Cp_countDocuments_27 (Eq.refl 28) 1 rfl ?_
    exact J_iret dc_Cp_countDocuments_28 rfl h
  · have h := h.2 hc
    refine J_aload_n dc_Cp_countDocuments_10 (Eq.refl 11) 0 rfl ?_
    refine J_iload_n dc_Cp_countDocuments_11 (Eq.refl 12) 2 rfl ?_
    refine J_callVI (As := [.int x2]) (st := []) dc_Cp_countDocuments_12 (Eq.refl 15) lk_Cp_193 mi_Cp_hasDocument rfl (Nat.le_of_ble_eq_true rfl) rfl rfl (Nat.le_of_ble_eq_true rfl) rfl (Nat.le_of_ble_eq_true rfl) (CI.mono h (fun r2 σ1 h => ?_))
    refine J_if_eq dc_Cp_countDocuments_15 (Eq.refl 18) rfl (fun hc => ?_) (fun hc => ?_)
    · have h := h.1 hc
      exact h
    · have h := h.2 hc
      refine J_iinc (v := x1 + (1 : Int32)) (L' := [(1, .int (x1 + (1 : Int32))), (0, pv E 49), (2, .int x2)]) dc_Cp_countDocuments_18 (Eq.refl 21) 1 rfl rfl (Nat.le_of_ble_eq_true rfl) rfl ?_
      refine J_sub [1, 0, 2] rfl ?_
      exact h
theorem b_Cp_countDocuments_21 {E : En_t} {d : Nat} {σ : S_t} {Q : Option Value → S_t → Prop} {x1 : Int32} {x2 : Int32}
    (h : JE E (d + 1) m_Cp_countDocuments 4 [(0, pv E 49), (1, .int x1), (2, .int (x2 + (1 : Int32)))] [] σ Q) :
    JE E (d + 1) m_Cp_countDocuments 21 [(0, pv E 49), (1, .int x1), (2, .int x2)] [] σ Q := by
  refine J_iinc (v := x2 + (1 : Int32)) (L' := [(2, .int (x2 + (1 : Int32))), (0, pv E 49), (1, .int x1)]) dc_Cp_countDocuments_21 (Eq.refl 24) 2 rfl rfl (Nat.le_of_ble_eq_true rfl) rfl ?_
  refine J_goto dc_Cp_countDocuments_24 rfl ?_
  refine J_sub [1, 2, 0] rfl ?_
  exact h
