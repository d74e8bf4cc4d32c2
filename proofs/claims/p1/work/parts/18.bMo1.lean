theorem dc_Mo_feed_0 : decode m_Mo_feed.2.1 0 = .ok (.aload_n 0, 1) := by decide +kernel
theorem dc_Mo_feed_1 : decode m_Mo_feed.2.1 1 = .ok (.getfield 162, 3) := by decide +kernel
theorem dc_Mo_feed_4 : decode m_Mo_feed.2.1 4 = .ok (.bipush 20, 2) := by decide +kernel
theorem dc_Mo_feed_6 : decode m_Mo_feed.2.1 6 = .ok (.iadd, 1) := by decide +kernel
theorem dc_Mo_feed_7 : decode m_Mo_feed.2.1 7 = .ok (.sipush 2000, 3) := by decide +kernel
theorem dc_Mo_feed_10 : decode m_Mo_feed.2.1 10 = .ok (.if_icmp .le 5, 3) := by decide +kernel
theorem dc_Mo_feed_13 : decode m_Mo_feed.2.1 13 = .ok (.iconst (-1), 1) := by decide +kernel
theorem dc_Mo_feed_14 : decode m_Mo_feed.2.1 14 = .ok (.ireturn, 1) := by decide +kernel
theorem dc_Mo_feed_15 : decode m_Mo_feed.2.1 15 = .ok (.aload_n 0, 1) := by decide +kernel
theorem dc_Mo_feed_16 : decode m_Mo_feed.2.1 16 = .ok (.iload_n 1, 1) := by decide +kernel
theorem dc_Mo_feed_17 : decode m_Mo_feed.2.1 17 = .ok (.invokevirtual 165, 3) := by decide +kernel
theorem dc_Mo_feed_20 : decode m_Mo_feed.2.1 20 = .ok (.aload_n 0, 1) := by decide +kernel
theorem dc_Mo_feed_21 : decode m_Mo_feed.2.1 21 = .ok (.iload_n 2, 1) := by decide +kernel
theorem dc_Mo_feed_22 : decode m_Mo_feed.2.1 22 = .ok (.invokevirtual 165, 3) := by decide +kernel
theorem dc_Mo_feed_25 : decode m_Mo_feed.2.1 25 = .ok (.aload_n 0, 1) := by decide +kernel
theorem dc_Mo_feed_26 : decode m_Mo_feed.2.1 26 = .ok (.iload_n 3, 1) := by decide +kernel
theorem dc_Mo_feed_27 : decode m_Mo_feed.2.1 27 = .ok (.invokevirtual 165, 3) := by decide +kernel
theorem dc_Mo_feed_30 : decode m_Mo_feed.2.1 30 = .ok (.aload_n 0, 1) := by decide +kernel
theorem dc_Mo_feed_31 : decode m_Mo_feed.2.1 31 = .ok (.iload 4, 2) := by decide +kernel
theorem dc_Mo_feed_33 : decode m_Mo_feed.2.1 33 = .ok (.invokevirtual 165, 3) := by decide +kernel
theorem dc_Mo_feed_36 : decode m_Mo_feed.2.1 36 = .ok (.aload_n 0, 1) := by decide +kernel
theorem dc_Mo_feed_37 : decode m_Mo_feed.2.1 37 = .ok (.iload 5, 2) := by decide +kernel
theorem dc_Mo_feed_39 : decode m_Mo_feed.2.1 39 = .ok (.invokevirtual 165, 3) := by decide +kernel
theorem dc_Mo_feed_42 : decode m_Mo_feed.2.1 42 = .ok (.aload_n 0, 1) := by decide +kernel
theorem dc_Mo_feed_43 : decode m_Mo_feed.2.1 43 = .ok (.getfield 162, 3) := by decide +kernel
theorem dc_Mo_feed_46 : decode m_Mo_feed.2.1 46 = .ok (.ireturn, 1) := by decide +kernel
theorem b_Mo_feed_0 {E : En_t} {d : Nat} {σ : S_t} {Q : Option Value → S_t → Prop} {x1 : Int32} {x2 : Int32} {x3 : Int32} {x4 : Int32} {x5 : Int32}
    (h : (((gI σ 0 1) + (20 : Int32)) ≤ (2000 : Int32) → CV E d m_Mo_four [pv E 0, .int x1] σ (fun σ1 => CV E d m_Mo_four [pv E 0, .int x2] σ1 (fun σ2 => CV E d m_Mo_four [pv E 0, .int x3] σ2 (fun σ3 => CV E d m_Mo_four [pv E 0, .int x4] σ3 (fun σ4 => CV E d m_Mo_four [pv E 0, .int x5] σ4 (fun σ5 => Q (some (.int (gI σ5 0 1))) σ5)))))) ∧ (¬ ((gI σ 0 1) + (20 : Int32)) ≤ (2000 : Int32) → Q (some (.int (-1 : Int32))) σ)) :
    JE E (d + 1) m_Mo_feed 0 [(0, pv E 0), (1, .int x1), (2, .int x2), (3, .int x3), (4, .int x4), (5, .int x5)] [] σ Q := by
  refine J_aload_n dc_Mo_feed_0 (Eq.refl 1) 0 rfl ?_
  refine J_getI dc_Mo_feed_1 (Eq.refl 4) fl_Mo_162 (Nat.le_of_ble_eq_true rfl) rfl (Or.inl rfl) ?_
  refine J_bipush (v := (20 : Int32)) dc_Mo_feed_4 (Eq.refl 6) rfl ?_
  refine J_iadd dc_Mo_feed_6 (Eq.refl 7) ?_
  refine J_sipush (v := (2000 : Int32)) dc_Mo_feed_7 (Eq.refl 10) rfl ?_
  refine J_icmp_le dc_Mo_feed_10 (Eq.refl 13) rfl (fun hc => ?_) (fun hc => ?_)
  · have h := h.1 hc
    refine J_aload_n dc_Mo_feed_15 (Eq.refl 16) 0 rfl ?_
    refine J_iload_n dc_Mo_feed_16 (Eq.refl 17) 1 rfl ?_
    refine J_callVV (As := [.int x1]) (st := []) dc_Mo_feed_17 (Eq.refl 20) lk_Mo_165 mi_Mo_four rfl (Nat.le_of_ble_eq_true rfl) rfl rfl (Nat.le_of_ble_eq_true rfl) rfl (Nat.le_of_ble_eq_true rfl) (CV.mono h (fun σ1 h => ?_))
    refine J_aload_n dc_Mo_feed_20 (Eq.refl 21) 0 rfl ?_
    refine J_iload_n dc_Mo_feed_21 (Eq.refl 22) 2 rfl ?_
    refine J_callVV (As := [.int x2]) (st := []) dc_Mo_feed_22 (Eq.refl 25) lk_Mo_165 mi_Mo_four rfl (Nat.le_of_ble_eq_true rfl) rfl rfl (Nat.le_of_ble_eq_true rfl) rfl (Nat.le_of_ble_eq_true rfl) (CV.mono h (fun σ2 h => ?_))
    refine J_aload_n dc_Mo_feed_25 (Eq.refl 26) 0 rfl ?_
    refine J_iload_n dc_Mo_feed_26 (Eq.refl 27) 3 rfl ?_
    refine J_callVV (As := [.int x3]) (st := []) dc_Mo_feed_27 (Eq.refl 30) lk_Mo_165 mi_Mo_four rfl (Nat.le_of_ble_eq_true rfl) rfl rfl (Nat.le_of_ble_eq_true rfl) rfl (Nat.le_of_ble_eq_true rfl) (CV.mono h (fun σ3 h => ?_))
    refine J_aload_n dc_Mo_feed_30 (Eq.refl 31) 0 rfl ?_
    refine J_iload dc_Mo_feed_31 (Eq.refl 33) 4 rfl ?_
    refine J_callVV (As := [.int x4]) (st := []) dc_Mo_feed_33 (Eq.refl 36) lk_Mo_165 mi_Mo_four rfl (Nat.le_of_ble_eq_true rfl) rfl rfl (Nat.le_of_ble_eq_true rfl) rfl (Nat.le_of_ble_eq_true rfl) (CV.mono h (fun σ4 h => ?_))
    refine J_aload_n dc_Mo_feed_36 (Eq.refl 37) 0 rfl ?_
    refine J_iload dc_Mo_feed_37 (Eq.refl 39) 5 rfl ?_
    refine J_callVV (As := [.int x5]) (st := []) dc_Mo_feed_39 (Eq.refl 42) lk_Mo_165 mi_Mo_four rfl (Nat.le_of_ble_eq_true rfl) rfl rfl (Nat.le_of_ble_eq_true rfl) rfl (Nat.le_of_ble_eq_true rfl) (CV.mono h (fun σ5 h => ?_))
    refine J_aload_n dc_Mo_feed_42 (Eq.refl 43) 0 rfl ?_
    refine J_getI dc_Mo_feed_43 (Eq.refl 46) fl_Mo_162 (Nat.le_of_ble_eq_true rfl) rfl (Or.inl rfl) ?_
    exact J_iret dc_Mo_feed_46 rfl h
  · have h := h.2 hc
    refine J_iconst (v := (-1 : Int32)) dc_Mo_feed_13 (Eq.refl 14) rfl ?_
    exact J_iret dc_Mo_feed_14 rfl h
theorem dc_Mo_four_0 : decode m_Mo_four.2.1 0 = .ok (.bipush 24, 2) := by decide +kernel
theorem dc_Mo_four_2 : decode m_Mo_four.2.1 2 = .ok (.istore_n 2, 1) := by decide +kernel
theorem dc_Mo_four_3 : decode m_Mo_four.2.1 3 = .ok (.iload_n 2, 1) := by decide +kernel
theorem dc_Mo_four_4 : decode m_Mo_four.2.1 4 = .ok (.ifCond .lt 35, 3) := by decide +kernel
theorem dc_Mo_four_7 : decode m_Mo_four.2.1 7 = .ok (.aload_n 0, 1) := by decide +kernel
theorem dc_Mo_four_8 : decode m_Mo_four.2.1 8 = .ok (.getfield 7, 3) := by decide +kernel
theorem dc_Mo_four_11 : decode m_Mo_four.2.1 11 = .ok (.aload_n 0, 1) := by decide +kernel
theorem dc_Mo_four_12 : decode m_Mo_four.2.1 12 = .ok (.getfield 162, 3) := by decide +kernel
theorem dc_Mo_four_15 : decode m_Mo_four.2.1 15 = .ok (.iload_n 1, 1) := by decide +kernel
theorem dc_Mo_four_16 : decode m_Mo_four.2.1 16 = .ok (.iload_n 2, 1) := by decide +kernel
theorem dc_Mo_four_17 : decode m_Mo_four.2.1 17 = .ok (.ishr, 1) := by decide +kernel
theorem dc_Mo_four_18 : decode m_Mo_four.2.1 18 = .ok (.sipush 255, 3) := by decide +kernel
theorem dc_Mo_four_21 : decode m_Mo_four.2.1 21 = .ok (.iand, 1) := by decide +kernel
theorem dc_Mo_four_22 : decode m_Mo_four.2.1 22 = .ok (.iastore, 1) := by decide +kernel
theorem dc_Mo_four_23 : decode m_Mo_four.2.1 23 = .ok (.aload_n 0, 1) := by decide +kernel
theorem dc_Mo_four_24 : decode m_Mo_four.2.1 24 = .ok (.dup, 1) := by decide +kernel
theorem dc_Mo_four_25 : decode m_Mo_four.2.1 25 = .ok (.getfield 162, 3) := by decide +kernel
theorem dc_Mo_four_28 : decode m_Mo_four.2.1 28 = .ok (.iconst 1, 1) := by decide +kernel
theorem dc_Mo_four_29 : decode m_Mo_four.2.1 29 = .ok (.iadd, 1) := by decide +kernel
theorem dc_Mo_four_30 : decode m_Mo_four.2.1 30 = .ok (.putfield 162, 3) := by decide +kernel
theorem dc_Mo_four_33 : decode m_Mo_four.2.1 33 = .ok (.iinc 2 (-8), 3) := by decide +kernel
theorem dc_Mo_four_36 : decode m_Mo_four.2.1 36 = .ok (.goto (-33), 3) := by decide +kernel
theorem dc_Mo_four_39 : decode m_Mo_four.2.1 39 = .ok (.return_, 1) := by decide +kernel
theorem b_Mo_four_0 {E : En_t} {d : Nat} {σ : S_t} {Q : Option Value → S_t → Prop} {x1 : Int32}
    (h : JE E d m_Mo_four 3 [(0, pv E 0), (1, .int x1), (2, .int (24 : Int32))] [] σ Q) :
    JE E d m_Mo_four 0 [(0, pv E 0), (1, .int x1)] [] σ Q := by
  refine J_bipush (v := (24 : Int32)) dc_Mo_four_0 (Eq.refl 2) rfl ?_
  refine J_istore_n (L' := [(2, .int (24 : Int32)), (0, pv E 0), (1, .int x1)]) dc_Mo_four_2 (Eq.refl 3) (Nat.le_of_ble_eq_true rfl) rfl ?_
  refine J_sub [1, 2, 0] rfl ?_
  exact h
theorem b_Mo_four_3 {E : En_t} {d : Nat} {σ : S_t} {Q : Option Value → S_t → Prop} {x1 : Int32} {x2 : Int32}
    (h : (x2 < 0 → Q none σ) ∧ (¬ x2 < 0 → vp_in (gI σ 0 1) 2000 ∧ (∀ σ1, σ1 = sI (sI σ 1 (gI σ 0 1).toNatClampNeg ((x1 >>> (x2 &&& 31)) &&& (255 : Int32))) 0 1 ((gI (sI σ 1 (gI σ 0 1).toNatClampNeg ((x1 >>> (x2 &&& 31)) &&& (255 : Int32))) 0 1) + (1 : Int32)) → (JE E d m_Mo_four 3 [(0, pv E 0), (1, .int x1), (2, .int (x2 + (-8 : Int32)))] [] σ1 Q)))) :
    JE E d m_Mo_four 3 [(0, pv E 0), (1, .int x1), (2, .int x2)] [] σ Q := by
  refine J_iload_n dc_Mo_four_3 (Eq.refl 4) 2 rfl ?_
  refine J_if_lt dc_Mo_four_4 (Eq.refl 7) rfl (fun hc => ?_) (fun hc => ?_)
  · have h := h.1 hc
    exact J_vret dc_Mo_four_39 rfl h
  · have h := h.2 hc
    refine J_aload_n dc_Mo_four_7 (Eq.refl 8) 0 rfl ?_
    refine J_getF (y := 1) dc_Mo_four_8 (Eq.refl 11) fl_Mo_7 (Nat.le_of_ble_eq_true rfl) rfl (Or.inl rfl) rfl ?_
    refine J_aload_n dc_Mo_four_11 (Eq.refl 12) 0 rfl ?_
    refine J_getI dc_Mo_four_12 (Eq.refl 15) fl_Mo_162 (Nat.le_of_ble_eq_true rfl) rfl (Or.inl rfl) ?_
    refine J_iload_n dc_Mo_four_15 (Eq.refl 16) 1 rfl ?_
    refine J_iload_n dc_Mo_four_16 (Eq.refl 17) 2 rfl ?_
    refine J_ishr dc_Mo_four_17 (Eq.refl 18) ?_
    refine J_sipush (v := (255 : Int32)) dc_Mo_four_18 (Eq.refl 21) rfl ?_
    refine J_iand dc_Mo_four_21 (Eq.refl 22) ?_
    obtain ⟨hg, h⟩ := h
    refine J_iast dc_Mo_four_22 (Eq.refl 23) rfl rfl hg ?_
    refine J_aload_n dc_Mo_four_23 (Eq.refl 24) 0 rfl ?_
    refine J_dup dc_Mo_four_24 (Eq.refl 25) rfl ?_
    refine J_getI dc_Mo_four_25 (Eq.refl 28) fl_Mo_162 (Nat.le_of_ble_eq_true rfl) rfl (Or.inl rfl) ?_
    refine J_iconst (v := (1 : Int32)) dc_Mo_four_28 (Eq.refl 29) rfl ?_
    refine J_iadd dc_Mo_four_29 (Eq.refl 30) ?_
    refine J_putI dc_Mo_four_30 (Eq.refl 33) pl_Mo_162 (Nat.le_of_ble_eq_true rfl) rfl rfl ?_
    refine J_st (fun σ1 eσ1 => ?_)
    have h := h σ1 eσ1
    refine J_iinc (v := x2 + (-8 : Int32)) (L' := [(2, .int (x2 + (-8 : Int32))), (0, pv E 0), (1, .int x1)]) dc_Mo_four_33 (Eq.refl 36) 2 rfl rfl (Nat.le_of_ble_eq_true rfl) rfl ?_
    refine J_goto dc_Mo_four_36 rfl ?_
    refine J_sub [1, 2, 0] rfl ?_
    exact h
theorem dc_Mo_end_0 : decode m_Mo_end.2.1 0 = .ok (.iload_n 1, 1) := by decide +kernel
theorem dc_Mo_end_1 : decode m_Mo_end.2.1 1 = .ok (.ifCond .lt 11, 3) := by decide +kernel
theorem dc_Mo_end_4 : decode m_Mo_end.2.1 4 = .ok (.iload_n 1, 1) := by decide +kernel
theorem dc_Mo_end_5 : decode m_Mo_end.2.1 5 = .ok (.aload_n 0, 1) := by decide +kernel
theorem dc_Mo_end_6 : decode m_Mo_end.2.1 6 = .ok (.getfield 162, 3) := by decide +kernel
theorem dc_Mo_end_9 : decode m_Mo_end.2.1 9 = .ok (.if_icmp .le 5, 3) := by decide +kernel
theorem dc_Mo_end_12 : decode m_Mo_end.2.1 12 = .ok (.iconst (-1), 1) := by decide +kernel
theorem dc_Mo_end_13 : decode m_Mo_end.2.1 13 = .ok (.ireturn, 1) := by decide +kernel
theorem dc_Mo_end_14 : decode m_Mo_end.2.1 14 = .ok (.aload_n 0, 1) := by decide +kernel
theorem dc_Mo_end_15 : decode m_Mo_end.2.1 15 = .ok (.iload_n 1, 1) := by decide +kernel
theorem dc_Mo_end_16 : decode m_Mo_end.2.1 16 = .ok (.putfield 162, 3) := by decide +kernel
theorem dc_Mo_end_19 : decode m_Mo_end.2.1 19 = .ok (.iload_n 1, 1) := by decide +kernel
theorem dc_Mo_end_20 : decode m_Mo_end.2.1 20 = .ok (.ireturn, 1) := by decide +kernel
theorem b_Mo_end_0 {E : En_t} {d : Nat} {σ : S_t} {Q : Option Value → S_t → Prop} {x1 : Int32}
    (h : (x1 < 0 → Q (some (.int (-1 : Int32))) σ) ∧ (¬ x1 < 0 → (x1 ≤ (gI σ 0 1) → Q (some (.int x1)) (sI σ 0 1 x1)) ∧ (¬ x1 ≤ (gI σ 0 1) → Q (some (.int (-1 : Int32))) σ))) :
    JE E d m_Mo_end 0 [(0, pv E 0), (1, .int x1)] [] σ Q := by
  refine J_iload_n dc_Mo_end_0 (Eq.refl 1) 1 rfl ?_
  refine J_if_lt dc_Mo_end_1 (Eq.refl 4) rfl (fun hc => ?_) (fun hc => ?_)
  · have h := h.1 hc
    refine J_iconst (v := (-1 : Int32)) dc_Mo_end_12 (Eq.refl 13) rfl ?_
    exact J_iret dc_Mo_end_13 rfl h
  · have h := h.2 hc
    refine J_iload_n dc_Mo_end_4 (Eq.refl 5) 1 rfl ?_
    refine J_aload_n dc_Mo_end_5 (Eq.refl 6) 0 rfl ?_
    refine J_getI dc_Mo_end_6 (Eq.refl 9) fl_Mo_162 (Nat.le_of_ble_eq_true rfl) rfl (Or.inl rfl) ?_
    refine J_icmp_le dc_Mo_end_9 (Eq.refl 12) rfl (fun hc => ?_) (fun hc => ?_)
    · have h := h.1 hc
      refine J_aload_n dc_Mo_end_14 (Eq.refl 15) 0 rfl ?_
      refine J_iload_n dc_Mo_end_15 (Eq.refl 16) 1 rfl ?_
      refine J_putI dc_Mo_end_16 (Eq.refl 19) pl_Mo_162 (Nat.le_of_ble_eq_true rfl) rfl rfl ?_
      refine J_iload_n dc_Mo_end_19 (Eq.refl 20) 1 rfl ?_
      exact J_iret dc_Mo_end_20 rfl h
    · have h := h.2 hc
      refine J_iconst (v := (-1 : Int32)) dc_Mo_end_12 (Eq.refl 13) rfl ?_
      exact J_iret dc_Mo_end_13 rfl h
theorem dc_Mo_take_0 : decode m_Mo_take.2.1 0 = .ok (.aload_n 0, 1) := by decide +kernel
theorem dc_Mo_take_1 : decode m_Mo_take.2.1 1 = .ok (.getfield 169, 3) := by decide +kernel
theorem dc_Mo_take_4 : decode m_Mo_take.2.1 4 = .ok (.sipush 2000, 3) := by decide +kernel
theorem dc_Mo_take_7 : decode m_Mo_take.2.1 7 = .ok (.if_icmp .le 5, 3) := by decide +kernel
theorem dc_Mo_take_10 : decode m_Mo_take.2.1 10 = .ok (.iconst (-1), 1) := by decide +kernel
theorem dc_Mo_take_11 : decode m_Mo_take.2.1 11 = .ok (.ireturn, 1) := by decide +kernel
theorem dc_Mo_take_12 : decode m_Mo_take.2.1 12 = .ok (.iconst 0, 1) := by decide +kernel
theorem dc_Mo_take_13 : decode m_Mo_take.2.1 13 = .ok (.istore_n 1, 1) := by decide +kernel
theorem dc_Mo_take_14 : decode m_Mo_take.2.1 14 = .ok (.iload_n 1, 1) := by decide +kernel
theorem dc_Mo_take_15 : decode m_Mo_take.2.1 15 = .ok (.aload_n 0, 1) := by decide +kernel
theorem dc_Mo_take_16 : decode m_Mo_take.2.1 16 = .ok (.getfield 172, 3) := by decide +kernel
theorem dc_Mo_take_19 : decode m_Mo_take.2.1 19 = .ok (.if_icmp .ge 21, 3) := by decide +kernel
theorem dc_Mo_take_22 : decode m_Mo_take.2.1 22 = .ok (.aload_n 0, 1) := by decide +kernel
theorem dc_Mo_take_23 : decode m_Mo_take.2.1 23 = .ok (.getfield 7, 3) := by decide +kernel
theorem dc_Mo_take_26 : decode m_Mo_take.2.1 26 = .ok (.iload_n 1, 1) := by decide +kernel
theorem dc_Mo_take_27 : decode m_Mo_take.2.1 27 = .ok (.aload_n 0, 1) := by decide +kernel
theorem dc_Mo_take_28 : decode m_Mo_take.2.1 28 = .ok (.getfield 13, 3) := by decide +kernel
theorem dc_Mo_take_31 : decode m_Mo_take.2.1 31 = .ok (.iload_n 1, 1) := by decide +kernel
theorem dc_Mo_take_32 : decode m_Mo_take.2.1 32 = .ok (.iaload, 1) := by decide +kernel
theorem dc_Mo_take_33 : decode m_Mo_take.2.1 33 = .ok (.iastore, 1) := by decide +kernel
theorem dc_Mo_take_34 : decode m_Mo_take.2.1 34 = .ok (.iinc 1 1, 3) := by decide +kernel
theorem dc_Mo_take_37 : decode m_Mo_take.2.1 37 = .ok (.goto (-23), 3) := by decide +kernel
theorem dc_Mo_take_40 : decode m_Mo_take.2.1 40 = .ok (.aload_n 0, 1) := by decide +kernel
theorem dc_Mo_take_41 : decode m_Mo_take.2.1 41 = .ok (.aload_n 0, 1) := by decide +kernel
theorem dc_Mo_take_42 : decode m_Mo_take.2.1 42 = .ok (.getfield 172, 3) := by decide +kernel
theorem dc_Mo_take_45 : decode m_Mo_take.2.1 45 = .ok (.putfield 162, 3) := by decide +kernel
theorem dc_Mo_take_48 : decode m_Mo_take.2.1 48 = .ok (.aload_n 0, 1) := by decide +kernel
theorem dc_Mo_take_49 : decode m_Mo_take.2.1 49 = .ok (.getfield 162, 3) := by decide +kernel
theorem dc_Mo_take_52 : decode m_Mo_take.2.1 52 = .ok (.ireturn, 1) := by decide +kernel
theorem b_Mo_take_0 {E : En_t} {d : Nat} {σ : S_t} {Q : Option Value → S_t → Prop}
    (h : ((gI σ 0 4) ≤ (2000 : Int32) → JE E d m_Mo_take 14 [(0, pv E 0), (1, .int (0 : Int32))] [] σ Q) ∧ (¬ (gI σ 0 4) ≤ (2000 : Int32) → Q (some (.int (-1 : Int32))) σ)) :
    JE E d m_Mo_take 0 [(0, pv E 0)] [] σ Q := by
  refine J_aload_n dc_Mo_take_0 (Eq.refl 1) 0 rfl ?_
  refine J_getI dc_Mo_take_1 (Eq.refl 4) fl_Mo_169 (Nat.le_of_ble_eq_true rfl) rfl (Or.inl rfl) ?_
  refine J_sipush (v := (2000 : Int32)) dc_Mo_take_4 (Eq.refl 7) rfl ?_
  refine J_icmp_le dc_Mo_take_7 (Eq.refl 10) rfl (fun hc => ?_) (fun hc => ?_)
  · have h := h.1 hc
    refine J_iconst (v := (0 : Int32)) dc_Mo_take_12 (Eq.refl 13) rfl ?_
    refine J_istore_n (L' := [(1, .int (0 : Int32)), (0, pv E 0)]) dc_Mo_take_13 (Eq.refl 14) (Nat.le_of_ble_eq_true rfl) rfl ?_
    refine J_sub [1, 0] rfl ?_
    exact h
  · have h := h.2 hc
    refine J_iconst (v := (-1 : Int32)) dc_Mo_take_10 (Eq.refl 11) rfl ?_
    exact J_iret dc_Mo_take_11 rfl h
theorem b_Mo_take_14 {E : En_t} {d : Nat} {σ : S_t} {Q : Option Value → S_t → Prop} {x1 : Int32}
    (h : ((gI σ 0 3) ≤ x1 → Q (some (.int (gI (sI σ 0 1 (gI σ 0 3)) 0 1))) (sI σ 0 1 (gI σ 0 3))) ∧ (¬ (gI σ 0 3) ≤ x1 → vp_in x1 12000 ∧ (vp_in x1 2000 ∧ (JE E d m_Mo_take 14 [(0, pv E 0), (1, .int (x1 + (1 : Int32)))] [] (sI σ 1 x1.toNatClampNeg (gI σ 2 x1.toNatClampNeg)) Q)))) :
    JE E d m_Mo_take 14 [(0, pv E 0), (1, .int x1)] [] σ Q := by
  refine J_iload_n dc_Mo_take_14 (Eq.refl 15) 1 rfl ?_
  refine J_aload_n dc_Mo_take_15 (Eq.refl 16) 0 rfl ?_
  refine J_getI dc_Mo_take_16 (Eq.refl 19) fl_Mo_172 (Nat.le_of_ble_eq_true rfl) rfl (Or.inl rfl) ?_
  refine J_icmp_ge dc_Mo_take_19 (Eq.refl 22) rfl (fun hc => ?_) (fun hc => ?_)
  · have h := h.1 hc
    refine J_aload_n dc_Mo_take_40 (Eq.refl 41) 0 rfl ?_
    refine J_aload_n dc_Mo_take_41 (Eq.refl 42) 0 rfl ?_
    refine J_getI dc_Mo_take_42 (Eq.refl 45) fl_Mo_172 (Nat.le_of_ble_eq_true rfl) rfl (Or.inl rfl) ?_
    refine J_putI dc_Mo_take_45 (Eq.refl 48) pl_Mo_162 (Nat.le_of_ble_eq_true rfl) rfl rfl ?_
    refine J_aload_n dc_Mo_take_48 (Eq.refl 49) 0 rfl ?_
    refine J_getI dc_Mo_take_49 (Eq.refl 52) fl_Mo_162 (Nat.le_of_ble_eq_true rfl) rfl (Or.inl rfl) ?_
    exact J_iret dc_Mo_take_52 rfl h
  · have h := h.2 hc
    refine J_aload_n dc_Mo_take_22 (Eq.refl 23) 0 rfl ?_
    refine J_getF (y := 1) dc_Mo_take_23 (Eq.refl 26) fl_Mo_7 (Nat.le_of_ble_eq_true rfl) rfl (Or.inl rfl) rfl ?_
    refine J_iload_n dc_Mo_take_26 (Eq.refl 27) 1 rfl ?_
    refine J_aload_n dc_Mo_take_27 (Eq.refl 28) 0 rfl ?_
    refine J_getF (y := 2) dc_Mo_take_28 (Eq.refl 31) fl_Mo_13 (Nat.le_of_ble_eq_true rfl) rfl (Or.inl rfl) rfl ?_
    refine J_iload_n dc_Mo_take_31 (Eq.refl 32) 1 rfl ?_
    obtain ⟨hg, h⟩ := h
    refine J_iald dc_Mo_take_32 (Eq.refl 33) rfl rfl hg ?_
    obtain ⟨hg, h⟩ := h
    refine J_iast dc_Mo_take_33 (Eq.refl 34) rfl rfl hg ?_
    refine J_iinc (v := x1 + (1 : Int32)) (L' := [(1, .int (x1 + (1 : Int32))), (0, pv E 0)]) dc_Mo_take_34 (Eq.refl 37) 1 rfl rfl (Nat.le_of_ble_eq_true rfl) rfl ?_
    refine J_goto dc_Mo_take_37 rfl ?_
    refine J_sub [1, 0] rfl ?_
    exact h
theorem dc_Mo_out_0 : decode m_Mo_out.2.1 0 = .ok (.iload_n 1, 1) := by decide +kernel
theorem dc_Mo_out_1 : decode m_Mo_out.2.1 1 = .ok (.ifCond .lt 20, 3) := by decide +kernel
theorem dc_Mo_out_4 : decode m_Mo_out.2.1 4 = .ok (.iload_n 1, 1) := by decide +kernel
theorem dc_Mo_out_5 : decode m_Mo_out.2.1 5 = .ok (.aload_n 0, 1) := by decide +kernel
theorem dc_Mo_out_6 : decode m_Mo_out.2.1 6 = .ok (.getfield 172, 3) := by decide +kernel
theorem dc_Mo_out_9 : decode m_Mo_out.2.1 9 = .ok (.if_icmp .ge 12, 3) := by decide +kernel
theorem dc_Mo_out_12 : decode m_Mo_out.2.1 12 = .ok (.aload_n 0, 1) := by decide +kernel
theorem dc_Mo_out_13 : decode m_Mo_out.2.1 13 = .ok (.getfield 13, 3) := by decide +kernel
theorem dc_Mo_out_16 : decode m_Mo_out.2.1 16 = .ok (.iload_n 1, 1) := by decide +kernel
theorem dc_Mo_out_17 : decode m_Mo_out.2.1 17 = .ok (.iaload, 1) := by decide +kernel
theorem dc_Mo_out_18 : decode m_Mo_out.2.1 18 = .ok (.goto 4, 3) := by decide +kernel
theorem dc_Mo_out_21 : decode m_Mo_out.2.1 21 = .ok (.iconst (-1), 1) := by decide +kernel
theorem dc_Mo_out_22 : decode m_Mo_out.2.1 22 = .ok (.ireturn, 1) := by decide +kernel
theorem b_Mo_out_0 {E : En_t} {d : Nat} {σ : S_t} {Q : Option Value → S_t → Prop} {x1 : Int32}
    (h : (x1 < 0 → Q (some (.int (-1 : Int32))) σ) ∧ (¬ x1 < 0 → ((gI σ 0 3) ≤ x1 → Q (some (.int (-1 : Int32))) σ) ∧ (¬ (gI σ 0 3) ≤ x1 → vp_in x1 12000 ∧ (Q (some (.int (gI σ 2 x1.toNatClampNeg))) σ)))) :
    JE E d m_Mo_out 0 [(0, pv E 0), (1, .int x1)] [] σ Q := by
  refine J_iload_n dc_Mo_out_0 (Eq.refl 1) 1 rfl ?_
  refine J_if_lt dc_Mo_out_1 (Eq.refl 4) rfl (fun hc => ?_) (fun hc => ?_)
  · have h := h.1 hc
    refine J_iconst (v := (-1 : Int32)) dc_Mo_out_21 (Eq.refl 22) rfl ?_
    exact J_iret dc_Mo_out_22 rfl h
  · have h := h.2 hc
    refine J_iload_n dc_Mo_out_4 (Eq.refl 5) 1 rfl ?_
    refine J_aload_n dc_Mo_out_5 (Eq.refl 6) 0 rfl ?_
    refine J_getI dc_Mo_out_6 (Eq.refl 9) fl_Mo_172 (Nat.le_of_ble_eq_true rfl) rfl (Or.inl rfl) ?_
    refine J_icmp_ge dc_Mo_out_9 (Eq.refl 12) rfl (fun hc => ?_) (fun hc => ?_)
    · have h := h.1 hc
      refine J_iconst (v := (-1 : Int32)) dc_Mo_out_21 (Eq.refl 22) rfl ?_
      exact J_iret dc_Mo_out_22 rfl h
    · have h := h.2 hc
      refine J_aload_n dc_Mo_out_12 (Eq.refl 13) 0 rfl ?_
      refine J_getF (y := 2) dc_Mo_out_13 (Eq.refl 16) fl_Mo_13 (Nat.le_of_ble_eq_true rfl) rfl (Or.inl rfl) rfl ?_
      refine J_iload_n dc_Mo_out_16 (Eq.refl 17) 1 rfl ?_
      obtain ⟨hg, h⟩ := h
      refine J_iald dc_Mo_out_17 (Eq.refl 18) rfl rfl hg ?_
      refine J_goto dc_Mo_out_18 rfl ?_
      exact J_iret dc_Mo_out_22 rfl h
theorem dc_Mo_numeral_0 : decode m_Mo_numeral.2.1 0 = .ok (.aload_n 0, 1) := by decide +kernel
theorem dc_Mo_numeral_1 : decode m_Mo_numeral.2.1 1 = .ok (.iconst 0, 1) := by decide +kernel
theorem dc_Mo_numeral_2 : decode m_Mo_numeral.2.1 2 = .ok (.putfield 210, 3) := by decide +kernel
theorem dc_Mo_numeral_5 : decode m_Mo_numeral.2.1 5 = .ok (.aload_n 0, 1) := by decide +kernel
theorem dc_Mo_numeral_6 : decode m_Mo_numeral.2.1 6 = .ok (.getfield 162, 3) := by decide +kernel
theorem dc_Mo_numeral_9 : decode m_Mo_numeral.2.1 9 = .ok (.istore_n 1, 1) := by decide +kernel
theorem dc_Mo_numeral_10 : decode m_Mo_numeral.2.1 10 = .ok (.aload_n 0, 1) := by decide +kernel
theorem dc_Mo_numeral_11 : decode m_Mo_numeral.2.1 11 = .ok (.iconst 0, 1) := by decide +kernel
theorem dc_Mo_numeral_12 : decode m_Mo_numeral.2.1 12 = .ok (.putfield 162, 3) := by decide +kernel
theorem dc_Mo_numeral_15 : decode m_Mo_numeral.2.1 15 = .ok (.aload_n 0, 1) := by decide +kernel
theorem dc_Mo_numeral_16 : decode m_Mo_numeral.2.1 16 = .ok (.iload_n 1, 1) := by decide +kernel
theorem dc_Mo_numeral_17 : decode m_Mo_numeral.2.1 17 = .ok (.invokevirtual 232, 3) := by decide +kernel
theorem dc_Mo_numeral_20 : decode m_Mo_numeral.2.1 20 = .ok (.ifCond .eq 18, 3) := by decide +kernel
theorem dc_Mo_numeral_23 : decode m_Mo_numeral.2.1 23 = .ok (.aload_n 0, 1) := by decide +kernel
theorem dc_Mo_numeral_24 : decode m_Mo_numeral.2.1 24 = .ok (.getfield 210, 3) := by decide +kernel
theorem dc_Mo_numeral_27 : decode m_Mo_numeral.2.1 27 = .ok (.iload_n 1, 1) := by decide +kernel
theorem dc_Mo_numeral_28 : decode m_Mo_numeral.2.1 28 = .ok (.if_icmp .ne 10, 3) := by decide +kernel
theorem dc_Mo_numeral_31 : decode m_Mo_numeral.2.1 31 = .ok (.aload_n 0, 1) := by decide +kernel
theorem dc_Mo_numeral_32 : decode m_Mo_numeral.2.1 32 = .ok (.getfield 228, 3) := by decide +kernel
theorem dc_Mo_numeral_35 : decode m_Mo_numeral.2.1 35 = .ok (.goto 6, 3) := by decide +kernel
theorem dc_Mo_numeral_38 : decode m_Mo_numeral.2.1 38 = .ok (.ldc2_w 235, 3) := by decide +kernel
theorem dc_Mo_numeral_41 : decode m_Mo_numeral.2.1 41 = .ok (.lreturn, 1) := by decide +kernel
theorem b_Mo_numeral_0 {E : En_t} {d : Nat} {σ : S_t} {Q : Option Value → S_t → Prop}
    (h : CI E d m_Mo_takeNumeral [pv E 0, .int (gI (sI σ 0 9 (0 : Int32)) 0 1)] (sI (sI σ 0 9 (0 : Int32)) 0 1 (0 : Int32)) (fun r2 σ1 => (r2 = 0 → Q (some (.long (9221120237041090560 : Int64))) σ1) ∧ (¬ r2 = 0 → (¬ (gI σ1 0 9) = (gI (sI σ 0 9 (0 : Int32)) 0 1) → Q (some (.long (9221120237041090560 : Int64))) σ1) ∧ ((gI σ1 0 9) = (gI (sI σ 0 9 (0 : Int32)) 0 1) → Q (some (.long (gL σ1 0 10))) σ1)))) :
    JE E (d + 1) m_Mo_numeral 0 [(0, pv E 0)] [] σ Q := by
  refine J_aload_n dc_Mo_numeral_0 (Eq.refl 1) 0 rfl ?_
  refine J_iconst (v := (0 : Int32)) dc_Mo_numeral_1 (Eq.refl 2) rfl ?_
  refine J_putI dc_Mo_numeral_2 (Eq.refl 5) pl_Mo_210 (Nat.le_of_ble_eq_true rfl) rfl rfl ?_
  refine J_aload_n dc_Mo_numeral_5 (Eq.refl 6) 0 rfl ?_
  refine J_getI dc_Mo_numeral_6 (Eq.refl 9) fl_Mo_162 (Nat.le_of_ble_eq_true rfl) rfl (Or.inl rfl) ?_
  refine J_istore_n (L' := [(1, .int (gI (sI σ 0 9 (0 : Int32)) 0 1)), (0, pv E 0)]) dc_Mo_numeral_9 (Eq.refl 10) (Nat.le_of_ble_eq_true rfl) rfl ?_
  refine J_aload_n dc_Mo_numeral_10 (Eq.refl 11) 1 rfl ?_
  refine J_iconst (v := (0 : Int32)) dc_Mo_numeral_11 (Eq.refl 12) rfl ?_
  refine J_putI dc_Mo_numeral_12 (Eq.refl 15) pl_Mo_162 (Nat.le_of_ble_eq_true rfl) rfl rfl ?_
  refine J_aload_n dc_Mo_numeral_15 (Eq.refl 16) 1 rfl ?_
  refine J_iload_n dc_Mo_numeral_16 (Eq.refl 17) 0 rfl ?_
  refine J_callVI (As := [.int (gI (sI σ 0 9 (0 : Int32)) 0 1)]) (st := []) dc_Mo_numeral_17 (Eq.refl 20) lk_Mo_232 mi_Mo_takeNumeral rfl (Nat.le_of_ble_eq_true rfl) rfl rfl (Nat.le_of_ble_eq_true rfl) rfl (Nat.le_of_ble_eq_true rfl) (CI.mono h (fun r2 σ1 h => ?_))
  refine J_if_eq dc_Mo_numeral_20 (Eq.refl 23) rfl (fun hc => ?_) (fun hc => ?_)
  · have h := h.1 hc
    refine J_ldc2 dc_Mo_numeral_38 (Eq.refl 41) kc_Mo_235 ?_
    exact J_lret dc_Mo_numeral_41 rfl h
  · have h := h.2 hc
    refine J_aload_n dc_Mo_numeral_23 (Eq.refl 24) 1 rfl ?_
    refine J_getI dc_Mo_numeral_24 (Eq.refl 27) fl_Mo_210 (Nat.le_of_ble_eq_true rfl) rfl (Or.inl rfl) ?_
    refine J_iload_n dc_Mo_numeral_27 (Eq.refl 28) 0 rfl ?_
    refine J_icmp_ne dc_Mo_numeral_28 (Eq.refl 31) rfl (fun hc => ?_) (fun hc => ?_)
    · have h := h.1 hc
      refine J_ldc2 dc_Mo_numeral_38 (Eq.refl 41) kc_Mo_235 ?_
      exact J_lret dc_Mo_numeral_41 rfl h
    · have h := h.2 hc
      refine J_aload_n dc_Mo_numeral_31 (Eq.refl 32) 1 rfl ?_
      refine J_getL dc_Mo_numeral_32 (Eq.refl 35) fl_Mo_228 (Nat.le_of_ble_eq_true rfl) rfl rfl ?_
      refine J_goto dc_Mo_numeral_35 rfl ?_
      exact J_lret dc_Mo_numeral_41 rfl h
theorem dc_Mo_takeNumeral_0 : decode m_Mo_takeNumeral.2.1 0 = .ok (.aload_n 0, 1) := by decide +kernel
theorem dc_Mo_takeNumeral_1 : decode m_Mo_takeNumeral.2.1 1 = .ok (.iload_n 1, 1) := by decide +kernel
theorem dc_Mo_takeNumeral_2 : decode m_Mo_takeNumeral.2.1 2 = .ok (.invokevirtual 213, 3) := by decide +kernel
theorem dc_Mo_takeNumeral_5 : decode m_Mo_takeNumeral.2.1 5 = .ok (.bipush 45, 2) := by decide +kernel
theorem dc_Mo_takeNumeral_7 : decode m_Mo_takeNumeral.2.1 7 = .ok (.if_icmp .ne 7, 3) := by decide +kernel
theorem dc_Mo_takeNumeral_10 : decode m_Mo_takeNumeral.2.1 10 = .ok (.iconst 1, 1) := by decide +kernel
theorem dc_Mo_takeNumeral_11 : decode m_Mo_takeNumeral.2.1 11 = .ok (.goto 4, 3) := by decide +kernel
theorem dc_Mo_takeNumeral_14 : decode m_Mo_takeNumeral.2.1 14 = .ok (.iconst 0, 1) := by decide +kernel
theorem dc_Mo_takeNumeral_15 : decode m_Mo_takeNumeral.2.1 15 = .ok (.istore_n 2, 1) := by decide +kernel
theorem dc_Mo_takeNumeral_16 : decode m_Mo_takeNumeral.2.1 16 = .ok (.iload_n 2, 1) := by decide +kernel
theorem dc_Mo_takeNumeral_17 : decode m_Mo_takeNumeral.2.1 17 = .ok (.ifCond .eq 13, 3) := by decide +kernel
theorem dc_Mo_takeNumeral_20 : decode m_Mo_takeNumeral.2.1 20 = .ok (.aload_n 0, 1) := by decide +kernel
theorem dc_Mo_takeNumeral_21 : decode m_Mo_takeNumeral.2.1 21 = .ok (.dup, 1) := by decide +kernel
theorem dc_Mo_takeNumeral_22 : decode m_Mo_takeNumeral.2.1 22 = .ok (.getfield 210, 3) := by decide +kernel
theorem dc_Mo_takeNumeral_25 : decode m_Mo_takeNumeral.2.1 25 = .ok (.iconst 1, 1) := by decide +kernel
theorem dc_Mo_takeNumeral_26 : decode m_Mo_takeNumeral.2.1 26 = .ok (.iadd, 1) := by decide +kernel
theorem dc_Mo_takeNumeral_27 : decode m_Mo_takeNumeral.2.1 27 = .ok (.putfield 210, 3) := by decide +kernel
theorem dc_Mo_takeNumeral_30 : decode m_Mo_takeNumeral.2.1 30 = .ok (.aload_n 0, 1) := by decide +kernel
theorem dc_Mo_takeNumeral_31 : decode m_Mo_takeNumeral.2.1 31 = .ok (.iconst 0, 1) := by decide +kernel
theorem dc_Mo_takeNumeral_32 : decode m_Mo_takeNumeral.2.1 32 = .ok (.putfield 175, 3) := by decide +kernel
theorem dc_Mo_takeNumeral_35 : decode m_Mo_takeNumeral.2.1 35 = .ok (.aload_n 0, 1) := by decide +kernel
theorem dc_Mo_takeNumeral_36 : decode m_Mo_takeNumeral.2.1 36 = .ok (.iconst 0, 1) := by decide +kernel
theorem dc_Mo_takeNumeral_37 : decode m_Mo_takeNumeral.2.1 37 = .ok (.putfield 178, 3) := by decide +kernel
theorem dc_Mo_takeNumeral_40 : decode m_Mo_takeNumeral.2.1 40 = .ok (.iconst 0, 1) := by decide +kernel
theorem dc_Mo_takeNumeral_41 : decode m_Mo_takeNumeral.2.1 41 = .ok (.istore_n 3, 1) := by decide +kernel
theorem dc_Mo_takeNumeral_42 : decode m_Mo_takeNumeral.2.1 42 = .ok (.aload_n 0, 1) := by decide +kernel
theorem dc_Mo_takeNumeral_43 : decode m_Mo_takeNumeral.2.1 43 = .ok (.iload_n 1, 1) := by decide +kernel
theorem dc_Mo_takeNumeral_44 : decode m_Mo_takeNumeral.2.1 44 = .ok (.invokevirtual 213, 3) := by decide +kernel
theorem dc_Mo_takeNumeral_47 : decode m_Mo_takeNumeral.2.1 47 = .ok (.invokestatic 217, 3) := by decide +kernel
theorem dc_Mo_takeNumeral_50 : decode m_Mo_takeNumeral.2.1 50 = .ok (.ifCond .ne 5, 3) := by decide +kernel
theorem dc_Mo_takeNumeral_53 : decode m_Mo_takeNumeral.2.1 53 = .ok (.iconst 0, 1) := by decide +kernel
theorem dc_Mo_takeNumeral_54 : decode m_Mo_takeNumeral.2.1 54 = .ok (.ireturn, 1) := by decide +kernel
theorem dc_Mo_takeNumeral_55 : decode m_Mo_takeNumeral.2.1 55 = .ok (.aload_n 0, 1) := by decide +kernel
theorem dc_Mo_takeNumeral_56 : decode m_Mo_takeNumeral.2.1 56 = .ok (.iload_n 1, 1) := by decide +kernel
theorem dc_Mo_takeNumeral_57 : decode m_Mo_takeNumeral.2.1 57 = .ok (.invokevirtual 213, 3) := by decide +kernel
theorem dc_Mo_takeNumeral_60 : decode m_Mo_takeNumeral.2.1 60 = .ok (.bipush 48, 2) := by decide +kernel
theorem dc_Mo_takeNumeral_62 : decode m_Mo_takeNumeral.2.1 62 = .ok (.if_icmp .ne 16, 3) := by decide +kernel
theorem dc_Mo_takeNumeral_65 : decode m_Mo_takeNumeral.2.1 65 = .ok (.aload_n 0, 1) := by decide +kernel
theorem dc_Mo_takeNumeral_66 : decode m_Mo_takeNumeral.2.1 66 = .ok (.dup, 1) := by decide +kernel
theorem dc_Mo_takeNumeral_67 : decode m_Mo_takeNumeral.2.1 67 = .ok (.getfield 210, 3) := by decide +kernel
theorem dc_Mo_takeNumeral_70 : decode m_Mo_takeNumeral.2.1 70 = .ok (.iconst 1, 1) := by decide +kernel
theorem dc_Mo_takeNumeral_71 : decode m_Mo_takeNumeral.2.1 71 = .ok (.iadd, 1) := by decide +kernel
theorem dc_Mo_takeNumeral_72 : decode m_Mo_takeNumeral.2.1 72 = .ok (.putfield 210, 3) := by decide +kernel
theorem dc_Mo_takeNumeral_75 : decode m_Mo_takeNumeral.2.1 75 = .ok (.goto 66, 3) := by decide +kernel
theorem dc_Mo_takeNumeral_78 : decode m_Mo_takeNumeral.2.1 78 = .ok (.aload_n 0, 1) := by decide +kernel
theorem dc_Mo_takeNumeral_79 : decode m_Mo_takeNumeral.2.1 79 = .ok (.iload_n 1, 1) := by decide +kernel
theorem dc_Mo_takeNumeral_80 : decode m_Mo_takeNumeral.2.1 80 = .ok (.invokevirtual 213, 3) := by decide +kernel
theorem dc_Mo_takeNumeral_83 : decode m_Mo_takeNumeral.2.1 83 = .ok (.invokestatic 217, 3) := by decide +kernel
theorem dc_Mo_takeNumeral_86 : decode m_Mo_takeNumeral.2.1 86 = .ok (.ifCond .eq 53, 3) := by decide +kernel
theorem dc_Mo_takeNumeral_89 : decode m_Mo_takeNumeral.2.1 89 = .ok (.aload_n 0, 1) := by decide +kernel
theorem dc_Mo_takeNumeral_90 : decode m_Mo_takeNumeral.2.1 90 = .ok (.getfield 16, 3) := by decide +kernel
theorem dc_Mo_takeNumeral_93 : decode m_Mo_takeNumeral.2.1 93 = .ok (.aload_n 0, 1) := by decide +kernel
theorem dc_Mo_takeNumeral_94 : decode m_Mo_takeNumeral.2.1 94 = .ok (.getfield 175, 3) := by decide +kernel
theorem dc_Mo_takeNumeral_97 : decode m_Mo_takeNumeral.2.1 97 = .ok (.aload_n 0, 1) := by decide +kernel
theorem dc_Mo_takeNumeral_98 : decode m_Mo_takeNumeral.2.1 98 = .ok (.iload_n 1, 1) := by decide +kernel
theorem dc_Mo_takeNumeral_99 : decode m_Mo_takeNumeral.2.1 99 = .ok (.invokevirtual 213, 3) := by decide +kernel
theorem dc_Mo_takeNumeral_102 : decode m_Mo_takeNumeral.2.1 102 = .ok (.bipush 48, 2) := by decide +kernel
theorem dc_Mo_takeNumeral_104 : decode m_Mo_takeNumeral.2.1 104 = .ok (.isub, 1) := by decide +kernel
theorem dc_Mo_takeNumeral_105 : decode m_Mo_takeNumeral.2.1 105 = .ok (.iastore, 1) := by decide +kernel
theorem dc_Mo_takeNumeral_106 : decode m_Mo_takeNumeral.2.1 106 = .ok (.aload_n 0, 1) := by decide +kernel
theorem dc_Mo_takeNumeral_107 : decode m_Mo_takeNumeral.2.1 107 = .ok (.dup, 1) := by decide +kernel
theorem dc_Mo_takeNumeral_108 : decode m_Mo_takeNumeral.2.1 108 = .ok (.getfield 175, 3) := by decide +kernel
theorem dc_Mo_takeNumeral_111 : decode m_Mo_takeNumeral.2.1 111 = .ok (.iconst 1, 1) := by decide +kernel
theorem dc_Mo_takeNumeral_112 : decode m_Mo_takeNumeral.2.1 112 = .ok (.iadd, 1) := by decide +kernel
theorem dc_Mo_takeNumeral_113 : decode m_Mo_takeNumeral.2.1 113 = .ok (.putfield 175, 3) := by decide +kernel
theorem dc_Mo_takeNumeral_116 : decode m_Mo_takeNumeral.2.1 116 = .ok (.aload_n 0, 1) := by decide +kernel
theorem dc_Mo_takeNumeral_117 : decode m_Mo_takeNumeral.2.1 117 = .ok (.dup, 1) := by decide +kernel
theorem dc_Mo_takeNumeral_118 : decode m_Mo_takeNumeral.2.1 118 = .ok (.getfield 178, 3) := by decide +kernel
theorem dc_Mo_takeNumeral_121 : decode m_Mo_takeNumeral.2.1 121 = .ok (.iconst 1, 1) := by decide +kernel
theorem dc_Mo_takeNumeral_122 : decode m_Mo_takeNumeral.2.1 122 = .ok (.iadd, 1) := by decide +kernel
theorem dc_Mo_takeNumeral_123 : decode m_Mo_takeNumeral.2.1 123 = .ok (.putfield 178, 3) := by decide +kernel
theorem dc_Mo_takeNumeral_126 : decode m_Mo_takeNumeral.2.1 126 = .ok (.aload_n 0, 1) := by decide +kernel
theorem dc_Mo_takeNumeral_127 : decode m_Mo_takeNumeral.2.1 127 = .ok (.dup, 1) := by decide +kernel
theorem dc_Mo_takeNumeral_128 : decode m_Mo_takeNumeral.2.1 128 = .ok (.getfield 210, 3) := by decide +kernel
theorem dc_Mo_takeNumeral_131 : decode m_Mo_takeNumeral.2.1 131 = .ok (.iconst 1, 1) := by decide +kernel
theorem dc_Mo_takeNumeral_132 : decode m_Mo_takeNumeral.2.1 132 = .ok (.iadd, 1) := by decide +kernel
theorem dc_Mo_takeNumeral_133 : decode m_Mo_takeNumeral.2.1 133 = .ok (.putfield 210, 3) := by decide +kernel
theorem dc_Mo_takeNumeral_136 : decode m_Mo_takeNumeral.2.1 136 = .ok (.goto (-58), 3) := by decide +kernel
theorem dc_Mo_takeNumeral_139 : decode m_Mo_takeNumeral.2.1 139 = .ok (.iconst 1, 1) := by decide +kernel
theorem dc_Mo_takeNumeral_140 : decode m_Mo_takeNumeral.2.1 140 = .ok (.istore_n 3, 1) := by decide +kernel
theorem dc_Mo_takeNumeral_141 : decode m_Mo_takeNumeral.2.1 141 = .ok (.aload_n 0, 1) := by decide +kernel
theorem dc_Mo_takeNumeral_142 : decode m_Mo_takeNumeral.2.1 142 = .ok (.iload_n 1, 1) := by decide +kernel
theorem dc_Mo_takeNumeral_143 : decode m_Mo_takeNumeral.2.1 143 = .ok (.invokevirtual 213, 3) := by decide +kernel
theorem dc_Mo_takeNumeral_146 : decode m_Mo_takeNumeral.2.1 146 = .ok (.bipush 46, 2) := by decide +kernel
theorem dc_Mo_takeNumeral_148 : decode m_Mo_takeNumeral.2.1 148 = .ok (.if_icmp .ne 105, 3) := by decide +kernel
theorem dc_Mo_takeNumeral_151 : decode m_Mo_takeNumeral.2.1 151 = .ok (.aload_n 0, 1) := by decide +kernel
theorem dc_Mo_takeNumeral_152 : decode m_Mo_takeNumeral.2.1 152 = .ok (.dup, 1) := by decide +kernel
theorem dc_Mo_takeNumeral_153 : decode m_Mo_takeNumeral.2.1 153 = .ok (.getfield 210, 3) := by decide +kernel
theorem dc_Mo_takeNumeral_156 : decode m_Mo_takeNumeral.2.1 156 = .ok (.iconst 1, 1) := by decide +kernel
theorem dc_Mo_takeNumeral_157 : decode m_Mo_takeNumeral.2.1 157 = .ok (.iadd, 1) := by decide +kernel
theorem dc_Mo_takeNumeral_158 : decode m_Mo_takeNumeral.2.1 158 = .ok (.putfield 210, 3) := by decide +kernel
theorem dc_Mo_takeNumeral_161 : decode m_Mo_takeNumeral.2.1 161 = .ok (.aload_n 0, 1) := by decide +kernel
theorem dc_Mo_takeNumeral_162 : decode m_Mo_takeNumeral.2.1 162 = .ok (.iload_n 1, 1) := by decide +kernel
theorem dc_Mo_takeNumeral_163 : decode m_Mo_takeNumeral.2.1 163 = .ok (.invokevirtual 213, 3) := by decide +kernel
theorem dc_Mo_takeNumeral_166 : decode m_Mo_takeNumeral.2.1 166 = .ok (.invokestatic 217, 3) := by decide +kernel
theorem dc_Mo_takeNumeral_169 : decode m_Mo_takeNumeral.2.1 169 = .ok (.ifCond .ne 5, 3) := by decide +kernel
theorem dc_Mo_takeNumeral_172 : decode m_Mo_takeNumeral.2.1 172 = .ok (.iconst 0, 1) := by decide +kernel
theorem dc_Mo_takeNumeral_173 : decode m_Mo_takeNumeral.2.1 173 = .ok (.ireturn, 1) := by decide +kernel
theorem dc_Mo_takeNumeral_174 : decode m_Mo_takeNumeral.2.1 174 = .ok (.aload_n 0, 1) := by decide +kernel
theorem dc_Mo_takeNumeral_175 : decode m_Mo_takeNumeral.2.1 175 = .ok (.iload_n 1, 1) := by decide +kernel
theorem dc_Mo_takeNumeral_176 : decode m_Mo_takeNumeral.2.1 176 = .ok (.invokevirtual 213, 3) := by decide +kernel
theorem dc_Mo_takeNumeral_179 : decode m_Mo_takeNumeral.2.1 179 = .ok (.invokestatic 217, 3) := by decide +kernel
theorem dc_Mo_takeNumeral_182 : decode m_Mo_takeNumeral.2.1 182 = .ok (.ifCond .eq 71, 3) := by decide +kernel
theorem dc_Mo_takeNumeral_185 : decode m_Mo_takeNumeral.2.1 185 = .ok (.aload_n 0, 1) := by decide +kernel
theorem dc_Mo_takeNumeral_186 : decode m_Mo_takeNumeral.2.1 186 = .ok (.iload_n 1, 1) := by decide +kernel
theorem dc_Mo_takeNumeral_187 : decode m_Mo_takeNumeral.2.1 187 = .ok (.invokevirtual 213, 3) := by decide +kernel
theorem dc_Mo_takeNumeral_190 : decode m_Mo_takeNumeral.2.1 190 = .ok (.bipush 48, 2) := by decide +kernel
theorem dc_Mo_takeNumeral_192 : decode m_Mo_takeNumeral.2.1 192 = .ok (.isub, 1) := by decide +kernel
theorem dc_Mo_takeNumeral_193 : decode m_Mo_takeNumeral.2.1 193 = .ok (.istore 4, 2) := by decide +kernel
theorem dc_Mo_takeNumeral_195 : decode m_Mo_takeNumeral.2.1 195 = .ok (.iload_n 3, 1) := by decide +kernel
theorem dc_Mo_takeNumeral_196 : decode m_Mo_takeNumeral.2.1 196 = .ok (.ifCond .ne 8, 3) := by decide +kernel
theorem dc_Mo_takeNumeral_199 : decode m_Mo_takeNumeral.2.1 199 = .ok (.iload 4, 2) := by decide +kernel
theorem dc_Mo_takeNumeral_201 : decode m_Mo_takeNumeral.2.1 201 = .ok (.ifCond .le 29, 3) := by decide +kernel
theorem dc_Mo_takeNumeral_204 : decode m_Mo_takeNumeral.2.1 204 = .ok (.aload_n 0, 1) := by decide +kernel
theorem dc_Mo_takeNumeral_205 : decode m_Mo_takeNumeral.2.1 205 = .ok (.getfield 16, 3) := by decide +kernel
theorem dc_Mo_takeNumeral_208 : decode m_Mo_takeNumeral.2.1 208 = .ok (.aload_n 0, 1) := by decide +kernel
theorem dc_Mo_takeNumeral_209 : decode m_Mo_takeNumeral.2.1 209 = .ok (.getfield 175, 3) := by decide +kernel
theorem dc_Mo_takeNumeral_212 : decode m_Mo_takeNumeral.2.1 212 = .ok (.iload 4, 2) := by decide +kernel
theorem dc_Mo_takeNumeral_214 : decode m_Mo_takeNumeral.2.1 214 = .ok (.iastore, 1) := by decide +kernel
theorem dc_Mo_takeNumeral_215 : decode m_Mo_takeNumeral.2.1 215 = .ok (.aload_n 0, 1) := by decide +kernel
theorem dc_Mo_takeNumeral_216 : decode m_Mo_takeNumeral.2.1 216 = .ok (.dup, 1) := by decide +kernel
theorem dc_Mo_takeNumeral_217 : decode m_Mo_takeNumeral.2.1 217 = .ok (.getfield 175, 3) := by decide +kernel
theorem dc_Mo_takeNumeral_220 : decode m_Mo_takeNumeral.2.1 220 = .ok (.iconst 1, 1) := by decide +kernel
theorem dc_Mo_takeNumeral_221 : decode m_Mo_takeNumeral.2.1 221 = .ok (.iadd, 1) := by decide +kernel
theorem dc_Mo_takeNumeral_222 : decode m_Mo_takeNumeral.2.1 222 = .ok (.putfield 175, 3) := by decide +kernel
theorem dc_Mo_takeNumeral_225 : decode m_Mo_takeNumeral.2.1 225 = .ok (.iconst 1, 1) := by decide +kernel
theorem dc_Mo_takeNumeral_226 : decode m_Mo_takeNumeral.2.1 226 = .ok (.istore_n 3, 1) := by decide +kernel
theorem dc_Mo_takeNumeral_227 : decode m_Mo_takeNumeral.2.1 227 = .ok (.goto 13, 3) := by decide +kernel
theorem dc_Mo_takeNumeral_230 : decode m_Mo_takeNumeral.2.1 230 = .ok (.aload_n 0, 1) := by decide +kernel
theorem dc_Mo_takeNumeral_231 : decode m_Mo_takeNumeral.2.1 231 = .ok (.dup, 1) := by decide +kernel
theorem dc_Mo_takeNumeral_232 : decode m_Mo_takeNumeral.2.1 232 = .ok (.getfield 178, 3) := by decide +kernel
theorem dc_Mo_takeNumeral_235 : decode m_Mo_takeNumeral.2.1 235 = .ok (.iconst 1, 1) := by decide +kernel
theorem dc_Mo_takeNumeral_236 : decode m_Mo_takeNumeral.2.1 236 = .ok (.isub, 1) := by decide +kernel
theorem dc_Mo_takeNumeral_237 : decode m_Mo_takeNumeral.2.1 237 = .ok (.putfield 178, 3) := by decide +kernel
theorem dc_Mo_takeNumeral_240 : decode m_Mo_takeNumeral.2.1 240 = .ok (.aload_n 0, 1) := by decide +kernel
theorem dc_Mo_takeNumeral_241 : decode m_Mo_takeNumeral.2.1 241 = .ok (.dup, 1) := by decide +kernel
theorem dc_Mo_takeNumeral_242 : decode m_Mo_takeNumeral.2.1 242 = .ok (.getfield 210, 3) := by decide +kernel
theorem dc_Mo_takeNumeral_245 : decode m_Mo_takeNumeral.2.1 245 = .ok (.iconst 1, 1) := by decide +kernel
theorem dc_Mo_takeNumeral_246 : decode m_Mo_takeNumeral.2.1 246 = .ok (.iadd, 1) := by decide +kernel
theorem dc_Mo_takeNumeral_247 : decode m_Mo_takeNumeral.2.1 247 = .ok (.putfield 210, 3) := by decide +kernel
theorem dc_Mo_takeNumeral_250 : decode m_Mo_takeNumeral.2.1 250 = .ok (.goto (-76), 3) := by decide +kernel
theorem dc_Mo_takeNumeral_253 : decode m_Mo_takeNumeral.2.1 253 = .ok (.aload_n 0, 1) := by decide +kernel
theorem dc_Mo_takeNumeral_254 : decode m_Mo_takeNumeral.2.1 254 = .ok (.iload_n 1, 1) := by decide +kernel
theorem dc_Mo_takeNumeral_255 : decode m_Mo_takeNumeral.2.1 255 = .ok (.invokevirtual 213, 3) := by decide +kernel
theorem dc_Mo_takeNumeral_258 : decode m_Mo_takeNumeral.2.1 258 = .ok (.bipush 101, 2) := by decide +kernel
theorem dc_Mo_takeNumeral_260 : decode m_Mo_takeNumeral.2.1 260 = .ok (.if_icmp .eq 13, 3) := by decide +kernel
theorem dc_Mo_takeNumeral_263 : decode m_Mo_takeNumeral.2.1 263 = .ok (.aload_n 0, 1) := by decide +kernel
theorem dc_Mo_takeNumeral_264 : decode m_Mo_takeNumeral.2.1 264 = .ok (.iload_n 1, 1) := by decide +kernel
theorem dc_Mo_takeNumeral_265 : decode m_Mo_takeNumeral.2.1 265 = .ok (.invokevirtual 213, 3) := by decide +kernel
theorem dc_Mo_takeNumeral_268 : decode m_Mo_takeNumeral.2.1 268 = .ok (.bipush 69, 2) := by decide +kernel
theorem dc_Mo_takeNumeral_270 : decode m_Mo_takeNumeral.2.1 270 = .ok (.if_icmp .ne 145, 3) := by decide +kernel
theorem dc_Mo_takeNumeral_273 : decode m_Mo_takeNumeral.2.1 273 = .ok (.aload_n 0, 1) := by decide +kernel
theorem dc_Mo_takeNumeral_274 : decode m_Mo_takeNumeral.2.1 274 = .ok (.dup, 1) := by decide +kernel
theorem dc_Mo_takeNumeral_275 : decode m_Mo_takeNumeral.2.1 275 = .ok (.getfield 210, 3) := by decide +kernel
theorem dc_Mo_takeNumeral_278 : decode m_Mo_takeNumeral.2.1 278 = .ok (.iconst 1, 1) := by decide +kernel
theorem dc_Mo_takeNumeral_279 : decode m_Mo_takeNumeral.2.1 279 = .ok (.iadd, 1) := by decide +kernel
theorem dc_Mo_takeNumeral_280 : decode m_Mo_takeNumeral.2.1 280 = .ok (.putfield 210, 3) := by decide +kernel
theorem dc_Mo_takeNumeral_283 : decode m_Mo_takeNumeral.2.1 283 = .ok (.aload_n 0, 1) := by decide +kernel
theorem dc_Mo_takeNumeral_284 : decode m_Mo_takeNumeral.2.1 284 = .ok (.iload_n 1, 1) := by decide +kernel
theorem dc_Mo_takeNumeral_285 : decode m_Mo_takeNumeral.2.1 285 = .ok (.invokevirtual 213, 3) := by decide +kernel
theorem dc_Mo_takeNumeral_288 : decode m_Mo_takeNumeral.2.1 288 = .ok (.bipush 45, 2) := by decide +kernel
theorem dc_Mo_takeNumeral_290 : decode m_Mo_takeNumeral.2.1 290 = .ok (.if_icmp .ne 7, 3) := by decide +kernel
theorem dc_Mo_takeNumeral_293 : decode m_Mo_takeNumeral.2.1 293 = .ok (.iconst 1, 1) := by decide +kernel
theorem dc_Mo_takeNumeral_294 : decode m_Mo_takeNumeral.2.1 294 = .ok (.goto 4, 3) := by decide +kernel
theorem dc_Mo_takeNumeral_297 : decode m_Mo_takeNumeral.2.1 297 = .ok (.iconst 0, 1) := by decide +kernel
theorem dc_Mo_takeNumeral_298 : decode m_Mo_takeNumeral.2.1 298 = .ok (.istore 4, 2) := by decide +kernel
theorem dc_Mo_takeNumeral_300 : decode m_Mo_takeNumeral.2.1 300 = .ok (.iload 4, 2) := by decide +kernel
theorem dc_Mo_takeNumeral_302 : decode m_Mo_takeNumeral.2.1 302 = .ok (.ifCond .ne 13, 3) := by decide +kernel
theorem dc_Mo_takeNumeral_305 : decode m_Mo_takeNumeral.2.1 305 = .ok (.aload_n 0, 1) := by decide +kernel
theorem dc_Mo_takeNumeral_306 : decode m_Mo_takeNumeral.2.1 306 = .ok (.iload_n 1, 1) := by decide +kernel
theorem dc_Mo_takeNumeral_307 : decode m_Mo_takeNumeral.2.1 307 = .ok (.invokevirtual 213, 3) := by decide +kernel
theorem dc_Mo_takeNumeral_310 : decode m_Mo_takeNumeral.2.1 310 = .ok (.bipush 43, 2) := by decide +kernel
theorem dc_Mo_takeNumeral_312 : decode m_Mo_takeNumeral.2.1 312 = .ok (.if_icmp .ne 13, 3) := by decide +kernel
theorem dc_Mo_takeNumeral_315 : decode m_Mo_takeNumeral.2.1 315 = .ok (.aload_n 0, 1) := by decide +kernel
theorem dc_Mo_takeNumeral_316 : decode m_Mo_takeNumeral.2.1 316 = .ok (.dup, 1) := by decide +kernel
theorem dc_Mo_takeNumeral_317 : decode m_Mo_takeNumeral.2.1 317 = .ok (.getfield 210, 3) := by decide +kernel
theorem dc_Mo_takeNumeral_320 : decode m_Mo_takeNumeral.2.1 320 = .ok (.iconst 1, 1) := by decide +kernel
theorem dc_Mo_takeNumeral_321 : decode m_Mo_takeNumeral.2.1 321 = .ok (.iadd, 1) := by decide +kernel
theorem dc_Mo_takeNumeral_322 : decode m_Mo_takeNumeral.2.1 322 = .ok (.putfield 210, 3) := by decide +kernel
theorem dc_Mo_takeNumeral_325 : decode m_Mo_takeNumeral.2.1 325 = .ok (.aload_n 0, 1) := by decide +kernel
theorem dc_Mo_takeNumeral_326 : decode m_Mo_takeNumeral.2.1 326 = .ok (.iload_n 1, 1) := by decide +kernel
theorem dc_Mo_takeNumeral_327 : decode m_Mo_takeNumeral.2.1 327 = .ok (.invokevirtual 213, 3) := by decide +kernel
theorem dc_Mo_takeNumeral_330 : decode m_Mo_takeNumeral.2.1 330 = .ok (.invokestatic 217, 3) := by decide +kernel
theorem dc_Mo_takeNumeral_333 : decode m_Mo_takeNumeral.2.1 333 = .ok (.ifCond .ne 5, 3) := by decide +kernel
theorem dc_Mo_takeNumeral_336 : decode m_Mo_takeNumeral.2.1 336 = .ok (.iconst 0, 1) := by decide +kernel
theorem dc_Mo_takeNumeral_337 : decode m_Mo_takeNumeral.2.1 337 = .ok (.ireturn, 1) := by decide +kernel
theorem dc_Mo_takeNumeral_338 : decode m_Mo_takeNumeral.2.1 338 = .ok (.iconst 0, 1) := by decide +kernel
theorem dc_Mo_takeNumeral_339 : decode m_Mo_takeNumeral.2.1 339 = .ok (.istore 5, 2) := by decide +kernel
theorem dc_Mo_takeNumeral_341 : decode m_Mo_takeNumeral.2.1 341 = .ok (.aload_n 0, 1) := by decide +kernel
theorem dc_Mo_takeNumeral_342 : decode m_Mo_takeNumeral.2.1 342 = .ok (.iload_n 1, 1) := by decide +kernel
theorem dc_Mo_takeNumeral_343 : decode m_Mo_takeNumeral.2.1 343 = .ok (.invokevirtual 213, 3) := by decide +kernel
theorem dc_Mo_takeNumeral_346 : decode m_Mo_takeNumeral.2.1 346 = .ok (.invokestatic 217, 3) := by decide +kernel
theorem dc_Mo_takeNumeral_349 : decode m_Mo_takeNumeral.2.1 349 = .ok (.ifCond .eq 44, 3) := by decide +kernel
theorem dc_Mo_takeNumeral_352 : decode m_Mo_takeNumeral.2.1 352 = .ok (.iload 5, 2) := by decide +kernel
theorem dc_Mo_takeNumeral_354 : decode m_Mo_takeNumeral.2.1 354 = .ok (.ldc 221, 2) := by decide +kernel
theorem dc_Mo_takeNumeral_356 : decode m_Mo_takeNumeral.2.1 356 = .ok (.if_icmp .ge 20, 3) := by decide +kernel
theorem dc_Mo_takeNumeral_359 : decode m_Mo_takeNumeral.2.1 359 = .ok (.bipush 10, 2) := by decide +kernel
theorem dc_Mo_takeNumeral_361 : decode m_Mo_takeNumeral.2.1 361 = .ok (.iload 5, 2) := by decide +kernel
theorem dc_Mo_takeNumeral_363 : decode m_Mo_takeNumeral.2.1 363 = .ok (.imul, 1) := by decide +kernel
theorem dc_Mo_takeNumeral_364 : decode m_Mo_takeNumeral.2.1 364 = .ok (.aload_n 0, 1) := by decide +kernel
theorem dc_Mo_takeNumeral_365 : decode m_Mo_takeNumeral.2.1 365 = .ok (.iload_n 1, 1) := by decide +kernel
theorem dc_Mo_takeNumeral_366 : decode m_Mo_takeNumeral.2.1 366 = .ok (.invokevirtual 213, 3) := by decide +kernel
theorem dc_Mo_takeNumeral_369 : decode m_Mo_takeNumeral.2.1 369 = .ok (.iadd, 1) := by decide +kernel
theorem dc_Mo_takeNumeral_370 : decode m_Mo_takeNumeral.2.1 370 = .ok (.bipush 48, 2) := by decide +kernel
theorem dc_Mo_takeNumeral_372 : decode m_Mo_takeNumeral.2.1 372 = .ok (.isub, 1) := by decide +kernel
theorem dc_Mo_takeNumeral_373 : decode m_Mo_takeNumeral.2.1 373 = .ok (.goto 5, 3) := by decide +kernel
theorem dc_Mo_takeNumeral_376 : decode m_Mo_takeNumeral.2.1 376 = .ok (.iload 5, 2) := by decide +kernel
theorem dc_Mo_takeNumeral_378 : decode m_Mo_takeNumeral.2.1 378 = .ok (.istore 5, 2) := by decide +kernel
theorem dc_Mo_takeNumeral_380 : decode m_Mo_takeNumeral.2.1 380 = .ok (.aload_n 0, 1) := by decide +kernel
theorem dc_Mo_takeNumeral_381 : decode m_Mo_takeNumeral.2.1 381 = .ok (.dup, 1) := by decide +kernel
theorem dc_Mo_takeNumeral_382 : decode m_Mo_takeNumeral.2.1 382 = .ok (.getfield 210, 3) := by decide +kernel
theorem dc_Mo_takeNumeral_385 : decode m_Mo_takeNumeral.2.1 385 = .ok (.iconst 1, 1) := by decide +kernel
theorem dc_Mo_takeNumeral_386 : decode m_Mo_takeNumeral.2.1 386 = .ok (.iadd, 1) := by decide +kernel
theorem dc_Mo_takeNumeral_387 : decode m_Mo_takeNumeral.2.1 387 = .ok (.putfield 210, 3) := by decide +kernel
theorem dc_Mo_takeNumeral_390 : decode m_Mo_takeNumeral.2.1 390 = .ok (.goto (-49), 3) := by decide +kernel
theorem dc_Mo_takeNumeral_393 : decode m_Mo_takeNumeral.2.1 393 = .ok (.aload_n 0, 1) := by decide +kernel
theorem dc_Mo_takeNumeral_394 : decode m_Mo_takeNumeral.2.1 394 = .ok (.dup, 1) := by decide +kernel
theorem dc_Mo_takeNumeral_395 : decode m_Mo_takeNumeral.2.1 395 = .ok (.getfield 178, 3) := by decide +kernel
theorem dc_Mo_takeNumeral_398 : decode m_Mo_takeNumeral.2.1 398 = .ok (.iload 4, 2) := by decide +kernel
theorem dc_Mo_takeNumeral_400 : decode m_Mo_takeNumeral.2.1 400 = .ok (.ifCond .eq 9, 3) := by decide +kernel
theorem dc_Mo_takeNumeral_403 : decode m_Mo_takeNumeral.2.1 403 = .ok (.iload 5, 2) := by decide +kernel
theorem dc_Mo_takeNumeral_405 : decode m_Mo_takeNumeral.2.1 405 = .ok (.ineg, 1) := by decide +kernel
theorem dc_Mo_takeNumeral_406 : decode m_Mo_takeNumeral.2.1 406 = .ok (.goto 5, 3) := by decide +kernel
theorem dc_Mo_takeNumeral_409 : decode m_Mo_takeNumeral.2.1 409 = .ok (.iload 5, 2) := by decide +kernel
theorem dc_Mo_takeNumeral_411 : decode m_Mo_takeNumeral.2.1 411 = .ok (.iadd, 1) := by decide +kernel
theorem dc_Mo_takeNumeral_412 : decode m_Mo_takeNumeral.2.1 412 = .ok (.putfield 178, 3) := by decide +kernel
theorem dc_Mo_takeNumeral_415 : decode m_Mo_takeNumeral.2.1 415 = .ok (.aload_n 0, 1) := by decide +kernel
theorem dc_Mo_takeNumeral_416 : decode m_Mo_takeNumeral.2.1 416 = .ok (.aload_n 0, 1) := by decide +kernel
theorem dc_Mo_takeNumeral_417 : decode m_Mo_takeNumeral.2.1 417 = .ok (.invokevirtual 222, 3) := by decide +kernel
theorem dc_Mo_takeNumeral_420 : decode m_Mo_takeNumeral.2.1 420 = .ok (.iload_n 2, 1) := by decide +kernel
theorem dc_Mo_takeNumeral_421 : decode m_Mo_takeNumeral.2.1 421 = .ok (.ifCond .eq 9, 3) := by decide +kernel
theorem dc_Mo_takeNumeral_424 : decode m_Mo_takeNumeral.2.1 424 = .ok (.ldc2_w 226, 3) := by decide +kernel
theorem dc_Mo_takeNumeral_427 : decode m_Mo_takeNumeral.2.1 427 = .ok (.goto 4, 3) := by decide +kernel
theorem dc_Mo_takeNumeral_430 : decode m_Mo_takeNumeral.2.1 430 = .ok (.lconst 0, 1) := by decide +kernel
theorem dc_Mo_takeNumeral_431 : decode m_Mo_takeNumeral.2.1 431 = .ok (.lor, 1) := by decide +kernel
theorem dc_Mo_takeNumeral_432 : decode m_Mo_takeNumeral.2.1 432 = .ok (.putfield 228, 3) := by decide +kernel
theorem dc_Mo_takeNumeral_435 : decode m_Mo_takeNumeral.2.1 435 = .ok (.iconst 1, 1) := by decide +kernel
theorem dc_Mo_takeNumeral_436 : decode m_Mo_takeNumeral.2.1 436 = .ok (.ireturn, 1) := by decide +kernel
theorem b_Mo_takeNumeral_0 {E : En_t} {d : Nat} {σ : S_t} {Q : Option Value → S_t → Prop} {x1 : Int32}
    (h : CI E d m_Mo_here [pv E 0, .int x1] σ (fun r2 σ1 => (¬ r2 = (45 : Int32) → JE E (d + 1) m_Mo_takeNumeral 15 [(0, pv E 0), (1, .int x1)] [.int (0 : Int32)] σ1 Q) ∧ (r2 = (45 : Int32) → JE E (d + 1) m_Mo_takeNumeral 15 [(0, pv E 0), (1, .int x1)] [.int (1 : Int32)] σ1 Q))) :
    JE E (d + 1) m_Mo_takeNumeral 0 [(0, pv E 0), (1, .int x1)] [] σ Q := by
  refine J_aload_n dc_Mo_takeNumeral_0 (Eq.refl 1) 0 rfl ?_
  refine J_iload_n dc_Mo_takeNumeral_1 (Eq.refl 2) 1 rfl ?_
  refine J_callVI (As := [.int x1]) (st := []) dc_Mo_takeNumeral_2 (Eq.refl 5) lk_Mo_213 mi_Mo_here rfl (Nat.le_of_ble_eq_true rfl) rfl rfl (Nat.le_of_ble_eq_true rfl) rfl (Nat.le_of_ble_eq_true rfl) (CI.mono h (fun r2 σ1 h => ?_))
  refine J_bipush (v := (45 : Int32)) dc_Mo_takeNumeral_5 (Eq.refl 7) rfl ?_
  refine J_icmp_ne dc_Mo_takeNumeral_7 (Eq.refl 10) rfl (fun hc => ?_) (fun hc => ?_)
  · have h := h.1 hc
    refine J_iconst (v := (0 : Int32)) dc_Mo_takeNumeral_14 (Eq.refl 15) rfl ?_
    exact h
  · have h := h.2 hc
    refine J_iconst (v := (1 : Int32)) dc_Mo_takeNumeral_10 (Eq.refl 11) rfl ?_
    refine J_goto dc_Mo_takeNumeral_11 rfl ?_
    exact h
theorem b_Mo_takeNumeral_15 {E : En_t} {d : Nat} {σ : S_t} {Q : Option Value → S_t → Prop} {x1 : Int32} {s0 : Int32}
    (h : (s0 = 0 → JE E (d + 1) m_Mo_takeNumeral 30 [(0, pv E 0), (1, .int x1), (2, .int s0)] [] σ Q) ∧ (¬ s0 = 0 → JE E (d + 1) m_Mo_takeNumeral 30 [(0, pv E 0), (1, .int x1), (2, .int s0)] [] (sI σ 0 9 ((gI σ 0 9) + (1 : Int32))) Q)) :
    JE E (d + 1) m_Mo_takeNumeral 15 [(0, pv E 0), (1, .int x1)] [.int s0] σ Q := by
  refine J_istore_n (L' := [(2, .int s0), (0, pv E 0), (1, .int x1)]) dc_Mo_takeNumeral_15 (Eq.refl 16) (Nat.le_of_ble_eq_true rfl) rfl ?_
  refine J_iload_n dc_Mo_takeNumeral_16 (Eq.refl 17) 0 rfl ?_
  refine J_if_eq dc_Mo_takeNumeral_17 (Eq.refl 20) rfl (fun hc => ?_) (fun hc => ?_)
  · have h := h.1 hc
    refine J_sub [1, 2, 0] rfl ?_
    exact h
  · have h := h.2 hc
    refine J_aload_n dc_Mo_takeNumeral_20 (Eq.refl 21) 1 rfl ?_
    refine J_dup dc_Mo_takeNumeral_21 (Eq.refl 22) rfl ?_
    refine J_getI dc_Mo_takeNumeral_22 (Eq.refl 25) fl_Mo_210 (Nat.le_of_ble_eq_true rfl) rfl (Or.inl rfl) ?_
    refine J_iconst (v := (1 : Int32)) dc_Mo_takeNumeral_25 (Eq.refl 26) rfl ?_
    refine J_iadd dc_Mo_takeNumeral_26 (Eq.refl 27) ?_
    refine J_putI dc_Mo_takeNumeral_27 (Eq.refl 30) pl_Mo_210 (Nat.le_of_ble_eq_true rfl) rfl rfl ?_
    refine J_sub [1, 2, 0] rfl ?_
    exact h
theorem b_Mo_takeNumeral_30 {E : En_t} {d : Nat} {σ : S_t} {Q : Option Value → S_t → Prop} {x1 : Int32} {x2 : Int32}
    (h : CI E d m_Mo_here [pv E 0, .int x1] (sI (sI σ 0 6 (0 : Int32)) 0 7 (0 : Int32)) (fun r2 σ1 => CI E d m_Mo_isDigit [.int r2] σ1 (fun r4 σ3 => (¬ r4 = 0 → CI E d m_Mo_here [pv E 0, .int x1] σ3 (fun r6 σ5 => (¬ r6 = (48 : Int32) → JE E (d + 1) m_Mo_takeNumeral 78 [(0, pv E 0), (1, .int x1), (2, .int x2)] [] σ5 Q) ∧ (r6 = (48 : Int32) → JE E (d + 1) m_Mo_takeNumeral 141 [(0, pv E 0), (1, .int x1), (2, .int x2), (3, .int (0 : Int32))] [] (sI σ5 0 9 ((gI σ5 0 9) + (1 : Int32))) Q))) ∧ (r4 = 0 → Q (some (.int (0 : Int32))) σ3)))) :
    JE E (d + 1) m_Mo_takeNumeral 30 [(0, pv E 0), (1, .int x1), (2, .int x2)] [] σ Q := by
  refine J_aload_n dc_Mo_takeNumeral_30 (Eq.refl 31) 0 rfl ?_
  refine J_iconst (v := (0 : Int32)) dc_Mo_takeNumeral_31 (Eq.refl 32) rfl ?_
  refine J_putI dc_Mo_takeNumeral_32 (Eq.refl 35) pl_Mo_175 (Nat.le_of_ble_eq_true rfl) rfl rfl ?_
  refine J_aload_n dc_Mo_takeNumeral_35 (Eq.refl 36) 0 rfl ?_
  refine J_iconst (v := (0 : Int32)) dc_Mo_takeNumeral_36 (Eq.refl 37) rfl ?_
  refine J_putI dc_Mo_takeNumeral_37 (Eq.refl 40) pl_Mo_178 (Nat.le_of_ble_eq_true rfl) rfl rfl ?_
  refine J_iconst (v := (0 : Int32)) dc_Mo_takeNumeral_40 (Eq.refl 41) rfl ?_
  refine J_istore_n (L' := [(3, .int (0 : Int32)), (0, pv E 0), (1, .int x1), (2, .int x2)]) dc_Mo_takeNumeral_41 (Eq.refl 42) (Nat.le_of_ble_eq_true rfl) rfl ?_
  refine J_aload_n dc_Mo_takeNumeral_42 (Eq.refl 43) 1 rfl ?_
  refine J_iload_n dc_Mo_takeNumeral_43 (Eq.refl 44) 2 rfl ?_
  refine J_callVI (As := [.int x1]) (st := []) dc_Mo_takeNumeral_44 (Eq.refl 47) lk_Mo_213 mi_Mo_here rfl (Nat.le_of_ble_eq_true rfl) rfl rfl (Nat.le_of_ble_eq_true rfl) rfl (Nat.le_of_ble_eq_true rfl) (CI.mono h (fun r2 σ1 h => ?_))
  refine J_callSI (As := [.int r2]) (st := []) dc_Mo_takeNumeral_47 (Eq.refl 50) lk_Mo_217 mi_Mo_isDigit (Nat.le_of_ble_eq_true rfl) rfl (Nat.le_of_ble_eq_true rfl) (CI.mono h (fun r4 σ3 h => ?_))
  refine J_if_ne dc_Mo_takeNumeral_50 (Eq.refl 53) rfl (fun hc => ?_) (fun hc => ?_)
  · have h := h.1 hc
    refine J_aload_n dc_Mo_takeNumeral_55 (Eq.refl 56) 1 rfl ?_
    refine J_iload_n dc_Mo_takeNumeral_56 (Eq.refl 57) 2 rfl ?_
    refine J_callVI (As := [.int x1]) (st := []) dc_Mo_takeNumeral_57 (Eq.refl 60) lk_Mo_213 mi_Mo_here rfl (Nat.le_of_ble_eq_true rfl) rfl rfl (Nat.le_of_ble_eq_true rfl) rfl (Nat.le_of_ble_eq_true rfl) (CI.mono h (fun r6 σ5 h => ?_))
    refine J_bipush (v := (48 : Int32)) dc_Mo_takeNumeral_60 (Eq.refl 62) rfl ?_
    refine J_icmp_ne dc_Mo_takeNumeral_62 (Eq.refl 65) rfl (fun hc => ?_) (fun hc => ?_)
    · have h := h.1 hc
      refine J_sub [1, 2, 3] rfl ?_
      exact h
    · have h := h.2 hc
      refine J_aload_n dc_Mo_takeNumeral_65 (Eq.refl 66) 1 rfl ?_
      refine J_dup dc_Mo_takeNumeral_66 (Eq.refl 67) rfl ?_
      refine J_getI dc_Mo_takeNumeral_67 (Eq.refl 70) fl_Mo_210 (Nat.le_of_ble_eq_true rfl) rfl (Or.inl rfl) ?_
      refine J_iconst (v := (1 : Int32)) dc_Mo_takeNumeral_70 (Eq.refl 71) rfl ?_
      refine J_iadd dc_Mo_takeNumeral_71 (Eq.refl 72) ?_
      refine J_putI dc_Mo_takeNumeral_72 (Eq.refl 75) pl_Mo_210 (Nat.le_of_ble_eq_true rfl) rfl rfl ?_
      refine J_goto dc_Mo_takeNumeral_75 rfl ?_
      refine J_sub [1, 2, 3, 0] rfl ?_
      exact h
  · have h := h.2 hc
    refine J_iconst (v := (0 : Int32)) dc_Mo_takeNumeral_53 (Eq.refl 54) rfl ?_
    exact J_zret dc_Mo_takeNumeral_54 rfl rfl h
theorem b_Mo_takeNumeral_78 {E : En_t} {d : Nat} {σ : S_t} {Q : Option Value → S_t → Prop} {x1 : Int32} {x2 : Int32}
    (h : CI E d m_Mo_here [pv E 0, .int x1] σ (fun r2 σ1 => CI E d m_Mo_isDigit [.int r2] σ1 (fun r4 σ3 => (r4 = 0 → JE E (d + 1) m_Mo_takeNumeral 141 [(0, pv E 0), (1, .int x1), (2, .int x2), (3, .int (1 : Int32))] [] σ3 Q) ∧ (¬ r4 = 0 → CI E d m_Mo_here [pv E 0, .int x1] σ3 (fun r6 σ5 => vp_in (gI σ3 0 6) 6000 ∧ (∀ σ7, σ7 = sI (sI σ5 3 (gI σ3 0 6).toNatClampNeg (r6 - (48 : Int32))) 0 6 ((gI (sI σ5 3 (gI σ3 0 6).toNatClampNeg (r6 - (48 : Int32))) 0 6) + (1 : Int32)) → (JE E (d + 1) m_Mo_takeNumeral 78 [(0, pv E 0), (1, .int x1), (2, .int x2)] [] (sI (sI σ7 0 7 ((gI σ7 0 7) + (1 : Int32))) 0 9 ((gI (sI σ7 0 7 ((gI σ7 0 7) + (1 : Int32))) 0 9) + (1 : Int32))) Q))))))) :
    JE E (d + 1) m_Mo_takeNumeral 78 [(0, pv E 0), (1, .int x1), (2, .int x2)] [] σ Q := by
  refine J_aload_n dc_Mo_takeNumeral_78 (Eq.refl 79) 0 rfl ?_
  refine J_iload_n dc_Mo_takeNumeral_79 (Eq.refl 80) 1 rfl ?_
  refine J_callVI (As := [.int x1]) (st := []) dc_Mo_takeNumeral_80 (Eq.refl 83) lk_Mo_213 mi_Mo_here rfl (Nat.le_of_ble_eq_true rfl) rfl rfl (Nat.le_of_ble_eq_true rfl) rfl (Nat.le_of_ble_eq_true rfl) (CI.mono h (fun r2 σ1 h => ?_))
  refine J_callSI (As := [.int r2]) (st := []) dc_Mo_takeNumeral_83 (Eq.refl 86) lk_Mo_217 mi_Mo_isDigit (Nat.le_of_ble_eq_true rfl) rfl (Nat.le_of_ble_eq_true rfl) (CI.mono h (fun r4 σ3 h => ?_))
  refine J_if_eq dc_Mo_takeNumeral_86 (Eq.refl 89) rfl (fun hc => ?_) (fun hc => ?_)
  · have h := h.1 hc
    refine J_iconst (v := (1 : Int32)) dc_Mo_takeNumeral_139 (Eq.refl 140) rfl ?_
    refine J_istore_n (L' := [(3, .int (1 : Int32)), (0, pv E 0), (1, .int x1), (2, .int x2)]) dc_Mo_takeNumeral_140 (Eq.refl 141) (Nat.le_of_ble_eq_true rfl) rfl ?_
    refine J_sub [1, 2, 3, 0] rfl ?_
    exact h
  · have h := h.2 hc
    refine J_aload_n dc_Mo_takeNumeral_89 (Eq.refl 90) 0 rfl ?_
    refine J_getF (y := 3) dc_Mo_takeNumeral_90 (Eq.refl 93) fl_Mo_16 (Nat.le_of_ble_eq_true rfl) rfl (Or.inl rfl) rfl ?_
    refine J_aload_n dc_Mo_takeNumeral_93 (Eq.refl 94) 0 rfl ?_
    refine J_getI dc_Mo_takeNumeral_94 (Eq.refl 97) fl_Mo_175 (Nat.le_of_ble_eq_true rfl) rfl (Or.inl rfl) ?_
    refine J_aload_n dc_Mo_takeNumeral_97 (Eq.refl 98) 0 rfl ?_
    refine J_iload_n dc_Mo_takeNumeral_98 (Eq.refl 99) 1 rfl ?_
    refine J_callVI (As := [.int x1]) (st := [.int (gI σ3 0 6), pv E 3]) dc_Mo_takeNumeral_99 (Eq.refl 102) lk_Mo_213 mi_Mo_here rfl (Nat.le_of_ble_eq_true rfl) rfl rfl (Nat.le_of_ble_eq_true rfl) rfl (Nat.le_of_ble_eq_true rfl) (CI.mono h (fun r6 σ5 h => ?_))
    refine J_bipush (v := (48 : Int32)) dc_Mo_takeNumeral_102 (Eq.refl 104) rfl ?_
    refine J_isub dc_Mo_takeNumeral_104 (Eq.refl 105) ?_
    obtain ⟨hg, h⟩ := h
    refine J_iast dc_Mo_takeNumeral_105 (Eq.refl 106) rfl rfl hg ?_
    refine J_aload_n dc_Mo_takeNumeral_106 (Eq.refl 107) 0 rfl ?_
    refine J_dup dc_Mo_takeNumeral_107 (Eq.refl 108) rfl ?_
    refine J_getI dc_Mo_takeNumeral_108 (Eq.refl 111) fl_Mo_175 (Nat.le_of_ble_eq_true rfl) rfl (Or.inl rfl) ?_
    refine J_iconst (v := (1 : Int32)) dc_Mo_takeNumeral_111 (Eq.refl 112) rfl ?_
    refine J_iadd dc_Mo_takeNumeral_112 (Eq.refl 113) ?_
    refine J_putI dc_Mo_takeNumeral_113 (Eq.refl 116) pl_Mo_175 (Nat.le_of_ble_eq_true rfl) rfl rfl ?_
    refine J_st (fun σ7 eσ7 => ?_)
    have h := h σ7 eσ7
    refine J_aload_n dc_Mo_takeNumeral_116 (Eq.refl 117) 0 rfl ?_
    refine J_dup dc_Mo_takeNumeral_117 (Eq.refl 118) rfl ?_
    refine J_getI dc_Mo_takeNumeral_118 (Eq.refl 121) fl_Mo_178 (Nat.le_of_ble_eq_true rfl) rfl (Or.inl rfl) ?_
    refine J_iconst (v := (1 : Int32)) dc_Mo_takeNumeral_121 (Eq.refl 122) rfl ?_
    refine J_iadd dc_Mo_takeNumeral_122 (Eq.refl 123) ?_
    refine J_putI dc_Mo_takeNumeral_123 (Eq.refl 126) pl_Mo_178 (Nat.le_of_ble_eq_true rfl) rfl rfl ?_
    refine J_aload_n dc_Mo_takeNumeral_126 (Eq.refl 127) 0 rfl ?_
    refine J_dup dc_Mo_takeNumeral_127 (Eq.refl 128) rfl ?_
    refine J_getI dc_Mo_takeNumeral_128 (Eq.refl 131) fl_Mo_210 (Nat.le_of_ble_eq_true rfl) rfl (Or.inl rfl) ?_
    refine J_iconst (v := (1 : Int32)) dc_Mo_takeNumeral_131 (Eq.refl 132) rfl ?_
    refine J_iadd dc_Mo_takeNumeral_132 (Eq.refl 133) ?_
    refine J_putI dc_Mo_takeNumeral_133 (Eq.refl 136) pl_Mo_210 (Nat.le_of_ble_eq_true rfl) rfl rfl ?_
    refine J_goto dc_Mo_takeNumeral_136 rfl ?_
    exact h
theorem b_Mo_takeNumeral_141 {E : En_t} {d : Nat} {σ : S_t} {Q : Option Value → S_t → Prop} {x1 : Int32} {x2 : Int32} {x3 : Int32}
    (h : CI E d m_Mo_here [pv E 0, .int x1] σ (fun r2 σ1 => (¬ r2 = (46 : Int32) → JE E (d + 1) m_Mo_takeNumeral 253 [(0, pv E 0), (1, .int x1), (2, .int x2)] [] σ1 Q) ∧ (r2 = (46 : Int32) → CI E d m_Mo_here [pv E 0, .int x1] (sI σ1 0 9 ((gI σ1 0 9) + (1 : Int32))) (fun r4 σ3 => CI E d m_Mo_isDigit [.int r4] σ3 (fun r6 σ5 => (¬ r6 = 0 → JE E (d + 1) m_Mo_takeNumeral 174 [(0, pv E 0), (1, .int x1), (2, .int x2), (3, .int x3)] [] σ5 Q) ∧ (r6 = 0 → Q (some (.int (0 : Int32))) σ5)))))) :
    JE E (d + 1) m_Mo_takeNumeral 141 [(0, pv E 0), (1, .int x1), (2, .int x2), (3, .int x3)] [] σ Q := by
  refine J_aload_n dc_Mo_takeNumeral_141 (Eq.refl 142) 0 rfl ?_
  refine J_iload_n dc_Mo_takeNumeral_142 (Eq.refl 143) 1 rfl ?_
  refine J_callVI (As := [.int x1]) (st := []) dc_Mo_takeNumeral_143 (Eq.refl 146) lk_Mo_213 mi_Mo_here rfl (Nat.le_of_ble_eq_true rfl) rfl rfl (Nat.le_of_ble_eq_true rfl) rfl (Nat.le_of_ble_eq_true rfl) (CI.mono h (fun r2 σ1 h => ?_))
  refine J_bipush (v := (46 : Int32)) dc_Mo_takeNumeral_146 (Eq.refl 148) rfl ?_
  refine J_icmp_ne dc_Mo_takeNumeral_148 (Eq.refl 151) rfl (fun hc => ?_) (fun hc => ?_)
  · have h := h.1 hc
    refine J_sub [0, 1, 2] rfl ?_
    exact h
  · have h := h.2 hc
    refine J_aload_n dc_Mo_takeNumeral_151 (Eq.refl 152) 0 rfl ?_
    refine J_dup dc_Mo_takeNumeral_152 (Eq.refl 153) rfl ?_
    refine J_getI dc_Mo_takeNumeral_153 (Eq.refl 156) fl_Mo_210 (Nat.le_of_ble_eq_true rfl) rfl (Or.inl rfl) ?_
    refine J_iconst (v := (1 : Int32)) dc_Mo_takeNumeral_156 (Eq.refl 157) rfl ?_
    refine J_iadd dc_Mo_takeNumeral_157 (Eq.refl 158) ?_
    refine J_putI dc_Mo_takeNumeral_158 (Eq.refl 161) pl_Mo_210 (Nat.le_of_ble_eq_true rfl) rfl rfl ?_
    refine J_aload_n dc_Mo_takeNumeral_161 (Eq.refl 162) 0 rfl ?_
    refine J_iload_n dc_Mo_takeNumeral_162 (Eq.refl 163) 1 rfl ?_
    refine J_callVI (As := [.int x1]) (st := []) dc_Mo_takeNumeral_163 (Eq.refl 166) lk_Mo_213 mi_Mo_here rfl (Nat.le_of_ble_eq_true rfl) rfl rfl (Nat.le_of_ble_eq_true rfl) rfl (Nat.le_of_ble_eq_true rfl) (CI.mono h (fun r4 σ3 h => ?_))
    refine J_callSI (As := [.int r4]) (st := []) dc_Mo_takeNumeral_166 (Eq.refl 169) lk_Mo_217 mi_Mo_isDigit (Nat.le_of_ble_eq_true rfl) rfl (Nat.le_of_ble_eq_true rfl) (CI.mono h (fun r6 σ5 h => ?_))
    refine J_if_ne dc_Mo_takeNumeral_169 (Eq.refl 172) rfl (fun hc => ?_) (fun hc => ?_)
    · have h := h.1 hc
      exact h
    · have h := h.2 hc
      refine J_iconst (v := (0 : Int32)) dc_Mo_takeNumeral_172 (Eq.refl 173) rfl ?_
      exact J_zret dc_Mo_takeNumeral_173 rfl rfl h
theorem b_Mo_takeNumeral_174 {E : En_t} {d : Nat} {σ : S_t} {Q : Option Value → S_t → Prop} {x1 : Int32} {x2 : Int32} {x3 : Int32}
    (h : CI E d m_Mo_here [pv E 0, .int x1] σ (fun r2 σ1 => CI E d m_Mo_isDigit [.int r2] σ1 (fun r4 σ3 => (r4 = 0 → JE E (d + 1) m_Mo_takeNumeral 253 [(0, pv E 0), (1, .int x1), (2, .int x2)] [] σ3 Q) ∧ (¬ r4 = 0 → CI E d m_Mo_here [pv E 0, .int x1] σ3 (fun r6 σ5 => (¬ x3 = 0 → JE E (d + 1) m_Mo_takeNumeral 204 [(0, pv E 0), (1, .int x1), (2, .int x2), (4, .int (r6 - (48 : Int32)))] [] σ5 Q) ∧ (x3 = 0 → ((r6 - (48 : Int32)) ≤ 0 → JE E (d + 1) m_Mo_takeNumeral 240 [(0, pv E 0), (1, .int x1), (2, .int x2), (3, .int x3)] [] (sI σ5 0 7 ((gI σ5 0 7) - (1 : Int32))) Q) ∧ (¬ (r6 - (48 : Int32)) ≤ 0 → JE E (d + 1) m_Mo_takeNumeral 204 [(0, pv E 0), (1, .int x1), (2, .int x2), (4, .int (r6 - (48 : Int32)))] [] σ5 Q))))))) :
    JE E (d + 1) m_Mo_takeNumeral 174 [(0, pv E 0), (1, .int x1), (2, .int x2), (3, .int x3)] [] σ Q := by
  refine J_aload_n dc_Mo_takeNumeral_174 (Eq.refl 175) 0 rfl ?_
  refine J_iload_n dc_Mo_takeNumeral_175 (Eq.refl 176) 1 rfl ?_
  refine J_callVI (As := [.int x1]) (st := []) dc_Mo_takeNumeral_176 (Eq.refl 179) lk_Mo_213 mi_Mo_here rfl (Nat.le_of_ble_eq_true rfl) rfl rfl (Nat.le_of_ble_eq_true rfl) rfl (Nat.le_of_ble_eq_true rfl) (CI.mono h (fun r2 σ1 h => ?_))
  refine J_callSI (As := [.int r2]) (st := []) dc_Mo_takeNumeral_179 (Eq.refl 182) lk_Mo_217 mi_Mo_isDigit (Nat.le_of_ble_eq_true rfl) rfl (Nat.le_of_ble_eq_true rfl) (CI.mono h (fun r4 σ3 h => ?_))
  refine J_if_eq dc_Mo_takeNumeral_182 (Eq.refl 185) rfl (fun hc => ?_) (fun hc => ?_)
  · have h := h.1 hc
    refine J_sub [0, 1, 2] rfl ?_
    exact h
  · have h := h.2 hc
    refine J_aload_n dc_Mo_takeNumeral_185 (Eq.refl 186) 0 rfl ?_
    refine J_iload_n dc_Mo_takeNumeral_186 (Eq.refl 187) 1 rfl ?_
    refine J_callVI (As := [.int x1]) (st := []) dc_Mo_takeNumeral_187 (Eq.refl 190) lk_Mo_213 mi_Mo_here rfl (Nat.le_of_ble_eq_true rfl) rfl rfl (Nat.le_of_ble_eq_true rfl) rfl (Nat.le_of_ble_eq_true rfl) (CI.mono h (fun r6 σ5 h => ?_))
    refine J_bipush (v := (48 : Int32)) dc_Mo_takeNumeral_190 (Eq.refl 192) rfl ?_
    refine J_isub dc_Mo_takeNumeral_192 (Eq.refl 193) ?_
    refine J_istore (L' := [(4, .int (r6 - (48 : Int32))), (0, pv E 0), (1, .int x1), (2, .int x2), (3, .int x3)]) dc_Mo_takeNumeral_193 (Eq.refl 195) (Nat.le_of_ble_eq_true rfl) rfl ?_
    refine J_iload_n dc_Mo_takeNumeral_195 (Eq.refl 196) 4 rfl ?_
    refine J_if_ne dc_Mo_takeNumeral_196 (Eq.refl 199) rfl (fun hc => ?_) (fun hc => ?_)
    · have h := h.1 hc
      refine J_sub [1, 2, 3, 0] rfl ?_
      exact h
    · have h := h.2 hc
      refine J_iload dc_Mo_takeNumeral_199 (Eq.refl 201) 0 rfl ?_
      refine J_if_le dc_Mo_takeNumeral_201 (Eq.refl 204) rfl (fun hc => ?_) (fun hc => ?_)
      · have h := h.1 hc
        refine J_aload_n dc_Mo_takeNumeral_230 (Eq.refl 231) 1 rfl ?_
        refine J_dup dc_Mo_takeNumeral_231 (Eq.refl 232) rfl ?_
        refine J_getI dc_Mo_takeNumeral_232 (Eq.refl 235) fl_Mo_178 (Nat.le_of_ble_eq_true rfl) rfl (Or.inl rfl) ?_
        refine J_iconst (v := (1 : Int32)) dc_Mo_takeNumeral_235 (Eq.refl 236) rfl ?_
        refine J_isub dc_Mo_takeNumeral_236 (Eq.refl 237) ?_
        refine J_putI dc_Mo_takeNumeral_237 (Eq.refl 240) pl_Mo_178 (Nat.le_of_ble_eq_true rfl) rfl rfl ?_
        refine J_sub [1, 2, 3, 4] rfl ?_
        exact h
      · have h := h.2 hc
        refine J_sub [1, 2, 3, 0] rfl ?_
        exact h
theorem b_Mo_takeNumeral_204 {E : En_t} {d : Nat} {σ : S_t} {Q : Option Value → S_t → Prop} {x1 : Int32} {x2 : Int32} {x4 : Int32}
    (h : vp_in (gI σ 0 6) 6000 ∧ (JE E (d + 1) m_Mo_takeNumeral 240 [(0, pv E 0), (1, .int x1), (2, .int x2), (3, .int (1 : Int32))] [] (sI (sI σ 3 (gI σ 0 6).toNatClampNeg x4) 0 6 ((gI (sI σ 3 (gI σ 0 6).toNatClampNeg x4) 0 6) + (1 : Int32))) Q)) :
    JE E (d + 1) m_Mo_takeNumeral 204 [(0, pv E 0), (1, .int x1), (2, .int x2), (4, .int x4)] [] σ Q := by
  refine J_aload_n dc_Mo_takeNumeral_204 (Eq.refl 205) 0 rfl ?_
  refine J_getF (y := 3) dc_Mo_takeNumeral_205 (Eq.refl 208) fl_Mo_16 (Nat.le_of_ble_eq_true rfl) rfl (Or.inl rfl) rfl ?_
  refine J_aload_n dc_Mo_takeNumeral_208 (Eq.refl 209) 0 rfl ?_
  refine J_getI dc_Mo_takeNumeral_209 (Eq.refl 212) fl_Mo_175 (Nat.le_of_ble_eq_true rfl) rfl (Or.inl rfl) ?_
  refine J_iload dc_Mo_takeNumeral_212 (Eq.refl 214) 3 rfl ?_
  obtain ⟨hg, h⟩ := h
  refine J_iast dc_Mo_takeNumeral_214 (Eq.refl 215) rfl rfl hg ?_
  refine J_aload_n dc_Mo_takeNumeral_215 (Eq.refl 216) 0 rfl ?_
  refine J_dup dc_Mo_takeNumeral_216 (Eq.refl 217) rfl ?_
  refine J_getI dc_Mo_takeNumeral_217 (Eq.refl 220) fl_Mo_175 (Nat.le_of_ble_eq_true rfl) rfl (Or.inl rfl) ?_
  refine J_iconst (v := (1 : Int32)) dc_Mo_takeNumeral_220 (Eq.refl 221) rfl ?_
  refine J_iadd dc_Mo_takeNumeral_221 (Eq.refl 222) ?_
  refine J_putI dc_Mo_takeNumeral_222 (Eq.refl 225) pl_Mo_175 (Nat.le_of_ble_eq_true rfl) rfl rfl ?_
  refine J_iconst (v := (1 : Int32)) dc_Mo_takeNumeral_225 (Eq.refl 226) rfl ?_
  refine J_istore_n (L' := [(3, .int (1 : Int32)), (0, pv E 0), (1, .int x1), (2, .int x2), (4, .int x4)]) dc_Mo_takeNumeral_226 (Eq.refl 227) (Nat.le_of_ble_eq_true rfl) rfl ?_
  refine J_goto dc_Mo_takeNumeral_227 rfl ?_
  refine J_sub [1, 2, 3, 0] rfl ?_
  exact h
theorem b_Mo_takeNumeral_240 {E : En_t} {d : Nat} {σ : S_t} {Q : Option Value → S_t → Prop} {x1 : Int32} {x2 : Int32} {x3 : Int32}
    (h : JE E (d + 1) m_Mo_takeNumeral 174 [(0, pv E 0), (1, .int x1), (2, .int x2), (3, .int x3)] [] (sI σ 0 9 ((gI σ 0 9) + (1 : Int32))) Q) :
    JE E (d + 1) m_Mo_takeNumeral 240 [(0, pv E 0), (1, .int x1), (2, .int x2), (3, .int x3)] [] σ Q := by
  refine J_aload_n dc_Mo_takeNumeral_240 (Eq.refl 241) 0 rfl ?_
  refine J_dup dc_Mo_takeNumeral_241 (Eq.refl 242) rfl ?_
  refine J_getI dc_Mo_takeNumeral_242 (Eq.refl 245) fl_Mo_210 (Nat.le_of_ble_eq_true rfl) rfl (Or.inl rfl) ?_
  refine J_iconst (v := (1 : Int32)) dc_Mo_takeNumeral_245 (Eq.refl 246) rfl ?_
  refine J_iadd dc_Mo_takeNumeral_246 (Eq.refl 247) ?_
  refine J_putI dc_Mo_takeNumeral_247 (Eq.refl 250) pl_Mo_210 (Nat.le_of_ble_eq_true rfl) rfl rfl ?_
  refine J_goto dc_Mo_takeNumeral_250 rfl ?_
  exact h
theorem b_Mo_takeNumeral_253 {E : En_t} {d : Nat} {σ : S_t} {Q : Option Value → S_t → Prop} {x1 : Int32} {x2 : Int32}
    (h : CI E d m_Mo_here [pv E 0, .int x1] σ (fun r2 σ1 => (r2 = (101 : Int32) → JE E (d + 1) m_Mo_takeNumeral 273 [(0, pv E 0), (1, .int x1), (2, .int x2)] [] σ1 Q) ∧ (¬ r2 = (101 : Int32) → CI E d m_Mo_here [pv E 0, .int x1] σ1 (fun r4 σ3 => (¬ r4 = (69 : Int32) → JE E (d + 1) m_Mo_takeNumeral 415 [(0, pv E 0), (2, .int x2)] [] σ3 Q) ∧ (r4 = (69 : Int32) → JE E (d + 1) m_Mo_takeNumeral 273 [(0, pv E 0), (1, .int x1), (2, .int x2)] [] σ3 Q))))) :
    JE E (d + 1) m_Mo_takeNumeral 253 [(0, pv E 0), (1, .int x1), (2, .int x2)] [] σ Q := by
  refine J_aload_n dc_Mo_takeNumeral_253 (Eq.refl 254) 0 rfl ?_
  refine J_iload_n dc_Mo_takeNumeral_254 (Eq.refl 255) 1 rfl ?_
  refine J_callVI (As := [.int x1]) (st := []) dc_Mo_takeNumeral_255 (Eq.refl 258) lk_Mo_213 mi_Mo_here rfl (Nat.le_of_ble_eq_true rfl) rfl rfl (Nat.le_of_ble_eq_true rfl) rfl (Nat.le_of_ble_eq_true rfl) (CI.mono h (fun r2 σ1 h => ?_))
  refine J_bipush (v := (101 : Int32)) dc_Mo_takeNumeral_258 (Eq.refl 260) rfl ?_
  refine J_icmp_eq dc_Mo_takeNumeral_260 (Eq.refl 263) rfl (fun hc => ?_) (fun hc => ?_)
  · have h := h.1 hc
    exact h
  · have h := h.2 hc
    refine J_aload_n dc_Mo_takeNumeral_263 (Eq.refl 264) 0 rfl ?_
    refine J_iload_n dc_Mo_takeNumeral_264 (Eq.refl 265) 1 rfl ?_
    refine J_callVI (As := [.int x1]) (st := []) dc_Mo_takeNumeral_265 (Eq.refl 268) lk_Mo_213 mi_Mo_here rfl (Nat.le_of_ble_eq_true rfl) rfl rfl (Nat.le_of_ble_eq_true rfl) rfl (Nat.le_of_ble_eq_true rfl) (CI.mono h (fun r4 σ3 h => ?_))
    refine J_bipush (v := (69 : Int32)) dc_Mo_takeNumeral_268 (Eq.refl 270) rfl ?_
    refine J_icmp_ne dc_Mo_takeNumeral_270 (Eq.refl 273) rfl (fun hc => ?_) (fun hc => ?_)
    · have h := h.1 hc
      refine J_sub [0, 2] rfl ?_
      exact h
    · have h := h.2 hc
      exact h
theorem b_Mo_takeNumeral_273 {E : En_t} {d : Nat} {σ : S_t} {Q : Option Value → S_t → Prop} {x1 : Int32} {x2 : Int32}
    (h : CI E d m_Mo_here [pv E 0, .int x1] (sI σ 0 9 ((gI σ 0 9) + (1 : Int32))) (fun r2 σ1 => (¬ r2 = (45 : Int32) → JE E (d + 1) m_Mo_takeNumeral 298 [(0, pv E 0), (1, .int x1), (2, .int x2)] [.int (0 : Int32)] σ1 Q) ∧ (r2 = (45 : Int32) → JE E (d + 1) m_Mo_takeNumeral 298 [(0, pv E 0), (1, .int x1), (2, .int x2)] [.int (1 : Int32)] σ1 Q))) :
    JE E (d + 1) m_Mo_takeNumeral 273 [(0, pv E 0), (1, .int x1), (2, .int x2)] [] σ Q := by
  refine J_aload_n dc_Mo_takeNumeral_273 (Eq.refl 274) 0 rfl ?_
  refine J_dup dc_Mo_takeNumeral_274 (Eq.refl 275) rfl ?_
  refine J_getI dc_Mo_takeNumeral_275 (Eq.refl 278) fl_Mo_210 (Nat.le_of_ble_eq_true rfl) rfl (Or.inl rfl) ?_
  refine J_iconst (v := (1 : Int32)) dc_Mo_takeNumeral_278 (Eq.refl 279) rfl ?_
  refine J_iadd dc_Mo_takeNumeral_279 (Eq.refl 280) ?_
  refine J_putI dc_Mo_takeNumeral_280 (Eq.refl 283) pl_Mo_210 (Nat.le_of_ble_eq_true rfl) rfl rfl ?_
  refine J_aload_n dc_Mo_takeNumeral_283 (Eq.refl 284) 0 rfl ?_
  refine J_iload_n dc_Mo_takeNumeral_284 (Eq.refl 285) 1 rfl ?_
  refine J_callVI (As := [.int x1]) (st := []) dc_Mo_takeNumeral_285 (Eq.refl 288) lk_Mo_213 mi_Mo_here rfl (Nat.le_of_ble_eq_true rfl) rfl rfl (Nat.le_of_ble_eq_true rfl) rfl (Nat.le_of_ble_eq_true rfl) (CI.mono h (fun r2 σ1 h => ?_))
  refine J_bipush (v := (45 : Int32)) dc_Mo_takeNumeral_288 (Eq.refl 290) rfl ?_
  refine J_icmp_ne dc_Mo_takeNumeral_290 (Eq.refl 293) rfl (fun hc => ?_) (fun hc => ?_)
  · have h := h.1 hc
    refine J_iconst (v := (0 : Int32)) dc_Mo_takeNumeral_297 (Eq.refl 298) rfl ?_
    exact h
  · have h := h.2 hc
    refine J_iconst (v := (1 : Int32)) dc_Mo_takeNumeral_293 (Eq.refl 294) rfl ?_
    refine J_goto dc_Mo_takeNumeral_294 rfl ?_
    exact h
theorem b_Mo_takeNumeral_298 {E : En_t} {d : Nat} {σ : S_t} {Q : Option Value → S_t → Prop} {x1 : Int32} {x2 : Int32} {s0 : Int32}
    (h : (¬ s0 = 0 → JE E (d + 1) m_Mo_takeNumeral 315 [(0, pv E 0), (1, .int x1), (2, .int x2), (4, .int s0)] [] σ Q) ∧ (s0 = 0 → CI E d m_Mo_here [pv E 0, .int x1] σ (fun r2 σ1 => (¬ r2 = (43 : Int32) → JE E (d + 1) m_Mo_takeNumeral 325 [(0, pv E 0), (1, .int x1), (2, .int x2), (4, .int s0)] [] σ1 Q) ∧ (r2 = (43 : Int32) → JE E (d + 1) m_Mo_takeNumeral 315 [(0, pv E 0), (1, .int x1), (2, .int x2), (4, .int s0)] [] σ1 Q)))) :
    JE E (d + 1) m_Mo_takeNumeral 298 [(0, pv E 0), (1, .int x1), (2, .int x2)] [.int s0] σ Q := by
  refine J_istore (L' := [(4, .int s0), (0, pv E 0), (1, .int x1), (2, .int x2)]) dc_Mo_takeNumeral_298 (Eq.refl 300) (Nat.le_of_ble_eq_true rfl) rfl ?_
  refine J_iload dc_Mo_takeNumeral_300 (Eq.refl 302) 0 rfl ?_
  refine J_if_ne dc_Mo_takeNumeral_302 (Eq.refl 305) rfl (fun hc => ?_) (fun hc => ?_)
  · have h := h.1 hc
    refine J_sub [1, 2, 3, 0] rfl ?_
    exact h
  · have h := h.2 hc
    refine J_aload_n dc_Mo_takeNumeral_305 (Eq.refl 306) 1 rfl ?_
    refine J_iload_n dc_Mo_takeNumeral_306 (Eq.refl 307) 2 rfl ?_
    refine J_callVI (As := [.int x1]) (st := []) dc_Mo_takeNumeral_307 (Eq.refl 310) lk_Mo_213 mi_Mo_here rfl (Nat.le_of_ble_eq_true rfl) rfl rfl (Nat.le_of_ble_eq_true rfl) rfl (Nat.le_of_ble_eq_true rfl) (CI.mono h (fun r2 σ1 h => ?_))
    refine J_bipush (v := (43 : Int32)) dc_Mo_takeNumeral_310 (Eq.refl 312) rfl ?_
    refine J_icmp_ne dc_Mo_takeNumeral_312 (Eq.refl 315) rfl (fun hc => ?_) (fun hc => ?_)
    · have h := h.1 hc
      refine J_sub [1, 2, 3, 0] rfl ?_
      exact h
    · have h := h.2 hc
      refine J_sub [1, 2, 3, 0] rfl ?_
      exact h
theorem b_Mo_takeNumeral_315 {E : En_t} {d : Nat} {σ : S_t} {Q : Option Value → S_t → Prop} {x1 : Int32} {x2 : Int32} {x4 : Int32}
    (h : JE E (d + 1) m_Mo_takeNumeral 325 [(0, pv E 0), (1, .int x1), (2, .int x2), (4, .int x4)] [] (sI σ 0 9 ((gI σ 0 9) + (1 : Int32))) Q) :
    JE E (d + 1) m_Mo_takeNumeral 315 [(0, pv E 0), (1, .int x1), (2, .int x2), (4, .int x4)] [] σ Q := by
  refine J_aload_n dc_Mo_takeNumeral_315 (Eq.refl 316) 0 rfl ?_
  refine J_dup dc_Mo_takeNumeral_316 (Eq.refl 317) rfl ?_
  refine J_getI dc_Mo_takeNumeral_317 (Eq.refl 320) fl_Mo_210 (Nat.le_of_ble_eq_true rfl) rfl (Or.inl rfl) ?_
  refine J_iconst (v := (1 : Int32)) dc_Mo_takeNumeral_320 (Eq.refl 321) rfl ?_
  refine J_iadd dc_Mo_takeNumeral_321 (Eq.refl 322) ?_
  refine J_putI dc_Mo_takeNumeral_322 (Eq.refl 325) pl_Mo_210 (Nat.le_of_ble_eq_true rfl) rfl rfl ?_
  exact h
theorem b_Mo_takeNumeral_325 {E : En_t} {d : Nat} {σ : S_t} {Q : Option Value → S_t → Prop} {x1 : Int32} {x2 : Int32} {x4 : Int32}
    (h : CI E d m_Mo_here [pv E 0, .int x1] σ (fun r2 σ1 => CI E d m_Mo_isDigit [.int r2] σ1 (fun r4 σ3 => (¬ r4 = 0 → JE E (d + 1) m_Mo_takeNumeral 341 [(0, pv E 0), (1, .int x1), (2, .int x2), (4, .int x4), (5, .int (0 : Int32))] [] σ3 Q) ∧ (r4 = 0 → Q (some (.int (0 : Int32))) σ3)))) :
    JE E (d + 1) m_Mo_takeNumeral 325 [(0, pv E 0), (1, .int x1), (2, .int x2), (4, .int x4)] [] σ Q := by
  refine J_aload_n dc_Mo_takeNumeral_325 (Eq.refl 326) 0 rfl ?_
  refine J_iload_n dc_Mo_takeNumeral_326 (Eq.refl 327) 1 rfl ?_
  refine J_callVI (As := [.int x1]) (st := []) dc_Mo_takeNumeral_327 (Eq.refl 330) lk_Mo_213 mi_Mo_here rfl (Nat.le_of_ble_eq_true rfl) rfl rfl (Nat.le_of_ble_eq_true rfl) rfl (Nat.le_of_ble_eq_true rfl) (CI.mono h (fun r2 σ1 h => ?_))
  refine J_callSI (As := [.int r2]) (st := []) dc_Mo_takeNumeral_330 (Eq.refl 333) lk_Mo_217 mi_Mo_isDigit (Nat.le_of_ble_eq_true rfl) rfl (Nat.le_of_ble_eq_true rfl) (CI.mono h (fun r4 σ3 h => ?_))
  refine J_if_ne dc_Mo_takeNumeral_333 (Eq.refl 336) rfl (fun hc => ?_) (fun hc => ?_)
  · have h := h.1 hc
    refine J_iconst (v := (0 : Int32)) dc_Mo_takeNumeral_338 (Eq.refl 339) rfl ?_
    refine J_istore (L' := [(5, .int (0 : Int32)), (0, pv E 0), (1, .int x1), (2, .int x2), (4, .int x4)]) dc_Mo_takeNumeral_339 (Eq.refl 341) (Nat.le_of_ble_eq_true rfl) rfl ?_
    refine J_sub [1, 2, 3, 4, 0] rfl ?_
    exact h
  · have h := h.2 hc
    refine J_iconst (v := (0 : Int32)) dc_Mo_takeNumeral_336 (Eq.refl 337) rfl ?_
    exact J_zret dc_Mo_takeNumeral_337 rfl rfl h
theorem b_Mo_takeNumeral_341 {E : En_t} {d : Nat} {σ : S_t} {Q : Option Value → S_t → Prop} {x1 : Int32} {x2 : Int32} {x4 : Int32} {x5 : Int32}
    (h : CI E d m_Mo_here [pv E 0, .int x1] σ (fun r2 σ1 => CI E d m_Mo_isDigit [.int r2] σ1 (fun r4 σ3 => (r4 = 0 → (x4 = 0 → JE E (d + 1) m_Mo_takeNumeral 411 [(0, pv E 0), (2, .int x2)] [.int x5, .int (gI σ3 0 7), pv E 0] σ3 Q) ∧ (¬ x4 = 0 → JE E (d + 1) m_Mo_takeNumeral 411 [(0, pv E 0), (2, .int x2)] [.int (-x5), .int (gI σ3 0 7), pv E 0] σ3 Q)) ∧ (¬ r4 = 0 → ((100000 : Int32) ≤ x5 → JE E (d + 1) m_Mo_takeNumeral 378 [(0, pv E 0), (1, .int x1), (2, .int x2), (4, .int x4)] [.int x5] σ3 Q) ∧ (¬ (100000 : Int32) ≤ x5 → CI E d m_Mo_here [pv E 0, .int x1] σ3 (fun r6 σ5 => JE E (d + 1) m_Mo_takeNumeral 378 [(0, pv E 0), (1, .int x1), (2, .int x2), (4, .int x4)] [.int ((((10 : Int32) * x5) + r6) - (48 : Int32))] σ5 Q)))))) :
    JE E (d + 1) m_Mo_takeNumeral 341 [(0, pv E 0), (1, .int x1), (2, .int x2), (4, .int x4), (5, .int x5)] [] σ Q := by
  refine J_aload_n dc_Mo_takeNumeral_341 (Eq.refl 342) 0 rfl ?_
  refine J_iload_n dc_Mo_takeNumeral_342 (Eq.refl 343) 1 rfl ?_
  refine J_callVI (As := [.int x1]) (st := []) dc_Mo_takeNumeral_343 (Eq.refl 346) lk_Mo_213 mi_Mo_here rfl (Nat.le_of_ble_eq_true rfl) rfl rfl (Nat.le_of_ble_eq_true rfl) rfl (Nat.le_of_ble_eq_true rfl) (CI.mono h (fun r2 σ1 h => ?_))
  refine J_callSI (As := [.int r2]) (st := []) dc_Mo_takeNumeral_346 (Eq.refl 349) lk_Mo_217 mi_Mo_isDigit (Nat.le_of_ble_eq_true rfl) rfl (Nat.le_of_ble_eq_true rfl) (CI.mono h (fun r4 σ3 h => ?_))
  refine J_if_eq dc_Mo_takeNumeral_349 (Eq.refl 352) rfl (fun hc => ?_) (fun hc => ?_)
  · have h := h.1 hc
    refine J_aload_n dc_Mo_takeNumeral_393 (Eq.refl 394) 0 rfl ?_
    refine J_dup dc_Mo_takeNumeral_394 (Eq.refl 395) rfl ?_
    refine J_getI dc_Mo_takeNumeral_395 (Eq.refl 398) fl_Mo_178 (Nat.le_of_ble_eq_true rfl) rfl (Or.inl rfl) ?_
    refine J_iload dc_Mo_takeNumeral_398 (Eq.refl 400) 3 rfl ?_
    refine J_if_eq dc_Mo_takeNumeral_400 (Eq.refl 403) rfl (fun hc => ?_) (fun hc => ?_)
    · have h := h.1 hc
      refine J_iload dc_Mo_takeNumeral_409 (Eq.refl 411) 4 rfl ?_
      refine J_sub [0, 2] rfl ?_
      exact h
    · have h := h.2 hc
      refine J_iload dc_Mo_takeNumeral_403 (Eq.refl 405) 4 rfl ?_
      refine J_ineg dc_Mo_takeNumeral_405 (Eq.refl 406) ?_
      refine J_goto dc_Mo_takeNumeral_406 rfl ?_
      refine J_sub [0, 2] rfl ?_
      exact h
  · have h := h.2 hc
    refine J_iload dc_Mo_takeNumeral_352 (Eq.refl 354) 4 rfl ?_
    refine J_ldc dc_Mo_takeNumeral_354 (Eq.refl 356) kc_Mo_221 ?_
    refine J_icmp_ge dc_Mo_takeNumeral_356 (Eq.refl 359) rfl (fun hc => ?_) (fun hc => ?_)
    · have h := h.1 hc
      refine J_iload dc_Mo_takeNumeral_376 (Eq.refl 378) 4 rfl ?_
      refine J_sub [0, 1, 2, 3] rfl ?_
      exact h
    · have h := h.2 hc
      refine J_bipush (v := (10 : Int32)) dc_Mo_takeNumeral_359 (Eq.refl 361) rfl ?_
      refine J_iload dc_Mo_takeNumeral_361 (Eq.refl 363) 4 rfl ?_
      refine J_imul dc_Mo_takeNumeral_363 (Eq.refl 364) ?_
      refine J_aload_n dc_Mo_takeNumeral_364 (Eq.refl 365) 0 rfl ?_
      refine J_iload_n dc_Mo_takeNumeral_365 (Eq.refl 366) 1 rfl ?_
      refine J_callVI (As := [.int x1]) (st := [.int ((10 : Int32) * x5)]) dc_Mo_takeNumeral_366 (Eq.refl 369) lk_Mo_213 mi_Mo_here rfl (Nat.le_of_ble_eq_true rfl) rfl rfl (Nat.le_of_ble_eq_true rfl) rfl (Nat.le_of_ble_eq_true rfl) (CI.mono h (fun r6 σ5 h => ?_))
      refine J_iadd dc_Mo_takeNumeral_369 (Eq.refl 370) ?_
      refine J_bipush (v := (48 : Int32)) dc_Mo_takeNumeral_370 (Eq.refl 372) rfl ?_
      refine J_isub dc_Mo_takeNumeral_372 (Eq.refl 373) ?_
      refine J_goto dc_Mo_takeNumeral_373 rfl ?_
      refine J_sub [0, 1, 2, 3] rfl ?_
      exact h
theorem b_Mo_takeNumeral_378 {E : En_t} {d : Nat} {σ : S_t} {Q : Option Value → S_t → Prop} {x1 : Int32} {x2 : Int32} {x4 : Int32} {s0 : Int32}
    (h : JE E (d + 1) m_Mo_takeNumeral 341 [(0, pv E 0), (1, .int x1), (2, .int x2), (4, .int x4), (5, .int s0)] [] (sI σ 0 9 ((gI σ 0 9) + (1 : Int32))) Q) :
    JE E (d + 1) m_Mo_takeNumeral 378 [(0, pv E 0), (1, .int x1), (2, .int x2), (4, .int x4)] [.int s0] σ Q := by
  refine J_istore (L' := [(5, .int s0), (0, pv E 0), (1, .int x1), (2, .int x2), (4, .int x4)]) dc_Mo_takeNumeral_378 (Eq.refl 380) (Nat.le_of_ble_eq_true rfl) rfl ?_
  refine J_aload_n dc_Mo_takeNumeral_380 (Eq.refl 381) 1 rfl ?_
  refine J_dup dc_Mo_takeNumeral_381 (Eq.refl 382) rfl ?_
  refine J_getI dc_Mo_takeNumeral_382 (Eq.refl 385) fl_Mo_210 (Nat.le_of_ble_eq_true rfl) rfl (Or.inl rfl) ?_
  refine J_iconst (v := (1 : Int32)) dc_Mo_takeNumeral_385 (Eq.refl 386) rfl ?_
  refine J_iadd dc_Mo_takeNumeral_386 (Eq.refl 387) ?_
  refine J_putI dc_Mo_takeNumeral_387 (Eq.refl 390) pl_Mo_210 (Nat.le_of_ble_eq_true rfl) rfl rfl ?_
  refine J_goto dc_Mo_takeNumeral_390 rfl ?_
  refine J_sub [1, 2, 3, 4, 0] rfl ?_
  exact h
theorem b_Mo_takeNumeral_411 {E : En_t} {d : Nat} {σ : S_t} {Q : Option Value → S_t → Prop} {x2 : Int32} {s0 : Int32} {s1 : Int32}
    (h : JE E (d + 1) m_Mo_takeNumeral 415 [(0, pv E 0), (2, .int x2)] [] (sI σ 0 7 (s1 + s0)) Q) :
    JE E (d + 1) m_Mo_takeNumeral 411 [(0, pv E 0), (2, .int x2)] [.int s0, .int s1, pv E 0] σ Q := by
  refine J_iadd dc_Mo_takeNumeral_411 (Eq.refl 412) ?_
  refine J_putI dc_Mo_takeNumeral_412 (Eq.refl 415) pl_Mo_178 (Nat.le_of_ble_eq_true rfl) rfl rfl ?_
  exact h
theorem b_Mo_takeNumeral_415 {E : En_t} {d : Nat} {σ : S_t} {Q : Option Value → S_t → Prop} {x2 : Int32}
    (h : CL E d m_Mo_nearest [pv E 0] σ (fun r2 σ1 => (x2 = 0 → Q (some (.int (1 : Int32))) (sL σ1 0 10 (r2 ||| (0 : Int64)))) ∧ (¬ x2 = 0 → Q (some (.int (1 : Int32))) (sL σ1 0 10 (r2 ||| (-9223372036854775808 : Int64)))))) :
    JE E (d + 1) m_Mo_takeNumeral 415 [(0, pv E 0), (2, .int x2)] [] σ Q := by
  refine J_aload_n dc_Mo_takeNumeral_415 (Eq.refl 416) 0 rfl ?_
  refine J_aload_n dc_Mo_takeNumeral_416 (Eq.refl 417) 0 rfl ?_
  refine J_callVL (As := []) (st := [pv E 0]) dc_Mo_takeNumeral_417 (Eq.refl 420) lk_Mo_222 mi_Mo_nearest rfl (Nat.le_of_ble_eq_true rfl) rfl rfl (Nat.le_of_ble_eq_true rfl) rfl (Nat.le_of_ble_eq_true rfl) (CL.mono h (fun r2 σ1 h => ?_))
  refine J_iload_n dc_Mo_takeNumeral_420 (Eq.refl 421) 1 rfl ?_
  refine J_if_eq dc_Mo_takeNumeral_421 (Eq.refl 424) rfl (fun hc => ?_) (fun hc => ?_)
  · have h := h.1 hc
    refine J_lconst (v := (0 : Int64)) dc_Mo_takeNumeral_430 (Eq.refl 431) rfl ?_
    refine J_lor dc_Mo_takeNumeral_431 (Eq.refl 432) ?_
    refine J_putL dc_Mo_takeNumeral_432 (Eq.refl 435) pl_Mo_228 (Nat.le_of_ble_eq_true rfl) rfl rfl ?_
    refine J_iconst (v := (1 : Int32)) dc_Mo_takeNumeral_435 (Eq.refl 436) rfl ?_
    exact J_zret dc_Mo_takeNumeral_436 rfl rfl h
  · have h := h.2 hc
    refine J_ldc2 dc_Mo_takeNumeral_424 (Eq.refl 427) kc_Mo_226 ?_
    refine J_goto dc_Mo_takeNumeral_427 rfl ?_
    refine J_lor dc_Mo_takeNumeral_431 (Eq.refl 432) ?_
    refine J_putL dc_Mo_takeNumeral_432 (Eq.refl 435) pl_Mo_228 (Nat.le_of_ble_eq_true rfl) rfl rfl ?_
    refine J_iconst (v := (1 : Int32)) dc_Mo_takeNumeral_435 (Eq.refl 436) rfl ?_
    exact J_zret dc_Mo_takeNumeral_436 rfl rfl h
theorem dc_Mo_here_0 : decode m_Mo_here.2.1 0 = .ok (.aload_n 0, 1) := by decide +kernel
theorem dc_Mo_here_1 : decode m_Mo_here.2.1 1 = .ok (.getfield 210, 3) := by decide +kernel
theorem dc_Mo_here_4 : decode m_Mo_here.2.1 4 = .ok (.iload_n 1, 1) := by decide +kernel
theorem dc_Mo_here_5 : decode m_Mo_here.2.1 5 = .ok (.if_icmp .ge 15, 3) := by decide +kernel
theorem dc_Mo_here_8 : decode m_Mo_here.2.1 8 = .ok (.aload_n 0, 1) := by decide +kernel
theorem dc_Mo_here_9 : decode m_Mo_here.2.1 9 = .ok (.getfield 7, 3) := by decide +kernel
theorem dc_Mo_here_12 : decode m_Mo_here.2.1 12 = .ok (.aload_n 0, 1) := by decide +kernel
theorem dc_Mo_here_13 : decode m_Mo_here.2.1 13 = .ok (.getfield 210, 3) := by decide +kernel
theorem dc_Mo_here_16 : decode m_Mo_here.2.1 16 = .ok (.iaload, 1) := by decide +kernel
theorem dc_Mo_here_17 : decode m_Mo_here.2.1 17 = .ok (.goto 4, 3) := by decide +kernel
theorem dc_Mo_here_20 : decode m_Mo_here.2.1 20 = .ok (.iconst (-1), 1) := by decide +kernel
theorem dc_Mo_here_21 : decode m_Mo_here.2.1 21 = .ok (.ireturn, 1) := by decide +kernel
theorem b_Mo_here_0 {E : En_t} {d : Nat} {σ : S_t} {Q : Option Value → S_t → Prop} {x1 : Int32}
    (h : (x1 ≤ (gI σ 0 9) → Q (some (.int (-1 : Int32))) σ) ∧ (¬ x1 ≤ (gI σ 0 9) → vp_in (gI σ 0 9) 2000 ∧ (Q (some (.int (gI σ 1 (gI σ 0 9).toNatClampNeg))) σ))) :
    JE E d m_Mo_here 0 [(0, pv E 0), (1, .int x1)] [] σ Q := by
  refine J_aload_n dc_Mo_here_0 (Eq.refl 1) 0 rfl ?_
  refine J_getI dc_Mo_here_1 (Eq.refl 4) fl_Mo_210 (Nat.le_of_ble_eq_true rfl) rfl (Or.inl rfl) ?_
  refine J_iload_n dc_Mo_here_4 (Eq.refl 5) 1 rfl ?_
  refine J_icmp_ge dc_Mo_here_5 (Eq.refl 8) rfl (fun hc => ?_) (fun hc => ?_)
  · have h := h.1 hc
    refine J_iconst (v := (-1 : Int32)) dc_Mo_here_20 (Eq.refl 21) rfl ?_
    exact J_iret dc_Mo_here_21 rfl h
  · have h := h.2 hc
    refine J_aload_n dc_Mo_here_8 (Eq.refl 9) 0 rfl ?_
    refine J_getF (y := 1) dc_Mo_here_9 (Eq.refl 12) fl_Mo_7 (Nat.le_of_ble_eq_true rfl) rfl (Or.inl rfl) rfl ?_
    refine J_aload_n dc_Mo_here_12 (Eq.refl 13) 0 rfl ?_
    refine J_getI dc_Mo_here_13 (Eq.refl 16) fl_Mo_210 (Nat.le_of_ble_eq_true rfl) rfl (Or.inl rfl) ?_
    obtain ⟨hg, h⟩ := h
    refine J_iald dc_Mo_here_16 (Eq.refl 17) rfl rfl hg ?_
    refine J_goto dc_Mo_here_17 rfl ?_
    exact J_iret dc_Mo_here_21 rfl h
theorem dc_Mo_isDigit_0 : decode m_Mo_isDigit.2.1 0 = .ok (.iload_n 0, 1) := by decide +kernel
theorem dc_Mo_isDigit_1 : decode m_Mo_isDigit.2.1 1 = .ok (.bipush 48, 2) := by decide +kernel
theorem dc_Mo_isDigit_3 : decode m_Mo_isDigit.2.1 3 = .ok (.if_icmp .lt 13, 3) := by decide +kernel
theorem dc_Mo_isDigit_6 : decode m_Mo_isDigit.2.1 6 = .ok (.iload_n 0, 1) := by decide +kernel
theorem dc_Mo_isDigit_7 : decode m_Mo_isDigit.2.1 7 = .ok (.bipush 57, 2) := by decide +kernel
theorem dc_Mo_isDigit_9 : decode m_Mo_isDigit.2.1 9 = .ok (.if_icmp .gt 7, 3) := by decide +kernel
theorem dc_Mo_isDigit_12 : decode m_Mo_isDigit.2.1 12 = .ok (.iconst 1, 1) := by decide +kernel
theorem dc_Mo_isDigit_13 : decode m_Mo_isDigit.2.1 13 = .ok (.goto 4, 3) := by decide +kernel
theorem dc_Mo_isDigit_16 : decode m_Mo_isDigit.2.1 16 = .ok (.iconst 0, 1) := by decide +kernel
theorem dc_Mo_isDigit_17 : decode m_Mo_isDigit.2.1 17 = .ok (.ireturn, 1) := by decide +kernel
theorem b_Mo_isDigit_0 {E : En_t} {d : Nat} {σ : S_t} {Q : Option Value → S_t → Prop} {x0 : Int32}
    (h : (x0 < (48 : Int32) → Q (some (.int (0 : Int32))) σ) ∧ (¬ x0 < (48 : Int32) → ((57 : Int32) < x0 → Q (some (.int (0 : Int32))) σ) ∧ (¬ (57 : Int32) < x0 → Q (some (.int (1 : Int32))) σ))) :
    JE E d m_Mo_isDigit 0 [(0, .int x0)] [] σ Q := by
  refine J_iload_n dc_Mo_isDigit_0 (Eq.refl 1) 0 rfl ?_
  refine J_bipush (v := (48 : Int32)) dc_Mo_isDigit_1 (Eq.refl 3) rfl ?_
  refine J_icmp_lt dc_Mo_isDigit_3 (Eq.refl 6) rfl (fun hc => ?_) (fun hc => ?_)
  · have h := h.1 hc
    refine J_iconst (v := (0 : Int32)) dc_Mo_isDigit_16 (Eq.refl 17) rfl ?_
    exact J_zret dc_Mo_isDigit_17 rfl rfl h
  · have h := h.2 hc
    refine J_iload_n dc_Mo_isDigit_6 (Eq.refl 7) 0 rfl ?_
    refine J_bipush (v := (57 : Int32)) dc_Mo_isDigit_7 (Eq.refl 9) rfl ?_
    refine J_icmp_gt dc_Mo_isDigit_9 (Eq.refl 12) rfl (fun hc => ?_) (fun hc => ?_)
    · have h := h.1 hc
      refine J_iconst (v := (0 : Int32)) dc_Mo_isDigit_16 (Eq.refl 17) rfl ?_
      exact J_zret dc_Mo_isDigit_17 rfl rfl h
    · have h := h.2 hc
      refine J_iconst (v := (1 : Int32)) dc_Mo_isDigit_12 (Eq.refl 13) rfl ?_
      refine J_goto dc_Mo_isDigit_13 rfl ?_
      exact J_zret dc_Mo_isDigit_17 rfl rfl h
theorem dc_Mo_nearest_0 : decode m_Mo_nearest.2.1 0 = .ok (.aload_n 0, 1) := by decide +kernel
theorem dc_Mo_nearest_1 : decode m_Mo_nearest.2.1 1 = .ok (.invokevirtual 183, 3) := by decide +kernel
theorem dc_Mo_nearest_4 : decode m_Mo_nearest.2.1 4 = .ok (.aload_n 0, 1) := by decide +kernel
theorem dc_Mo_nearest_5 : decode m_Mo_nearest.2.1 5 = .ok (.getfield 175, 3) := by decide +kernel
theorem dc_Mo_nearest_8 : decode m_Mo_nearest.2.1 8 = .ok (.ifCond .eq 13, 3) := by decide +kernel
theorem dc_Mo_nearest_11 : decode m_Mo_nearest.2.1 11 = .ok (.aload_n 0, 1) := by decide +kernel
theorem dc_Mo_nearest_12 : decode m_Mo_nearest.2.1 12 = .ok (.getfield 178, 3) := by decide +kernel
theorem dc_Mo_nearest_15 : decode m_Mo_nearest.2.1 15 = .ok (.sipush (-340), 3) := by decide +kernel
theorem dc_Mo_nearest_18 : decode m_Mo_nearest.2.1 18 = .ok (.if_icmp .ge 5, 3) := by decide +kernel
theorem dc_Mo_nearest_21 : decode m_Mo_nearest.2.1 21 = .ok (.lconst 0, 1) := by decide +kernel
theorem dc_Mo_nearest_22 : decode m_Mo_nearest.2.1 22 = .ok (.lreturn, 1) := by decide +kernel
theorem dc_Mo_nearest_23 : decode m_Mo_nearest.2.1 23 = .ok (.aload_n 0, 1) := by decide +kernel
theorem dc_Mo_nearest_24 : decode m_Mo_nearest.2.1 24 = .ok (.getfield 178, 3) := by decide +kernel
theorem dc_Mo_nearest_27 : decode m_Mo_nearest.2.1 27 = .ok (.sipush 320, 3) := by decide +kernel
theorem dc_Mo_nearest_30 : decode m_Mo_nearest.2.1 30 = .ok (.if_icmp .le 7, 3) := by decide +kernel
theorem dc_Mo_nearest_33 : decode m_Mo_nearest.2.1 33 = .ok (.ldc2_w 192, 3) := by decide +kernel
theorem dc_Mo_nearest_36 : decode m_Mo_nearest.2.1 36 = .ok (.lreturn, 1) := by decide +kernel
theorem dc_Mo_nearest_37 : decode m_Mo_nearest.2.1 37 = .ok (.iconst 0, 1) := by decide +kernel
theorem dc_Mo_nearest_38 : decode m_Mo_nearest.2.1 38 = .ok (.istore_n 1, 1) := by decide +kernel
theorem dc_Mo_nearest_39 : decode m_Mo_nearest.2.1 39 = .ok (.aload_n 0, 1) := by decide +kernel
theorem dc_Mo_nearest_40 : decode m_Mo_nearest.2.1 40 = .ok (.getfield 178, 3) := by decide +kernel
theorem dc_Mo_nearest_43 : decode m_Mo_nearest.2.1 43 = .ok (.ifCond .le 38, 3) := by decide +kernel
theorem dc_Mo_nearest_46 : decode m_Mo_nearest.2.1 46 = .ok (.iconst 3, 1) := by decide +kernel
theorem dc_Mo_nearest_47 : decode m_Mo_nearest.2.1 47 = .ok (.aload_n 0, 1) := by decide +kernel
theorem dc_Mo_nearest_48 : decode m_Mo_nearest.2.1 48 = .ok (.getfield 178, 3) := by decide +kernel
theorem dc_Mo_nearest_51 : decode m_Mo_nearest.2.1 51 = .ok (.imul, 1) := by decide +kernel
theorem dc_Mo_nearest_52 : decode m_Mo_nearest.2.1 52 = .ok (.bipush 20, 2) := by decide +kernel
theorem dc_Mo_nearest_54 : decode m_Mo_nearest.2.1 54 = .ok (.if_icmp .ge 12, 3) := by decide +kernel
theorem dc_Mo_nearest_57 : decode m_Mo_nearest.2.1 57 = .ok (.iconst 3, 1) := by decide +kernel
theorem dc_Mo_nearest_58 : decode m_Mo_nearest.2.1 58 = .ok (.aload_n 0, 1) := by decide +kernel
theorem dc_Mo_nearest_59 : decode m_Mo_nearest.2.1 59 = .ok (.getfield 178, 3) := by decide +kernel
theorem dc_Mo_nearest_62 : decode m_Mo_nearest.2.1 62 = .ok (.imul, 1) := by decide +kernel
theorem dc_Mo_nearest_63 : decode m_Mo_nearest.2.1 63 = .ok (.goto 5, 3) := by decide +kernel
theorem dc_Mo_nearest_66 : decode m_Mo_nearest.2.1 66 = .ok (.bipush 20, 2) := by decide +kernel
theorem dc_Mo_nearest_68 : decode m_Mo_nearest.2.1 68 = .ok (.istore_n 2, 1) := by decide +kernel
theorem dc_Mo_nearest_69 : decode m_Mo_nearest.2.1 69 = .ok (.aload_n 0, 1) := by decide +kernel
theorem dc_Mo_nearest_70 : decode m_Mo_nearest.2.1 70 = .ok (.iload_n 2, 1) := by decide +kernel
theorem dc_Mo_nearest_71 : decode m_Mo_nearest.2.1 71 = .ok (.invokevirtual 189, 3) := by decide +kernel
theorem dc_Mo_nearest_74 : decode m_Mo_nearest.2.1 74 = .ok (.iload_n 1, 1) := by decide +kernel
theorem dc_Mo_nearest_75 : decode m_Mo_nearest.2.1 75 = .ok (.iload_n 2, 1) := by decide +kernel
theorem dc_Mo_nearest_76 : decode m_Mo_nearest.2.1 76 = .ok (.iadd, 1) := by decide +kernel
theorem dc_Mo_nearest_77 : decode m_Mo_nearest.2.1 77 = .ok (.istore_n 1, 1) := by decide +kernel
theorem dc_Mo_nearest_78 : decode m_Mo_nearest.2.1 78 = .ok (.goto (-39), 3) := by decide +kernel
theorem dc_Mo_nearest_81 : decode m_Mo_nearest.2.1 81 = .ok (.aload_n 0, 1) := by decide +kernel
theorem dc_Mo_nearest_82 : decode m_Mo_nearest.2.1 82 = .ok (.getfield 178, 3) := by decide +kernel
theorem dc_Mo_nearest_85 : decode m_Mo_nearest.2.1 85 = .ok (.ifCond .lt 13, 3) := by decide +kernel
theorem dc_Mo_nearest_88 : decode m_Mo_nearest.2.1 88 = .ok (.aload_n 0, 1) := by decide +kernel
theorem dc_Mo_nearest_89 : decode m_Mo_nearest.2.1 89 = .ok (.getfield 16, 3) := by decide +kernel
theorem dc_Mo_nearest_92 : decode m_Mo_nearest.2.1 92 = .ok (.iconst 0, 1) := by decide +kernel
theorem dc_Mo_nearest_93 : decode m_Mo_nearest.2.1 93 = .ok (.iaload, 1) := by decide +kernel
theorem dc_Mo_nearest_94 : decode m_Mo_nearest.2.1 94 = .ok (.iconst 5, 1) := by decide +kernel
theorem dc_Mo_nearest_95 : decode m_Mo_nearest.2.1 95 = .ok (.if_icmp .ge 51, 3) := by decide +kernel
theorem dc_Mo_nearest_98 : decode m_Mo_nearest.2.1 98 = .ok (.aload_n 0, 1) := by decide +kernel
theorem dc_Mo_nearest_99 : decode m_Mo_nearest.2.1 99 = .ok (.getfield 178, 3) := by decide +kernel
theorem dc_Mo_nearest_102 : decode m_Mo_nearest.2.1 102 = .ok (.ifCond .ne 7, 3) := by decide +kernel
theorem dc_Mo_nearest_105 : decode m_Mo_nearest.2.1 105 = .ok (.iconst 1, 1) := by decide +kernel
theorem dc_Mo_nearest_106 : decode m_Mo_nearest.2.1 106 = .ok (.goto 27, 3) := by decide +kernel
theorem dc_Mo_nearest_109 : decode m_Mo_nearest.2.1 109 = .ok (.bipush (-3), 2) := by decide +kernel
theorem dc_Mo_nearest_111 : decode m_Mo_nearest.2.1 111 = .ok (.aload_n 0, 1) := by decide +kernel
theorem dc_Mo_nearest_112 : decode m_Mo_nearest.2.1 112 = .ok (.getfield 178, 3) := by decide +kernel
theorem dc_Mo_nearest_115 : decode m_Mo_nearest.2.1 115 = .ok (.imul, 1) := by decide +kernel
theorem dc_Mo_nearest_116 : decode m_Mo_nearest.2.1 116 = .ok (.bipush 20, 2) := by decide +kernel
theorem dc_Mo_nearest_118 : decode m_Mo_nearest.2.1 118 = .ok (.if_icmp .ge 13, 3) := by decide +kernel
theorem dc_Mo_nearest_121 : decode m_Mo_nearest.2.1 121 = .ok (.bipush (-3), 2) := by decide +kernel
theorem dc_Mo_nearest_123 : decode m_Mo_nearest.2.1 123 = .ok (.aload_n 0, 1) := by decide +kernel
theorem dc_Mo_nearest_124 : decode m_Mo_nearest.2.1 124 = .ok (.getfield 178, 3) := by decide +kernel
theorem dc_Mo_nearest_127 : decode m_Mo_nearest.2.1 127 = .ok (.imul, 1) := by decide +kernel
theorem dc_Mo_nearest_128 : decode m_Mo_nearest.2.1 128 = .ok (.goto 5, 3) := by decide +kernel
theorem dc_Mo_nearest_131 : decode m_Mo_nearest.2.1 131 = .ok (.bipush 20, 2) := by decide +kernel
theorem dc_Mo_nearest_133 : decode m_Mo_nearest.2.1 133 = .ok (.istore_n 2, 1) := by decide +kernel
theorem dc_Mo_nearest_134 : decode m_Mo_nearest.2.1 134 = .ok (.aload_n 0, 1) := by decide +kernel
theorem dc_Mo_nearest_135 : decode m_Mo_nearest.2.1 135 = .ok (.iload_n 2, 1) := by decide +kernel
theorem dc_Mo_nearest_136 : decode m_Mo_nearest.2.1 136 = .ok (.invokevirtual 186, 3) := by decide +kernel
theorem dc_Mo_nearest_139 : decode m_Mo_nearest.2.1 139 = .ok (.iload_n 1, 1) := by decide +kernel
theorem dc_Mo_nearest_140 : decode m_Mo_nearest.2.1 140 = .ok (.iload_n 2, 1) := by decide +kernel
theorem dc_Mo_nearest_141 : decode m_Mo_nearest.2.1 141 = .ok (.isub, 1) := by decide +kernel
theorem dc_Mo_nearest_142 : decode m_Mo_nearest.2.1 142 = .ok (.istore_n 1, 1) := by decide +kernel
theorem dc_Mo_nearest_143 : decode m_Mo_nearest.2.1 143 = .ok (.goto (-62), 3) := by decide +kernel
theorem dc_Mo_nearest_146 : decode m_Mo_nearest.2.1 146 = .ok (.iinc 1 (-1), 3) := by decide +kernel
theorem dc_Mo_nearest_149 : decode m_Mo_nearest.2.1 149 = .ok (.iload_n 1, 1) := by decide +kernel
theorem dc_Mo_nearest_150 : decode m_Mo_nearest.2.1 150 = .ok (.sipush 1023, 3) := by decide +kernel
theorem dc_Mo_nearest_153 : decode m_Mo_nearest.2.1 153 = .ok (.if_icmp .le 7, 3) := by decide +kernel
theorem dc_Mo_nearest_156 : decode m_Mo_nearest.2.1 156 = .ok (.ldc2_w 192, 3) := by decide +kernel
theorem dc_Mo_nearest_159 : decode m_Mo_nearest.2.1 159 = .ok (.lreturn, 1) := by decide +kernel
theorem dc_Mo_nearest_160 : decode m_Mo_nearest.2.1 160 = .ok (.iload_n 1, 1) := by decide +kernel
theorem dc_Mo_nearest_161 : decode m_Mo_nearest.2.1 161 = .ok (.sipush (-1022), 3) := by decide +kernel
theorem dc_Mo_nearest_164 : decode m_Mo_nearest.2.1 164 = .ok (.if_icmp .ge 16, 3) := by decide +kernel
theorem dc_Mo_nearest_167 : decode m_Mo_nearest.2.1 167 = .ok (.aload_n 0, 1) := by decide +kernel
theorem dc_Mo_nearest_168 : decode m_Mo_nearest.2.1 168 = .ok (.sipush (-1022), 3) := by decide +kernel
theorem dc_Mo_nearest_171 : decode m_Mo_nearest.2.1 171 = .ok (.iload_n 1, 1) := by decide +kernel
theorem dc_Mo_nearest_172 : decode m_Mo_nearest.2.1 172 = .ok (.isub, 1) := by decide +kernel
theorem dc_Mo_nearest_173 : decode m_Mo_nearest.2.1 173 = .ok (.invokevirtual 194, 3) := by decide +kernel
theorem dc_Mo_nearest_176 : decode m_Mo_nearest.2.1 176 = .ok (.sipush (-1022), 3) := by decide +kernel
theorem dc_Mo_nearest_179 : decode m_Mo_nearest.2.1 179 = .ok (.istore_n 1, 1) := by decide +kernel
theorem dc_Mo_nearest_180 : decode m_Mo_nearest.2.1 180 = .ok (.aload_n 0, 1) := by decide +kernel
theorem dc_Mo_nearest_181 : decode m_Mo_nearest.2.1 181 = .ok (.bipush 53, 2) := by decide +kernel
theorem dc_Mo_nearest_183 : decode m_Mo_nearest.2.1 183 = .ok (.invokevirtual 197, 3) := by decide +kernel
theorem dc_Mo_nearest_186 : decode m_Mo_nearest.2.1 186 = .ok (.lconst 0, 1) := by decide +kernel
theorem dc_Mo_nearest_187 : decode m_Mo_nearest.2.1 187 = .ok (.lstore_n 2, 1) := by decide +kernel
theorem dc_Mo_nearest_188 : decode m_Mo_nearest.2.1 188 = .ok (.iconst 0, 1) := by decide +kernel
theorem dc_Mo_nearest_189 : decode m_Mo_nearest.2.1 189 = .ok (.istore 4, 2) := by decide +kernel
theorem dc_Mo_nearest_191 : decode m_Mo_nearest.2.1 191 = .ok (.iload 4, 2) := by decide +kernel
theorem dc_Mo_nearest_193 : decode m_Mo_nearest.2.1 193 = .ok (.aload_n 0, 1) := by decide +kernel
theorem dc_Mo_nearest_194 : decode m_Mo_nearest.2.1 194 = .ok (.getfield 178, 3) := by decide +kernel
theorem dc_Mo_nearest_197 : decode m_Mo_nearest.2.1 197 = .ok (.if_icmp .ge 37, 3) := by decide +kernel
theorem dc_Mo_nearest_200 : decode m_Mo_nearest.2.1 200 = .ok (.ldc2_w 181, 3) := by decide +kernel
theorem dc_Mo_nearest_203 : decode m_Mo_nearest.2.1 203 = .ok (.lload_n 2, 1) := by decide +kernel
theorem dc_Mo_nearest_204 : decode m_Mo_nearest.2.1 204 = .ok (.lmul, 1) := by decide +kernel
theorem dc_Mo_nearest_205 : decode m_Mo_nearest.2.1 205 = .ok (.iload 4, 2) := by decide +kernel
theorem dc_Mo_nearest_207 : decode m_Mo_nearest.2.1 207 = .ok (.aload_n 0, 1) := by decide +kernel
theorem dc_Mo_nearest_208 : decode m_Mo_nearest.2.1 208 = .ok (.getfield 175, 3) := by decide +kernel
theorem dc_Mo_nearest_211 : decode m_Mo_nearest.2.1 211 = .ok (.if_icmp .ge 13, 3) := by decide +kernel
theorem dc_Mo_nearest_214 : decode m_Mo_nearest.2.1 214 = .ok (.aload_n 0, 1) := by decide +kernel
theorem dc_Mo_nearest_215 : decode m_Mo_nearest.2.1 215 = .ok (.getfield 16, 3) := by decide +kernel
theorem dc_Mo_nearest_218 : decode m_Mo_nearest.2.1 218 = .ok (.iload 4, 2) := by decide +kernel
theorem dc_Mo_nearest_220 : decode m_Mo_nearest.2.1 220 = .ok (.iaload, 1) := by decide +kernel
theorem dc_Mo_nearest_221 : decode m_Mo_nearest.2.1 221 = .ok (.goto 4, 3) := by decide +kernel
theorem dc_Mo_nearest_224 : decode m_Mo_nearest.2.1 224 = .ok (.iconst 0, 1) := by decide +kernel
theorem dc_Mo_nearest_225 : decode m_Mo_nearest.2.1 225 = .ok (.i2l, 1) := by decide +kernel
theorem dc_Mo_nearest_226 : decode m_Mo_nearest.2.1 226 = .ok (.ladd, 1) := by decide +kernel
theorem dc_Mo_nearest_227 : decode m_Mo_nearest.2.1 227 = .ok (.lstore_n 2, 1) := by decide +kernel
theorem dc_Mo_nearest_228 : decode m_Mo_nearest.2.1 228 = .ok (.iinc 4 1, 3) := by decide +kernel
theorem dc_Mo_nearest_231 : decode m_Mo_nearest.2.1 231 = .ok (.goto (-40), 3) := by decide +kernel
theorem dc_Mo_nearest_234 : decode m_Mo_nearest.2.1 234 = .ok (.aload_n 0, 1) := by decide +kernel
theorem dc_Mo_nearest_235 : decode m_Mo_nearest.2.1 235 = .ok (.getfield 178, 3) := by decide +kernel
theorem dc_Mo_nearest_238 : decode m_Mo_nearest.2.1 238 = .ok (.ifCond .lt 80, 3) := by decide +kernel
theorem dc_Mo_nearest_241 : decode m_Mo_nearest.2.1 241 = .ok (.aload_n 0, 1) := by decide +kernel
theorem dc_Mo_nearest_242 : decode m_Mo_nearest.2.1 242 = .ok (.getfield 178, 3) := by decide +kernel
theorem dc_Mo_nearest_245 : decode m_Mo_nearest.2.1 245 = .ok (.aload_n 0, 1) := by decide +kernel
theorem dc_Mo_nearest_246 : decode m_Mo_nearest.2.1 246 = .ok (.getfield 175, 3) := by decide +kernel
theorem dc_Mo_nearest_249 : decode m_Mo_nearest.2.1 249 = .ok (.if_icmp .ge 69, 3) := by decide +kernel
theorem dc_Mo_nearest_252 : decode m_Mo_nearest.2.1 252 = .ok (.aload_n 0, 1) := by decide +kernel
theorem dc_Mo_nearest_253 : decode m_Mo_nearest.2.1 253 = .ok (.getfield 16, 3) := by decide +kernel
theorem dc_Mo_nearest_256 : decode m_Mo_nearest.2.1 256 = .ok (.aload_n 0, 1) := by decide +kernel
theorem dc_Mo_nearest_257 : decode m_Mo_nearest.2.1 257 = .ok (.getfield 178, 3) := by decide +kernel
theorem dc_Mo_nearest_260 : decode m_Mo_nearest.2.1 260 = .ok (.iaload, 1) := by decide +kernel
theorem dc_Mo_nearest_261 : decode m_Mo_nearest.2.1 261 = .ok (.iconst 5, 1) := by decide +kernel
theorem dc_Mo_nearest_262 : decode m_Mo_nearest.2.1 262 = .ok (.if_icmp .ne 20, 3) := by decide +kernel
theorem dc_Mo_nearest_265 : decode m_Mo_nearest.2.1 265 = .ok (.aload_n 0, 1) := by decide +kernel
theorem dc_Mo_nearest_266 : decode m_Mo_nearest.2.1 266 = .ok (.getfield 175, 3) := by decide +kernel
theorem dc_Mo_nearest_269 : decode m_Mo_nearest.2.1 269 = .ok (.aload_n 0, 1) := by decide +kernel
theorem dc_Mo_nearest_270 : decode m_Mo_nearest.2.1 270 = .ok (.getfield 178, 3) := by decide +kernel
theorem dc_Mo_nearest_273 : decode m_Mo_nearest.2.1 273 = .ok (.iconst 1, 1) := by decide +kernel
theorem dc_Mo_nearest_274 : decode m_Mo_nearest.2.1 274 = .ok (.iadd, 1) := by decide +kernel
theorem dc_Mo_nearest_275 : decode m_Mo_nearest.2.1 275 = .ok (.if_icmp .ne 7, 3) := by decide +kernel
theorem dc_Mo_nearest_278 : decode m_Mo_nearest.2.1 278 = .ok (.iconst 1, 1) := by decide +kernel
theorem dc_Mo_nearest_279 : decode m_Mo_nearest.2.1 279 = .ok (.goto 4, 3) := by decide +kernel
theorem dc_Mo_nearest_282 : decode m_Mo_nearest.2.1 282 = .ok (.iconst 0, 1) := by decide +kernel
theorem dc_Mo_nearest_283 : decode m_Mo_nearest.2.1 283 = .ok (.istore 4, 2) := by decide +kernel
theorem dc_Mo_nearest_285 : decode m_Mo_nearest.2.1 285 = .ok (.iload 4, 2) := by decide +kernel
theorem dc_Mo_nearest_287 : decode m_Mo_nearest.2.1 287 = .ok (.ifCond .eq 14, 3) := by decide +kernel
theorem dc_Mo_nearest_290 : decode m_Mo_nearest.2.1 290 = .ok (.lload_n 2, 1) := by decide +kernel
theorem dc_Mo_nearest_291 : decode m_Mo_nearest.2.1 291 = .ok (.lconst 1, 1) := by decide +kernel
theorem dc_Mo_nearest_292 : decode m_Mo_nearest.2.1 292 = .ok (.land, 1) := by decide +kernel
theorem dc_Mo_nearest_293 : decode m_Mo_nearest.2.1 293 = .ok (.lconst 1, 1) := by decide +kernel
theorem dc_Mo_nearest_294 : decode m_Mo_nearest.2.1 294 = .ok (.lcmp, 1) := by decide +kernel
theorem dc_Mo_nearest_295 : decode m_Mo_nearest.2.1 295 = .ok (.ifCond .ne 23, 3) := by decide +kernel
theorem dc_Mo_nearest_298 : decode m_Mo_nearest.2.1 298 = .ok (.goto 16, 3) := by decide +kernel
theorem dc_Mo_nearest_301 : decode m_Mo_nearest.2.1 301 = .ok (.aload_n 0, 1) := by decide +kernel
theorem dc_Mo_nearest_302 : decode m_Mo_nearest.2.1 302 = .ok (.getfield 16, 3) := by decide +kernel
theorem dc_Mo_nearest_305 : decode m_Mo_nearest.2.1 305 = .ok (.aload_n 0, 1) := by decide +kernel
theorem dc_Mo_nearest_306 : decode m_Mo_nearest.2.1 306 = .ok (.getfield 178, 3) := by decide +kernel
theorem dc_Mo_nearest_309 : decode m_Mo_nearest.2.1 309 = .ok (.iaload, 1) := by decide +kernel
theorem dc_Mo_nearest_310 : decode m_Mo_nearest.2.1 310 = .ok (.iconst 5, 1) := by decide +kernel
theorem dc_Mo_nearest_311 : decode m_Mo_nearest.2.1 311 = .ok (.if_icmp .lt 7, 3) := by decide +kernel
theorem dc_Mo_nearest_314 : decode m_Mo_nearest.2.1 314 = .ok (.lload_n 2, 1) := by decide +kernel
theorem dc_Mo_nearest_315 : decode m_Mo_nearest.2.1 315 = .ok (.lconst 1, 1) := by decide +kernel
theorem dc_Mo_nearest_316 : decode m_Mo_nearest.2.1 316 = .ok (.ladd, 1) := by decide +kernel
theorem dc_Mo_nearest_317 : decode m_Mo_nearest.2.1 317 = .ok (.lstore_n 2, 1) := by decide +kernel
theorem dc_Mo_nearest_318 : decode m_Mo_nearest.2.1 318 = .ok (.lload_n 2, 1) := by decide +kernel
theorem dc_Mo_nearest_319 : decode m_Mo_nearest.2.1 319 = .ok (.ldc2_w 200, 3) := by decide +kernel
theorem dc_Mo_nearest_322 : decode m_Mo_nearest.2.1 322 = .ok (.lcmp, 1) := by decide +kernel
theorem dc_Mo_nearest_323 : decode m_Mo_nearest.2.1 323 = .ok (.ifCond .ne 21, 3) := by decide +kernel
theorem dc_Mo_nearest_326 : decode m_Mo_nearest.2.1 326 = .ok (.ldc2_w 202, 3) := by decide +kernel
theorem dc_Mo_nearest_329 : decode m_Mo_nearest.2.1 329 = .ok (.lstore_n 2, 1) := by decide +kernel
theorem dc_Mo_nearest_330 : decode m_Mo_nearest.2.1 330 = .ok (.iinc 1 1, 3) := by decide +kernel
theorem dc_Mo_nearest_333 : decode m_Mo_nearest.2.1 333 = .ok (.iload_n 1, 1) := by decide +kernel
theorem dc_Mo_nearest_334 : decode m_Mo_nearest.2.1 334 = .ok (.sipush 1023, 3) := by decide +kernel
theorem dc_Mo_nearest_337 : decode m_Mo_nearest.2.1 337 = .ok (.if_icmp .le 7, 3) := by decide +kernel
theorem dc_Mo_nearest_340 : decode m_Mo_nearest.2.1 340 = .ok (.ldc2_w 192, 3) := by decide +kernel
theorem dc_Mo_nearest_343 : decode m_Mo_nearest.2.1 343 = .ok (.lreturn, 1) := by decide +kernel
theorem dc_Mo_nearest_344 : decode m_Mo_nearest.2.1 344 = .ok (.lload_n 2, 1) := by decide +kernel
theorem dc_Mo_nearest_345 : decode m_Mo_nearest.2.1 345 = .ok (.ldc2_w 202, 3) := by decide +kernel
theorem dc_Mo_nearest_348 : decode m_Mo_nearest.2.1 348 = .ok (.lcmp, 1) := by decide +kernel
theorem dc_Mo_nearest_349 : decode m_Mo_nearest.2.1 349 = .ok (.ifCond .ge 7, 3) := by decide +kernel
theorem dc_Mo_nearest_352 : decode m_Mo_nearest.2.1 352 = .ok (.lload_n 2, 1) := by decide +kernel
theorem dc_Mo_nearest_353 : decode m_Mo_nearest.2.1 353 = .ok (.goto 18, 3) := by decide +kernel
theorem dc_Mo_nearest_356 : decode m_Mo_nearest.2.1 356 = .ok (.lload_n 2, 1) := by decide +kernel
theorem dc_Mo_nearest_357 : decode m_Mo_nearest.2.1 357 = .ok (.ldc2_w 204, 3) := by decide +kernel
theorem dc_Mo_nearest_360 : decode m_Mo_nearest.2.1 360 = .ok (.land, 1) := by decide +kernel
theorem dc_Mo_nearest_361 : decode m_Mo_nearest.2.1 361 = .ok (.iload_n 1, 1) := by decide +kernel
theorem dc_Mo_nearest_362 : decode m_Mo_nearest.2.1 362 = .ok (.sipush 1023, 3) := by decide +kernel
theorem dc_Mo_nearest_365 : decode m_Mo_nearest.2.1 365 = .ok (.iadd, 1) := by decide +kernel
theorem dc_Mo_nearest_366 : decode m_Mo_nearest.2.1 366 = .ok (.i2l, 1) := by decide +kernel
theorem dc_Mo_nearest_367 : decode m_Mo_nearest.2.1 367 = .ok (.bipush 52, 2) := by decide +kernel
theorem dc_Mo_nearest_369 : decode m_Mo_nearest.2.1 369 = .ok (.lshl, 1) := by decide +kernel
theorem dc_Mo_nearest_370 : decode m_Mo_nearest.2.1 370 = .ok (.lor, 1) := by decide +kernel
theorem dc_Mo_nearest_371 : decode m_Mo_nearest.2.1 371 = .ok (.lreturn, 1) := by decide +kernel
theorem b_Mo_nearest_0 {E : En_t} {d : Nat} {σ : S_t} {Q : Option Value → S_t → Prop}
    (h : CV E d m_Mo_trim [pv E 0] σ (fun σ1 => ((gI σ1 0 6) = 0 → Q (some (.long (0 : Int64))) σ1) ∧ (¬ (gI σ1 0 6) = 0 → ((-340 : Int32) ≤ (gI σ1 0 7) → ((gI σ1 0 7) ≤ (320 : Int32) → JE E (d + 1) m_Mo_nearest 39 [(0, pv E 0), (1, .int (0 : Int32))] [] σ1 Q) ∧ (¬ (gI σ1 0 7) ≤ (320 : Int32) → Q (some (.long (9218868437227405312 : Int64))) σ1)) ∧ (¬ (-340 : Int32) ≤ (gI σ1 0 7) → Q (some (.long (0 : Int64))) σ1)))) :
    JE E (d + 1) m_Mo_nearest 0 [(0, pv E 0)] [] σ Q := by
  refine J_aload_n dc_Mo_nearest_0 (Eq.refl 1) 0 rfl ?_
  refine J_callVV (As := []) (st := []) dc_Mo_nearest_1 (Eq.refl 4) lk_Mo_183 mi_Mo_trim rfl (Nat.le_of_ble_eq_true rfl) rfl rfl (Nat.le_of_ble_eq_true rfl) rfl (Nat.le_of_ble_eq_true rfl) (CV.mono h (fun σ1 h => ?_))
  refine J_aload_n dc_Mo_nearest_4 (Eq.refl 5) 0 rfl ?_
  refine J_getI dc_Mo_nearest_5 (Eq.refl 8) fl_Mo_175 (Nat.le_of_ble_eq_true rfl) rfl (Or.inl rfl) ?_
  refine J_if_eq dc_Mo_nearest_8 (Eq.refl 11) rfl (fun hc => ?_) (fun hc => ?_)
  · have h := h.1 hc
    refine J_lconst (v := (0 : Int64)) dc_Mo_nearest_21 (Eq.refl 22) rfl ?_
    exact J_lret dc_Mo_nearest_22 rfl h
  · have h := h.2 hc
    refine J_aload_n dc_Mo_nearest_11 (Eq.refl 12) 0 rfl ?_
    refine J_getI dc_Mo_nearest_12 (Eq.refl 15) fl_Mo_178 (Nat.le_of_ble_eq_true rfl) rfl (Or.inl rfl) ?_
    refine J_sipush (v := (-340 : Int32)) dc_Mo_nearest_15 (Eq.refl 18) rfl ?_
    refine J_icmp_ge dc_Mo_nearest_18 (Eq.refl 21) rfl (fun hc => ?_) (fun hc => ?_)
    · have h := h.1 hc
      refine J_aload_n dc_Mo_nearest_23 (Eq.refl 24) 0 rfl ?_
      refine J_getI dc_Mo_nearest_24 (Eq.refl 27) fl_Mo_178 (Nat.le_of_ble_eq_true rfl) rfl (Or.inl rfl) ?_
      refine J_sipush (v := (320 : Int32)) dc_Mo_nearest_27 (Eq.refl 30) rfl ?_
      refine J_icmp_le dc_Mo_nearest_30 (Eq.refl 33) rfl (fun hc => ?_) (fun hc => ?_)
      · have h := h.1 hc
        refine J_iconst (v := (0 : Int32)) dc_Mo_nearest_37 (Eq.refl 38) rfl ?_
        refine J_istore_n (L' := [(1, .int (0 : Int32)), (0, pv E 0)]) dc_Mo_nearest_38 (Eq.refl 39) (Nat.le_of_ble_eq_true rfl) rfl ?_
        refine J_sub [1, 0] rfl ?_
        exact h
      · have h := h.2 hc
        refine J_ldc2 dc_Mo_nearest_33 (Eq.refl 36) kc_Mo_192 ?_
        exact J_lret dc_Mo_nearest_36 rfl h
    · have h := h.2 hc
      refine J_lconst (v := (0 : Int64)) dc_Mo_nearest_21 (Eq.refl 22) rfl ?_
      exact J_lret dc_Mo_nearest_22 rfl h
theorem b_Mo_nearest_39 {E : En_t} {d : Nat} {σ : S_t} {Q : Option Value → S_t → Prop} {x1 : Int32}
    (h : ((gI σ 0 7) ≤ 0 → JE E (d + 1) m_Mo_nearest 81 [(0, pv E 0), (1, .int x1)] [] σ Q) ∧ (¬ (gI σ 0 7) ≤ 0 → ((20 : Int32) ≤ ((3 : Int32) * (gI σ 0 7)) → JE E (d + 1) m_Mo_nearest 68 [(0, pv E 0), (1, .int x1)] [.int (20 : Int32)] σ Q) ∧ (¬ (20 : Int32) ≤ ((3 : Int32) * (gI σ 0 7)) → JE E (d + 1) m_Mo_nearest 68 [(0, pv E 0), (1, .int x1)] [.int ((3 : Int32) * (gI σ 0 7))] σ Q))) :
    JE E (d + 1) m_Mo_nearest 39 [(0, pv E 0), (1, .int x1)] [] σ Q := by
  refine J_aload_n dc_Mo_nearest_39 (Eq.refl 40) 0 rfl ?_
  refine J_getI dc_Mo_nearest_40 (Eq.refl 43) fl_Mo_178 (Nat.le_of_ble_eq_true rfl) rfl (Or.inl rfl) ?_
  refine J_if_le dc_Mo_nearest_43 (Eq.refl 46) rfl (fun hc => ?_) (fun hc => ?_)
  · have h := h.1 hc
    exact h
  · have h := h.2 hc
    refine J_iconst (v := (3 : Int32)) dc_Mo_nearest_46 (Eq.refl 47) rfl ?_
    refine J_aload_n dc_Mo_nearest_47 (Eq.refl 48) 0 rfl ?_
    refine J_getI dc_Mo_nearest_48 (Eq.refl 51) fl_Mo_178 (Nat.le_of_ble_eq_true rfl) rfl (Or.inl rfl) ?_
    refine J_imul dc_Mo_nearest_51 (Eq.refl 52) ?_
    refine J_bipush (v := (20 : Int32)) dc_Mo_nearest_52 (Eq.refl 54) rfl ?_
    refine J_icmp_ge dc_Mo_nearest_54 (Eq.refl 57) rfl (fun hc => ?_) (fun hc => ?_)
    · have h := h.1 hc
      refine J_bipush (v := (20 : Int32)) dc_Mo_nearest_66 (Eq.refl 68) rfl ?_
      exact h
    · have h := h.2 hc
      refine J_iconst (v := (3 : Int32)) dc_Mo_nearest_57 (Eq.refl 58) rfl ?_
      refine J_aload_n dc_Mo_nearest_58 (Eq.refl 59) 0 rfl ?_
      refine J_getI dc_Mo_nearest_59 (Eq.refl 62) fl_Mo_178 (Nat.le_of_ble_eq_true rfl) rfl (Or.inl rfl) ?_
      refine J_imul dc_Mo_nearest_62 (Eq.refl 63) ?_
      refine J_goto dc_Mo_nearest_63 rfl ?_
      exact h
theorem b_Mo_nearest_68 {E : En_t} {d : Nat} {σ : S_t} {Q : Option Value → S_t → Prop} {x1 : Int32} {s0 : Int32}
    (h : CV E d m_Mo_halved [pv E 0, .int s0] σ (fun σ1 => JE E (d + 1) m_Mo_nearest 39 [(0, pv E 0), (1, .int (x1 + s0))] [] σ1 Q)) :
    JE E (d + 1) m_Mo_nearest 68 [(0, pv E 0), (1, .int x1)] [.int s0] σ Q := by
  refine J_istore_n (L' := [(2, .int s0), (0, pv E 0), (1, .int x1)]) dc_Mo_nearest_68 (Eq.refl 69) (Nat.le_of_ble_eq_true rfl) rfl ?_
  refine J_aload_n dc_Mo_nearest_69 (Eq.refl 70) 1 rfl ?_
  refine J_iload_n dc_Mo_nearest_70 (Eq.refl 71) 0 rfl ?_
  refine J_callVV (As := [.int s0]) (st := []) dc_Mo_nearest_71 (Eq.refl 74) lk_Mo_189 mi_Mo_halved rfl (Nat.le_of_ble_eq_true rfl) rfl rfl (Nat.le_of_ble_eq_true rfl) rfl (Nat.le_of_ble_eq_true rfl) (CV.mono h (fun σ1 h => ?_))
  refine J_iload_n dc_Mo_nearest_74 (Eq.refl 75) 2 rfl ?_
  refine J_iload_n dc_Mo_nearest_75 (Eq.refl 76) 0 rfl ?_
  refine J_iadd dc_Mo_nearest_76 (Eq.refl 77) ?_
  refine J_istore_n (L' := [(1, .int (x1 + s0)), (2, .int s0), (0, pv E 0)]) dc_Mo_nearest_77 (Eq.refl 78) (Nat.le_of_ble_eq_true rfl) rfl ?_
  refine J_goto dc_Mo_nearest_78 rfl ?_
  refine J_sub [2, 0] rfl ?_
  exact h
theorem b_Mo_nearest_81 {E : En_t} {d : Nat} {σ : S_t} {Q : Option Value → S_t → Prop} {x1 : Int32}
    (h : ((gI σ 0 7) < 0 → JE E (d + 1) m_Mo_nearest 98 [(0, pv E 0), (1, .int x1)] [] σ Q) ∧ (¬ (gI σ 0 7) < 0 → vp_in (0 : Int32) 6000 ∧ (((5 : Int32) ≤ (gI σ 3 (0 : Int32).toNatClampNeg) → ((x1 + (-1 : Int32)) ≤ (1023 : Int32) → ((-1022 : Int32) ≤ (x1 + (-1 : Int32)) → JE E (d + 1) m_Mo_nearest 180 [(0, pv E 0), (1, .int (x1 + (-1 : Int32)))] [] σ Q) ∧ (¬ (-1022 : Int32) ≤ (x1 + (-1 : Int32)) → CV E d m_Mo_halvedBy [pv E 0, .int ((-1022 : Int32) - (x1 + (-1 : Int32)))] σ (fun σ1 => JE E (d + 1) m_Mo_nearest 180 [(0, pv E 0), (1, .int (-1022 : Int32))] [] σ1 Q))) ∧ (¬ (x1 + (-1 : Int32)) ≤ (1023 : Int32) → Q (some (.long (9218868437227405312 : Int64))) σ)) ∧ (¬ (5 : Int32) ≤ (gI σ 3 (0 : Int32).toNatClampNeg) → JE E (d + 1) m_Mo_nearest 98 [(0, pv E 0), (1, .int x1)] [] σ Q)))) :
    JE E (d + 1) m_Mo_nearest 81 [(0, pv E 0), (1, .int x1)] [] σ Q := by
  refine J_aload_n dc_Mo_nearest_81 (Eq.refl 82) 0 rfl ?_
  refine J_getI dc_Mo_nearest_82 (Eq.refl 85) fl_Mo_178 (Nat.le_of_ble_eq_true rfl) rfl (Or.inl rfl) ?_
  refine J_if_lt dc_Mo_nearest_85 (Eq.refl 88) rfl (fun hc => ?_) (fun hc => ?_)
  · have h := h.1 hc
    exact h
  · have h := h.2 hc
    refine J_aload_n dc_Mo_nearest_88 (Eq.refl 89) 0 rfl ?_
    refine J_getF (y := 3) dc_Mo_nearest_89 (Eq.refl 92) fl_Mo_16 (Nat.le_of_ble_eq_true rfl) rfl (Or.inl rfl) rfl ?_
    refine J_iconst (v := (0 : Int32)) dc_Mo_nearest_92 (Eq.refl 93) rfl ?_
    obtain ⟨hg, h⟩ := h
    refine J_iald dc_Mo_nearest_93 (Eq.refl 94) rfl rfl hg ?_
    refine J_iconst (v := (5 : Int32)) dc_Mo_nearest_94 (Eq.refl 95) rfl ?_
    refine J_icmp_ge dc_Mo_nearest_95 (Eq.refl 98) rfl (fun hc => ?_) (fun hc => ?_)
    · have h := h.1 hc
      refine J_iinc (v := x1 + (-1 : Int32)) (L' := [(1, .int (x1 + (-1 : Int32))), (0, pv E 0)]) dc_Mo_nearest_146 (Eq.refl 149) 1 rfl rfl (Nat.le_of_ble_eq_true rfl) rfl ?_
      refine J_iload_n dc_Mo_nearest_149 (Eq.refl 150) 0 rfl ?_
      refine J_sipush (v := (1023 : Int32)) dc_Mo_nearest_150 (Eq.refl 153) rfl ?_
      refine J_icmp_le dc_Mo_nearest_153 (Eq.refl 156) rfl (fun hc => ?_) (fun hc => ?_)
      · have h := h.1 hc
        refine J_iload_n dc_Mo_nearest_160 (Eq.refl 161) 0 rfl ?_
        refine J_sipush (v := (-1022 : Int32)) dc_Mo_nearest_161 (Eq.refl 164) rfl ?_
        refine J_icmp_ge dc_Mo_nearest_164 (Eq.refl 167) rfl (fun hc => ?_) (fun hc => ?_)
        · have h := h.1 hc
          refine J_sub [1, 0] rfl ?_
          exact h
        · have h := h.2 hc
          refine J_aload_n dc_Mo_nearest_167 (Eq.refl 168) 1 rfl ?_
          refine J_sipush (v := (-1022 : Int32)) dc_Mo_nearest_168 (Eq.refl 171) rfl ?_
          refine J_iload_n dc_Mo_nearest_171 (Eq.refl 172) 0 rfl ?_
          refine J_isub dc_Mo_nearest_172 (Eq.refl 173) ?_
          refine J_callVV (As := [.int ((-1022 : Int32) - (x1 + (-1 : Int32)))]) (st := []) dc_Mo_nearest_173 (Eq.refl 176) lk_Mo_194 mi_Mo_halvedBy rfl (Nat.le_of_ble_eq_true rfl) rfl rfl (Nat.le_of_ble_eq_true rfl) rfl (Nat.le_of_ble_eq_true rfl) (CV.mono h (fun σ1 h => ?_))
          refine J_sipush (v := (-1022 : Int32)) dc_Mo_nearest_176 (Eq.refl 179) rfl ?_
          refine J_istore_n (L' := [(1, .int (-1022 : Int32)), (0, pv E 0)]) dc_Mo_nearest_179 (Eq.refl 180) (Nat.le_of_ble_eq_true rfl) rfl ?_
          refine J_sub [1, 0] rfl ?_
          exact h
      · have h := h.2 hc
        refine J_ldc2 dc_Mo_nearest_156 (Eq.refl 159) kc_Mo_192 ?_
        exact J_lret dc_Mo_nearest_159 rfl h
    · have h := h.2 hc
      exact h
theorem b_Mo_nearest_98 {E : En_t} {d : Nat} {σ : S_t} {Q : Option Value → S_t → Prop} {x1 : Int32}
    (h : (¬ (gI σ 0 7) = 0 → ((20 : Int32) ≤ ((-3 : Int32) * (gI σ 0 7)) → JE E (d + 1) m_Mo_nearest 133 [(0, pv E 0), (1, .int x1)] [.int (20 : Int32)] σ Q) ∧ (¬ (20 : Int32) ≤ ((-3 : Int32) * (gI σ 0 7)) → JE E (d + 1) m_Mo_nearest 133 [(0, pv E 0), (1, .int x1)] [.int ((-3 : Int32) * (gI σ 0 7))] σ Q)) ∧ ((gI σ 0 7) = 0 → JE E (d + 1) m_Mo_nearest 133 [(0, pv E 0), (1, .int x1)] [.int (1 : Int32)] σ Q)) :
    JE E (d + 1) m_Mo_nearest 98 [(0, pv E 0), (1, .int x1)] [] σ Q := by
  refine J_aload_n dc_Mo_nearest_98 (Eq.refl 99) 0 rfl ?_
  refine J_getI dc_Mo_nearest_99 (Eq.refl 102) fl_Mo_178 (Nat.le_of_ble_eq_true rfl) rfl (Or.inl rfl) ?_
  refine J_if_ne dc_Mo_nearest_102 (Eq.refl 105) rfl (fun hc => ?_) (fun hc => ?_)
  · have h := h.1 hc
    refine J_bipush (v := (-3 : Int32)) dc_Mo_nearest_109 (Eq.refl 111) rfl ?_
    refine J_aload_n dc_Mo_nearest_111 (Eq.refl 112) 0 rfl ?_
    refine J_getI dc_Mo_nearest_112 (Eq.refl 115) fl_Mo_178 (Nat.le_of_ble_eq_true rfl) rfl (Or.inl rfl) ?_
    refine J_imul dc_Mo_nearest_115 (Eq.refl 116) ?_
    refine J_bipush (v := (20 : Int32)) dc_Mo_nearest_116 (Eq.refl 118) rfl ?_
    refine J_icmp_ge dc_Mo_nearest_118 (Eq.refl 121) rfl (fun hc => ?_) (fun hc => ?_)
    · have h := h.1 hc
      refine J_bipush (v := (20 : Int32)) dc_Mo_nearest_131 (Eq.refl 133) rfl ?_
      exact h
    · have h := h.2 hc
      refine J_bipush (v := (-3 : Int32)) dc_Mo_nearest_121 (Eq.refl 123) rfl ?_
      refine J_aload_n dc_Mo_nearest_123 (Eq.refl 124) 0 rfl ?_
      refine J_getI dc_Mo_nearest_124 (Eq.refl 127) fl_Mo_178 (Nat.le_of_ble_eq_true rfl) rfl (Or.inl rfl) ?_
      refine J_imul dc_Mo_nearest_127 (Eq.refl 128) ?_
      refine J_goto dc_Mo_nearest_128 rfl ?_
      exact h
  · have h := h.2 hc
    refine J_iconst (v := (1 : Int32)) dc_Mo_nearest_105 (Eq.refl 106) rfl ?_
    refine J_goto dc_Mo_nearest_106 rfl ?_
    exact h
theorem b_Mo_nearest_133 {E : En_t} {d : Nat} {σ : S_t} {Q : Option Value → S_t → Prop} {x1 : Int32} {s0 : Int32}
    (h : CV E d m_Mo_doubled [pv E 0, .int s0] σ (fun σ1 => JE E (d + 1) m_Mo_nearest 81 [(0, pv E 0), (1, .int (x1 - s0))] [] σ1 Q)) :
    JE E (d + 1) m_Mo_nearest 133 [(0, pv E 0), (1, .int x1)] [.int s0] σ Q := by
  refine J_istore_n (L' := [(2, .int s0), (0, pv E 0), (1, .int x1)]) dc_Mo_nearest_133 (Eq.refl 134) (Nat.le_of_ble_eq_true rfl) rfl ?_
  refine J_aload_n dc_Mo_nearest_134 (Eq.refl 135) 1 rfl ?_
  refine J_iload_n dc_Mo_nearest_135 (Eq.refl 136) 0 rfl ?_
  refine J_callVV (As := [.int s0]) (st := []) dc_Mo_nearest_136 (Eq.refl 139) lk_Mo_186 mi_Mo_doubled rfl (Nat.le_of_ble_eq_true rfl) rfl rfl (Nat.le_of_ble_eq_true rfl) rfl (Nat.le_of_ble_eq_true rfl) (CV.mono h (fun σ1 h => ?_))
  refine J_iload_n dc_Mo_nearest_139 (Eq.refl 140) 2 rfl ?_
  refine J_iload_n dc_Mo_nearest_140 (Eq.refl 141) 0 rfl ?_
  refine J_isub dc_Mo_nearest_141 (Eq.refl 142) ?_
  refine J_istore_n (L' := [(1, .int (x1 - s0)), (2, .int s0), (0, pv E 0)]) dc_Mo_nearest_142 (Eq.refl 143) (Nat.le_of_ble_eq_true rfl) rfl ?_
  refine J_goto dc_Mo_nearest_143 rfl ?_
  refine J_sub [2, 0] rfl ?_
  exact h
theorem b_Mo_nearest_180 {E : En_t} {d : Nat} {σ : S_t} {Q : Option Value → S_t → Prop} {x1 : Int32}
    (h : CV E d m_Mo_doubledBy [pv E 0, .int (53 : Int32)] σ (fun σ1 => JE E (d + 1) m_Mo_nearest 191 [(0, pv E 0), (1, .int x1), (2, .long (0 : Int64)), (4, .int (0 : Int32))] [] σ1 Q)) :
    JE E (d + 1) m_Mo_nearest 180 [(0, pv E 0), (1, .int x1)] [] σ Q := by
  refine J_aload_n dc_Mo_nearest_180 (Eq.refl 181) 0 rfl ?_
  refine J_bipush (v := (53 : Int32)) dc_Mo_nearest_181 (Eq.refl 183) rfl ?_
  refine J_callVV (As := [.int (53 : Int32)]) (st := []) dc_Mo_nearest_183 (Eq.refl 186) lk_Mo_197 mi_Mo_doubledBy rfl (Nat.le_of_ble_eq_true rfl) rfl rfl (Nat.le_of_ble_eq_true rfl) rfl (Nat.le_of_ble_eq_true rfl) (CV.mono h (fun σ1 h => ?_))
  refine J_lconst (v := (0 : Int64)) dc_Mo_nearest_186 (Eq.refl 187) rfl ?_
  refine J_lstore_n (L' := [(2, .long (0 : Int64)), (0, pv E 0), (1, .int x1)]) dc_Mo_nearest_187 (Eq.refl 188) (Nat.le_of_ble_eq_true rfl) rfl ?_
  refine J_iconst (v := (0 : Int32)) dc_Mo_nearest_188 (Eq.refl 189) rfl ?_
  refine J_istore (L' := [(4, .int (0 : Int32)), (2, .long (0 : Int64)), (0, pv E 0), (1, .int x1)]) dc_Mo_nearest_189 (Eq.refl 191) (Nat.le_of_ble_eq_true rfl) rfl ?_
  refine J_sub [2, 3, 1, 0] rfl ?_
  exact h
theorem b_Mo_nearest_191 {E : En_t} {d : Nat} {σ : S_t} {Q : Option Value → S_t → Prop} {x1 : Int32} {x2 : Int64} {x4 : Int32}
    (h : ((gI σ 0 7) ≤ x4 → ((gI σ 0 7) < 0 → JE E (d + 1) m_Mo_nearest 318 [(1, .int x1), (2, .long x2)] [] σ Q) ∧ (¬ (gI σ 0 7) < 0 → ((gI σ 0 6) ≤ (gI σ 0 7) → JE E (d + 1) m_Mo_nearest 318 [(1, .int x1), (2, .long x2)] [] σ Q) ∧ (¬ (gI σ 0 6) ≤ (gI σ 0 7) → vp_in (gI σ 0 7) 6000 ∧ ((¬ (gI σ 3 (gI σ 0 7).toNatClampNeg) = (5 : Int32) → JE E (d + 1) m_Mo_nearest 282 [(0, pv E 0), (1, .int x1), (2, .long x2)] [] σ Q) ∧ ((gI σ 3 (gI σ 0 7).toNatClampNeg) = (5 : Int32) → (¬ (gI σ 0 6) = ((gI σ 0 7) + (1 : Int32)) → JE E (d + 1) m_Mo_nearest 282 [(0, pv E 0), (1, .int x1), (2, .long x2)] [] σ Q) ∧ ((gI σ 0 6) = ((gI σ 0 7) + (1 : Int32)) → JE E (d + 1) m_Mo_nearest 283 [(0, pv E 0), (1, .int x1), (2, .long x2)] [.int (1 : Int32)] σ Q)))))) ∧ (¬ (gI σ 0 7) ≤ x4 → ((gI σ 0 6) ≤ x4 → JE E (d + 1) m_Mo_nearest 225 [(0, pv E 0), (1, .int x1), (4, .int x4)] [.int (0 : Int32), .long ((10 : Int64) * x2)] σ Q) ∧ (¬ (gI σ 0 6) ≤ x4 → vp_in x4 6000 ∧ (JE E (d + 1) m_Mo_nearest 225 [(0, pv E 0), (1, .int x1), (4, .int x4)] [.int (gI σ 3 x4.toNatClampNeg), .long ((10 : Int64) * x2)] σ Q)))) :
    JE E (d + 1) m_Mo_nearest 191 [(0, pv E 0), (1, .int x1), (2, .long x2), (4, .int x4)] [] σ Q := by
  refine J_iload dc_Mo_nearest_191 (Eq.refl 193) 3 rfl ?_
  refine J_aload_n dc_Mo_nearest_193 (Eq.refl 194) 0 rfl ?_
  refine J_getI dc_Mo_nearest_194 (Eq.refl 197) fl_Mo_178 (Nat.le_of_ble_eq_true rfl) rfl (Or.inl rfl) ?_
  refine J_icmp_ge dc_Mo_nearest_197 (Eq.refl 200) rfl (fun hc => ?_) (fun hc => ?_)
  · have h := h.1 hc
    refine J_aload_n dc_Mo_nearest_234 (Eq.refl 235) 0 rfl ?_
    refine J_getI dc_Mo_nearest_235 (Eq.refl 238) fl_Mo_178 (Nat.le_of_ble_eq_true rfl) rfl (Or.inl rfl) ?_
    refine J_if_lt dc_Mo_nearest_238 (Eq.refl 241) rfl (fun hc => ?_) (fun hc => ?_)
    · have h := h.1 hc
      refine J_sub [1, 2] rfl ?_
      exact h
    · have h := h.2 hc
      refine J_aload_n dc_Mo_nearest_241 (Eq.refl 242) 0 rfl ?_
      refine J_getI dc_Mo_nearest_242 (Eq.refl 245) fl_Mo_178 (Nat.le_of_ble_eq_true rfl) rfl (Or.inl rfl) ?_
      refine J_aload_n dc_Mo_nearest_245 (Eq.refl 246) 0 rfl ?_
      refine J_getI dc_Mo_nearest_246 (Eq.refl 249) fl_Mo_175 (Nat.le_of_ble_eq_true rfl) rfl (Or.inl rfl) ?_
      refine J_icmp_ge dc_Mo_nearest_249 (Eq.refl 252) rfl (fun hc => ?_) (fun hc => ?_)
      · have h := h.1 hc
        refine J_sub [1, 2] rfl ?_
        exact h
      · have h := h.2 hc
        refine J_aload_n dc_Mo_nearest_252 (Eq.refl 253) 0 rfl ?_
        refine J_getF (y := 3) dc_Mo_nearest_253 (Eq.refl 256) fl_Mo_16 (Nat.le_of_ble_eq_true rfl) rfl (Or.inl rfl) rfl ?_
        refine J_aload_n dc_Mo_nearest_256 (Eq.refl 257) 0 rfl ?_
        refine J_getI dc_Mo_nearest_257 (Eq.refl 260) fl_Mo_178 (Nat.le_of_ble_eq_true rfl) rfl (Or.inl rfl) ?_
        obtain ⟨hg, h⟩ := h
        refine J_iald dc_Mo_nearest_260 (Eq.refl 261) rfl rfl hg ?_
        refine J_iconst (v := (5 : Int32)) dc_Mo_nearest_261 (Eq.refl 262) rfl ?_
        refine J_icmp_ne dc_Mo_nearest_262 (Eq.refl 265) rfl (fun hc => ?_) (fun hc => ?_)
        · have h := h.1 hc
          refine J_sub [0, 1, 2] rfl ?_
          exact h
        · have h := h.2 hc
          refine J_aload_n dc_Mo_nearest_265 (Eq.refl 266) 0 rfl ?_
          refine J_getI dc_Mo_nearest_266 (Eq.refl 269) fl_Mo_175 (Nat.le_of_ble_eq_true rfl) rfl (Or.inl rfl) ?_
          refine J_aload_n dc_Mo_nearest_269 (Eq.refl 270) 0 rfl ?_
          refine J_getI dc_Mo_nearest_270 (Eq.refl 273) fl_Mo_178 (Nat.le_of_ble_eq_true rfl) rfl (Or.inl rfl) ?_
          refine J_iconst (v := (1 : Int32)) dc_Mo_nearest_273 (Eq.refl 274) rfl ?_
          refine J_iadd dc_Mo_nearest_274 (Eq.refl 275) ?_
          refine J_icmp_ne dc_Mo_nearest_275 (Eq.refl 278) rfl (fun hc => ?_) (fun hc => ?_)
          · have h := h.1 hc
            refine J_sub [0, 1, 2] rfl ?_
            exact h
          · have h := h.2 hc
            refine J_iconst (v := (1 : Int32)) dc_Mo_nearest_278 (Eq.refl 279) rfl ?_
            refine J_goto dc_Mo_nearest_279 rfl ?_
            refine J_sub [0, 1, 2] rfl ?_
            exact h
  · have h := h.2 hc
    refine J_ldc2 dc_Mo_nearest_200 (Eq.refl 203) kc_Mo_181 ?_
    refine J_lload_n dc_Mo_nearest_203 (Eq.refl 204) 2 rfl ?_
    refine J_lmul dc_Mo_nearest_204 (Eq.refl 205) ?_
    refine J_iload dc_Mo_nearest_205 (Eq.refl 207) 3 rfl ?_
    refine J_aload_n dc_Mo_nearest_207 (Eq.refl 208) 0 rfl ?_
    refine J_getI dc_Mo_nearest_208 (Eq.refl 211) fl_Mo_175 (Nat.le_of_ble_eq_true rfl) rfl (Or.inl rfl) ?_
    refine J_icmp_ge dc_Mo_nearest_211 (Eq.refl 214) rfl (fun hc => ?_) (fun hc => ?_)
    · have h := h.1 hc
      refine J_iconst (v := (0 : Int32)) dc_Mo_nearest_224 (Eq.refl 225) rfl ?_
      refine J_sub [0, 1, 3] rfl ?_
      exact h
    · have h := h.2 hc
      refine J_aload_n dc_Mo_nearest_214 (Eq.refl 215) 0 rfl ?_
      refine J_getF (y := 3) dc_Mo_nearest_215 (Eq.refl 218) fl_Mo_16 (Nat.le_of_ble_eq_true rfl) rfl (Or.inl rfl) rfl ?_
      refine J_iload dc_Mo_nearest_218 (Eq.refl 220) 3 rfl ?_
      obtain ⟨hg, h⟩ := h
      refine J_iald dc_Mo_nearest_220 (Eq.refl 221) rfl rfl hg ?_
      refine J_goto dc_Mo_nearest_221 rfl ?_
      refine J_sub [0, 1, 3] rfl ?_
      exact h
theorem b_Mo_nearest_225 {E : En_t} {d : Nat} {σ : S_t} {Q : Option Value → S_t → Prop} {x1 : Int32} {x4 : Int32} {s0 : Int32} {s1 : Int64}
    (h : JE E (d + 1) m_Mo_nearest 191 [(0, pv E 0), (1, .int x1), (2, .long (s1 + s0.toInt64)), (4, .int (x4 + (1 : Int32)))] [] σ Q) :
    JE E (d + 1) m_Mo_nearest 225 [(0, pv E 0), (1, .int x1), (4, .int x4)] [.int s0, .long s1] σ Q := by
  refine J_i2l dc_Mo_nearest_225 (Eq.refl 226) ?_
  refine J_ladd dc_Mo_nearest_226 (Eq.refl 227) ?_
  refine J_lstore_n (L' := [(2, .long (s1 + s0.toInt64)), (0, pv E 0), (1, .int x1), (4, .int x4)]) dc_Mo_nearest_227 (Eq.refl 228) (Nat.le_of_ble_eq_true rfl) rfl ?_
  refine J_iinc (v := x4 + (1 : Int32)) (L' := [(4, .int (x4 + (1 : Int32))), (2, .long (s1 + s0.toInt64)), (0, pv E 0), (1, .int x1)]) dc_Mo_nearest_228 (Eq.refl 231) 3 rfl rfl (Nat.le_of_ble_eq_true rfl) rfl ?_
  refine J_goto dc_Mo_nearest_231 rfl ?_
  refine J_sub [2, 3, 1, 0] rfl ?_
  exact h
theorem b_Mo_nearest_282 {E : En_t} {d : Nat} {σ : S_t} {Q : Option Value → S_t → Prop} {x1 : Int32} {x2 : Int64}
    (h : JE E (d + 1) m_Mo_nearest 283 [(0, pv E 0), (1, .int x1), (2, .long x2)] [.int (0 : Int32)] σ Q) :
    JE E (d + 1) m_Mo_nearest 282 [(0, pv E 0), (1, .int x1), (2, .long x2)] [] σ Q := by
  refine J_iconst (v := (0 : Int32)) dc_Mo_nearest_282 (Eq.refl 283) rfl ?_
  exact h
theorem b_Mo_nearest_283 {E : En_t} {d : Nat} {σ : S_t} {Q : Option Value → S_t → Prop} {x1 : Int32} {x2 : Int64} {s0 : Int32}
    (h : (s0 = 0 → vp_in (gI σ 0 7) 6000 ∧ (((gI σ 3 (gI σ 0 7).toNatClampNeg) < (5 : Int32) → JE E (d + 1) m_Mo_nearest 318 [(1, .int x1), (2, .long x2)] [] σ Q) ∧ (¬ (gI σ 3 (gI σ 0 7).toNatClampNeg) < (5 : Int32) → JE E (d + 1) m_Mo_nearest 314 [(1, .int x1), (2, .long x2)] [] σ Q))) ∧ (¬ s0 = 0 → (¬ (lg_cmp (x2 &&& (1 : Int64)) (1 : Int64)) = 0 → JE E (d + 1) m_Mo_nearest 318 [(1, .int x1), (2, .long x2)] [] σ Q) ∧ ((lg_cmp (x2 &&& (1 : Int64)) (1 : Int64)) = 0 → JE E (d + 1) m_Mo_nearest 314 [(1, .int x1), (2, .long x2)] [] σ Q))) :
    JE E (d + 1) m_Mo_nearest 283 [(0, pv E 0), (1, .int x1), (2, .long x2)] [.int s0] σ Q := by
  refine J_istore (L' := [(4, .int s0), (0, pv E 0), (1, .int x1), (2, .long x2)]) dc_Mo_nearest_283 (Eq.refl 285) (Nat.le_of_ble_eq_true rfl) rfl ?_
  refine J_iload dc_Mo_nearest_285 (Eq.refl 287) 0 rfl ?_
  refine J_if_eq dc_Mo_nearest_287 (Eq.refl 290) rfl (fun hc => ?_) (fun hc => ?_)
  · have h := h.1 hc
    refine J_aload_n dc_Mo_nearest_301 (Eq.refl 302) 1 rfl ?_
    refine J_getF (y := 3) dc_Mo_nearest_302 (Eq.refl 305) fl_Mo_16 (Nat.le_of_ble_eq_true rfl) rfl (Or.inl rfl) rfl ?_
    refine J_aload_n dc_Mo_nearest_305 (Eq.refl 306) 1 rfl ?_
    refine J_getI dc_Mo_nearest_306 (Eq.refl 309) fl_Mo_178 (Nat.le_of_ble_eq_true rfl) rfl (Or.inl rfl) ?_
    obtain ⟨hg, h⟩ := h
    refine J_iald dc_Mo_nearest_309 (Eq.refl 310) rfl rfl hg ?_
    refine J_iconst (v := (5 : Int32)) dc_Mo_nearest_310 (Eq.refl 311) rfl ?_
    refine J_icmp_lt dc_Mo_nearest_311 (Eq.refl 314) rfl (fun hc => ?_) (fun hc => ?_)
    · have h := h.1 hc
      refine J_sub [2, 3] rfl ?_
      exact h
    · have h := h.2 hc
      refine J_sub [2, 3] rfl ?_
      exact h
  · have h := h.2 hc
    refine J_lload_n dc_Mo_nearest_290 (Eq.refl 291) 3 rfl ?_
    refine J_lconst (v := (1 : Int64)) dc_Mo_nearest_291 (Eq.refl 292) rfl ?_
    refine J_land dc_Mo_nearest_292 (Eq.refl 293) ?_
    refine J_lconst (v := (1 : Int64)) dc_Mo_nearest_293 (Eq.refl 294) rfl ?_
    refine J_lcmp dc_Mo_nearest_294 (Eq.refl 295) ?_
    refine J_if_ne dc_Mo_nearest_295 (Eq.refl 298) rfl (fun hc => ?_) (fun hc => ?_)
    · have h := h.1 hc
      refine J_sub [2, 3] rfl ?_
      exact h
    · have h := h.2 hc
      refine J_goto dc_Mo_nearest_298 rfl ?_
      refine J_sub [2, 3] rfl ?_
      exact h
theorem b_Mo_nearest_314 {E : En_t} {d : Nat} {σ : S_t} {Q : Option Value → S_t → Prop} {x1 : Int32} {x2 : Int64}
    (h : JE E (d + 1) m_Mo_nearest 318 [(1, .int x1), (2, .long (x2 + (1 : Int64)))] [] σ Q) :
    JE E (d + 1) m_Mo_nearest 314 [(1, .int x1), (2, .long x2)] [] σ Q := by
  refine J_lload_n dc_Mo_nearest_314 (Eq.refl 315) 1 rfl ?_
  refine J_lconst (v := (1 : Int64)) dc_Mo_nearest_315 (Eq.refl 316) rfl ?_
  refine J_ladd dc_Mo_nearest_316 (Eq.refl 317) ?_
  refine J_lstore_n (L' := [(2, .long (x2 + (1 : Int64))), (1, .int x1)]) dc_Mo_nearest_317 (Eq.refl 318) (Nat.le_of_ble_eq_true rfl) rfl ?_
  refine J_sub [1, 0] rfl ?_
  exact h
theorem b_Mo_nearest_318 {E : En_t} {d : Nat} {σ : S_t} {Q : Option Value → S_t → Prop} {x1 : Int32} {x2 : Int64}
    (h : (¬ (lg_cmp x2 (9007199254740992 : Int64)) = 0 → JE E (d + 1) m_Mo_nearest 344 [(1, .int x1), (2, .long x2)] [] σ Q) ∧ ((lg_cmp x2 (9007199254740992 : Int64)) = 0 → ((x1 + (1 : Int32)) ≤ (1023 : Int32) → JE E (d + 1) m_Mo_nearest 344 [(1, .int (x1 + (1 : Int32))), (2, .long (4503599627370496 : Int64))] [] σ Q) ∧ (¬ (x1 + (1 : Int32)) ≤ (1023 : Int32) → Q (some (.long (9218868437227405312 : Int64))) σ))) :
    JE E (d + 1) m_Mo_nearest 318 [(1, .int x1), (2, .long x2)] [] σ Q := by
  refine J_lload_n dc_Mo_nearest_318 (Eq.refl 319) 1 rfl ?_
  refine J_ldc2 dc_Mo_nearest_319 (Eq.refl 322) kc_Mo_200 ?_
  refine J_lcmp dc_Mo_nearest_322 (Eq.refl 323) ?_
  refine J_if_ne dc_Mo_nearest_323 (Eq.refl 326) rfl (fun hc => ?_) (fun hc => ?_)
  · have h := h.1 hc
    exact h
  · have h := h.2 hc
    refine J_ldc2 dc_Mo_nearest_326 (Eq.refl 329) kc_Mo_202 ?_
    refine J_lstore_n (L' := [(2, .long (4503599627370496 : Int64)), (1, .int x1)]) dc_Mo_nearest_329 (Eq.refl 330) (Nat.le_of_ble_eq_true rfl) rfl ?_
    refine J_iinc (v := x1 + (1 : Int32)) (L' := [(1, .int (x1 + (1 : Int32))), (2, .long (4503599627370496 : Int64))]) dc_Mo_nearest_330 (Eq.refl 333) 1 rfl rfl (Nat.le_of_ble_eq_true rfl) rfl ?_
    refine J_iload_n dc_Mo_nearest_333 (Eq.refl 334) 0 rfl ?_
    refine J_sipush (v := (1023 : Int32)) dc_Mo_nearest_334 (Eq.refl 337) rfl ?_
    refine J_icmp_le dc_Mo_nearest_337 (Eq.refl 340) rfl (fun hc => ?_) (fun hc => ?_)
    · have h := h.1 hc
      exact h
    · have h := h.2 hc
      refine J_ldc2 dc_Mo_nearest_340 (Eq.refl 343) kc_Mo_192 ?_
      exact J_lret dc_Mo_nearest_343 rfl h
theorem b_Mo_nearest_344 {E : En_t} {d : Nat} {σ : S_t} {Q : Option Value → S_t → Prop} {x1 : Int32} {x2 : Int64}
    (h : (0 ≤ (lg_cmp x2 (4503599627370496 : Int64)) → Q (some (.long ((x2 &&& (4503599627370495 : Int64)) ||| (((x1 + (1023 : Int32)).toInt64) <<< ((52 : Int32).toInt64 &&& 63))))) σ) ∧ (¬ 0 ≤ (lg_cmp x2 (4503599627370496 : Int64)) → Q (some (.long x2)) σ)) :
    JE E (d + 1) m_Mo_nearest 344 [(1, .int x1), (2, .long x2)] [] σ Q := by
  refine J_lload_n dc_Mo_nearest_344 (Eq.refl 345) 1 rfl ?_
  refine J_ldc2 dc_Mo_nearest_345 (Eq.refl 348) kc_Mo_202 ?_
  refine J_lcmp dc_Mo_nearest_348 (Eq.refl 349) ?_
  refine J_if_ge dc_Mo_nearest_349 (Eq.refl 352) rfl (fun hc => ?_) (fun hc => ?_)
  · have h := h.1 hc
    refine J_lload_n dc_Mo_nearest_356 (Eq.refl 357) 1 rfl ?_
    refine J_ldc2 dc_Mo_nearest_357 (Eq.refl 360) kc_Mo_204 ?_
    refine J_land dc_Mo_nearest_360 (Eq.refl 361) ?_
    refine J_iload_n dc_Mo_nearest_361 (Eq.refl 362) 0 rfl ?_
    refine J_sipush (v := (1023 : Int32)) dc_Mo_nearest_362 (Eq.refl 365) rfl ?_
    refine J_iadd dc_Mo_nearest_365 (Eq.refl 366) ?_
    refine J_i2l dc_Mo_nearest_366 (Eq.refl 367) ?_
    refine J_bipush (v := (52 : Int32)) dc_Mo_nearest_367 (Eq.refl 369) rfl ?_
    refine J_lshl dc_Mo_nearest_369 (Eq.refl 370) ?_
    refine J_lor dc_Mo_nearest_370 (Eq.refl 371) ?_
    exact J_lret dc_Mo_nearest_371 rfl h
  · have h := h.2 hc
    refine J_lload_n dc_Mo_nearest_352 (Eq.refl 353) 1 rfl ?_
    refine J_goto dc_Mo_nearest_353 rfl ?_
    exact J_lret dc_Mo_nearest_371 rfl h
theorem dc_Mo_trim_0 : decode m_Mo_trim.2.1 0 = .ok (.aload_n 0, 1) := by decide +kernel
theorem dc_Mo_trim_1 : decode m_Mo_trim.2.1 1 = .ok (.getfield 175, 3) := by decide +kernel
theorem dc_Mo_trim_4 : decode m_Mo_trim.2.1 4 = .ok (.ifCond .le 30, 3) := by decide +kernel
theorem dc_Mo_trim_7 : decode m_Mo_trim.2.1 7 = .ok (.aload_n 0, 1) := by decide +kernel
theorem dc_Mo_trim_8 : decode m_Mo_trim.2.1 8 = .ok (.getfield 16, 3) := by decide +kernel
theorem dc_Mo_trim_11 : decode m_Mo_trim.2.1 11 = .ok (.aload_n 0, 1) := by decide +kernel
theorem dc_Mo_trim_12 : decode m_Mo_trim.2.1 12 = .ok (.getfield 175, 3) := by decide +kernel
theorem dc_Mo_trim_15 : decode m_Mo_trim.2.1 15 = .ok (.iconst 1, 1) := by decide +kernel
theorem dc_Mo_trim_16 : decode m_Mo_trim.2.1 16 = .ok (.isub, 1) := by decide +kernel
theorem dc_Mo_trim_17 : decode m_Mo_trim.2.1 17 = .ok (.iaload, 1) := by decide +kernel
theorem dc_Mo_trim_18 : decode m_Mo_trim.2.1 18 = .ok (.ifCond .ne 16, 3) := by decide +kernel
theorem dc_Mo_trim_21 : decode m_Mo_trim.2.1 21 = .ok (.aload_n 0, 1) := by decide +kernel
theorem dc_Mo_trim_22 : decode m_Mo_trim.2.1 22 = .ok (.dup, 1) := by decide +kernel
theorem dc_Mo_trim_23 : decode m_Mo_trim.2.1 23 = .ok (.getfield 175, 3) := by decide +kernel
theorem dc_Mo_trim_26 : decode m_Mo_trim.2.1 26 = .ok (.iconst 1, 1) := by decide +kernel
theorem dc_Mo_trim_27 : decode m_Mo_trim.2.1 27 = .ok (.isub, 1) := by decide +kernel
theorem dc_Mo_trim_28 : decode m_Mo_trim.2.1 28 = .ok (.putfield 175, 3) := by decide +kernel
theorem dc_Mo_trim_31 : decode m_Mo_trim.2.1 31 = .ok (.goto (-31), 3) := by decide +kernel
theorem dc_Mo_trim_34 : decode m_Mo_trim.2.1 34 = .ok (.aload_n 0, 1) := by decide +kernel
theorem dc_Mo_trim_35 : decode m_Mo_trim.2.1 35 = .ok (.getfield 175, 3) := by decide +kernel
theorem dc_Mo_trim_38 : decode m_Mo_trim.2.1 38 = .ok (.ifCond .ne 8, 3) := by decide +kernel
theorem dc_Mo_trim_41 : decode m_Mo_trim.2.1 41 = .ok (.aload_n 0, 1) := by decide +kernel
theorem dc_Mo_trim_42 : decode m_Mo_trim.2.1 42 = .ok (.iconst 0, 1) := by decide +kernel
theorem dc_Mo_trim_43 : decode m_Mo_trim.2.1 43 = .ok (.putfield 178, 3) := by decide +kernel
theorem dc_Mo_trim_46 : decode m_Mo_trim.2.1 46 = .ok (.return_, 1) := by decide +kernel
theorem b_Mo_trim_0 {E : En_t} {d : Nat} {σ : S_t} {Q : Option Value → S_t → Prop}
    (h : ((gI σ 0 6) ≤ 0 → JE E d m_Mo_trim 34 [(0, pv E 0)] [] σ Q) ∧ (¬ (gI σ 0 6) ≤ 0 → vp_in ((gI σ 0 6) - (1 : Int32)) 6000 ∧ ((¬ (gI σ 3 ((gI σ 0 6) - (1 : Int32)).toNatClampNeg) = 0 → JE E d m_Mo_trim 34 [(0, pv E 0)] [] σ Q) ∧ ((gI σ 3 ((gI σ 0 6) - (1 : Int32)).toNatClampNeg) = 0 → JE E d m_Mo_trim 0 [(0, pv E 0)] [] (sI σ 0 6 ((gI σ 0 6) - (1 : Int32))) Q)))) :
    JE E d m_Mo_trim 0 [(0, pv E 0)] [] σ Q := by
  refine J_aload_n dc_Mo_trim_0 (Eq.refl 1) 0 rfl ?_
  refine J_getI dc_Mo_trim_1 (Eq.refl 4) fl_Mo_175 (Nat.le_of_ble_eq_true rfl) rfl (Or.inl rfl) ?_
  refine J_if_le dc_Mo_trim_4 (Eq.refl 7) rfl (fun hc => ?_) (fun hc => ?_)
  · have h := h.1 hc
    exact h
  · have h := h.2 hc
    refine J_aload_n dc_Mo_trim_7 (Eq.refl 8) 0 rfl ?_
    refine J_getF (y := 3) dc_Mo_trim_8 (Eq.refl 11) fl_Mo_16 (Nat.le_of_ble_eq_true rfl) rfl (Or.inl rfl) rfl ?_
    refine J_aload_n dc_Mo_trim_11 (Eq.refl 12) 0 rfl ?_
    refine J_getI dc_Mo_trim_12 (Eq.refl 15) fl_Mo_175 (Nat.le_of_ble_eq_true rfl) rfl (Or.inl rfl) ?_
    refine J_iconst (v := (1 : Int32)) dc_Mo_trim_15 (Eq.refl 16) rfl ?_
    refine J_isub dc_Mo_trim_16 (Eq.refl 17) ?_
    obtain ⟨hg, h⟩ := h
    refine J_iald dc_Mo_trim_17 (Eq.refl 18) rfl rfl hg ?_
    refine J_if_ne dc_Mo_trim_18 (Eq.refl 21) rfl (fun hc => ?_) (fun hc => ?_)
    · have h := h.1 hc
      exact h
    · have h := h.2 hc
      refine J_aload_n dc_Mo_trim_21 (Eq.refl 22) 0 rfl ?_
      refine J_dup dc_Mo_trim_22 (Eq.refl 23) rfl ?_
      refine J_getI dc_Mo_trim_23 (Eq.refl 26) fl_Mo_175 (Nat.le_of_ble_eq_true rfl) rfl (Or.inl rfl) ?_
      refine J_iconst (v := (1 : Int32)) dc_Mo_trim_26 (Eq.refl 27) rfl ?_
      refine J_isub dc_Mo_trim_27 (Eq.refl 28) ?_
      refine J_putI dc_Mo_trim_28 (Eq.refl 31) pl_Mo_175 (Nat.le_of_ble_eq_true rfl) rfl rfl ?_
      refine J_goto dc_Mo_trim_31 rfl ?_
      exact h
theorem b_Mo_trim_34 {E : En_t} {d : Nat} {σ : S_t} {Q : Option Value → S_t → Prop}
    (h : (¬ (gI σ 0 6) = 0 → Q none σ) ∧ ((gI σ 0 6) = 0 → Q none (sI σ 0 7 (0 : Int32)))) :
    JE E d m_Mo_trim 34 [(0, pv E 0)] [] σ Q := by
  refine J_aload_n dc_Mo_trim_34 (Eq.refl 35) 0 rfl ?_
  refine J_getI dc_Mo_trim_35 (Eq.refl 38) fl_Mo_175 (Nat.le_of_ble_eq_true rfl) rfl (Or.inl rfl) ?_
  refine J_if_ne dc_Mo_trim_38 (Eq.refl 41) rfl (fun hc => ?_) (fun hc => ?_)
  · have h := h.1 hc
    exact J_vret dc_Mo_trim_46 rfl h
  · have h := h.2 hc
    refine J_aload_n dc_Mo_trim_41 (Eq.refl 42) 0 rfl ?_
    refine J_iconst (v := (0 : Int32)) dc_Mo_trim_42 (Eq.refl 43) rfl ?_
    refine J_putI dc_Mo_trim_43 (Eq.refl 46) pl_Mo_178 (Nat.le_of_ble_eq_true rfl) rfl rfl ?_
    exact J_vret dc_Mo_trim_46 rfl h
