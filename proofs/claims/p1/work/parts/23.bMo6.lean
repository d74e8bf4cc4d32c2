theorem dc_Mo_lay_0 : decode m_Mo_lay.2.1 0 = .ok (.aload_n 0, 1) := by decide +kernel
theorem dc_Mo_lay_1 : decode m_Mo_lay.2.1 1 = .ok (.getfield 41, 3) := by decide +kernel
theorem dc_Mo_lay_4 : decode m_Mo_lay.2.1 4 = .ok (.bipush 8, 2) := by decide +kernel
theorem dc_Mo_lay_6 : decode m_Mo_lay.2.1 6 = .ok (.iaload, 1) := by decide +kernel
theorem dc_Mo_lay_7 : decode m_Mo_lay.2.1 7 = .ok (.iload_n 1, 1) := by decide +kernel
theorem dc_Mo_lay_8 : decode m_Mo_lay.2.1 8 = .ok (.invokestatic 306, 3) := by decide +kernel
theorem dc_Mo_lay_11 : decode m_Mo_lay.2.1 11 = .ok (.iadd, 1) := by decide +kernel
theorem dc_Mo_lay_12 : decode m_Mo_lay.2.1 12 = .ok (.sipush 4000, 3) := by decide +kernel
theorem dc_Mo_lay_15 : decode m_Mo_lay.2.1 15 = .ok (.if_icmp .le 8, 3) := by decide +kernel
theorem dc_Mo_lay_18 : decode m_Mo_lay.2.1 18 = .ok (.aload_n 0, 1) := by decide +kernel
theorem dc_Mo_lay_19 : decode m_Mo_lay.2.1 19 = .ok (.iconst 1, 1) := by decide +kernel
theorem dc_Mo_lay_20 : decode m_Mo_lay.2.1 20 = .ok (.putfield 299, 3) := by decide +kernel
theorem dc_Mo_lay_23 : decode m_Mo_lay.2.1 23 = .ok (.aload_n 0, 1) := by decide +kernel
theorem dc_Mo_lay_24 : decode m_Mo_lay.2.1 24 = .ok (.getfield 299, 3) := by decide +kernel
theorem dc_Mo_lay_27 : decode m_Mo_lay.2.1 27 = .ok (.ifCond .eq 4, 3) := by decide +kernel
theorem dc_Mo_lay_30 : decode m_Mo_lay.2.1 30 = .ok (.return_, 1) := by decide +kernel
theorem dc_Mo_lay_31 : decode m_Mo_lay.2.1 31 = .ok (.aload_n 0, 1) := by decide +kernel
theorem dc_Mo_lay_32 : decode m_Mo_lay.2.1 32 = .ok (.getfield 88, 3) := by decide +kernel
theorem dc_Mo_lay_35 : decode m_Mo_lay.2.1 35 = .ok (.sipush 32000, 3) := by decide +kernel
theorem dc_Mo_lay_38 : decode m_Mo_lay.2.1 38 = .ok (.aload_n 0, 1) := by decide +kernel
theorem dc_Mo_lay_39 : decode m_Mo_lay.2.1 39 = .ok (.getfield 38, 3) := by decide +kernel
theorem dc_Mo_lay_42 : decode m_Mo_lay.2.1 42 = .ok (.bipush 8, 2) := by decide +kernel
theorem dc_Mo_lay_44 : decode m_Mo_lay.2.1 44 = .ok (.iaload, 1) := by decide +kernel
theorem dc_Mo_lay_45 : decode m_Mo_lay.2.1 45 = .ok (.iadd, 1) := by decide +kernel
theorem dc_Mo_lay_46 : decode m_Mo_lay.2.1 46 = .ok (.iload_n 1, 1) := by decide +kernel
theorem dc_Mo_lay_47 : decode m_Mo_lay.2.1 47 = .ok (.iastore, 1) := by decide +kernel
theorem dc_Mo_lay_48 : decode m_Mo_lay.2.1 48 = .ok (.aload_n 0, 1) := by decide +kernel
theorem dc_Mo_lay_49 : decode m_Mo_lay.2.1 49 = .ok (.getfield 38, 3) := by decide +kernel
theorem dc_Mo_lay_52 : decode m_Mo_lay.2.1 52 = .ok (.bipush 8, 2) := by decide +kernel
theorem dc_Mo_lay_54 : decode m_Mo_lay.2.1 54 = .ok (.dup2, 1) := by decide +kernel
theorem dc_Mo_lay_55 : decode m_Mo_lay.2.1 55 = .ok (.iaload, 1) := by decide +kernel
theorem dc_Mo_lay_56 : decode m_Mo_lay.2.1 56 = .ok (.iconst 1, 1) := by decide +kernel
theorem dc_Mo_lay_57 : decode m_Mo_lay.2.1 57 = .ok (.iadd, 1) := by decide +kernel
theorem dc_Mo_lay_58 : decode m_Mo_lay.2.1 58 = .ok (.iastore, 1) := by decide +kernel
theorem dc_Mo_lay_59 : decode m_Mo_lay.2.1 59 = .ok (.aload_n 0, 1) := by decide +kernel
theorem dc_Mo_lay_60 : decode m_Mo_lay.2.1 60 = .ok (.getfield 41, 3) := by decide +kernel
theorem dc_Mo_lay_63 : decode m_Mo_lay.2.1 63 = .ok (.bipush 8, 2) := by decide +kernel
theorem dc_Mo_lay_65 : decode m_Mo_lay.2.1 65 = .ok (.dup2, 1) := by decide +kernel
theorem dc_Mo_lay_66 : decode m_Mo_lay.2.1 66 = .ok (.iaload, 1) := by decide +kernel
theorem dc_Mo_lay_67 : decode m_Mo_lay.2.1 67 = .ok (.iload_n 1, 1) := by decide +kernel
theorem dc_Mo_lay_68 : decode m_Mo_lay.2.1 68 = .ok (.invokestatic 306, 3) := by decide +kernel
theorem dc_Mo_lay_71 : decode m_Mo_lay.2.1 71 = .ok (.iadd, 1) := by decide +kernel
theorem dc_Mo_lay_72 : decode m_Mo_lay.2.1 72 = .ok (.iastore, 1) := by decide +kernel
theorem dc_Mo_lay_73 : decode m_Mo_lay.2.1 73 = .ok (.return_, 1) := by decide +kernel
theorem b_Mo_lay_0 {E : En_t} {d : Nat} {σ : S_t} {Q : Option Value → S_t → Prop} {x1 : Int32}
    (h : vp_in (8 : Int32) 9 ∧ (CI E d m_Mo_bytesOf [.int x1] σ (fun r2 σ1 => (((gI σ 11 (8 : Int32).toNatClampNeg) + r2) ≤ (4000 : Int32) → JE E (d + 1) m_Mo_lay 23 [(0, pv E 0), (1, .int x1)] [] σ1 Q) ∧ (¬ ((gI σ 11 (8 : Int32).toNatClampNeg) + r2) ≤ (4000 : Int32) → JE E (d + 1) m_Mo_lay 23 [(0, pv E 0), (1, .int x1)] [] (sI σ1 0 39 (1 : Int32)) Q)))) :
    JE E (d + 1) m_Mo_lay 0 [(0, pv E 0), (1, .int x1)] [] σ Q := by
  refine J_aload_n dc_Mo_lay_0 (Eq.refl 1) 0 rfl ?_
  refine J_getF (y := 11) dc_Mo_lay_1 (Eq.refl 4) fl_Mo_41 (Nat.le_of_ble_eq_true rfl) rfl (Or.inl rfl) rfl ?_
  refine J_bipush (v := (8 : Int32)) dc_Mo_lay_4 (Eq.refl 6) rfl ?_
  obtain ⟨hg, h⟩ := h
  refine J_iald dc_Mo_lay_6 (Eq.refl 7) rfl rfl hg ?_
  refine J_iload_n dc_Mo_lay_7 (Eq.refl 8) 1 rfl ?_
  refine J_callSI (As := [.int x1]) (st := [.int (gI σ 11 (8 : Int32).toNatClampNeg)]) dc_Mo_lay_8 (Eq.refl 11) lk_Mo_306 mi_Mo_bytesOf (Nat.le_of_ble_eq_true rfl) rfl (Nat.le_of_ble_eq_true rfl) (CI.mono h (fun r2 σ1 h => ?_))
  refine J_iadd dc_Mo_lay_11 (Eq.refl 12) ?_
  refine J_sipush (v := (4000 : Int32)) dc_Mo_lay_12 (Eq.refl 15) rfl ?_
  refine J_icmp_le dc_Mo_lay_15 (Eq.refl 18) rfl (fun hc => ?_) (fun hc => ?_)
  · have h := h.1 hc
    exact h
  · have h := h.2 hc
    refine J_aload_n dc_Mo_lay_18 (Eq.refl 19) 0 rfl ?_
    refine J_iconst (v := (1 : Int32)) dc_Mo_lay_19 (Eq.refl 20) rfl ?_
    refine J_putZ dc_Mo_lay_20 (Eq.refl 23) pl_Mo_299 (Nat.le_of_ble_eq_true rfl) rfl rfl (Or.inr rfl) ?_
    exact h
theorem b_Mo_lay_23 {E : En_t} {d : Nat} {σ : S_t} {Q : Option Value → S_t → Prop} {x1 : Int32}
    (h : ((gI σ 0 39) = 0 → vp_in (8 : Int32) 9 ∧ (vp_in ((32000 : Int32) + (gI σ 10 (8 : Int32).toNatClampNeg)) 36000 ∧ (vp_in (8 : Int32) 9 ∧ (∀ v1, v1 = gI (sI σ 26 ((32000 : Int32) + (gI σ 10 (8 : Int32).toNatClampNeg)).toNatClampNeg x1) 10 (8 : Int32).toNatClampNeg → (vp_in (8 : Int32) 9 ∧ (vp_in (8 : Int32) 9 ∧ (∀ v2, v2 = gI (sI (sI σ 26 ((32000 : Int32) + (gI σ 10 (8 : Int32).toNatClampNeg)).toNatClampNeg x1) 10 (8 : Int32).toNatClampNeg (v1 + (1 : Int32))) 11 (8 : Int32).toNatClampNeg → (CI E d m_Mo_bytesOf [.int x1] (sI (sI σ 26 ((32000 : Int32) + (gI σ 10 (8 : Int32).toNatClampNeg)).toNatClampNeg x1) 10 (8 : Int32).toNatClampNeg (v1 + (1 : Int32))) (fun r4 σ3 => vp_in (8 : Int32) 9 ∧ (Q none (sI σ3 11 (8 : Int32).toNatClampNeg (v2 + r4)))))))))))) ∧ (¬ (gI σ 0 39) = 0 → Q none σ)) :
    JE E (d + 1) m_Mo_lay 23 [(0, pv E 0), (1, .int x1)] [] σ Q := by
  refine J_aload_n dc_Mo_lay_23 (Eq.refl 24) 0 rfl ?_
  refine J_getI dc_Mo_lay_24 (Eq.refl 27) fl_Mo_299 (Nat.le_of_ble_eq_true rfl) rfl (Or.inr rfl) ?_
  refine J_if_eq dc_Mo_lay_27 (Eq.refl 30) rfl (fun hc => ?_) (fun hc => ?_)
  · have h := h.1 hc
    refine J_aload_n dc_Mo_lay_31 (Eq.refl 32) 0 rfl ?_
    refine J_getF (y := 26) dc_Mo_lay_32 (Eq.refl 35) fl_Mo_88 (Nat.le_of_ble_eq_true rfl) rfl (Or.inl rfl) rfl ?_
    refine J_sipush (v := (32000 : Int32)) dc_Mo_lay_35 (Eq.refl 38) rfl ?_
    refine J_aload_n dc_Mo_lay_38 (Eq.refl 39) 0 rfl ?_
    refine J_getF (y := 10) dc_Mo_lay_39 (Eq.refl 42) fl_Mo_38 (Nat.le_of_ble_eq_true rfl) rfl (Or.inl rfl) rfl ?_
    refine J_bipush (v := (8 : Int32)) dc_Mo_lay_42 (Eq.refl 44) rfl ?_
    obtain ⟨hg, h⟩ := h
    refine J_iald dc_Mo_lay_44 (Eq.refl 45) rfl rfl hg ?_
    refine J_iadd dc_Mo_lay_45 (Eq.refl 46) ?_
    refine J_iload_n dc_Mo_lay_46 (Eq.refl 47) 1 rfl ?_
    obtain ⟨hg, h⟩ := h
    refine J_iast dc_Mo_lay_47 (Eq.refl 48) rfl rfl hg ?_
    refine J_aload_n dc_Mo_lay_48 (Eq.refl 49) 0 rfl ?_
    refine J_getF (y := 10) dc_Mo_lay_49 (Eq.refl 52) fl_Mo_38 (Nat.le_of_ble_eq_true rfl) rfl (Or.inl rfl) rfl ?_
    refine J_bipush (v := (8 : Int32)) dc_Mo_lay_52 (Eq.refl 54) rfl ?_
    refine J_dup2_11 dc_Mo_lay_54 (Eq.refl 55) rfl rfl ?_
    obtain ⟨hg, h⟩ := h
    refine J_iald dc_Mo_lay_55 (Eq.refl 56) rfl rfl hg ?_
    refine J_topi (fun v1 ev1 => ?_)
    have h := h v1 ev1
    refine J_iconst (v := (1 : Int32)) dc_Mo_lay_56 (Eq.refl 57) rfl ?_
    refine J_iadd dc_Mo_lay_57 (Eq.refl 58) ?_
    obtain ⟨hg, h⟩ := h
    refine J_iast dc_Mo_lay_58 (Eq.refl 59) rfl rfl hg ?_
    refine J_aload_n dc_Mo_lay_59 (Eq.refl 60) 0 rfl ?_
    refine J_getF (y := 11) dc_Mo_lay_60 (Eq.refl 63) fl_Mo_41 (Nat.le_of_ble_eq_true rfl) rfl (Or.inl rfl) rfl ?_
    refine J_bipush (v := (8 : Int32)) dc_Mo_lay_63 (Eq.refl 65) rfl ?_
    refine J_dup2_11 dc_Mo_lay_65 (Eq.refl 66) rfl rfl ?_
    obtain ⟨hg, h⟩ := h
    refine J_iald dc_Mo_lay_66 (Eq.refl 67) rfl rfl hg ?_
    refine J_topi (fun v2 ev2 => ?_)
    have h := h v2 ev2
    refine J_iload_n dc_Mo_lay_67 (Eq.refl 68) 1 rfl ?_
    refine J_callSI (As := [.int x1]) (st := [.int v2, .int (8 : Int32), pv E 11]) dc_Mo_lay_68 (Eq.refl 71) lk_Mo_306 mi_Mo_bytesOf (Nat.le_of_ble_eq_true rfl) rfl (Nat.le_of_ble_eq_true rfl) (CI.mono h (fun r4 σ3 h => ?_))
    refine J_iadd dc_Mo_lay_71 (Eq.refl 72) ?_
    obtain ⟨hg, h⟩ := h
    refine J_iast dc_Mo_lay_72 (Eq.refl 73) rfl rfl hg ?_
    exact J_vret dc_Mo_lay_73 rfl h
  · have h := h.2 hc
    exact J_vret dc_Mo_lay_30 rfl h
theorem dc_Mo_bytesOf_0 : decode m_Mo_bytesOf.2.1 0 = .ok (.iload_n 0, 1) := by decide +kernel
theorem dc_Mo_bytesOf_1 : decode m_Mo_bytesOf.2.1 1 = .ok (.sipush 128, 3) := by decide +kernel
theorem dc_Mo_bytesOf_4 : decode m_Mo_bytesOf.2.1 4 = .ok (.if_icmp .ge 7, 3) := by decide +kernel
theorem dc_Mo_bytesOf_7 : decode m_Mo_bytesOf.2.1 7 = .ok (.iconst 1, 1) := by decide +kernel
theorem dc_Mo_bytesOf_8 : decode m_Mo_bytesOf.2.1 8 = .ok (.goto 26, 3) := by decide +kernel
theorem dc_Mo_bytesOf_11 : decode m_Mo_bytesOf.2.1 11 = .ok (.iload_n 0, 1) := by decide +kernel
theorem dc_Mo_bytesOf_12 : decode m_Mo_bytesOf.2.1 12 = .ok (.sipush 2048, 3) := by decide +kernel
theorem dc_Mo_bytesOf_15 : decode m_Mo_bytesOf.2.1 15 = .ok (.if_icmp .ge 7, 3) := by decide +kernel
theorem dc_Mo_bytesOf_18 : decode m_Mo_bytesOf.2.1 18 = .ok (.iconst 2, 1) := by decide +kernel
theorem dc_Mo_bytesOf_19 : decode m_Mo_bytesOf.2.1 19 = .ok (.goto 15, 3) := by decide +kernel
theorem dc_Mo_bytesOf_22 : decode m_Mo_bytesOf.2.1 22 = .ok (.iload_n 0, 1) := by decide +kernel
theorem dc_Mo_bytesOf_23 : decode m_Mo_bytesOf.2.1 23 = .ok (.ldc_w 294, 3) := by decide +kernel
theorem dc_Mo_bytesOf_26 : decode m_Mo_bytesOf.2.1 26 = .ok (.if_icmp .ge 7, 3) := by decide +kernel
theorem dc_Mo_bytesOf_29 : decode m_Mo_bytesOf.2.1 29 = .ok (.iconst 3, 1) := by decide +kernel
theorem dc_Mo_bytesOf_30 : decode m_Mo_bytesOf.2.1 30 = .ok (.goto 4, 3) := by decide +kernel
theorem dc_Mo_bytesOf_33 : decode m_Mo_bytesOf.2.1 33 = .ok (.iconst 4, 1) := by decide +kernel
theorem dc_Mo_bytesOf_34 : decode m_Mo_bytesOf.2.1 34 = .ok (.ireturn, 1) := by decide +kernel
theorem b_Mo_bytesOf_0 {E : En_t} {d : Nat} {σ : S_t} {Q : Option Value → S_t → Prop} {x0 : Int32}
    (h : ((128 : Int32) ≤ x0 → ((2048 : Int32) ≤ x0 → ((65536 : Int32) ≤ x0 → Q (some (.int (4 : Int32))) σ) ∧ (¬ (65536 : Int32) ≤ x0 → Q (some (.int (3 : Int32))) σ)) ∧ (¬ (2048 : Int32) ≤ x0 → Q (some (.int (2 : Int32))) σ)) ∧ (¬ (128 : Int32) ≤ x0 → Q (some (.int (1 : Int32))) σ)) :
    JE E d m_Mo_bytesOf 0 [(0, .int x0)] [] σ Q := by
  refine J_iload_n dc_Mo_bytesOf_0 (Eq.refl 1) 0 rfl ?_
  refine J_sipush (v := (128 : Int32)) dc_Mo_bytesOf_1 (Eq.refl 4) rfl ?_
  refine J_icmp_ge dc_Mo_bytesOf_4 (Eq.refl 7) rfl (fun hc => ?_) (fun hc => ?_)
  · have h := h.1 hc
    refine J_iload_n dc_Mo_bytesOf_11 (Eq.refl 12) 0 rfl ?_
    refine J_sipush (v := (2048 : Int32)) dc_Mo_bytesOf_12 (Eq.refl 15) rfl ?_
    refine J_icmp_ge dc_Mo_bytesOf_15 (Eq.refl 18) rfl (fun hc => ?_) (fun hc => ?_)
    · have h := h.1 hc
      refine J_iload_n dc_Mo_bytesOf_22 (Eq.refl 23) 0 rfl ?_
      refine J_ldcw dc_Mo_bytesOf_23 (Eq.refl 26) kc_Mo_294 ?_
      refine J_icmp_ge dc_Mo_bytesOf_26 (Eq.refl 29) rfl (fun hc => ?_) (fun hc => ?_)
      · have h := h.1 hc
        refine J_iconst (v := (4 : Int32)) dc_Mo_bytesOf_33 (Eq.refl 34) rfl ?_
        exact J_iret dc_Mo_bytesOf_34 rfl h
      · have h := h.2 hc
        refine J_iconst (v := (3 : Int32)) dc_Mo_bytesOf_29 (Eq.refl 30) rfl ?_
        refine J_goto dc_Mo_bytesOf_30 rfl ?_
        exact J_iret dc_Mo_bytesOf_34 rfl h
    · have h := h.2 hc
      refine J_iconst (v := (2 : Int32)) dc_Mo_bytesOf_18 (Eq.refl 19) rfl ?_
      refine J_goto dc_Mo_bytesOf_19 rfl ?_
      exact J_iret dc_Mo_bytesOf_34 rfl h
  · have h := h.2 hc
    refine J_iconst (v := (1 : Int32)) dc_Mo_bytesOf_7 (Eq.refl 8) rfl ?_
    refine J_goto dc_Mo_bytesOf_8 rfl ?_
    exact J_iret dc_Mo_bytesOf_34 rfl h
theorem dc_Mo_order_0 : decode m_Mo_order.2.1 0 = .ok (.iconst 0, 1) := by decide +kernel
theorem dc_Mo_order_1 : decode m_Mo_order.2.1 1 = .ok (.istore_n 2, 1) := by decide +kernel
theorem dc_Mo_order_2 : decode m_Mo_order.2.1 2 = .ok (.aload_n 0, 1) := by decide +kernel
theorem dc_Mo_order_3 : decode m_Mo_order.2.1 3 = .ok (.getfield 108, 3) := by decide +kernel
theorem dc_Mo_order_6 : decode m_Mo_order.2.1 6 = .ok (.iload_n 1, 1) := by decide +kernel
theorem dc_Mo_order_7 : decode m_Mo_order.2.1 7 = .ok (.iaload, 1) := by decide +kernel
theorem dc_Mo_order_8 : decode m_Mo_order.2.1 8 = .ok (.istore_n 3, 1) := by decide +kernel
theorem dc_Mo_order_9 : decode m_Mo_order.2.1 9 = .ok (.iload_n 3, 1) := by decide +kernel
theorem dc_Mo_order_10 : decode m_Mo_order.2.1 10 = .ok (.ifCond .lt 108, 3) := by decide +kernel
theorem dc_Mo_order_13 : decode m_Mo_order.2.1 13 = .ok (.iload_n 2, 1) := by decide +kernel
theorem dc_Mo_order_14 : decode m_Mo_order.2.1 14 = .ok (.istore 4, 2) := by decide +kernel
theorem dc_Mo_order_16 : decode m_Mo_order.2.1 16 = .ok (.iload 4, 2) := by decide +kernel
theorem dc_Mo_order_18 : decode m_Mo_order.2.1 18 = .ok (.ifCond .le 79, 3) := by decide +kernel
theorem dc_Mo_order_21 : decode m_Mo_order.2.1 21 = .ok (.aload_n 0, 1) := by decide +kernel
theorem dc_Mo_order_22 : decode m_Mo_order.2.1 22 = .ok (.getfield 132, 3) := by decide +kernel
theorem dc_Mo_order_25 : decode m_Mo_order.2.1 25 = .ok (.aload_n 0, 1) := by decide +kernel
theorem dc_Mo_order_26 : decode m_Mo_order.2.1 26 = .ok (.getfield 117, 3) := by decide +kernel
theorem dc_Mo_order_29 : decode m_Mo_order.2.1 29 = .ok (.iload_n 3, 1) := by decide +kernel
theorem dc_Mo_order_30 : decode m_Mo_order.2.1 30 = .ok (.iaload, 1) := by decide +kernel
theorem dc_Mo_order_31 : decode m_Mo_order.2.1 31 = .ok (.aload_n 0, 1) := by decide +kernel
theorem dc_Mo_order_32 : decode m_Mo_order.2.1 32 = .ok (.getfield 120, 3) := by decide +kernel
theorem dc_Mo_order_35 : decode m_Mo_order.2.1 35 = .ok (.iload_n 3, 1) := by decide +kernel
theorem dc_Mo_order_36 : decode m_Mo_order.2.1 36 = .ok (.iaload, 1) := by decide +kernel
theorem dc_Mo_order_37 : decode m_Mo_order.2.1 37 = .ok (.aload_n 0, 1) := by decide +kernel
theorem dc_Mo_order_38 : decode m_Mo_order.2.1 38 = .ok (.getfield 132, 3) := by decide +kernel
theorem dc_Mo_order_41 : decode m_Mo_order.2.1 41 = .ok (.aload_n 0, 1) := by decide +kernel
theorem dc_Mo_order_42 : decode m_Mo_order.2.1 42 = .ok (.getfield 117, 3) := by decide +kernel
theorem dc_Mo_order_45 : decode m_Mo_order.2.1 45 = .ok (.aload_n 0, 1) := by decide +kernel
theorem dc_Mo_order_46 : decode m_Mo_order.2.1 46 = .ok (.getfield 138, 3) := by decide +kernel
theorem dc_Mo_order_49 : decode m_Mo_order.2.1 49 = .ok (.iload 4, 2) := by decide +kernel
theorem dc_Mo_order_51 : decode m_Mo_order.2.1 51 = .ok (.iconst 1, 1) := by decide +kernel
theorem dc_Mo_order_52 : decode m_Mo_order.2.1 52 = .ok (.isub, 1) := by decide +kernel
theorem dc_Mo_order_53 : decode m_Mo_order.2.1 53 = .ok (.iaload, 1) := by decide +kernel
theorem dc_Mo_order_54 : decode m_Mo_order.2.1 54 = .ok (.iaload, 1) := by decide +kernel
theorem dc_Mo_order_55 : decode m_Mo_order.2.1 55 = .ok (.aload_n 0, 1) := by decide +kernel
theorem dc_Mo_order_56 : decode m_Mo_order.2.1 56 = .ok (.getfield 120, 3) := by decide +kernel
theorem dc_Mo_order_59 : decode m_Mo_order.2.1 59 = .ok (.aload_n 0, 1) := by decide +kernel
theorem dc_Mo_order_60 : decode m_Mo_order.2.1 60 = .ok (.getfield 138, 3) := by decide +kernel
theorem dc_Mo_order_63 : decode m_Mo_order.2.1 63 = .ok (.iload 4, 2) := by decide +kernel
theorem dc_Mo_order_65 : decode m_Mo_order.2.1 65 = .ok (.iconst 1, 1) := by decide +kernel
theorem dc_Mo_order_66 : decode m_Mo_order.2.1 66 = .ok (.isub, 1) := by decide +kernel
theorem dc_Mo_order_67 : decode m_Mo_order.2.1 67 = .ok (.iaload, 1) := by decide +kernel
theorem dc_Mo_order_68 : decode m_Mo_order.2.1 68 = .ok (.iaload, 1) := by decide +kernel
theorem dc_Mo_order_69 : decode m_Mo_order.2.1 69 = .ok (.invokestatic 356, 3) := by decide +kernel
theorem dc_Mo_order_72 : decode m_Mo_order.2.1 72 = .ok (.ifCond .ge 25, 3) := by decide +kernel
theorem dc_Mo_order_75 : decode m_Mo_order.2.1 75 = .ok (.aload_n 0, 1) := by decide +kernel
theorem dc_Mo_order_76 : decode m_Mo_order.2.1 76 = .ok (.getfield 138, 3) := by decide +kernel
theorem dc_Mo_order_79 : decode m_Mo_order.2.1 79 = .ok (.iload 4, 2) := by decide +kernel
theorem dc_Mo_order_81 : decode m_Mo_order.2.1 81 = .ok (.aload_n 0, 1) := by decide +kernel
theorem dc_Mo_order_82 : decode m_Mo_order.2.1 82 = .ok (.getfield 138, 3) := by decide +kernel
theorem dc_Mo_order_85 : decode m_Mo_order.2.1 85 = .ok (.iload 4, 2) := by decide +kernel
theorem dc_Mo_order_87 : decode m_Mo_order.2.1 87 = .ok (.iconst 1, 1) := by decide +kernel
theorem dc_Mo_order_88 : decode m_Mo_order.2.1 88 = .ok (.isub, 1) := by decide +kernel
theorem dc_Mo_order_89 : decode m_Mo_order.2.1 89 = .ok (.iaload, 1) := by decide +kernel
theorem dc_Mo_order_90 : decode m_Mo_order.2.1 90 = .ok (.iastore, 1) := by decide +kernel
theorem dc_Mo_order_91 : decode m_Mo_order.2.1 91 = .ok (.iinc 4 (-1), 3) := by decide +kernel
theorem dc_Mo_order_94 : decode m_Mo_order.2.1 94 = .ok (.goto (-78), 3) := by decide +kernel
theorem dc_Mo_order_97 : decode m_Mo_order.2.1 97 = .ok (.aload_n 0, 1) := by decide +kernel
theorem dc_Mo_order_98 : decode m_Mo_order.2.1 98 = .ok (.getfield 138, 3) := by decide +kernel
theorem dc_Mo_order_101 : decode m_Mo_order.2.1 101 = .ok (.iload 4, 2) := by decide +kernel
theorem dc_Mo_order_103 : decode m_Mo_order.2.1 103 = .ok (.iload_n 3, 1) := by decide +kernel
theorem dc_Mo_order_104 : decode m_Mo_order.2.1 104 = .ok (.iastore, 1) := by decide +kernel
theorem dc_Mo_order_105 : decode m_Mo_order.2.1 105 = .ok (.iinc 2 1, 3) := by decide +kernel
theorem dc_Mo_order_108 : decode m_Mo_order.2.1 108 = .ok (.aload_n 0, 1) := by decide +kernel
theorem dc_Mo_order_109 : decode m_Mo_order.2.1 109 = .ok (.getfield 114, 3) := by decide +kernel
theorem dc_Mo_order_112 : decode m_Mo_order.2.1 112 = .ok (.iload_n 3, 1) := by decide +kernel
theorem dc_Mo_order_113 : decode m_Mo_order.2.1 113 = .ok (.iaload, 1) := by decide +kernel
theorem dc_Mo_order_114 : decode m_Mo_order.2.1 114 = .ok (.istore_n 3, 1) := by decide +kernel
theorem dc_Mo_order_115 : decode m_Mo_order.2.1 115 = .ok (.goto (-106), 3) := by decide +kernel
theorem dc_Mo_order_118 : decode m_Mo_order.2.1 118 = .ok (.iconst 0, 1) := by decide +kernel
theorem dc_Mo_order_119 : decode m_Mo_order.2.1 119 = .ok (.istore_n 3, 1) := by decide +kernel
theorem dc_Mo_order_120 : decode m_Mo_order.2.1 120 = .ok (.iload_n 3, 1) := by decide +kernel
theorem dc_Mo_order_121 : decode m_Mo_order.2.1 121 = .ok (.iload_n 2, 1) := by decide +kernel
theorem dc_Mo_order_122 : decode m_Mo_order.2.1 122 = .ok (.if_icmp .ge 39, 3) := by decide +kernel
theorem dc_Mo_order_125 : decode m_Mo_order.2.1 125 = .ok (.aload_n 0, 1) := by decide +kernel
theorem dc_Mo_order_126 : decode m_Mo_order.2.1 126 = .ok (.getfield 114, 3) := by decide +kernel
theorem dc_Mo_order_129 : decode m_Mo_order.2.1 129 = .ok (.aload_n 0, 1) := by decide +kernel
theorem dc_Mo_order_130 : decode m_Mo_order.2.1 130 = .ok (.getfield 138, 3) := by decide +kernel
theorem dc_Mo_order_133 : decode m_Mo_order.2.1 133 = .ok (.iload_n 3, 1) := by decide +kernel
theorem dc_Mo_order_134 : decode m_Mo_order.2.1 134 = .ok (.iaload, 1) := by decide +kernel
theorem dc_Mo_order_135 : decode m_Mo_order.2.1 135 = .ok (.iload_n 3, 1) := by decide +kernel
theorem dc_Mo_order_136 : decode m_Mo_order.2.1 136 = .ok (.iconst 1, 1) := by decide +kernel
theorem dc_Mo_order_137 : decode m_Mo_order.2.1 137 = .ok (.iadd, 1) := by decide +kernel
theorem dc_Mo_order_138 : decode m_Mo_order.2.1 138 = .ok (.iload_n 2, 1) := by decide +kernel
theorem dc_Mo_order_139 : decode m_Mo_order.2.1 139 = .ok (.if_icmp .ge 14, 3) := by decide +kernel
theorem dc_Mo_order_142 : decode m_Mo_order.2.1 142 = .ok (.aload_n 0, 1) := by decide +kernel
theorem dc_Mo_order_143 : decode m_Mo_order.2.1 143 = .ok (.getfield 138, 3) := by decide +kernel
theorem dc_Mo_order_146 : decode m_Mo_order.2.1 146 = .ok (.iload_n 3, 1) := by decide +kernel
theorem dc_Mo_order_147 : decode m_Mo_order.2.1 147 = .ok (.iconst 1, 1) := by decide +kernel
theorem dc_Mo_order_148 : decode m_Mo_order.2.1 148 = .ok (.iadd, 1) := by decide +kernel
theorem dc_Mo_order_149 : decode m_Mo_order.2.1 149 = .ok (.iaload, 1) := by decide +kernel
theorem dc_Mo_order_150 : decode m_Mo_order.2.1 150 = .ok (.goto 4, 3) := by decide +kernel
theorem dc_Mo_order_153 : decode m_Mo_order.2.1 153 = .ok (.iconst (-1), 1) := by decide +kernel
theorem dc_Mo_order_154 : decode m_Mo_order.2.1 154 = .ok (.iastore, 1) := by decide +kernel
theorem dc_Mo_order_155 : decode m_Mo_order.2.1 155 = .ok (.iinc 3 1, 3) := by decide +kernel
theorem dc_Mo_order_158 : decode m_Mo_order.2.1 158 = .ok (.goto (-38), 3) := by decide +kernel
theorem dc_Mo_order_161 : decode m_Mo_order.2.1 161 = .ok (.iload_n 2, 1) := by decide +kernel
theorem dc_Mo_order_162 : decode m_Mo_order.2.1 162 = .ok (.ifCond .le 15, 3) := by decide +kernel
theorem dc_Mo_order_165 : decode m_Mo_order.2.1 165 = .ok (.aload_n 0, 1) := by decide +kernel
theorem dc_Mo_order_166 : decode m_Mo_order.2.1 166 = .ok (.getfield 108, 3) := by decide +kernel
theorem dc_Mo_order_169 : decode m_Mo_order.2.1 169 = .ok (.iload_n 1, 1) := by decide +kernel
theorem dc_Mo_order_170 : decode m_Mo_order.2.1 170 = .ok (.aload_n 0, 1) := by decide +kernel
theorem dc_Mo_order_171 : decode m_Mo_order.2.1 171 = .ok (.getfield 138, 3) := by decide +kernel
theorem dc_Mo_order_174 : decode m_Mo_order.2.1 174 = .ok (.iconst 0, 1) := by decide +kernel
theorem dc_Mo_order_175 : decode m_Mo_order.2.1 175 = .ok (.iaload, 1) := by decide +kernel
theorem dc_Mo_order_176 : decode m_Mo_order.2.1 176 = .ok (.iastore, 1) := by decide +kernel
theorem dc_Mo_order_177 : decode m_Mo_order.2.1 177 = .ok (.return_, 1) := by decide +kernel
theorem b_Mo_order_0 {E : En_t} {d : Nat} {σ : S_t} {Q : Option Value → S_t → Prop} {x1 : Int32}
    (h : vp_in x1 500 ∧ (JE E (d + 1) m_Mo_order 9 [(0, pv E 0), (1, .int x1), (2, .int (0 : Int32)), (3, .int (gI σ 31 x1.toNatClampNeg))] [] σ Q)) :
    JE E (d + 1) m_Mo_order 0 [(0, pv E 0), (1, .int x1)] [] σ Q := by
  refine J_iconst (v := (0 : Int32)) dc_Mo_order_0 (Eq.refl 1) rfl ?_
  refine J_istore_n (L' := [(2, .int (0 : Int32)), (0, pv E 0), (1, .int x1)]) dc_Mo_order_1 (Eq.refl 2) (Nat.le_of_ble_eq_true rfl) rfl ?_
  refine J_aload_n dc_Mo_order_2 (Eq.refl 3) 1 rfl ?_
  refine J_getF (y := 31) dc_Mo_order_3 (Eq.refl 6) fl_Mo_108 (Nat.le_of_ble_eq_true rfl) rfl (Or.inl rfl) rfl ?_
  refine J_iload_n dc_Mo_order_6 (Eq.refl 7) 2 rfl ?_
  obtain ⟨hg, h⟩ := h
  refine J_iald dc_Mo_order_7 (Eq.refl 8) rfl rfl hg ?_
  refine J_istore_n (L' := [(3, .int (gI σ 31 x1.toNatClampNeg)), (2, .int (0 : Int32)), (0, pv E 0), (1, .int x1)]) dc_Mo_order_8 (Eq.refl 9) (Nat.le_of_ble_eq_true rfl) rfl ?_
  refine J_sub [2, 3, 1, 0] rfl ?_
  exact h
theorem b_Mo_order_9 {E : En_t} {d : Nat} {σ : S_t} {Q : Option Value → S_t → Prop} {x1 : Int32} {x2 : Int32} {x3 : Int32}
    (h : (x3 < 0 → JE E (d + 1) m_Mo_order 120 [(0, pv E 0), (1, .int x1), (2, .int x2), (3, .int (0 : Int32))] [] σ Q) ∧ (¬ x3 < 0 → JE E (d + 1) m_Mo_order 16 [(0, pv E 0), (1, .int x1), (2, .int x2), (3, .int x3), (4, .int x2)] [] σ Q)) :
    JE E (d + 1) m_Mo_order 9 [(0, pv E 0), (1, .int x1), (2, .int x2), (3, .int x3)] [] σ Q := by
  refine J_iload_n dc_Mo_order_9 (Eq.refl 10) 3 rfl ?_
  refine J_if_lt dc_Mo_order_10 (Eq.refl 13) rfl (fun hc => ?_) (fun hc => ?_)
  · have h := h.1 hc
    refine J_iconst (v := (0 : Int32)) dc_Mo_order_118 (Eq.refl 119) rfl ?_
    refine J_istore_n (L' := [(3, .int (0 : Int32)), (0, pv E 0), (1, .int x1), (2, .int x2)]) dc_Mo_order_119 (Eq.refl 120) (Nat.le_of_ble_eq_true rfl) rfl ?_
    refine J_sub [1, 2, 3, 0] rfl ?_
    exact h
  · have h := h.2 hc
    refine J_iload_n dc_Mo_order_13 (Eq.refl 14) 2 rfl ?_
    refine J_istore (L' := [(4, .int x2), (0, pv E 0), (1, .int x1), (2, .int x2), (3, .int x3)]) dc_Mo_order_14 (Eq.refl 16) (Nat.le_of_ble_eq_true rfl) rfl ?_
    refine J_sub [1, 2, 3, 4, 0] rfl ?_
    exact h
theorem b_Mo_order_16 {E : En_t} {d : Nat} {σ : S_t} {Q : Option Value → S_t → Prop} {x1 : Int32} {x2 : Int32} {x3 : Int32} {x4 : Int32}
    (h : (x4 ≤ 0 → JE E (d + 1) m_Mo_order 97 [(0, pv E 0), (1, .int x1), (2, .int x2), (3, .int x3), (4, .int x4)] [] σ Q) ∧ (¬ x4 ≤ 0 → vp_in x3 500 ∧ (vp_in x3 500 ∧ (vp_in (x4 - (1 : Int32)) 500 ∧ (vp_in (gI σ 41 (x4 - (1 : Int32)).toNatClampNeg) 500 ∧ (vp_in (x4 - (1 : Int32)) 500 ∧ (vp_in (gI σ 41 (x4 - (1 : Int32)).toNatClampNeg) 500 ∧ (CI E d m_Mo_compared [pv E 39, .int (gI σ 34 x3.toNatClampNeg), .int (gI σ 35 x3.toNatClampNeg), pv E 39, .int (gI σ 34 (gI σ 41 (x4 - (1 : Int32)).toNatClampNeg).toNatClampNeg), .int (gI σ 35 (gI σ 41 (x4 - (1 : Int32)).toNatClampNeg).toNatClampNeg)] σ (fun r2 σ1 => (0 ≤ r2 → JE E (d + 1) m_Mo_order 97 [(0, pv E 0), (1, .int x1), (2, .int x2), (3, .int x3), (4, .int x4)] [] σ1 Q) ∧ (¬ 0 ≤ r2 → vp_in (x4 - (1 : Int32)) 500 ∧ (vp_in x4 500 ∧ (JE E (d + 1) m_Mo_order 16 [(0, pv E 0), (1, .int x1), (2, .int x2), (3, .int x3), (4, .int (x4 + (-1 : Int32)))] [] (sI σ1 41 x4.toNatClampNeg (gI σ1 41 (x4 - (1 : Int32)).toNatClampNeg)) Q)))))))))))) :
    JE E (d + 1) m_Mo_order 16 [(0, pv E 0), (1, .int x1), (2, .int x2), (3, .int x3), (4, .int x4)] [] σ Q := by
  refine J_iload dc_Mo_order_16 (Eq.refl 18) 4 rfl ?_
  refine J_if_le dc_Mo_order_18 (Eq.refl 21) rfl (fun hc => ?_) (fun hc => ?_)
  · have h := h.1 hc
    exact h
  · have h := h.2 hc
    refine J_aload_n dc_Mo_order_21 (Eq.refl 22) 0 rfl ?_
    refine J_getF (y := 39) dc_Mo_order_22 (Eq.refl 25) fl_Mo_132 (Nat.le_of_ble_eq_true rfl) rfl (Or.inl rfl) rfl ?_
    refine J_aload_n dc_Mo_order_25 (Eq.refl 26) 0 rfl ?_
    refine J_getF (y := 34) dc_Mo_order_26 (Eq.refl 29) fl_Mo_117 (Nat.le_of_ble_eq_true rfl) rfl (Or.inl rfl) rfl ?_
    refine J_iload_n dc_Mo_order_29 (Eq.refl 30) 3 rfl ?_
    obtain ⟨hg, h⟩ := h
    refine J_iald dc_Mo_order_30 (Eq.refl 31) rfl rfl hg ?_
    refine J_aload_n dc_Mo_order_31 (Eq.refl 32) 0 rfl ?_
    refine J_getF (y := 35) dc_Mo_order_32 (Eq.refl 35) fl_Mo_120 (Nat.le_of_ble_eq_true rfl) rfl (Or.inl rfl) rfl ?_
    refine J_iload_n dc_Mo_order_35 (Eq.refl 36) 3 rfl ?_
    obtain ⟨hg, h⟩ := h
    refine J_iald dc_Mo_order_36 (Eq.refl 37) rfl rfl hg ?_
    refine J_aload_n dc_Mo_order_37 (Eq.refl 38) 0 rfl ?_
    refine J_getF (y := 39) dc_Mo_order_38 (Eq.refl 41) fl_Mo_132 (Nat.le_of_ble_eq_true rfl) rfl (Or.inl rfl) rfl ?_
    refine J_aload_n dc_Mo_order_41 (Eq.refl 42) 0 rfl ?_
    refine J_getF (y := 34) dc_Mo_order_42 (Eq.refl 45) fl_Mo_117 (Nat.le_of_ble_eq_true rfl) rfl (Or.inl rfl) rfl ?_
    refine J_aload_n dc_Mo_order_45 (Eq.refl 46) 0 rfl ?_
    refine J_getF (y := 41) dc_Mo_order_46 (Eq.refl 49) fl_Mo_138 (Nat.le_of_ble_eq_true rfl) rfl (Or.inl rfl) rfl ?_
    refine J_iload dc_Mo_order_49 (Eq.refl 51) 4 rfl ?_
    refine J_iconst (v := (1 : Int32)) dc_Mo_order_51 (Eq.refl 52) rfl ?_
    refine J_isub dc_Mo_order_52 (Eq.refl 53) ?_
    obtain ⟨hg, h⟩ := h
    refine J_iald dc_Mo_order_53 (Eq.refl 54) rfl rfl hg ?_
    obtain ⟨hg, h⟩ := h
    refine J_iald dc_Mo_order_54 (Eq.refl 55) rfl rfl hg ?_
    refine J_aload_n dc_Mo_order_55 (Eq.refl 56) 0 rfl ?_
    refine J_getF (y := 35) dc_Mo_order_56 (Eq.refl 59) fl_Mo_120 (Nat.le_of_ble_eq_true rfl) rfl (Or.inl rfl) rfl ?_
    refine J_aload_n dc_Mo_order_59 (Eq.refl 60) 0 rfl ?_
    refine J_getF (y := 41) dc_Mo_order_60 (Eq.refl 63) fl_Mo_138 (Nat.le_of_ble_eq_true rfl) rfl (Or.inl rfl) rfl ?_
    refine J_iload dc_Mo_order_63 (Eq.refl 65) 4 rfl ?_
    refine J_iconst (v := (1 : Int32)) dc_Mo_order_65 (Eq.refl 66) rfl ?_
    refine J_isub dc_Mo_order_66 (Eq.refl 67) ?_
    obtain ⟨hg, h⟩ := h
    refine J_iald dc_Mo_order_67 (Eq.refl 68) rfl rfl hg ?_
    obtain ⟨hg, h⟩ := h
    refine J_iald dc_Mo_order_68 (Eq.refl 69) rfl rfl hg ?_
    refine J_callSI (As := [pv E 39, .int (gI σ 34 x3.toNatClampNeg), .int (gI σ 35 x3.toNatClampNeg), pv E 39, .int (gI σ 34 (gI σ 41 (x4 - (1 : Int32)).toNatClampNeg).toNatClampNeg), .int (gI σ 35 (gI σ 41 (x4 - (1 : Int32)).toNatClampNeg).toNatClampNeg)]) (st := []) dc_Mo_order_69 (Eq.refl 72) lk_Mo_356 mi_Mo_compared (Nat.le_of_ble_eq_true rfl) rfl (Nat.le_of_ble_eq_true rfl) (CI.mono h (fun r2 σ1 h => ?_))
    refine J_if_ge dc_Mo_order_72 (Eq.refl 75) rfl (fun hc => ?_) (fun hc => ?_)
    · have h := h.1 hc
      exact h
    · have h := h.2 hc
      refine J_aload_n dc_Mo_order_75 (Eq.refl 76) 0 rfl ?_
      refine J_getF (y := 41) dc_Mo_order_76 (Eq.refl 79) fl_Mo_138 (Nat.le_of_ble_eq_true rfl) rfl (Or.inl rfl) rfl ?_
      refine J_iload dc_Mo_order_79 (Eq.refl 81) 4 rfl ?_
      refine J_aload_n dc_Mo_order_81 (Eq.refl 82) 0 rfl ?_
      refine J_getF (y := 41) dc_Mo_order_82 (Eq.refl 85) fl_Mo_138 (Nat.le_of_ble_eq_true rfl) rfl (Or.inl rfl) rfl ?_
      refine J_iload dc_Mo_order_85 (Eq.refl 87) 4 rfl ?_
      refine J_iconst (v := (1 : Int32)) dc_Mo_order_87 (Eq.refl 88) rfl ?_
      refine J_isub dc_Mo_order_88 (Eq.refl 89) ?_
      obtain ⟨hg, h⟩ := h
      refine J_iald dc_Mo_order_89 (Eq.refl 90) rfl rfl hg ?_
      obtain ⟨hg, h⟩ := h
      refine J_iast dc_Mo_order_90 (Eq.refl 91) rfl rfl hg ?_
      refine J_iinc (v := x4 + (-1 : Int32)) (L' := [(4, .int (x4 + (-1 : Int32))), (0, pv E 0), (1, .int x1), (2, .int x2), (3, .int x3)]) dc_Mo_order_91 (Eq.refl 94) 4 rfl rfl (Nat.le_of_ble_eq_true rfl) rfl ?_
      refine J_goto dc_Mo_order_94 rfl ?_
      refine J_sub [1, 2, 3, 4, 0] rfl ?_
      exact h
theorem b_Mo_order_97 {E : En_t} {d : Nat} {σ : S_t} {Q : Option Value → S_t → Prop} {x1 : Int32} {x2 : Int32} {x3 : Int32} {x4 : Int32}
    (h : vp_in x4 500 ∧ (vp_in x3 500 ∧ (JE E (d + 1) m_Mo_order 9 [(0, pv E 0), (1, .int x1), (2, .int (x2 + (1 : Int32))), (3, .int (gI (sI σ 41 x4.toNatClampNeg x3) 33 x3.toNatClampNeg))] [] (sI σ 41 x4.toNatClampNeg x3) Q))) :
    JE E (d + 1) m_Mo_order 97 [(0, pv E 0), (1, .int x1), (2, .int x2), (3, .int x3), (4, .int x4)] [] σ Q := by
  refine J_aload_n dc_Mo_order_97 (Eq.refl 98) 0 rfl ?_
  refine J_getF (y := 41) dc_Mo_order_98 (Eq.refl 101) fl_Mo_138 (Nat.le_of_ble_eq_true rfl) rfl (Or.inl rfl) rfl ?_
  refine J_iload dc_Mo_order_101 (Eq.refl 103) 4 rfl ?_
  refine J_iload_n dc_Mo_order_103 (Eq.refl 104) 3 rfl ?_
  obtain ⟨hg, h⟩ := h
  refine J_iast dc_Mo_order_104 (Eq.refl 105) rfl rfl hg ?_
  refine J_iinc (v := x2 + (1 : Int32)) (L' := [(2, .int (x2 + (1 : Int32))), (0, pv E 0), (1, .int x1), (3, .int x3), (4, .int x4)]) dc_Mo_order_105 (Eq.refl 108) 2 rfl rfl (Nat.le_of_ble_eq_true rfl) rfl ?_
  refine J_aload_n dc_Mo_order_108 (Eq.refl 109) 1 rfl ?_
  refine J_getF (y := 33) dc_Mo_order_109 (Eq.refl 112) fl_Mo_114 (Nat.le_of_ble_eq_true rfl) rfl (Or.inl rfl) rfl ?_
  refine J_iload_n dc_Mo_order_112 (Eq.refl 113) 3 rfl ?_
  obtain ⟨hg, h⟩ := h
  refine J_iald dc_Mo_order_113 (Eq.refl 114) rfl rfl hg ?_
  refine J_istore_n (L' := [(3, .int (gI (sI σ 41 x4.toNatClampNeg x3) 33 x3.toNatClampNeg)), (2, .int (x2 + (1 : Int32))), (0, pv E 0), (1, .int x1), (4, .int x4)]) dc_Mo_order_114 (Eq.refl 115) (Nat.le_of_ble_eq_true rfl) rfl ?_
  refine J_goto dc_Mo_order_115 rfl ?_
  refine J_sub [2, 3, 1, 0] rfl ?_
  exact h
theorem b_Mo_order_120 {E : En_t} {d : Nat} {σ : S_t} {Q : Option Value → S_t → Prop} {x1 : Int32} {x2 : Int32} {x3 : Int32}
    (h : (x2 ≤ x3 → (x2 ≤ 0 → Q none σ) ∧ (¬ x2 ≤ 0 → vp_in (0 : Int32) 500 ∧ (vp_in x1 500 ∧ (Q none (sI σ 31 x1.toNatClampNeg (gI σ 41 (0 : Int32).toNatClampNeg)))))) ∧ (¬ x2 ≤ x3 → vp_in x3 500 ∧ ((x2 ≤ (x3 + (1 : Int32)) → JE E (d + 1) m_Mo_order 154 [(0, pv E 0), (1, .int x1), (2, .int x2), (3, .int x3)] [.int (-1 : Int32), .int (gI σ 41 x3.toNatClampNeg), pv E 33] σ Q) ∧ (¬ x2 ≤ (x3 + (1 : Int32)) → vp_in (x3 + (1 : Int32)) 500 ∧ (JE E (d + 1) m_Mo_order 154 [(0, pv E 0), (1, .int x1), (2, .int x2), (3, .int x3)] [.int (gI σ 41 (x3 + (1 : Int32)).toNatClampNeg), .int (gI σ 41 x3.toNatClampNeg), pv E 33] σ Q))))) :
    JE E (d + 1) m_Mo_order 120 [(0, pv E 0), (1, .int x1), (2, .int x2), (3, .int x3)] [] σ Q := by
  refine J_iload_n dc_Mo_order_120 (Eq.refl 121) 3 rfl ?_
  refine J_iload_n dc_Mo_order_121 (Eq.refl 122) 2 rfl ?_
  refine J_icmp_ge dc_Mo_order_122 (Eq.refl 125) rfl (fun hc => ?_) (fun hc => ?_)
  · have h := h.1 hc
    refine J_iload_n dc_Mo_order_161 (Eq.refl 162) 2 rfl ?_
    refine J_if_le dc_Mo_order_162 (Eq.refl 165) rfl (fun hc => ?_) (fun hc => ?_)
    · have h := h.1 hc
      exact J_vret dc_Mo_order_177 rfl h
    · have h := h.2 hc
      refine J_aload_n dc_Mo_order_165 (Eq.refl 166) 0 rfl ?_
      refine J_getF (y := 31) dc_Mo_order_166 (Eq.refl 169) fl_Mo_108 (Nat.le_of_ble_eq_true rfl) rfl (Or.inl rfl) rfl ?_
      refine J_iload_n dc_Mo_order_169 (Eq.refl 170) 1 rfl ?_
      refine J_aload_n dc_Mo_order_170 (Eq.refl 171) 0 rfl ?_
      refine J_getF (y := 41) dc_Mo_order_171 (Eq.refl 174) fl_Mo_138 (Nat.le_of_ble_eq_true rfl) rfl (Or.inl rfl) rfl ?_
      refine J_iconst (v := (0 : Int32)) dc_Mo_order_174 (Eq.refl 175) rfl ?_
      obtain ⟨hg, h⟩ := h
      refine J_iald dc_Mo_order_175 (Eq.refl 176) rfl rfl hg ?_
      obtain ⟨hg, h⟩ := h
      refine J_iast dc_Mo_order_176 (Eq.refl 177) rfl rfl hg ?_
      exact J_vret dc_Mo_order_177 rfl h
  · have h := h.2 hc
    refine J_aload_n dc_Mo_order_125 (Eq.refl 126) 0 rfl ?_
    refine J_getF (y := 33) dc_Mo_order_126 (Eq.refl 129) fl_Mo_114 (Nat.le_of_ble_eq_true rfl) rfl (Or.inl rfl) rfl ?_
    refine J_aload_n dc_Mo_order_129 (Eq.refl 130) 0 rfl ?_
    refine J_getF (y := 41) dc_Mo_order_130 (Eq.refl 133) fl_Mo_138 (Nat.le_of_ble_eq_true rfl) rfl (Or.inl rfl) rfl ?_
    refine J_iload_n dc_Mo_order_133 (Eq.refl 134) 3 rfl ?_
    obtain ⟨hg, h⟩ := h
    refine J_iald dc_Mo_order_134 (Eq.refl 135) rfl rfl hg ?_
    refine J_iload_n dc_Mo_order_135 (Eq.refl 136) 3 rfl ?_
    refine J_iconst (v := (1 : Int32)) dc_Mo_order_136 (Eq.refl 137) rfl ?_
    refine J_iadd dc_Mo_order_137 (Eq.refl 138) ?_
    refine J_iload_n dc_Mo_order_138 (Eq.refl 139) 2 rfl ?_
    refine J_icmp_ge dc_Mo_order_139 (Eq.refl 142) rfl (fun hc => ?_) (fun hc => ?_)
    · have h := h.1 hc
      refine J_iconst (v := (-1 : Int32)) dc_Mo_order_153 (Eq.refl 154) rfl ?_
      exact h
    · have h := h.2 hc
      refine J_aload_n dc_Mo_order_142 (Eq.refl 143) 0 rfl ?_
      refine J_getF (y := 41) dc_Mo_order_143 (Eq.refl 146) fl_Mo_138 (Nat.le_of_ble_eq_true rfl) rfl (Or.inl rfl) rfl ?_
      refine J_iload_n dc_Mo_order_146 (Eq.refl 147) 3 rfl ?_
      refine J_iconst (v := (1 : Int32)) dc_Mo_order_147 (Eq.refl 148) rfl ?_
      refine J_iadd dc_Mo_order_148 (Eq.refl 149) ?_
      obtain ⟨hg, h⟩ := h
      refine J_iald dc_Mo_order_149 (Eq.refl 150) rfl rfl hg ?_
      refine J_goto dc_Mo_order_150 rfl ?_
      exact h
theorem b_Mo_order_154 {E : En_t} {d : Nat} {σ : S_t} {Q : Option Value → S_t → Prop} {x1 : Int32} {x2 : Int32} {x3 : Int32} {s0 : Int32} {s1 : Int32} {q2 : Nat} (hk_q2 : kindP q2 = 20)
    (h : vp_in s1 (lenP q2) ∧ (JE E (d + 1) m_Mo_order 120 [(0, pv E 0), (1, .int x1), (2, .int x2), (3, .int (x3 + (1 : Int32)))] [] (sI σ q2 s1.toNatClampNeg s0) Q)) :
    JE E (d + 1) m_Mo_order 154 [(0, pv E 0), (1, .int x1), (2, .int x2), (3, .int x3)] [.int s0, .int s1, pv E q2] σ Q := by
  obtain ⟨hg, h⟩ := h
  refine J_iast dc_Mo_order_154 (Eq.refl 155) hk_q2 rfl hg ?_
  refine J_iinc (v := x3 + (1 : Int32)) (L' := [(3, .int (x3 + (1 : Int32))), (0, pv E 0), (1, .int x1), (2, .int x2)]) dc_Mo_order_155 (Eq.refl 158) 3 rfl rfl (Nat.le_of_ble_eq_true rfl) rfl ?_
  refine J_goto dc_Mo_order_158 rfl ?_
  refine J_sub [1, 2, 3, 0] rfl ?_
  exact h
theorem dc_Mo_shelve_0 : decode m_Mo_shelve.2.1 0 = .ok (.sipush 4000, 3) := by decide +kernel
theorem dc_Mo_shelve_3 : decode m_Mo_shelve.2.1 3 = .ok (.istore_n 2, 1) := by decide +kernel
theorem dc_Mo_shelve_4 : decode m_Mo_shelve.2.1 4 = .ok (.sipush 500, 3) := by decide +kernel
theorem dc_Mo_shelve_7 : decode m_Mo_shelve.2.1 7 = .ok (.iload_n 1, 1) := by decide +kernel
theorem dc_Mo_shelve_8 : decode m_Mo_shelve.2.1 8 = .ok (.imul, 1) := by decide +kernel
theorem dc_Mo_shelve_9 : decode m_Mo_shelve.2.1 9 = .ok (.istore_n 3, 1) := by decide +kernel
theorem dc_Mo_shelve_10 : decode m_Mo_shelve.2.1 10 = .ok (.iconst 0, 1) := by decide +kernel
theorem dc_Mo_shelve_11 : decode m_Mo_shelve.2.1 11 = .ok (.istore 4, 2) := by decide +kernel
theorem dc_Mo_shelve_13 : decode m_Mo_shelve.2.1 13 = .ok (.iload 4, 2) := by decide +kernel
theorem dc_Mo_shelve_15 : decode m_Mo_shelve.2.1 15 = .ok (.aload_n 0, 1) := by decide +kernel
theorem dc_Mo_shelve_16 : decode m_Mo_shelve.2.1 16 = .ok (.getfield 35, 3) := by decide +kernel
theorem dc_Mo_shelve_19 : decode m_Mo_shelve.2.1 19 = .ok (.bipush 8, 2) := by decide +kernel
theorem dc_Mo_shelve_21 : decode m_Mo_shelve.2.1 21 = .ok (.iaload, 1) := by decide +kernel
theorem dc_Mo_shelve_22 : decode m_Mo_shelve.2.1 22 = .ok (.if_icmp .ge 243, 3) := by decide +kernel
theorem dc_Mo_shelve_25 : decode m_Mo_shelve.2.1 25 = .ok (.aload_n 0, 1) := by decide +kernel
theorem dc_Mo_shelve_26 : decode m_Mo_shelve.2.1 26 = .ok (.getfield 47, 3) := by decide +kernel
theorem dc_Mo_shelve_29 : decode m_Mo_shelve.2.1 29 = .ok (.iload_n 3, 1) := by decide +kernel
theorem dc_Mo_shelve_30 : decode m_Mo_shelve.2.1 30 = .ok (.iload 4, 2) := by decide +kernel
theorem dc_Mo_shelve_32 : decode m_Mo_shelve.2.1 32 = .ok (.iadd, 1) := by decide +kernel
theorem dc_Mo_shelve_33 : decode m_Mo_shelve.2.1 33 = .ok (.aload_n 0, 1) := by decide +kernel
theorem dc_Mo_shelve_34 : decode m_Mo_shelve.2.1 34 = .ok (.getfield 47, 3) := by decide +kernel
theorem dc_Mo_shelve_37 : decode m_Mo_shelve.2.1 37 = .ok (.iload_n 2, 1) := by decide +kernel
theorem dc_Mo_shelve_38 : decode m_Mo_shelve.2.1 38 = .ok (.iload 4, 2) := by decide +kernel
theorem dc_Mo_shelve_40 : decode m_Mo_shelve.2.1 40 = .ok (.iadd, 1) := by decide +kernel
theorem dc_Mo_shelve_41 : decode m_Mo_shelve.2.1 41 = .ok (.iaload, 1) := by decide +kernel
theorem dc_Mo_shelve_42 : decode m_Mo_shelve.2.1 42 = .ok (.iastore, 1) := by decide +kernel
theorem dc_Mo_shelve_43 : decode m_Mo_shelve.2.1 43 = .ok (.aload_n 0, 1) := by decide +kernel
theorem dc_Mo_shelve_44 : decode m_Mo_shelve.2.1 44 = .ok (.getfield 50, 3) := by decide +kernel
theorem dc_Mo_shelve_47 : decode m_Mo_shelve.2.1 47 = .ok (.iload_n 3, 1) := by decide +kernel
theorem dc_Mo_shelve_48 : decode m_Mo_shelve.2.1 48 = .ok (.iload 4, 2) := by decide +kernel
theorem dc_Mo_shelve_50 : decode m_Mo_shelve.2.1 50 = .ok (.iadd, 1) := by decide +kernel
theorem dc_Mo_shelve_51 : decode m_Mo_shelve.2.1 51 = .ok (.aload_n 0, 1) := by decide +kernel
theorem dc_Mo_shelve_52 : decode m_Mo_shelve.2.1 52 = .ok (.getfield 50, 3) := by decide +kernel
theorem dc_Mo_shelve_55 : decode m_Mo_shelve.2.1 55 = .ok (.iload_n 2, 1) := by decide +kernel
theorem dc_Mo_shelve_56 : decode m_Mo_shelve.2.1 56 = .ok (.iload 4, 2) := by decide +kernel
theorem dc_Mo_shelve_58 : decode m_Mo_shelve.2.1 58 = .ok (.iadd, 1) := by decide +kernel
theorem dc_Mo_shelve_59 : decode m_Mo_shelve.2.1 59 = .ok (.iaload, 1) := by decide +kernel
theorem dc_Mo_shelve_60 : decode m_Mo_shelve.2.1 60 = .ok (.iastore, 1) := by decide +kernel
theorem dc_Mo_shelve_61 : decode m_Mo_shelve.2.1 61 = .ok (.aload_n 0, 1) := by decide +kernel
theorem dc_Mo_shelve_62 : decode m_Mo_shelve.2.1 62 = .ok (.getfield 53, 3) := by decide +kernel
theorem dc_Mo_shelve_65 : decode m_Mo_shelve.2.1 65 = .ok (.iload_n 3, 1) := by decide +kernel
theorem dc_Mo_shelve_66 : decode m_Mo_shelve.2.1 66 = .ok (.iload 4, 2) := by decide +kernel
theorem dc_Mo_shelve_68 : decode m_Mo_shelve.2.1 68 = .ok (.iadd, 1) := by decide +kernel
theorem dc_Mo_shelve_69 : decode m_Mo_shelve.2.1 69 = .ok (.aload_n 0, 1) := by decide +kernel
theorem dc_Mo_shelve_70 : decode m_Mo_shelve.2.1 70 = .ok (.getfield 53, 3) := by decide +kernel
theorem dc_Mo_shelve_73 : decode m_Mo_shelve.2.1 73 = .ok (.iload_n 2, 1) := by decide +kernel
theorem dc_Mo_shelve_74 : decode m_Mo_shelve.2.1 74 = .ok (.iload 4, 2) := by decide +kernel
theorem dc_Mo_shelve_76 : decode m_Mo_shelve.2.1 76 = .ok (.iadd, 1) := by decide +kernel
theorem dc_Mo_shelve_77 : decode m_Mo_shelve.2.1 77 = .ok (.iaload, 1) := by decide +kernel
theorem dc_Mo_shelve_78 : decode m_Mo_shelve.2.1 78 = .ok (.iastore, 1) := by decide +kernel
theorem dc_Mo_shelve_79 : decode m_Mo_shelve.2.1 79 = .ok (.aload_n 0, 1) := by decide +kernel
theorem dc_Mo_shelve_80 : decode m_Mo_shelve.2.1 80 = .ok (.getfield 56, 3) := by decide +kernel
theorem dc_Mo_shelve_83 : decode m_Mo_shelve.2.1 83 = .ok (.iload_n 3, 1) := by decide +kernel
theorem dc_Mo_shelve_84 : decode m_Mo_shelve.2.1 84 = .ok (.iload 4, 2) := by decide +kernel
theorem dc_Mo_shelve_86 : decode m_Mo_shelve.2.1 86 = .ok (.iadd, 1) := by decide +kernel
theorem dc_Mo_shelve_87 : decode m_Mo_shelve.2.1 87 = .ok (.aload_n 0, 1) := by decide +kernel
theorem dc_Mo_shelve_88 : decode m_Mo_shelve.2.1 88 = .ok (.getfield 56, 3) := by decide +kernel
theorem dc_Mo_shelve_91 : decode m_Mo_shelve.2.1 91 = .ok (.iload_n 2, 1) := by decide +kernel
theorem dc_Mo_shelve_92 : decode m_Mo_shelve.2.1 92 = .ok (.iload 4, 2) := by decide +kernel
theorem dc_Mo_shelve_94 : decode m_Mo_shelve.2.1 94 = .ok (.iadd, 1) := by decide +kernel
theorem dc_Mo_shelve_95 : decode m_Mo_shelve.2.1 95 = .ok (.iaload, 1) := by decide +kernel
theorem dc_Mo_shelve_96 : decode m_Mo_shelve.2.1 96 = .ok (.iastore, 1) := by decide +kernel
theorem dc_Mo_shelve_97 : decode m_Mo_shelve.2.1 97 = .ok (.aload_n 0, 1) := by decide +kernel
theorem dc_Mo_shelve_98 : decode m_Mo_shelve.2.1 98 = .ok (.getfield 59, 3) := by decide +kernel
theorem dc_Mo_shelve_101 : decode m_Mo_shelve.2.1 101 = .ok (.iload_n 3, 1) := by decide +kernel
theorem dc_Mo_shelve_102 : decode m_Mo_shelve.2.1 102 = .ok (.iload 4, 2) := by decide +kernel
theorem dc_Mo_shelve_104 : decode m_Mo_shelve.2.1 104 = .ok (.iadd, 1) := by decide +kernel
theorem dc_Mo_shelve_105 : decode m_Mo_shelve.2.1 105 = .ok (.aload_n 0, 1) := by decide +kernel
theorem dc_Mo_shelve_106 : decode m_Mo_shelve.2.1 106 = .ok (.getfield 59, 3) := by decide +kernel
theorem dc_Mo_shelve_109 : decode m_Mo_shelve.2.1 109 = .ok (.iload_n 2, 1) := by decide +kernel
theorem dc_Mo_shelve_110 : decode m_Mo_shelve.2.1 110 = .ok (.iload 4, 2) := by decide +kernel
theorem dc_Mo_shelve_112 : decode m_Mo_shelve.2.1 112 = .ok (.iadd, 1) := by decide +kernel
theorem dc_Mo_shelve_113 : decode m_Mo_shelve.2.1 113 = .ok (.iaload, 1) := by decide +kernel
theorem dc_Mo_shelve_114 : decode m_Mo_shelve.2.1 114 = .ok (.iastore, 1) := by decide +kernel
theorem dc_Mo_shelve_115 : decode m_Mo_shelve.2.1 115 = .ok (.aload_n 0, 1) := by decide +kernel
theorem dc_Mo_shelve_116 : decode m_Mo_shelve.2.1 116 = .ok (.getfield 62, 3) := by decide +kernel
theorem dc_Mo_shelve_119 : decode m_Mo_shelve.2.1 119 = .ok (.iload_n 3, 1) := by decide +kernel
theorem dc_Mo_shelve_120 : decode m_Mo_shelve.2.1 120 = .ok (.iload 4, 2) := by decide +kernel
theorem dc_Mo_shelve_122 : decode m_Mo_shelve.2.1 122 = .ok (.iadd, 1) := by decide +kernel
theorem dc_Mo_shelve_123 : decode m_Mo_shelve.2.1 123 = .ok (.aload_n 0, 1) := by decide +kernel
theorem dc_Mo_shelve_124 : decode m_Mo_shelve.2.1 124 = .ok (.getfield 62, 3) := by decide +kernel
theorem dc_Mo_shelve_127 : decode m_Mo_shelve.2.1 127 = .ok (.iload_n 2, 1) := by decide +kernel
theorem dc_Mo_shelve_128 : decode m_Mo_shelve.2.1 128 = .ok (.iload 4, 2) := by decide +kernel
theorem dc_Mo_shelve_130 : decode m_Mo_shelve.2.1 130 = .ok (.iadd, 1) := by decide +kernel
theorem dc_Mo_shelve_131 : decode m_Mo_shelve.2.1 131 = .ok (.iaload, 1) := by decide +kernel
theorem dc_Mo_shelve_132 : decode m_Mo_shelve.2.1 132 = .ok (.iastore, 1) := by decide +kernel
theorem dc_Mo_shelve_133 : decode m_Mo_shelve.2.1 133 = .ok (.aload_n 0, 1) := by decide +kernel
theorem dc_Mo_shelve_134 : decode m_Mo_shelve.2.1 134 = .ok (.getfield 65, 3) := by decide +kernel
theorem dc_Mo_shelve_137 : decode m_Mo_shelve.2.1 137 = .ok (.iload_n 3, 1) := by decide +kernel
theorem dc_Mo_shelve_138 : decode m_Mo_shelve.2.1 138 = .ok (.iload 4, 2) := by decide +kernel
theorem dc_Mo_shelve_140 : decode m_Mo_shelve.2.1 140 = .ok (.iadd, 1) := by decide +kernel
theorem dc_Mo_shelve_141 : decode m_Mo_shelve.2.1 141 = .ok (.aload_n 0, 1) := by decide +kernel
theorem dc_Mo_shelve_142 : decode m_Mo_shelve.2.1 142 = .ok (.getfield 65, 3) := by decide +kernel
theorem dc_Mo_shelve_145 : decode m_Mo_shelve.2.1 145 = .ok (.iload_n 2, 1) := by decide +kernel
theorem dc_Mo_shelve_146 : decode m_Mo_shelve.2.1 146 = .ok (.iload 4, 2) := by decide +kernel
theorem dc_Mo_shelve_148 : decode m_Mo_shelve.2.1 148 = .ok (.iadd, 1) := by decide +kernel
theorem dc_Mo_shelve_149 : decode m_Mo_shelve.2.1 149 = .ok (.iaload, 1) := by decide +kernel
theorem dc_Mo_shelve_150 : decode m_Mo_shelve.2.1 150 = .ok (.iastore, 1) := by decide +kernel
theorem dc_Mo_shelve_151 : decode m_Mo_shelve.2.1 151 = .ok (.aload_n 0, 1) := by decide +kernel
theorem dc_Mo_shelve_152 : decode m_Mo_shelve.2.1 152 = .ok (.getfield 68, 3) := by decide +kernel
theorem dc_Mo_shelve_155 : decode m_Mo_shelve.2.1 155 = .ok (.iload_n 3, 1) := by decide +kernel
theorem dc_Mo_shelve_156 : decode m_Mo_shelve.2.1 156 = .ok (.iload 4, 2) := by decide +kernel
theorem dc_Mo_shelve_158 : decode m_Mo_shelve.2.1 158 = .ok (.iadd, 1) := by decide +kernel
theorem dc_Mo_shelve_159 : decode m_Mo_shelve.2.1 159 = .ok (.aload_n 0, 1) := by decide +kernel
theorem dc_Mo_shelve_160 : decode m_Mo_shelve.2.1 160 = .ok (.getfield 68, 3) := by decide +kernel
theorem dc_Mo_shelve_163 : decode m_Mo_shelve.2.1 163 = .ok (.iload_n 2, 1) := by decide +kernel
theorem dc_Mo_shelve_164 : decode m_Mo_shelve.2.1 164 = .ok (.iload 4, 2) := by decide +kernel
theorem dc_Mo_shelve_166 : decode m_Mo_shelve.2.1 166 = .ok (.iadd, 1) := by decide +kernel
theorem dc_Mo_shelve_167 : decode m_Mo_shelve.2.1 167 = .ok (.iaload, 1) := by decide +kernel
theorem dc_Mo_shelve_168 : decode m_Mo_shelve.2.1 168 = .ok (.iastore, 1) := by decide +kernel
theorem dc_Mo_shelve_169 : decode m_Mo_shelve.2.1 169 = .ok (.aload_n 0, 1) := by decide +kernel
theorem dc_Mo_shelve_170 : decode m_Mo_shelve.2.1 170 = .ok (.getfield 71, 3) := by decide +kernel
theorem dc_Mo_shelve_173 : decode m_Mo_shelve.2.1 173 = .ok (.iload_n 3, 1) := by decide +kernel
theorem dc_Mo_shelve_174 : decode m_Mo_shelve.2.1 174 = .ok (.iload 4, 2) := by decide +kernel
theorem dc_Mo_shelve_176 : decode m_Mo_shelve.2.1 176 = .ok (.iadd, 1) := by decide +kernel
theorem dc_Mo_shelve_177 : decode m_Mo_shelve.2.1 177 = .ok (.aload_n 0, 1) := by decide +kernel
theorem dc_Mo_shelve_178 : decode m_Mo_shelve.2.1 178 = .ok (.getfield 71, 3) := by decide +kernel
theorem dc_Mo_shelve_181 : decode m_Mo_shelve.2.1 181 = .ok (.iload_n 2, 1) := by decide +kernel
theorem dc_Mo_shelve_182 : decode m_Mo_shelve.2.1 182 = .ok (.iload 4, 2) := by decide +kernel
theorem dc_Mo_shelve_184 : decode m_Mo_shelve.2.1 184 = .ok (.iadd, 1) := by decide +kernel
theorem dc_Mo_shelve_185 : decode m_Mo_shelve.2.1 185 = .ok (.iaload, 1) := by decide +kernel
theorem dc_Mo_shelve_186 : decode m_Mo_shelve.2.1 186 = .ok (.iastore, 1) := by decide +kernel
theorem dc_Mo_shelve_187 : decode m_Mo_shelve.2.1 187 = .ok (.aload_n 0, 1) := by decide +kernel
theorem dc_Mo_shelve_188 : decode m_Mo_shelve.2.1 188 = .ok (.getfield 74, 3) := by decide +kernel
theorem dc_Mo_shelve_191 : decode m_Mo_shelve.2.1 191 = .ok (.iload_n 3, 1) := by decide +kernel
theorem dc_Mo_shelve_192 : decode m_Mo_shelve.2.1 192 = .ok (.iload 4, 2) := by decide +kernel
theorem dc_Mo_shelve_194 : decode m_Mo_shelve.2.1 194 = .ok (.iadd, 1) := by decide +kernel
theorem dc_Mo_shelve_195 : decode m_Mo_shelve.2.1 195 = .ok (.aload_n 0, 1) := by decide +kernel
theorem dc_Mo_shelve_196 : decode m_Mo_shelve.2.1 196 = .ok (.getfield 74, 3) := by decide +kernel
theorem dc_Mo_shelve_199 : decode m_Mo_shelve.2.1 199 = .ok (.iload_n 2, 1) := by decide +kernel
theorem dc_Mo_shelve_200 : decode m_Mo_shelve.2.1 200 = .ok (.iload 4, 2) := by decide +kernel
theorem dc_Mo_shelve_202 : decode m_Mo_shelve.2.1 202 = .ok (.iadd, 1) := by decide +kernel
theorem dc_Mo_shelve_203 : decode m_Mo_shelve.2.1 203 = .ok (.iaload, 1) := by decide +kernel
theorem dc_Mo_shelve_204 : decode m_Mo_shelve.2.1 204 = .ok (.iastore, 1) := by decide +kernel
theorem dc_Mo_shelve_205 : decode m_Mo_shelve.2.1 205 = .ok (.aload_n 0, 1) := by decide +kernel
theorem dc_Mo_shelve_206 : decode m_Mo_shelve.2.1 206 = .ok (.getfield 77, 3) := by decide +kernel
theorem dc_Mo_shelve_209 : decode m_Mo_shelve.2.1 209 = .ok (.iload_n 3, 1) := by decide +kernel
theorem dc_Mo_shelve_210 : decode m_Mo_shelve.2.1 210 = .ok (.iload 4, 2) := by decide +kernel
theorem dc_Mo_shelve_212 : decode m_Mo_shelve.2.1 212 = .ok (.iadd, 1) := by decide +kernel
theorem dc_Mo_shelve_213 : decode m_Mo_shelve.2.1 213 = .ok (.aload_n 0, 1) := by decide +kernel
theorem dc_Mo_shelve_214 : decode m_Mo_shelve.2.1 214 = .ok (.getfield 77, 3) := by decide +kernel
theorem dc_Mo_shelve_217 : decode m_Mo_shelve.2.1 217 = .ok (.iload_n 2, 1) := by decide +kernel
theorem dc_Mo_shelve_218 : decode m_Mo_shelve.2.1 218 = .ok (.iload 4, 2) := by decide +kernel
theorem dc_Mo_shelve_220 : decode m_Mo_shelve.2.1 220 = .ok (.iadd, 1) := by decide +kernel
theorem dc_Mo_shelve_221 : decode m_Mo_shelve.2.1 221 = .ok (.iaload, 1) := by decide +kernel
theorem dc_Mo_shelve_222 : decode m_Mo_shelve.2.1 222 = .ok (.iastore, 1) := by decide +kernel
theorem dc_Mo_shelve_223 : decode m_Mo_shelve.2.1 223 = .ok (.aload_n 0, 1) := by decide +kernel
theorem dc_Mo_shelve_224 : decode m_Mo_shelve.2.1 224 = .ok (.getfield 80, 3) := by decide +kernel
theorem dc_Mo_shelve_227 : decode m_Mo_shelve.2.1 227 = .ok (.iload_n 3, 1) := by decide +kernel
theorem dc_Mo_shelve_228 : decode m_Mo_shelve.2.1 228 = .ok (.iload 4, 2) := by decide +kernel
theorem dc_Mo_shelve_230 : decode m_Mo_shelve.2.1 230 = .ok (.iadd, 1) := by decide +kernel
theorem dc_Mo_shelve_231 : decode m_Mo_shelve.2.1 231 = .ok (.aload_n 0, 1) := by decide +kernel
theorem dc_Mo_shelve_232 : decode m_Mo_shelve.2.1 232 = .ok (.getfield 80, 3) := by decide +kernel
theorem dc_Mo_shelve_235 : decode m_Mo_shelve.2.1 235 = .ok (.iload_n 2, 1) := by decide +kernel
theorem dc_Mo_shelve_236 : decode m_Mo_shelve.2.1 236 = .ok (.iload 4, 2) := by decide +kernel
theorem dc_Mo_shelve_238 : decode m_Mo_shelve.2.1 238 = .ok (.iadd, 1) := by decide +kernel
theorem dc_Mo_shelve_239 : decode m_Mo_shelve.2.1 239 = .ok (.iaload, 1) := by decide +kernel
theorem dc_Mo_shelve_240 : decode m_Mo_shelve.2.1 240 = .ok (.iastore, 1) := by decide +kernel
theorem dc_Mo_shelve_241 : decode m_Mo_shelve.2.1 241 = .ok (.aload_n 0, 1) := by decide +kernel
theorem dc_Mo_shelve_242 : decode m_Mo_shelve.2.1 242 = .ok (.getfield 83, 3) := by decide +kernel
theorem dc_Mo_shelve_245 : decode m_Mo_shelve.2.1 245 = .ok (.iload_n 3, 1) := by decide +kernel
theorem dc_Mo_shelve_246 : decode m_Mo_shelve.2.1 246 = .ok (.iload 4, 2) := by decide +kernel
theorem dc_Mo_shelve_248 : decode m_Mo_shelve.2.1 248 = .ok (.iadd, 1) := by decide +kernel
theorem dc_Mo_shelve_249 : decode m_Mo_shelve.2.1 249 = .ok (.aload_n 0, 1) := by decide +kernel
theorem dc_Mo_shelve_250 : decode m_Mo_shelve.2.1 250 = .ok (.getfield 83, 3) := by decide +kernel
theorem dc_Mo_shelve_253 : decode m_Mo_shelve.2.1 253 = .ok (.iload_n 2, 1) := by decide +kernel
theorem dc_Mo_shelve_254 : decode m_Mo_shelve.2.1 254 = .ok (.iload 4, 2) := by decide +kernel
theorem dc_Mo_shelve_256 : decode m_Mo_shelve.2.1 256 = .ok (.iadd, 1) := by decide +kernel
theorem dc_Mo_shelve_257 : decode m_Mo_shelve.2.1 257 = .ok (.laload, 1) := by decide +kernel
theorem dc_Mo_shelve_258 : decode m_Mo_shelve.2.1 258 = .ok (.lastore, 1) := by decide +kernel
theorem dc_Mo_shelve_259 : decode m_Mo_shelve.2.1 259 = .ok (.iinc 4 1, 3) := by decide +kernel
theorem dc_Mo_shelve_262 : decode m_Mo_shelve.2.1 262 = .ok (.goto (-249), 3) := by decide +kernel
theorem dc_Mo_shelve_265 : decode m_Mo_shelve.2.1 265 = .ok (.iconst 0, 1) := by decide +kernel
theorem dc_Mo_shelve_266 : decode m_Mo_shelve.2.1 266 = .ok (.istore 4, 2) := by decide +kernel
theorem dc_Mo_shelve_268 : decode m_Mo_shelve.2.1 268 = .ok (.iload 4, 2) := by decide +kernel
theorem dc_Mo_shelve_270 : decode m_Mo_shelve.2.1 270 = .ok (.aload_n 0, 1) := by decide +kernel
theorem dc_Mo_shelve_271 : decode m_Mo_shelve.2.1 271 = .ok (.getfield 38, 3) := by decide +kernel
theorem dc_Mo_shelve_274 : decode m_Mo_shelve.2.1 274 = .ok (.bipush 8, 2) := by decide +kernel
theorem dc_Mo_shelve_276 : decode m_Mo_shelve.2.1 276 = .ok (.iaload, 1) := by decide +kernel
theorem dc_Mo_shelve_277 : decode m_Mo_shelve.2.1 277 = .ok (.if_icmp .ge 33, 3) := by decide +kernel
theorem dc_Mo_shelve_280 : decode m_Mo_shelve.2.1 280 = .ok (.aload_n 0, 1) := by decide +kernel
theorem dc_Mo_shelve_281 : decode m_Mo_shelve.2.1 281 = .ok (.getfield 88, 3) := by decide +kernel
theorem dc_Mo_shelve_284 : decode m_Mo_shelve.2.1 284 = .ok (.sipush 4000, 3) := by decide +kernel
theorem dc_Mo_shelve_287 : decode m_Mo_shelve.2.1 287 = .ok (.iload_n 1, 1) := by decide +kernel
theorem dc_Mo_shelve_288 : decode m_Mo_shelve.2.1 288 = .ok (.imul, 1) := by decide +kernel
theorem dc_Mo_shelve_289 : decode m_Mo_shelve.2.1 289 = .ok (.iload 4, 2) := by decide +kernel
theorem dc_Mo_shelve_291 : decode m_Mo_shelve.2.1 291 = .ok (.iadd, 1) := by decide +kernel
theorem dc_Mo_shelve_292 : decode m_Mo_shelve.2.1 292 = .ok (.aload_n 0, 1) := by decide +kernel
theorem dc_Mo_shelve_293 : decode m_Mo_shelve.2.1 293 = .ok (.getfield 88, 3) := by decide +kernel
theorem dc_Mo_shelve_296 : decode m_Mo_shelve.2.1 296 = .ok (.sipush 32000, 3) := by decide +kernel
theorem dc_Mo_shelve_299 : decode m_Mo_shelve.2.1 299 = .ok (.iload 4, 2) := by decide +kernel
theorem dc_Mo_shelve_301 : decode m_Mo_shelve.2.1 301 = .ok (.iadd, 1) := by decide +kernel
theorem dc_Mo_shelve_302 : decode m_Mo_shelve.2.1 302 = .ok (.iaload, 1) := by decide +kernel
theorem dc_Mo_shelve_303 : decode m_Mo_shelve.2.1 303 = .ok (.iastore, 1) := by decide +kernel
theorem dc_Mo_shelve_304 : decode m_Mo_shelve.2.1 304 = .ok (.iinc 4 1, 3) := by decide +kernel
theorem dc_Mo_shelve_307 : decode m_Mo_shelve.2.1 307 = .ok (.goto (-39), 3) := by decide +kernel
theorem dc_Mo_shelve_310 : decode m_Mo_shelve.2.1 310 = .ok (.iconst 0, 1) := by decide +kernel
theorem dc_Mo_shelve_311 : decode m_Mo_shelve.2.1 311 = .ok (.istore 4, 2) := by decide +kernel
theorem dc_Mo_shelve_313 : decode m_Mo_shelve.2.1 313 = .ok (.iload 4, 2) := by decide +kernel
theorem dc_Mo_shelve_315 : decode m_Mo_shelve.2.1 315 = .ok (.aload_n 0, 1) := by decide +kernel
theorem dc_Mo_shelve_316 : decode m_Mo_shelve.2.1 316 = .ok (.getfield 44, 3) := by decide +kernel
theorem dc_Mo_shelve_319 : decode m_Mo_shelve.2.1 319 = .ok (.bipush 8, 2) := by decide +kernel
theorem dc_Mo_shelve_321 : decode m_Mo_shelve.2.1 321 = .ok (.iaload, 1) := by decide +kernel
theorem dc_Mo_shelve_322 : decode m_Mo_shelve.2.1 322 = .ok (.if_icmp .ge 33, 3) := by decide +kernel
theorem dc_Mo_shelve_325 : decode m_Mo_shelve.2.1 325 = .ok (.aload_n 0, 1) := by decide +kernel
theorem dc_Mo_shelve_326 : decode m_Mo_shelve.2.1 326 = .ok (.getfield 92, 3) := by decide +kernel
theorem dc_Mo_shelve_329 : decode m_Mo_shelve.2.1 329 = .ok (.sipush 13000, 3) := by decide +kernel
theorem dc_Mo_shelve_332 : decode m_Mo_shelve.2.1 332 = .ok (.iload_n 1, 1) := by decide +kernel
theorem dc_Mo_shelve_333 : decode m_Mo_shelve.2.1 333 = .ok (.imul, 1) := by decide +kernel
theorem dc_Mo_shelve_334 : decode m_Mo_shelve.2.1 334 = .ok (.iload 4, 2) := by decide +kernel
theorem dc_Mo_shelve_336 : decode m_Mo_shelve.2.1 336 = .ok (.iadd, 1) := by decide +kernel
theorem dc_Mo_shelve_337 : decode m_Mo_shelve.2.1 337 = .ok (.aload_n 0, 1) := by decide +kernel
theorem dc_Mo_shelve_338 : decode m_Mo_shelve.2.1 338 = .ok (.getfield 92, 3) := by decide +kernel
theorem dc_Mo_shelve_341 : decode m_Mo_shelve.2.1 341 = .ok (.ldc_w 313, 3) := by decide +kernel
theorem dc_Mo_shelve_344 : decode m_Mo_shelve.2.1 344 = .ok (.iload 4, 2) := by decide +kernel
theorem dc_Mo_shelve_346 : decode m_Mo_shelve.2.1 346 = .ok (.iadd, 1) := by decide +kernel
theorem dc_Mo_shelve_347 : decode m_Mo_shelve.2.1 347 = .ok (.iaload, 1) := by decide +kernel
theorem dc_Mo_shelve_348 : decode m_Mo_shelve.2.1 348 = .ok (.iastore, 1) := by decide +kernel
theorem dc_Mo_shelve_349 : decode m_Mo_shelve.2.1 349 = .ok (.iinc 4 1, 3) := by decide +kernel
theorem dc_Mo_shelve_352 : decode m_Mo_shelve.2.1 352 = .ok (.goto (-39), 3) := by decide +kernel
theorem dc_Mo_shelve_355 : decode m_Mo_shelve.2.1 355 = .ok (.aload_n 0, 1) := by decide +kernel
theorem dc_Mo_shelve_356 : decode m_Mo_shelve.2.1 356 = .ok (.getfield 35, 3) := by decide +kernel
theorem dc_Mo_shelve_359 : decode m_Mo_shelve.2.1 359 = .ok (.iload_n 1, 1) := by decide +kernel
theorem dc_Mo_shelve_360 : decode m_Mo_shelve.2.1 360 = .ok (.aload_n 0, 1) := by decide +kernel
theorem dc_Mo_shelve_361 : decode m_Mo_shelve.2.1 361 = .ok (.getfield 35, 3) := by decide +kernel
theorem dc_Mo_shelve_364 : decode m_Mo_shelve.2.1 364 = .ok (.bipush 8, 2) := by decide +kernel
theorem dc_Mo_shelve_366 : decode m_Mo_shelve.2.1 366 = .ok (.iaload, 1) := by decide +kernel
theorem dc_Mo_shelve_367 : decode m_Mo_shelve.2.1 367 = .ok (.iastore, 1) := by decide +kernel
theorem dc_Mo_shelve_368 : decode m_Mo_shelve.2.1 368 = .ok (.aload_n 0, 1) := by decide +kernel
theorem dc_Mo_shelve_369 : decode m_Mo_shelve.2.1 369 = .ok (.getfield 38, 3) := by decide +kernel
theorem dc_Mo_shelve_372 : decode m_Mo_shelve.2.1 372 = .ok (.iload_n 1, 1) := by decide +kernel
theorem dc_Mo_shelve_373 : decode m_Mo_shelve.2.1 373 = .ok (.aload_n 0, 1) := by decide +kernel
theorem dc_Mo_shelve_374 : decode m_Mo_shelve.2.1 374 = .ok (.getfield 38, 3) := by decide +kernel
theorem dc_Mo_shelve_377 : decode m_Mo_shelve.2.1 377 = .ok (.bipush 8, 2) := by decide +kernel
theorem dc_Mo_shelve_379 : decode m_Mo_shelve.2.1 379 = .ok (.iaload, 1) := by decide +kernel
theorem dc_Mo_shelve_380 : decode m_Mo_shelve.2.1 380 = .ok (.iastore, 1) := by decide +kernel
theorem dc_Mo_shelve_381 : decode m_Mo_shelve.2.1 381 = .ok (.aload_n 0, 1) := by decide +kernel
theorem dc_Mo_shelve_382 : decode m_Mo_shelve.2.1 382 = .ok (.getfield 41, 3) := by decide +kernel
theorem dc_Mo_shelve_385 : decode m_Mo_shelve.2.1 385 = .ok (.iload_n 1, 1) := by decide +kernel
theorem dc_Mo_shelve_386 : decode m_Mo_shelve.2.1 386 = .ok (.aload_n 0, 1) := by decide +kernel
theorem dc_Mo_shelve_387 : decode m_Mo_shelve.2.1 387 = .ok (.getfield 41, 3) := by decide +kernel
theorem dc_Mo_shelve_390 : decode m_Mo_shelve.2.1 390 = .ok (.bipush 8, 2) := by decide +kernel
theorem dc_Mo_shelve_392 : decode m_Mo_shelve.2.1 392 = .ok (.iaload, 1) := by decide +kernel
theorem dc_Mo_shelve_393 : decode m_Mo_shelve.2.1 393 = .ok (.iastore, 1) := by decide +kernel
theorem dc_Mo_shelve_394 : decode m_Mo_shelve.2.1 394 = .ok (.aload_n 0, 1) := by decide +kernel
theorem dc_Mo_shelve_395 : decode m_Mo_shelve.2.1 395 = .ok (.getfield 44, 3) := by decide +kernel
theorem dc_Mo_shelve_398 : decode m_Mo_shelve.2.1 398 = .ok (.iload_n 1, 1) := by decide +kernel
theorem dc_Mo_shelve_399 : decode m_Mo_shelve.2.1 399 = .ok (.aload_n 0, 1) := by decide +kernel
theorem dc_Mo_shelve_400 : decode m_Mo_shelve.2.1 400 = .ok (.getfield 44, 3) := by decide +kernel
theorem dc_Mo_shelve_403 : decode m_Mo_shelve.2.1 403 = .ok (.bipush 8, 2) := by decide +kernel
theorem dc_Mo_shelve_405 : decode m_Mo_shelve.2.1 405 = .ok (.iaload, 1) := by decide +kernel
theorem dc_Mo_shelve_406 : decode m_Mo_shelve.2.1 406 = .ok (.iastore, 1) := by decide +kernel
theorem dc_Mo_shelve_407 : decode m_Mo_shelve.2.1 407 = .ok (.aload_n 0, 1) := by decide +kernel
theorem dc_Mo_shelve_408 : decode m_Mo_shelve.2.1 408 = .ok (.getfield 31, 3) := by decide +kernel
theorem dc_Mo_shelve_411 : decode m_Mo_shelve.2.1 411 = .ok (.iload_n 1, 1) := by decide +kernel
theorem dc_Mo_shelve_412 : decode m_Mo_shelve.2.1 412 = .ok (.iconst 1, 1) := by decide +kernel
theorem dc_Mo_shelve_413 : decode m_Mo_shelve.2.1 413 = .ok (.bastore, 1) := by decide +kernel
theorem dc_Mo_shelve_414 : decode m_Mo_shelve.2.1 414 = .ok (.return_, 1) := by decide +kernel
theorem b_Mo_shelve_0 {E : En_t} {d : Nat} {σ : S_t} {Q : Option Value → S_t → Prop} {x1 : Int32}
    (h : JE E d m_Mo_shelve 13 [(0, pv E 0), (1, .int x1), (2, .int (4000 : Int32)), (3, .int ((500 : Int32) * x1)), (4, .int (0 : Int32))] [] σ Q) :
    JE E d m_Mo_shelve 0 [(0, pv E 0), (1, .int x1)] [] σ Q := by
  refine J_sipush (v := (4000 : Int32)) dc_Mo_shelve_0 (Eq.refl 3) rfl ?_
  refine J_istore_n (L' := [(2, .int (4000 : Int32)), (0, pv E 0), (1, .int x1)]) dc_Mo_shelve_3 (Eq.refl 4) (Nat.le_of_ble_eq_true rfl) rfl ?_
  refine J_sipush (v := (500 : Int32)) dc_Mo_shelve_4 (Eq.refl 7) rfl ?_
  refine J_iload_n dc_Mo_shelve_7 (Eq.refl 8) 2 rfl ?_
  refine J_imul dc_Mo_shelve_8 (Eq.refl 9) ?_
  refine J_istore_n (L' := [(3, .int ((500 : Int32) * x1)), (2, .int (4000 : Int32)), (0, pv E 0), (1, .int x1)]) dc_Mo_shelve_9 (Eq.refl 10) (Nat.le_of_ble_eq_true rfl) rfl ?_
  refine J_iconst (v := (0 : Int32)) dc_Mo_shelve_10 (Eq.refl 11) rfl ?_
  refine J_istore (L' := [(4, .int (0 : Int32)), (3, .int ((500 : Int32) * x1)), (2, .int (4000 : Int32)), (0, pv E 0), (1, .int x1)]) dc_Mo_shelve_11 (Eq.refl 13) (Nat.le_of_ble_eq_true rfl) rfl ?_
  refine J_sub [3, 4, 2, 1, 0] rfl ?_
  exact h
theorem b_Mo_shelve_13 {E : En_t} {d : Nat} {σ : S_t} {Q : Option Value → S_t → Prop} {x1 : Int32} {x2 : Int32} {x3 : Int32} {x4 : Int32}
    (h : vp_in (8 : Int32) 9 ∧ (((gI σ 9 (8 : Int32).toNatClampNeg) ≤ x4 → JE E d m_Mo_shelve 268 [(0, pv E 0), (1, .int x1), (4, .int (0 : Int32))] [] σ Q) ∧ (¬ (gI σ 9 (8 : Int32).toNatClampNeg) ≤ x4 → vp_in (x2 + x4) 4500 ∧ (vp_in (x3 + x4) 4500 ∧ (vp_in (x2 + x4) 4500 ∧ (vp_in (x3 + x4) 4500 ∧ (∀ σ1, σ1 = sI (sI σ 13 (x3 + x4).toNatClampNeg (gI σ 13 (x2 + x4).toNatClampNeg)) 14 (x3 + x4).toNatClampNeg (gI (sI σ 13 (x3 + x4).toNatClampNeg (gI σ 13 (x2 + x4).toNatClampNeg)) 14 (x2 + x4).toNatClampNeg) → (vp_in (x2 + x4) 4500 ∧ (vp_in (x3 + x4) 4500 ∧ (vp_in (x2 + x4) 4500 ∧ (vp_in (x3 + x4) 4500 ∧ (∀ σ2, σ2 = sI (sI σ1 15 (x3 + x4).toNatClampNeg (gI σ1 15 (x2 + x4).toNatClampNeg)) 16 (x3 + x4).toNatClampNeg (gI (sI σ1 15 (x3 + x4).toNatClampNeg (gI σ1 15 (x2 + x4).toNatClampNeg)) 16 (x2 + x4).toNatClampNeg) → (vp_in (x2 + x4) 4500 ∧ (vp_in (x3 + x4) 4500 ∧ (vp_in (x2 + x4) 4500 ∧ (vp_in (x3 + x4) 4500 ∧ (∀ σ3, σ3 = sI (sI σ2 17 (x3 + x4).toNatClampNeg (gI σ2 17 (x2 + x4).toNatClampNeg)) 18 (x3 + x4).toNatClampNeg (gI (sI σ2 17 (x3 + x4).toNatClampNeg (gI σ2 17 (x2 + x4).toNatClampNeg)) 18 (x2 + x4).toNatClampNeg) → (vp_in (x2 + x4) 4500 ∧ (vp_in (x3 + x4) 4500 ∧ (vp_in (x2 + x4) 4500 ∧ (vp_in (x3 + x4) 4500 ∧ (∀ σ4, σ4 = sI (sI σ3 19 (x3 + x4).toNatClampNeg (gI σ3 19 (x2 + x4).toNatClampNeg)) 20 (x3 + x4).toNatClampNeg (gI (sI σ3 19 (x3 + x4).toNatClampNeg (gI σ3 19 (x2 + x4).toNatClampNeg)) 20 (x2 + x4).toNatClampNeg) → (vp_in (x2 + x4) 4500 ∧ (vp_in (x3 + x4) 4500 ∧ (vp_in (x2 + x4) 4500 ∧ (vp_in (x3 + x4) 4500 ∧ (∀ σ5, σ5 = sI (sI σ4 21 (x3 + x4).toNatClampNeg (gI σ4 21 (x2 + x4).toNatClampNeg)) 22 (x3 + x4).toNatClampNeg (gI (sI σ4 21 (x3 + x4).toNatClampNeg (gI σ4 21 (x2 + x4).toNatClampNeg)) 22 (x2 + x4).toNatClampNeg) → (vp_in (x2 + x4) 4500 ∧ (vp_in (x3 + x4) 4500 ∧ (vp_in (x2 + x4) 4500 ∧ (vp_in (x3 + x4) 4500 ∧ (∀ σ6, σ6 = sI (sI σ5 23 (x3 + x4).toNatClampNeg (gI σ5 23 (x2 + x4).toNatClampNeg)) 24 (x3 + x4).toNatClampNeg (gI (sI σ5 23 (x3 + x4).toNatClampNeg (gI σ5 23 (x2 + x4).toNatClampNeg)) 24 (x2 + x4).toNatClampNeg) → (vp_in (x2 + x4) 4500 ∧ (vp_in (x3 + x4) 4500 ∧ (JE E d m_Mo_shelve 13 [(0, pv E 0), (1, .int x1), (2, .int x2), (3, .int x3), (4, .int (x4 + (1 : Int32)))] [] (sL σ6 25 (x3 + x4).toNatClampNeg (gL σ6 25 (x2 + x4).toNatClampNeg)) Q))))))))))))))))))))))))))))))))))) :
    JE E d m_Mo_shelve 13 [(0, pv E 0), (1, .int x1), (2, .int x2), (3, .int x3), (4, .int x4)] [] σ Q := by
  refine J_iload dc_Mo_shelve_13 (Eq.refl 15) 4 rfl ?_
  refine J_aload_n dc_Mo_shelve_15 (Eq.refl 16) 0 rfl ?_
  refine J_getF (y := 9) dc_Mo_shelve_16 (Eq.refl 19) fl_Mo_35 (Nat.le_of_ble_eq_true rfl) rfl (Or.inl rfl) rfl ?_
  refine J_bipush (v := (8 : Int32)) dc_Mo_shelve_19 (Eq.refl 21) rfl ?_
  obtain ⟨hg, h⟩ := h
  refine J_iald dc_Mo_shelve_21 (Eq.refl 22) rfl rfl hg ?_
  refine J_icmp_ge dc_Mo_shelve_22 (Eq.refl 25) rfl (fun hc => ?_) (fun hc => ?_)
  · have h := h.1 hc
    refine J_iconst (v := (0 : Int32)) dc_Mo_shelve_265 (Eq.refl 266) rfl ?_
    refine J_istore (L' := [(4, .int (0 : Int32)), (0, pv E 0), (1, .int x1), (2, .int x2), (3, .int x3)]) dc_Mo_shelve_266 (Eq.refl 268) (Nat.le_of_ble_eq_true rfl) rfl ?_
    refine J_sub [1, 2, 0] rfl ?_
    exact h
  · have h := h.2 hc
    refine J_aload_n dc_Mo_shelve_25 (Eq.refl 26) 0 rfl ?_
    refine J_getF (y := 13) dc_Mo_shelve_26 (Eq.refl 29) fl_Mo_47 (Nat.le_of_ble_eq_true rfl) rfl (Or.inl rfl) rfl ?_
    refine J_iload_n dc_Mo_shelve_29 (Eq.refl 30) 3 rfl ?_
    refine J_iload dc_Mo_shelve_30 (Eq.refl 32) 4 rfl ?_
    refine J_iadd dc_Mo_shelve_32 (Eq.refl 33) ?_
    refine J_aload_n dc_Mo_shelve_33 (Eq.refl 34) 0 rfl ?_
    refine J_getF (y := 13) dc_Mo_shelve_34 (Eq.refl 37) fl_Mo_47 (Nat.le_of_ble_eq_true rfl) rfl (Or.inl rfl) rfl ?_
    refine J_iload_n dc_Mo_shelve_37 (Eq.refl 38) 2 rfl ?_
    refine J_iload dc_Mo_shelve_38 (Eq.refl 40) 4 rfl ?_
    refine J_iadd dc_Mo_shelve_40 (Eq.refl 41) ?_
    obtain ⟨hg, h⟩ := h
    refine J_iald dc_Mo_shelve_41 (Eq.refl 42) rfl rfl hg ?_
    obtain ⟨hg, h⟩ := h
    refine J_iast dc_Mo_shelve_42 (Eq.refl 43) rfl rfl hg ?_
    refine J_aload_n dc_Mo_shelve_43 (Eq.refl 44) 0 rfl ?_
    refine J_getF (y := 14) dc_Mo_shelve_44 (Eq.refl 47) fl_Mo_50 (Nat.le_of_ble_eq_true rfl) rfl (Or.inl rfl) rfl ?_
    refine J_iload_n dc_Mo_shelve_47 (Eq.refl 48) 3 rfl ?_
    refine J_iload dc_Mo_shelve_48 (Eq.refl 50) 4 rfl ?_
    refine J_iadd dc_Mo_shelve_50 (Eq.refl 51) ?_
    refine J_aload_n dc_Mo_shelve_51 (Eq.refl 52) 0 rfl ?_
    refine J_getF (y := 14) dc_Mo_shelve_52 (Eq.refl 55) fl_Mo_50 (Nat.le_of_ble_eq_true rfl) rfl (Or.inl rfl) rfl ?_
    refine J_iload_n dc_Mo_shelve_55 (Eq.refl 56) 2 rfl ?_
    refine J_iload dc_Mo_shelve_56 (Eq.refl 58) 4 rfl ?_
    refine J_iadd dc_Mo_shelve_58 (Eq.refl 59) ?_
    obtain ⟨hg, h⟩ := h
    refine J_iald dc_Mo_shelve_59 (Eq.refl 60) rfl rfl hg ?_
    obtain ⟨hg, h⟩ := h
    refine J_iast dc_Mo_shelve_60 (Eq.refl 61) rfl rfl hg ?_
    refine J_st (fun σ1 eσ1 => ?_)
    have h := h σ1 eσ1
    refine J_aload_n dc_Mo_shelve_61 (Eq.refl 62) 0 rfl ?_
    refine J_getF (y := 15) dc_Mo_shelve_62 (Eq.refl 65) fl_Mo_53 (Nat.le_of_ble_eq_true rfl) rfl (Or.inl rfl) rfl ?_
    refine J_iload_n dc_Mo_shelve_65 (Eq.refl 66) 3 rfl ?_
    refine J_iload dc_Mo_shelve_66 (Eq.refl 68) 4 rfl ?_
    refine J_iadd dc_Mo_shelve_68 (Eq.refl 69) ?_
    refine J_aload_n dc_Mo_shelve_69 (Eq.refl 70) 0 rfl ?_
    refine J_getF (y := 15) dc_Mo_shelve_70 (Eq.refl 73) fl_Mo_53 (Nat.le_of_ble_eq_true rfl) rfl (Or.inl rfl) rfl ?_
    refine J_iload_n dc_Mo_shelve_73 (Eq.refl 74) 2 rfl ?_
    refine J_iload dc_Mo_shelve_74 (Eq.refl 76) 4 rfl ?_
    refine J_iadd dc_Mo_shelve_76 (Eq.refl 77) ?_
    obtain ⟨hg, h⟩ := h
    refine J_iald dc_Mo_shelve_77 (Eq.refl 78) rfl rfl hg ?_
    obtain ⟨hg, h⟩ := h
    refine J_iast dc_Mo_shelve_78 (Eq.refl 79) rfl rfl hg ?_
    refine J_aload_n dc_Mo_shelve_79 (Eq.refl 80) 0 rfl ?_
    refine J_getF (y := 16) dc_Mo_shelve_80 (Eq.refl 83) fl_Mo_56 (Nat.le_of_ble_eq_true rfl) rfl (Or.inl rfl) rfl ?_
    refine J_iload_n dc_Mo_shelve_83 (Eq.refl 84) 3 rfl ?_
    refine J_iload dc_Mo_shelve_84 (Eq.refl 86) 4 rfl ?_
    refine J_iadd dc_Mo_shelve_86 (Eq.refl 87) ?_
    refine J_aload_n dc_Mo_shelve_87 (Eq.refl 88) 0 rfl ?_
    refine J_getF (y := 16) dc_Mo_shelve_88 (Eq.refl 91) fl_Mo_56 (Nat.le_of_ble_eq_true rfl) rfl (Or.inl rfl) rfl ?_
    refine J_iload_n dc_Mo_shelve_91 (Eq.refl 92) 2 rfl ?_
    refine J_iload dc_Mo_shelve_92 (Eq.refl 94) 4 rfl ?_
    refine J_iadd dc_Mo_shelve_94 (Eq.refl 95) ?_
    obtain ⟨hg, h⟩ := h
    refine J_iald dc_Mo_shelve_95 (Eq.refl 96) rfl rfl hg ?_
    obtain ⟨hg, h⟩ := h
    refine J_iast dc_Mo_shelve_96 (Eq.refl 97) rfl rfl hg ?_
    refine J_st (fun σ2 eσ2 => ?_)
    have h := h σ2 eσ2
    refine J_aload_n dc_Mo_shelve_97 (Eq.refl 98) 0 rfl ?_
    refine J_getF (y := 17) dc_Mo_shelve_98 (Eq.refl 101) fl_Mo_59 (Nat.le_of_ble_eq_true rfl) rfl (Or.inl rfl) rfl ?_
    refine J_iload_n dc_Mo_shelve_101 (Eq.refl 102) 3 rfl ?_
    refine J_iload dc_Mo_shelve_102 (Eq.refl 104) 4 rfl ?_
    refine J_iadd dc_Mo_shelve_104 (Eq.refl 105) ?_
    refine J_aload_n dc_Mo_shelve_105 (Eq.refl 106) 0 rfl ?_
    refine J_getF (y := 17) dc_Mo_shelve_106 (Eq.refl 109) fl_Mo_59 (Nat.le_of_ble_eq_true rfl) rfl (Or.inl rfl) rfl ?_
    refine J_iload_n dc_Mo_shelve_109 (Eq.refl 110) 2 rfl ?_
    refine J_iload dc_Mo_shelve_110 (Eq.refl 112) 4 rfl ?_
    refine J_iadd dc_Mo_shelve_112 (Eq.refl 113) ?_
    obtain ⟨hg, h⟩ := h
    refine J_iald dc_Mo_shelve_113 (Eq.refl 114) rfl rfl hg ?_
    obtain ⟨hg, h⟩ := h
    refine J_iast dc_Mo_shelve_114 (Eq.refl 115) rfl rfl hg ?_
    refine J_aload_n dc_Mo_shelve_115 (Eq.refl 116) 0 rfl ?_
    refine J_getF (y := 18) dc_Mo_shelve_116 (Eq.refl 119) fl_Mo_62 (Nat.le_of_ble_eq_true rfl) rfl (Or.inl rfl) rfl ?_
    refine J_iload_n dc_Mo_shelve_119 (Eq.refl 120) 3 rfl ?_
    refine J_iload dc_Mo_shelve_120 (Eq.refl 122) 4 rfl ?_
    refine J_iadd dc_Mo_shelve_122 (Eq.refl 123) ?_
    refine J_aload_n dc_Mo_shelve_123 (Eq.refl 124) 0 rfl ?_
    refine J_getF (y := 18) dc_Mo_shelve_124 (Eq.refl 127) fl_Mo_62 (Nat.le_of_ble_eq_true rfl) rfl (Or.inl rfl) rfl ?_
    refine J_iload_n dc_Mo_shelve_127 (Eq.refl 128) 2 rfl ?_
    refine J_iload dc_Mo_shelve_128 (Eq.refl 130) 4 rfl ?_
    refine J_iadd dc_Mo_shelve_130 (Eq.refl 131) ?_
    obtain ⟨hg, h⟩ := h
    refine J_iald dc_Mo_shelve_131 (Eq.refl 132) rfl rfl hg ?_
    obtain ⟨hg, h⟩ := h
    refine J_iast dc_Mo_shelve_132 (Eq.refl 133) rfl rfl hg ?_
    refine J_st (fun σ3 eσ3 => ?_)
    have h := h σ3 eσ3
    refine J_aload_n dc_Mo_shelve_133 (Eq.refl 134) 0 rfl ?_
    refine J_getF (y := 19) dc_Mo_shelve_134 (Eq.refl 137) fl_Mo_65 (Nat.le_of_ble_eq_true rfl) rfl (Or.inl rfl) rfl ?_
    refine J_iload_n dc_Mo_shelve_137 (Eq.refl 138) 3 rfl ?_
    refine J_iload dc_Mo_shelve_138 (Eq.refl 140) 4 rfl ?_
    refine J_iadd dc_Mo_shelve_140 (Eq.refl 141) ?_
    refine J_aload_n dc_Mo_shelve_141 (Eq.refl 142) 0 rfl ?_
    refine J_getF (y := 19) dc_Mo_shelve_142 (Eq.refl 145) fl_Mo_65 (Nat.le_of_ble_eq_true rfl) rfl (Or.inl rfl) rfl ?_
    refine J_iload_n dc_Mo_shelve_145 (Eq.refl 146) 2 rfl ?_
    refine J_iload dc_Mo_shelve_146 (Eq.refl 148) 4 rfl ?_
    refine J_iadd dc_Mo_shelve_148 (Eq.refl 149) ?_
    obtain ⟨hg, h⟩ := h
    refine J_iald dc_Mo_shelve_149 (Eq.refl 150) rfl rfl hg ?_
    obtain ⟨hg, h⟩ := h
    refine J_iast dc_Mo_shelve_150 (Eq.refl 151) rfl rfl hg ?_
    refine J_aload_n dc_Mo_shelve_151 (Eq.refl 152) 0 rfl ?_
    refine J_getF (y := 20) dc_Mo_shelve_152 (Eq.refl 155) fl_Mo_68 (Nat.le_of_ble_eq_true rfl) rfl (Or.inl rfl) rfl ?_
    refine J_iload_n dc_Mo_shelve_155 (Eq.refl 156) 3 rfl ?_
    refine J_iload dc_Mo_shelve_156 (Eq.refl 158) 4 rfl ?_
    refine J_iadd dc_Mo_shelve_158 (Eq.refl 159) ?_
    refine J_aload_n dc_Mo_shelve_159 (Eq.refl 160) 0 rfl ?_
    refine J_getF (y := 20) dc_Mo_shelve_160 (Eq.refl 163) fl_Mo_68 (Nat.le_of_ble_eq_true rfl) rfl (Or.inl rfl) rfl ?_
    refine J_iload_n dc_Mo_shelve_163 (Eq.refl 164) 2 rfl ?_
    refine J_iload dc_Mo_shelve_164 (Eq.refl 166) 4 rfl ?_
    refine J_iadd dc_Mo_shelve_166 (Eq.refl 167) ?_
    obtain ⟨hg, h⟩ := h
    refine J_iald dc_Mo_shelve_167 (Eq.refl 168) rfl rfl hg ?_
    obtain ⟨hg, h⟩ := h
    refine J_iast dc_Mo_shelve_168 (Eq.refl 169) rfl rfl hg ?_
    refine J_st (fun σ4 eσ4 => ?_)
    have h := h σ4 eσ4
    refine J_aload_n dc_Mo_shelve_169 (Eq.refl 170) 0 rfl ?_
    refine J_getF (y := 21) dc_Mo_shelve_170 (Eq.refl 173) fl_Mo_71 (Nat.le_of_ble_eq_true rfl) rfl (Or.inl rfl) rfl ?_
    refine J_iload_n dc_Mo_shelve_173 (Eq.refl 174) 3 rfl ?_
    refine J_iload dc_Mo_shelve_174 (Eq.refl 176) 4 rfl ?_
    refine J_iadd dc_Mo_shelve_176 (Eq.refl 177) ?_
    refine J_aload_n dc_Mo_shelve_177 (Eq.refl 178) 0 rfl ?_
    refine J_getF (y := 21) dc_Mo_shelve_178 (Eq.refl 181) fl_Mo_71 (Nat.le_of_ble_eq_true rfl) rfl (Or.inl rfl) rfl ?_
    refine J_iload_n dc_Mo_shelve_181 (Eq.refl 182) 2 rfl ?_
    refine J_iload dc_Mo_shelve_182 (Eq.refl 184) 4 rfl ?_
    refine J_iadd dc_Mo_shelve_184 (Eq.refl 185) ?_
    obtain ⟨hg, h⟩ := h
    refine J_iald dc_Mo_shelve_185 (Eq.refl 186) rfl rfl hg ?_
    obtain ⟨hg, h⟩ := h
    refine J_iast dc_Mo_shelve_186 (Eq.refl 187) rfl rfl hg ?_
    refine J_aload_n dc_Mo_shelve_187 (Eq.refl 188) 0 rfl ?_
    refine J_getF (y := 22) dc_Mo_shelve_188 (Eq.refl 191) fl_Mo_74 (Nat.le_of_ble_eq_true rfl) rfl (Or.inl rfl) rfl ?_
    refine J_iload_n dc_Mo_shelve_191 (Eq.refl 192) 3 rfl ?_
    refine J_iload dc_Mo_shelve_192 (Eq.refl 194) 4 rfl ?_
    refine J_iadd dc_Mo_shelve_194 (Eq.refl 195) ?_
    refine J_aload_n dc_Mo_shelve_195 (Eq.refl 196) 0 rfl ?_
    refine J_getF (y := 22) dc_Mo_shelve_196 (Eq.refl 199) fl_Mo_74 (Nat.le_of_ble_eq_true rfl) rfl (Or.inl rfl) rfl ?_
    refine J_iload_n dc_Mo_shelve_199 (Eq.refl 200) 2 rfl ?_
    refine J_iload dc_Mo_shelve_200 (Eq.refl 202) 4 rfl ?_
    refine J_iadd dc_Mo_shelve_202 (Eq.refl 203) ?_
    obtain ⟨hg, h⟩ := h
    refine J_iald dc_Mo_shelve_203 (Eq.refl 204) rfl rfl hg ?_
    obtain ⟨hg, h⟩ := h
    refine J_iast dc_Mo_shelve_204 (Eq.refl 205) rfl rfl hg ?_
    refine J_st (fun σ5 eσ5 => ?_)
    have h := h σ5 eσ5
    refine J_aload_n dc_Mo_shelve_205 (Eq.refl 206) 0 rfl ?_
    refine J_getF (y := 23) dc_Mo_shelve_206 (Eq.refl 209) fl_Mo_77 (Nat.le_of_ble_eq_true rfl) rfl (Or.inl rfl) rfl ?_
    refine J_iload_n dc_Mo_shelve_209 (Eq.refl 210) 3 rfl ?_
    refine J_iload dc_Mo_shelve_210 (Eq.refl 212) 4 rfl ?_
    refine J_iadd dc_Mo_shelve_212 (Eq.refl 213) ?_
    refine J_aload_n dc_Mo_shelve_213 (Eq.refl 214) 0 rfl ?_
    refine J_getF (y := 23) dc_Mo_shelve_214 (Eq.refl 217) fl_Mo_77 (Nat.le_of_ble_eq_true rfl) rfl (Or.inl rfl) rfl ?_
    refine J_iload_n dc_Mo_shelve_217 (Eq.refl 218) 2 rfl ?_
    refine J_iload dc_Mo_shelve_218 (Eq.refl 220) 4 rfl ?_
    refine J_iadd dc_Mo_shelve_220 (Eq.refl 221) ?_
    obtain ⟨hg, h⟩ := h
    refine J_iald dc_Mo_shelve_221 (Eq.refl 222) rfl rfl hg ?_
    obtain ⟨hg, h⟩ := h
    refine J_iast dc_Mo_shelve_222 (Eq.refl 223) rfl rfl hg ?_
    refine J_aload_n dc_Mo_shelve_223 (Eq.refl 224) 0 rfl ?_
    refine J_getF (y := 24) dc_Mo_shelve_224 (Eq.refl 227) fl_Mo_80 (Nat.le_of_ble_eq_true rfl) rfl (Or.inl rfl) rfl ?_
    refine J_iload_n dc_Mo_shelve_227 (Eq.refl 228) 3 rfl ?_
    refine J_iload dc_Mo_shelve_228 (Eq.refl 230) 4 rfl ?_
    refine J_iadd dc_Mo_shelve_230 (Eq.refl 231) ?_
    refine J_aload_n dc_Mo_shelve_231 (Eq.refl 232) 0 rfl ?_
    refine J_getF (y := 24) dc_Mo_shelve_232 (Eq.refl 235) fl_Mo_80 (Nat.le_of_ble_eq_true rfl) rfl (Or.inl rfl) rfl ?_
    refine J_iload_n dc_Mo_shelve_235 (Eq.refl 236) 2 rfl ?_
    refine J_iload dc_Mo_shelve_236 (Eq.refl 238) 4 rfl ?_
    refine J_iadd dc_Mo_shelve_238 (Eq.refl 239) ?_
    obtain ⟨hg, h⟩ := h
    refine J_iald dc_Mo_shelve_239 (Eq.refl 240) rfl rfl hg ?_
    obtain ⟨hg, h⟩ := h
    refine J_iast dc_Mo_shelve_240 (Eq.refl 241) rfl rfl hg ?_
    refine J_st (fun σ6 eσ6 => ?_)
    have h := h σ6 eσ6
    refine J_aload_n dc_Mo_shelve_241 (Eq.refl 242) 0 rfl ?_
    refine J_getF (y := 25) dc_Mo_shelve_242 (Eq.refl 245) fl_Mo_83 (Nat.le_of_ble_eq_true rfl) rfl (Or.inl rfl) rfl ?_
    refine J_iload_n dc_Mo_shelve_245 (Eq.refl 246) 3 rfl ?_
    refine J_iload dc_Mo_shelve_246 (Eq.refl 248) 4 rfl ?_
    refine J_iadd dc_Mo_shelve_248 (Eq.refl 249) ?_
    refine J_aload_n dc_Mo_shelve_249 (Eq.refl 250) 0 rfl ?_
    refine J_getF (y := 25) dc_Mo_shelve_250 (Eq.refl 253) fl_Mo_83 (Nat.le_of_ble_eq_true rfl) rfl (Or.inl rfl) rfl ?_
    refine J_iload_n dc_Mo_shelve_253 (Eq.refl 254) 2 rfl ?_
    refine J_iload dc_Mo_shelve_254 (Eq.refl 256) 4 rfl ?_
    refine J_iadd dc_Mo_shelve_256 (Eq.refl 257) ?_
    obtain ⟨hg, h⟩ := h
    refine J_lald dc_Mo_shelve_257 (Eq.refl 258) rfl rfl hg ?_
    obtain ⟨hg, h⟩ := h
    refine J_last dc_Mo_shelve_258 (Eq.refl 259) rfl rfl hg ?_
    refine J_iinc (v := x4 + (1 : Int32)) (L' := [(4, .int (x4 + (1 : Int32))), (0, pv E 0), (1, .int x1), (2, .int x2), (3, .int x3)]) dc_Mo_shelve_259 (Eq.refl 262) 4 rfl rfl (Nat.le_of_ble_eq_true rfl) rfl ?_
    refine J_goto dc_Mo_shelve_262 rfl ?_
    refine J_sub [1, 2, 3, 4, 0] rfl ?_
    exact h
theorem b_Mo_shelve_268 {E : En_t} {d : Nat} {σ : S_t} {Q : Option Value → S_t → Prop} {x1 : Int32} {x4 : Int32}
    (h : vp_in (8 : Int32) 9 ∧ (((gI σ 10 (8 : Int32).toNatClampNeg) ≤ x4 → JE E d m_Mo_shelve 313 [(0, pv E 0), (1, .int x1), (4, .int (0 : Int32))] [] σ Q) ∧ (¬ (gI σ 10 (8 : Int32).toNatClampNeg) ≤ x4 → vp_in ((32000 : Int32) + x4) 36000 ∧ (vp_in (((4000 : Int32) * x1) + x4) 36000 ∧ (JE E d m_Mo_shelve 268 [(0, pv E 0), (1, .int x1), (4, .int (x4 + (1 : Int32)))] [] (sI σ 26 (((4000 : Int32) * x1) + x4).toNatClampNeg (gI σ 26 ((32000 : Int32) + x4).toNatClampNeg)) Q))))) :
    JE E d m_Mo_shelve 268 [(0, pv E 0), (1, .int x1), (4, .int x4)] [] σ Q := by
  refine J_iload dc_Mo_shelve_268 (Eq.refl 270) 2 rfl ?_
  refine J_aload_n dc_Mo_shelve_270 (Eq.refl 271) 0 rfl ?_
  refine J_getF (y := 10) dc_Mo_shelve_271 (Eq.refl 274) fl_Mo_38 (Nat.le_of_ble_eq_true rfl) rfl (Or.inl rfl) rfl ?_
  refine J_bipush (v := (8 : Int32)) dc_Mo_shelve_274 (Eq.refl 276) rfl ?_
  obtain ⟨hg, h⟩ := h
  refine J_iald dc_Mo_shelve_276 (Eq.refl 277) rfl rfl hg ?_
  refine J_icmp_ge dc_Mo_shelve_277 (Eq.refl 280) rfl (fun hc => ?_) (fun hc => ?_)
  · have h := h.1 hc
    refine J_iconst (v := (0 : Int32)) dc_Mo_shelve_310 (Eq.refl 311) rfl ?_
    refine J_istore (L' := [(4, .int (0 : Int32)), (0, pv E 0), (1, .int x1)]) dc_Mo_shelve_311 (Eq.refl 313) (Nat.le_of_ble_eq_true rfl) rfl ?_
    refine J_sub [1, 2, 0] rfl ?_
    exact h
  · have h := h.2 hc
    refine J_aload_n dc_Mo_shelve_280 (Eq.refl 281) 0 rfl ?_
    refine J_getF (y := 26) dc_Mo_shelve_281 (Eq.refl 284) fl_Mo_88 (Nat.le_of_ble_eq_true rfl) rfl (Or.inl rfl) rfl ?_
    refine J_sipush (v := (4000 : Int32)) dc_Mo_shelve_284 (Eq.refl 287) rfl ?_
    refine J_iload_n dc_Mo_shelve_287 (Eq.refl 288) 1 rfl ?_
    refine J_imul dc_Mo_shelve_288 (Eq.refl 289) ?_
    refine J_iload dc_Mo_shelve_289 (Eq.refl 291) 2 rfl ?_
    refine J_iadd dc_Mo_shelve_291 (Eq.refl 292) ?_
    refine J_aload_n dc_Mo_shelve_292 (Eq.refl 293) 0 rfl ?_
    refine J_getF (y := 26) dc_Mo_shelve_293 (Eq.refl 296) fl_Mo_88 (Nat.le_of_ble_eq_true rfl) rfl (Or.inl rfl) rfl ?_
    refine J_sipush (v := (32000 : Int32)) dc_Mo_shelve_296 (Eq.refl 299) rfl ?_
    refine J_iload dc_Mo_shelve_299 (Eq.refl 301) 2 rfl ?_
    refine J_iadd dc_Mo_shelve_301 (Eq.refl 302) ?_
    obtain ⟨hg, h⟩ := h
    refine J_iald dc_Mo_shelve_302 (Eq.refl 303) rfl rfl hg ?_
    obtain ⟨hg, h⟩ := h
    refine J_iast dc_Mo_shelve_303 (Eq.refl 304) rfl rfl hg ?_
    refine J_iinc (v := x4 + (1 : Int32)) (L' := [(4, .int (x4 + (1 : Int32))), (0, pv E 0), (1, .int x1)]) dc_Mo_shelve_304 (Eq.refl 307) 2 rfl rfl (Nat.le_of_ble_eq_true rfl) rfl ?_
    refine J_goto dc_Mo_shelve_307 rfl ?_
    refine J_sub [1, 2, 0] rfl ?_
    exact h
theorem b_Mo_shelve_313 {E : En_t} {d : Nat} {σ : S_t} {Q : Option Value → S_t → Prop} {x1 : Int32} {x4 : Int32}
    (h : vp_in (8 : Int32) 9 ∧ (((gI σ 12 (8 : Int32).toNatClampNeg) ≤ x4 → vp_in (8 : Int32) 9 ∧ (vp_in x1 9 ∧ (vp_in (8 : Int32) 9 ∧ (vp_in x1 9 ∧ (∀ σ1, σ1 = sI (sI σ 9 x1.toNatClampNeg (gI σ 9 (8 : Int32).toNatClampNeg)) 10 x1.toNatClampNeg (gI (sI σ 9 x1.toNatClampNeg (gI σ 9 (8 : Int32).toNatClampNeg)) 10 (8 : Int32).toNatClampNeg) → (vp_in (8 : Int32) 9 ∧ (vp_in x1 9 ∧ (vp_in (8 : Int32) 9 ∧ (vp_in x1 9 ∧ (∀ σ2, σ2 = sI (sI σ1 11 x1.toNatClampNeg (gI σ1 11 (8 : Int32).toNatClampNeg)) 12 x1.toNatClampNeg (gI (sI σ1 11 x1.toNatClampNeg (gI σ1 11 (8 : Int32).toNatClampNeg)) 12 (8 : Int32).toNatClampNeg) → (vp_in x1 9 ∧ (Q none (sI σ2 8 x1.toNatClampNeg (vp_nar .boolean (1 : Int32))))))))))))))) ∧ (¬ (gI σ 12 (8 : Int32).toNatClampNeg) ≤ x4 → vp_in ((104000 : Int32) + x4) 117000 ∧ (vp_in (((13000 : Int32) * x1) + x4) 117000 ∧ (JE E d m_Mo_shelve 313 [(0, pv E 0), (1, .int x1), (4, .int (x4 + (1 : Int32)))] [] (sI σ 27 (((13000 : Int32) * x1) + x4).toNatClampNeg (gI σ 27 ((104000 : Int32) + x4).toNatClampNeg)) Q))))) :
    JE E d m_Mo_shelve 313 [(0, pv E 0), (1, .int x1), (4, .int x4)] [] σ Q := by
  refine J_iload dc_Mo_shelve_313 (Eq.refl 315) 2 rfl ?_
  refine J_aload_n dc_Mo_shelve_315 (Eq.refl 316) 0 rfl ?_
  refine J_getF (y := 12) dc_Mo_shelve_316 (Eq.refl 319) fl_Mo_44 (Nat.le_of_ble_eq_true rfl) rfl (Or.inl rfl) rfl ?_
  refine J_bipush (v := (8 : Int32)) dc_Mo_shelve_319 (Eq.refl 321) rfl ?_
  obtain ⟨hg, h⟩ := h
  refine J_iald dc_Mo_shelve_321 (Eq.refl 322) rfl rfl hg ?_
  refine J_icmp_ge dc_Mo_shelve_322 (Eq.refl 325) rfl (fun hc => ?_) (fun hc => ?_)
  · have h := h.1 hc
    refine J_aload_n dc_Mo_shelve_355 (Eq.refl 356) 0 rfl ?_
    refine J_getF (y := 9) dc_Mo_shelve_356 (Eq.refl 359) fl_Mo_35 (Nat.le_of_ble_eq_true rfl) rfl (Or.inl rfl) rfl ?_
    refine J_iload_n dc_Mo_shelve_359 (Eq.refl 360) 1 rfl ?_
    refine J_aload_n dc_Mo_shelve_360 (Eq.refl 361) 0 rfl ?_
    refine J_getF (y := 9) dc_Mo_shelve_361 (Eq.refl 364) fl_Mo_35 (Nat.le_of_ble_eq_true rfl) rfl (Or.inl rfl) rfl ?_
    refine J_bipush (v := (8 : Int32)) dc_Mo_shelve_364 (Eq.refl 366) rfl ?_
    obtain ⟨hg, h⟩ := h
    refine J_iald dc_Mo_shelve_366 (Eq.refl 367) rfl rfl hg ?_
    obtain ⟨hg, h⟩ := h
    refine J_iast dc_Mo_shelve_367 (Eq.refl 368) rfl rfl hg ?_
    refine J_aload_n dc_Mo_shelve_368 (Eq.refl 369) 0 rfl ?_
    refine J_getF (y := 10) dc_Mo_shelve_369 (Eq.refl 372) fl_Mo_38 (Nat.le_of_ble_eq_true rfl) rfl (Or.inl rfl) rfl ?_
    refine J_iload_n dc_Mo_shelve_372 (Eq.refl 373) 1 rfl ?_
    refine J_aload_n dc_Mo_shelve_373 (Eq.refl 374) 0 rfl ?_
    refine J_getF (y := 10) dc_Mo_shelve_374 (Eq.refl 377) fl_Mo_38 (Nat.le_of_ble_eq_true rfl) rfl (Or.inl rfl) rfl ?_
    refine J_bipush (v := (8 : Int32)) dc_Mo_shelve_377 (Eq.refl 379) rfl ?_
    obtain ⟨hg, h⟩ := h
    refine J_iald dc_Mo_shelve_379 (Eq.refl 380) rfl rfl hg ?_
    obtain ⟨hg, h⟩ := h
    refine J_iast dc_Mo_shelve_380 (Eq.refl 381) rfl rfl hg ?_
    refine J_st (fun σ1 eσ1 => ?_)
    have h := h σ1 eσ1
    refine J_aload_n dc_Mo_shelve_381 (Eq.refl 382) 0 rfl ?_
    refine J_getF (y := 11) dc_Mo_shelve_382 (Eq.refl 385) fl_Mo_41 (Nat.le_of_ble_eq_true rfl) rfl (Or.inl rfl) rfl ?_
    refine J_iload_n dc_Mo_shelve_385 (Eq.refl 386) 1 rfl ?_
    refine J_aload_n dc_Mo_shelve_386 (Eq.refl 387) 0 rfl ?_
    refine J_getF (y := 11) dc_Mo_shelve_387 (Eq.refl 390) fl_Mo_41 (Nat.le_of_ble_eq_true rfl) rfl (Or.inl rfl) rfl ?_
    refine J_bipush (v := (8 : Int32)) dc_Mo_shelve_390 (Eq.refl 392) rfl ?_
    obtain ⟨hg, h⟩ := h
    refine J_iald dc_Mo_shelve_392 (Eq.refl 393) rfl rfl hg ?_
    obtain ⟨hg, h⟩ := h
    refine J_iast dc_Mo_shelve_393 (Eq.refl 394) rfl rfl hg ?_
    refine J_aload_n dc_Mo_shelve_394 (Eq.refl 395) 0 rfl ?_
    refine J_getF (y := 12) dc_Mo_shelve_395 (Eq.refl 398) fl_Mo_44 (Nat.le_of_ble_eq_true rfl) rfl (Or.inl rfl) rfl ?_
    refine J_iload_n dc_Mo_shelve_398 (Eq.refl 399) 1 rfl ?_
    refine J_aload_n dc_Mo_shelve_399 (Eq.refl 400) 0 rfl ?_
    refine J_getF (y := 12) dc_Mo_shelve_400 (Eq.refl 403) fl_Mo_44 (Nat.le_of_ble_eq_true rfl) rfl (Or.inl rfl) rfl ?_
    refine J_bipush (v := (8 : Int32)) dc_Mo_shelve_403 (Eq.refl 405) rfl ?_
    obtain ⟨hg, h⟩ := h
    refine J_iald dc_Mo_shelve_405 (Eq.refl 406) rfl rfl hg ?_
    obtain ⟨hg, h⟩ := h
    refine J_iast dc_Mo_shelve_406 (Eq.refl 407) rfl rfl hg ?_
    refine J_st (fun σ2 eσ2 => ?_)
    have h := h σ2 eσ2
    refine J_aload_n dc_Mo_shelve_407 (Eq.refl 408) 0 rfl ?_
    refine J_getF (y := 8) dc_Mo_shelve_408 (Eq.refl 411) fl_Mo_31 (Nat.le_of_ble_eq_true rfl) rfl (Or.inl rfl) rfl ?_
    refine J_iload_n dc_Mo_shelve_411 (Eq.refl 412) 1 rfl ?_
    refine J_iconst (v := (1 : Int32)) dc_Mo_shelve_412 (Eq.refl 413) rfl ?_
    obtain ⟨hg, h⟩ := h
    refine J_zast dc_Mo_shelve_413 (Eq.refl 414) rfl rfl hg ?_
    exact J_vret dc_Mo_shelve_414 rfl h
  · have h := h.2 hc
    refine J_aload_n dc_Mo_shelve_325 (Eq.refl 326) 0 rfl ?_
    refine J_getF (y := 27) dc_Mo_shelve_326 (Eq.refl 329) fl_Mo_92 (Nat.le_of_ble_eq_true rfl) rfl (Or.inl rfl) rfl ?_
    refine J_sipush (v := (13000 : Int32)) dc_Mo_shelve_329 (Eq.refl 332) rfl ?_
    refine J_iload_n dc_Mo_shelve_332 (Eq.refl 333) 1 rfl ?_
    refine J_imul dc_Mo_shelve_333 (Eq.refl 334) ?_
    refine J_iload dc_Mo_shelve_334 (Eq.refl 336) 2 rfl ?_
    refine J_iadd dc_Mo_shelve_336 (Eq.refl 337) ?_
    refine J_aload_n dc_Mo_shelve_337 (Eq.refl 338) 0 rfl ?_
    refine J_getF (y := 27) dc_Mo_shelve_338 (Eq.refl 341) fl_Mo_92 (Nat.le_of_ble_eq_true rfl) rfl (Or.inl rfl) rfl ?_
    refine J_ldcw dc_Mo_shelve_341 (Eq.refl 344) kc_Mo_313 ?_
    refine J_iload dc_Mo_shelve_344 (Eq.refl 346) 2 rfl ?_
    refine J_iadd dc_Mo_shelve_346 (Eq.refl 347) ?_
    obtain ⟨hg, h⟩ := h
    refine J_iald dc_Mo_shelve_347 (Eq.refl 348) rfl rfl hg ?_
    obtain ⟨hg, h⟩ := h
    refine J_iast dc_Mo_shelve_348 (Eq.refl 349) rfl rfl hg ?_
    refine J_iinc (v := x4 + (1 : Int32)) (L' := [(4, .int (x4 + (1 : Int32))), (0, pv E 0), (1, .int x1)]) dc_Mo_shelve_349 (Eq.refl 352) 2 rfl rfl (Nat.le_of_ble_eq_true rfl) rfl ?_
    refine J_goto dc_Mo_shelve_352 rfl ?_
    refine J_sub [1, 2, 0] rfl ?_
    exact h
theorem dc_Mo_place_0 : decode m_Mo_place.2.1 0 = .ok (.aload_n 0, 1) := by decide +kernel
theorem dc_Mo_place_1 : decode m_Mo_place.2.1 1 = .ok (.getfield 98, 3) := by decide +kernel
theorem dc_Mo_place_4 : decode m_Mo_place.2.1 4 = .ok (.ireturn, 1) := by decide +kernel
theorem b_Mo_place_0 {E : En_t} {d : Nat} {σ : S_t} {Q : Option Value → S_t → Prop}
    (h : Q (some (.int (gI σ 0 42))) σ) :
    JE E d m_Mo_place 0 [(0, pv E 0)] [] σ Q := by
  refine J_aload_n dc_Mo_place_0 (Eq.refl 1) 0 rfl ?_
  refine J_getI dc_Mo_place_1 (Eq.refl 4) fl_Mo_98 (Nat.le_of_ble_eq_true rfl) rfl (Or.inl rfl) ?_
  exact J_iret dc_Mo_place_4 rfl h
theorem dc_Mo_form_0 : decode m_Mo_form.2.1 0 = .ok (.aload_n 0, 1) := by decide +kernel
theorem dc_Mo_form_1 : decode m_Mo_form.2.1 1 = .ok (.iload_n 1, 1) := by decide +kernel
theorem dc_Mo_form_2 : decode m_Mo_form.2.1 2 = .ok (.iload_n 2, 1) := by decide +kernel
theorem dc_Mo_form_3 : decode m_Mo_form.2.1 3 = .ok (.invokevirtual 408, 3) := by decide +kernel
theorem dc_Mo_form_6 : decode m_Mo_form.2.1 6 = .ok (.ifCond .ne 5, 3) := by decide +kernel
theorem dc_Mo_form_9 : decode m_Mo_form.2.1 9 = .ok (.iconst (-1), 1) := by decide +kernel
theorem dc_Mo_form_10 : decode m_Mo_form.2.1 10 = .ok (.ireturn, 1) := by decide +kernel
theorem dc_Mo_form_11 : decode m_Mo_form.2.1 11 = .ok (.aload_n 0, 1) := by decide +kernel
theorem dc_Mo_form_12 : decode m_Mo_form.2.1 12 = .ok (.invokevirtual 285, 3) := by decide +kernel
theorem dc_Mo_form_15 : decode m_Mo_form.2.1 15 = .ok (.sipush 500, 3) := by decide +kernel
theorem dc_Mo_form_18 : decode m_Mo_form.2.1 18 = .ok (.iload_n 1, 1) := by decide +kernel
theorem dc_Mo_form_19 : decode m_Mo_form.2.1 19 = .ok (.imul, 1) := by decide +kernel
theorem dc_Mo_form_20 : decode m_Mo_form.2.1 20 = .ok (.istore_n 3, 1) := by decide +kernel
theorem dc_Mo_form_21 : decode m_Mo_form.2.1 21 = .ok (.iload_n 2, 1) := by decide +kernel
theorem dc_Mo_form_22 : decode m_Mo_form.2.1 22 = .ok (.aload_n 0, 1) := by decide +kernel
theorem dc_Mo_form_23 : decode m_Mo_form.2.1 23 = .ok (.getfield 59, 3) := by decide +kernel
theorem dc_Mo_form_26 : decode m_Mo_form.2.1 26 = .ok (.iload_n 3, 1) := by decide +kernel
theorem dc_Mo_form_27 : decode m_Mo_form.2.1 27 = .ok (.iload_n 2, 1) := by decide +kernel
theorem dc_Mo_form_28 : decode m_Mo_form.2.1 28 = .ok (.iadd, 1) := by decide +kernel
theorem dc_Mo_form_29 : decode m_Mo_form.2.1 29 = .ok (.iaload, 1) := by decide +kernel
theorem dc_Mo_form_30 : decode m_Mo_form.2.1 30 = .ok (.iadd, 1) := by decide +kernel
theorem dc_Mo_form_31 : decode m_Mo_form.2.1 31 = .ok (.istore 4, 2) := by decide +kernel
theorem dc_Mo_form_33 : decode m_Mo_form.2.1 33 = .ok (.iload_n 2, 1) := by decide +kernel
theorem dc_Mo_form_34 : decode m_Mo_form.2.1 34 = .ok (.istore 5, 2) := by decide +kernel
theorem dc_Mo_form_36 : decode m_Mo_form.2.1 36 = .ok (.iload 5, 2) := by decide +kernel
theorem dc_Mo_form_38 : decode m_Mo_form.2.1 38 = .ok (.iload 4, 2) := by decide +kernel
theorem dc_Mo_form_40 : decode m_Mo_form.2.1 40 = .ok (.if_icmp .ge 183, 3) := by decide +kernel
theorem dc_Mo_form_43 : decode m_Mo_form.2.1 43 = .ok (.iload 5, 2) := by decide +kernel
theorem dc_Mo_form_45 : decode m_Mo_form.2.1 45 = .ok (.iload_n 2, 1) := by decide +kernel
theorem dc_Mo_form_46 : decode m_Mo_form.2.1 46 = .ok (.if_icmp .le 67, 3) := by decide +kernel
theorem dc_Mo_form_49 : decode m_Mo_form.2.1 49 = .ok (.aload_n 0, 1) := by decide +kernel
theorem dc_Mo_form_50 : decode m_Mo_form.2.1 50 = .ok (.getfield 53, 3) := by decide +kernel
theorem dc_Mo_form_53 : decode m_Mo_form.2.1 53 = .ok (.iload_n 3, 1) := by decide +kernel
theorem dc_Mo_form_54 : decode m_Mo_form.2.1 54 = .ok (.iload 5, 2) := by decide +kernel
theorem dc_Mo_form_56 : decode m_Mo_form.2.1 56 = .ok (.iadd, 1) := by decide +kernel
theorem dc_Mo_form_57 : decode m_Mo_form.2.1 57 = .ok (.iaload, 1) := by decide +kernel
theorem dc_Mo_form_58 : decode m_Mo_form.2.1 58 = .ok (.ifCond .le 9, 3) := by decide +kernel
theorem dc_Mo_form_61 : decode m_Mo_form.2.1 61 = .ok (.aload_n 0, 1) := by decide +kernel
theorem dc_Mo_form_62 : decode m_Mo_form.2.1 62 = .ok (.bipush 44, 2) := by decide +kernel
theorem dc_Mo_form_64 : decode m_Mo_form.2.1 64 = .ok (.invokevirtual 288, 3) := by decide +kernel
theorem dc_Mo_form_67 : decode m_Mo_form.2.1 67 = .ok (.aload_n 0, 1) := by decide +kernel
theorem dc_Mo_form_68 : decode m_Mo_form.2.1 68 = .ok (.getfield 68, 3) := by decide +kernel
theorem dc_Mo_form_71 : decode m_Mo_form.2.1 71 = .ok (.iload_n 3, 1) := by decide +kernel
theorem dc_Mo_form_72 : decode m_Mo_form.2.1 72 = .ok (.iload 5, 2) := by decide +kernel
theorem dc_Mo_form_74 : decode m_Mo_form.2.1 74 = .ok (.iadd, 1) := by decide +kernel
theorem dc_Mo_form_75 : decode m_Mo_form.2.1 75 = .ok (.iaload, 1) := by decide +kernel
theorem dc_Mo_form_76 : decode m_Mo_form.2.1 76 = .ok (.ifCond .lt 37, 3) := by decide +kernel
theorem dc_Mo_form_79 : decode m_Mo_form.2.1 79 = .ok (.aload_n 0, 1) := by decide +kernel
theorem dc_Mo_form_80 : decode m_Mo_form.2.1 80 = .ok (.sipush 4000, 3) := by decide +kernel
theorem dc_Mo_form_83 : decode m_Mo_form.2.1 83 = .ok (.iload_n 1, 1) := by decide +kernel
theorem dc_Mo_form_84 : decode m_Mo_form.2.1 84 = .ok (.imul, 1) := by decide +kernel
theorem dc_Mo_form_85 : decode m_Mo_form.2.1 85 = .ok (.aload_n 0, 1) := by decide +kernel
theorem dc_Mo_form_86 : decode m_Mo_form.2.1 86 = .ok (.getfield 65, 3) := by decide +kernel
theorem dc_Mo_form_89 : decode m_Mo_form.2.1 89 = .ok (.iload_n 3, 1) := by decide +kernel
theorem dc_Mo_form_90 : decode m_Mo_form.2.1 90 = .ok (.iload 5, 2) := by decide +kernel
theorem dc_Mo_form_92 : decode m_Mo_form.2.1 92 = .ok (.iadd, 1) := by decide +kernel
theorem dc_Mo_form_93 : decode m_Mo_form.2.1 93 = .ok (.iaload, 1) := by decide +kernel
theorem dc_Mo_form_94 : decode m_Mo_form.2.1 94 = .ok (.iadd, 1) := by decide +kernel
theorem dc_Mo_form_95 : decode m_Mo_form.2.1 95 = .ok (.aload_n 0, 1) := by decide +kernel
theorem dc_Mo_form_96 : decode m_Mo_form.2.1 96 = .ok (.getfield 68, 3) := by decide +kernel
theorem dc_Mo_form_99 : decode m_Mo_form.2.1 99 = .ok (.iload_n 3, 1) := by decide +kernel
theorem dc_Mo_form_100 : decode m_Mo_form.2.1 100 = .ok (.iload 5, 2) := by decide +kernel
theorem dc_Mo_form_102 : decode m_Mo_form.2.1 102 = .ok (.iadd, 1) := by decide +kernel
theorem dc_Mo_form_103 : decode m_Mo_form.2.1 103 = .ok (.iaload, 1) := by decide +kernel
theorem dc_Mo_form_104 : decode m_Mo_form.2.1 104 = .ok (.invokevirtual 405, 3) := by decide +kernel
theorem dc_Mo_form_107 : decode m_Mo_form.2.1 107 = .ok (.aload_n 0, 1) := by decide +kernel
theorem dc_Mo_form_108 : decode m_Mo_form.2.1 108 = .ok (.bipush 58, 2) := by decide +kernel
theorem dc_Mo_form_110 : decode m_Mo_form.2.1 110 = .ok (.invokevirtual 288, 3) := by decide +kernel
theorem dc_Mo_form_113 : decode m_Mo_form.2.1 113 = .ok (.aload_n 0, 1) := by decide +kernel
theorem dc_Mo_form_114 : decode m_Mo_form.2.1 114 = .ok (.iload_n 1, 1) := by decide +kernel
theorem dc_Mo_form_115 : decode m_Mo_form.2.1 115 = .ok (.iload_n 3, 1) := by decide +kernel
theorem dc_Mo_form_116 : decode m_Mo_form.2.1 116 = .ok (.iload 5, 2) := by decide +kernel
theorem dc_Mo_form_118 : decode m_Mo_form.2.1 118 = .ok (.iadd, 1) := by decide +kernel
theorem dc_Mo_form_119 : decode m_Mo_form.2.1 119 = .ok (.invokevirtual 411, 3) := by decide +kernel
theorem dc_Mo_form_122 : decode m_Mo_form.2.1 122 = .ok (.iload 5, 2) := by decide +kernel
theorem dc_Mo_form_124 : decode m_Mo_form.2.1 124 = .ok (.istore 6, 2) := by decide +kernel
theorem dc_Mo_form_126 : decode m_Mo_form.2.1 126 = .ok (.iload 6, 2) := by decide +kernel
theorem dc_Mo_form_128 : decode m_Mo_form.2.1 128 = .ok (.iload_n 2, 1) := by decide +kernel
theorem dc_Mo_form_129 : decode m_Mo_form.2.1 129 = .ok (.if_icmp .lt 88, 3) := by decide +kernel
theorem dc_Mo_form_132 : decode m_Mo_form.2.1 132 = .ok (.iload 5, 2) := by decide +kernel
theorem dc_Mo_form_134 : decode m_Mo_form.2.1 134 = .ok (.iconst 1, 1) := by decide +kernel
theorem dc_Mo_form_135 : decode m_Mo_form.2.1 135 = .ok (.iadd, 1) := by decide +kernel
theorem dc_Mo_form_136 : decode m_Mo_form.2.1 136 = .ok (.iload 6, 2) := by decide +kernel
theorem dc_Mo_form_138 : decode m_Mo_form.2.1 138 = .ok (.aload_n 0, 1) := by decide +kernel
theorem dc_Mo_form_139 : decode m_Mo_form.2.1 139 = .ok (.getfield 59, 3) := by decide +kernel
theorem dc_Mo_form_142 : decode m_Mo_form.2.1 142 = .ok (.iload_n 3, 1) := by decide +kernel
theorem dc_Mo_form_143 : decode m_Mo_form.2.1 143 = .ok (.iload 6, 2) := by decide +kernel
theorem dc_Mo_form_145 : decode m_Mo_form.2.1 145 = .ok (.iadd, 1) := by decide +kernel
theorem dc_Mo_form_146 : decode m_Mo_form.2.1 146 = .ok (.iaload, 1) := by decide +kernel
theorem dc_Mo_form_147 : decode m_Mo_form.2.1 147 = .ok (.iadd, 1) := by decide +kernel
theorem dc_Mo_form_148 : decode m_Mo_form.2.1 148 = .ok (.if_icmp .ne 69, 3) := by decide +kernel
theorem dc_Mo_form_151 : decode m_Mo_form.2.1 151 = .ok (.aload_n 0, 1) := by decide +kernel
theorem dc_Mo_form_152 : decode m_Mo_form.2.1 152 = .ok (.getfield 47, 3) := by decide +kernel
theorem dc_Mo_form_155 : decode m_Mo_form.2.1 155 = .ok (.iload_n 3, 1) := by decide +kernel
theorem dc_Mo_form_156 : decode m_Mo_form.2.1 156 = .ok (.iload 6, 2) := by decide +kernel
theorem dc_Mo_form_158 : decode m_Mo_form.2.1 158 = .ok (.iadd, 1) := by decide +kernel
theorem dc_Mo_form_159 : decode m_Mo_form.2.1 159 = .ok (.iaload, 1) := by decide +kernel
theorem dc_Mo_form_160 : decode m_Mo_form.2.1 160 = .ok (.iconst 5, 1) := by decide +kernel
theorem dc_Mo_form_161 : decode m_Mo_form.2.1 161 = .ok (.if_icmp .ne 12, 3) := by decide +kernel
theorem dc_Mo_form_164 : decode m_Mo_form.2.1 164 = .ok (.aload_n 0, 1) := by decide +kernel
theorem dc_Mo_form_165 : decode m_Mo_form.2.1 165 = .ok (.bipush 93, 2) := by decide +kernel
theorem dc_Mo_form_167 : decode m_Mo_form.2.1 167 = .ok (.invokevirtual 288, 3) := by decide +kernel
theorem dc_Mo_form_170 : decode m_Mo_form.2.1 170 = .ok (.goto 23, 3) := by decide +kernel
theorem dc_Mo_form_173 : decode m_Mo_form.2.1 173 = .ok (.aload_n 0, 1) := by decide +kernel
theorem dc_Mo_form_174 : decode m_Mo_form.2.1 174 = .ok (.getfield 47, 3) := by decide +kernel
theorem dc_Mo_form_177 : decode m_Mo_form.2.1 177 = .ok (.iload_n 3, 1) := by decide +kernel
theorem dc_Mo_form_178 : decode m_Mo_form.2.1 178 = .ok (.iload 6, 2) := by decide +kernel
theorem dc_Mo_form_180 : decode m_Mo_form.2.1 180 = .ok (.iadd, 1) := by decide +kernel
theorem dc_Mo_form_181 : decode m_Mo_form.2.1 181 = .ok (.iaload, 1) := by decide +kernel
theorem dc_Mo_form_182 : decode m_Mo_form.2.1 182 = .ok (.bipush 6, 2) := by decide +kernel
theorem dc_Mo_form_184 : decode m_Mo_form.2.1 184 = .ok (.if_icmp .ne 9, 3) := by decide +kernel
theorem dc_Mo_form_187 : decode m_Mo_form.2.1 187 = .ok (.aload_n 0, 1) := by decide +kernel
theorem dc_Mo_form_188 : decode m_Mo_form.2.1 188 = .ok (.bipush 125, 2) := by decide +kernel
theorem dc_Mo_form_190 : decode m_Mo_form.2.1 190 = .ok (.invokevirtual 288, 3) := by decide +kernel
theorem dc_Mo_form_193 : decode m_Mo_form.2.1 193 = .ok (.iload 6, 2) := by decide +kernel
theorem dc_Mo_form_195 : decode m_Mo_form.2.1 195 = .ok (.iload_n 2, 1) := by decide +kernel
theorem dc_Mo_form_196 : decode m_Mo_form.2.1 196 = .ok (.if_icmp .ne 7, 3) := by decide +kernel
theorem dc_Mo_form_199 : decode m_Mo_form.2.1 199 = .ok (.iconst (-1), 1) := by decide +kernel
theorem dc_Mo_form_200 : decode m_Mo_form.2.1 200 = .ok (.goto 12, 3) := by decide +kernel
theorem dc_Mo_form_203 : decode m_Mo_form.2.1 203 = .ok (.aload_n 0, 1) := by decide +kernel
theorem dc_Mo_form_204 : decode m_Mo_form.2.1 204 = .ok (.getfield 50, 3) := by decide +kernel
theorem dc_Mo_form_207 : decode m_Mo_form.2.1 207 = .ok (.iload_n 3, 1) := by decide +kernel
theorem dc_Mo_form_208 : decode m_Mo_form.2.1 208 = .ok (.iload 6, 2) := by decide +kernel
theorem dc_Mo_form_210 : decode m_Mo_form.2.1 210 = .ok (.iadd, 1) := by decide +kernel
theorem dc_Mo_form_211 : decode m_Mo_form.2.1 211 = .ok (.iaload, 1) := by decide +kernel
theorem dc_Mo_form_212 : decode m_Mo_form.2.1 212 = .ok (.istore 6, 2) := by decide +kernel
theorem dc_Mo_form_214 : decode m_Mo_form.2.1 214 = .ok (.goto (-88), 3) := by decide +kernel
theorem dc_Mo_form_217 : decode m_Mo_form.2.1 217 = .ok (.iinc 5 1, 3) := by decide +kernel
theorem dc_Mo_form_220 : decode m_Mo_form.2.1 220 = .ok (.goto (-184), 3) := by decide +kernel
theorem dc_Mo_form_223 : decode m_Mo_form.2.1 223 = .ok (.aload_n 0, 1) := by decide +kernel
theorem dc_Mo_form_224 : decode m_Mo_form.2.1 224 = .ok (.getfield 169, 3) := by decide +kernel
theorem dc_Mo_form_227 : decode m_Mo_form.2.1 227 = .ok (.ireturn, 1) := by decide +kernel
theorem b_Mo_form_0 {E : En_t} {d : Nat} {σ : S_t} {Q : Option Value → S_t → Prop} {x1 : Int32} {x2 : Int32}
    (h : CI E d m_Mo_has [pv E 0, .int x1, .int x2] σ (fun r2 σ1 => (¬ r2 = 0 → CV E d m_Mo_clearOut [pv E 0] σ1 (fun σ3 => vp_in (((500 : Int32) * x1) + x2) 4500 ∧ (JE E (d + 1) m_Mo_form 36 [(0, pv E 0), (1, .int x1), (2, .int x2), (3, .int ((500 : Int32) * x1)), (4, .int (x2 + (gI σ3 17 (((500 : Int32) * x1) + x2).toNatClampNeg))), (5, .int x2)] [] σ3 Q))) ∧ (r2 = 0 → Q (some (.int (-1 : Int32))) σ1))) :
    JE E (d + 1) m_Mo_form 0 [(0, pv E 0), (1, .int x1), (2, .int x2)] [] σ Q := by
  refine J_aload_n dc_Mo_form_0 (Eq.refl 1) 0 rfl ?_
  refine J_iload_n dc_Mo_form_1 (Eq.refl 2) 1 rfl ?_
  refine J_iload_n dc_Mo_form_2 (Eq.refl 3) 2 rfl ?_
  refine J_callVI (As := [.int x1, .int x2]) (st := []) dc_Mo_form_3 (Eq.refl 6) lk_Mo_408 mi_Mo_has rfl (Nat.le_of_ble_eq_true rfl) rfl rfl (Nat.le_of_ble_eq_true rfl) rfl (Nat.le_of_ble_eq_true rfl) (CI.mono h (fun r2 σ1 h => ?_))
  refine J_if_ne dc_Mo_form_6 (Eq.refl 9) rfl (fun hc => ?_) (fun hc => ?_)
  · have h := h.1 hc
    refine J_aload_n dc_Mo_form_11 (Eq.refl 12) 0 rfl ?_
    refine J_callVV (As := []) (st := []) dc_Mo_form_12 (Eq.refl 15) lk_Mo_285 mi_Mo_clearOut rfl (Nat.le_of_ble_eq_true rfl) rfl rfl (Nat.le_of_ble_eq_true rfl) rfl (Nat.le_of_ble_eq_true rfl) (CV.mono h (fun σ3 h => ?_))
    refine J_sipush (v := (500 : Int32)) dc_Mo_form_15 (Eq.refl 18) rfl ?_
    refine J_iload_n dc_Mo_form_18 (Eq.refl 19) 1 rfl ?_
    refine J_imul dc_Mo_form_19 (Eq.refl 20) ?_
    refine J_istore_n (L' := [(3, .int ((500 : Int32) * x1)), (0, pv E 0), (1, .int x1), (2, .int x2)]) dc_Mo_form_20 (Eq.refl 21) (Nat.le_of_ble_eq_true rfl) rfl ?_
    refine J_iload_n dc_Mo_form_21 (Eq.refl 22) 3 rfl ?_
    refine J_aload_n dc_Mo_form_22 (Eq.refl 23) 1 rfl ?_
    refine J_getF (y := 17) dc_Mo_form_23 (Eq.refl 26) fl_Mo_59 (Nat.le_of_ble_eq_true rfl) rfl (Or.inl rfl) rfl ?_
    refine J_iload_n dc_Mo_form_26 (Eq.refl 27) 0 rfl ?_
    refine J_iload_n dc_Mo_form_27 (Eq.refl 28) 3 rfl ?_
    refine J_iadd dc_Mo_form_28 (Eq.refl 29) ?_
    obtain ⟨hg, h⟩ := h
    refine J_iald dc_Mo_form_29 (Eq.refl 30) rfl rfl hg ?_
    refine J_iadd dc_Mo_form_30 (Eq.refl 31) ?_
    refine J_istore (L' := [(4, .int (x2 + (gI σ3 17 (((500 : Int32) * x1) + x2).toNatClampNeg))), (3, .int ((500 : Int32) * x1)), (0, pv E 0), (1, .int x1), (2, .int x2)]) dc_Mo_form_31 (Eq.refl 33) (Nat.le_of_ble_eq_true rfl) rfl ?_
    refine J_iload_n dc_Mo_form_33 (Eq.refl 34) 4 rfl ?_
    refine J_istore (L' := [(5, .int x2), (4, .int (x2 + (gI σ3 17 (((500 : Int32) * x1) + x2).toNatClampNeg))), (3, .int ((500 : Int32) * x1)), (0, pv E 0), (1, .int x1), (2, .int x2)]) dc_Mo_form_34 (Eq.refl 36) (Nat.le_of_ble_eq_true rfl) rfl ?_
    refine J_sub [3, 4, 5, 2, 1, 0] rfl ?_
    exact h
  · have h := h.2 hc
    refine J_iconst (v := (-1 : Int32)) dc_Mo_form_9 (Eq.refl 10) rfl ?_
    exact J_iret dc_Mo_form_10 rfl h
theorem b_Mo_form_36 {E : En_t} {d : Nat} {σ : S_t} {Q : Option Value → S_t → Prop} {x1 : Int32} {x2 : Int32} {x3 : Int32} {x4 : Int32} {x5 : Int32}
    (h : (x4 ≤ x5 → Q (some (.int (gI σ 0 4))) σ) ∧ (¬ x4 ≤ x5 → (x5 ≤ x2 → JE E (d + 1) m_Mo_form 113 [(0, pv E 0), (1, .int x1), (2, .int x2), (3, .int x3), (4, .int x4), (5, .int x5)] [] σ Q) ∧ (¬ x5 ≤ x2 → vp_in (x3 + x5) 4500 ∧ (((gI σ 15 (x3 + x5).toNatClampNeg) ≤ 0 → JE E (d + 1) m_Mo_form 67 [(0, pv E 0), (1, .int x1), (2, .int x2), (3, .int x3), (4, .int x4), (5, .int x5)] [] σ Q) ∧ (¬ (gI σ 15 (x3 + x5).toNatClampNeg) ≤ 0 → CV E d m_Mo_put [pv E 0, .int (44 : Int32)] σ (fun σ1 => JE E (d + 1) m_Mo_form 67 [(0, pv E 0), (1, .int x1), (2, .int x2), (3, .int x3), (4, .int x4), (5, .int x5)] [] σ1 Q)))))) :
    JE E (d + 1) m_Mo_form 36 [(0, pv E 0), (1, .int x1), (2, .int x2), (3, .int x3), (4, .int x4), (5, .int x5)] [] σ Q := by
  refine J_iload dc_Mo_form_36 (Eq.refl 38) 5 rfl ?_
  refine J_iload dc_Mo_form_38 (Eq.refl 40) 4 rfl ?_
  refine J_icmp_ge dc_Mo_form_40 (Eq.refl 43) rfl (fun hc => ?_) (fun hc => ?_)
  · have h := h.1 hc
    refine J_aload_n dc_Mo_form_223 (Eq.refl 224) 0 rfl ?_
    refine J_getI dc_Mo_form_224 (Eq.refl 227) fl_Mo_169 (Nat.le_of_ble_eq_true rfl) rfl (Or.inl rfl) ?_
    exact J_iret dc_Mo_form_227 rfl h
  · have h := h.2 hc
    refine J_iload dc_Mo_form_43 (Eq.refl 45) 5 rfl ?_
    refine J_iload_n dc_Mo_form_45 (Eq.refl 46) 2 rfl ?_
    refine J_icmp_le dc_Mo_form_46 (Eq.refl 49) rfl (fun hc => ?_) (fun hc => ?_)
    · have h := h.1 hc
      exact h
    · have h := h.2 hc
      refine J_aload_n dc_Mo_form_49 (Eq.refl 50) 0 rfl ?_
      refine J_getF (y := 15) dc_Mo_form_50 (Eq.refl 53) fl_Mo_53 (Nat.le_of_ble_eq_true rfl) rfl (Or.inl rfl) rfl ?_
      refine J_iload_n dc_Mo_form_53 (Eq.refl 54) 3 rfl ?_
      refine J_iload dc_Mo_form_54 (Eq.refl 56) 5 rfl ?_
      refine J_iadd dc_Mo_form_56 (Eq.refl 57) ?_
      obtain ⟨hg, h⟩ := h
      refine J_iald dc_Mo_form_57 (Eq.refl 58) rfl rfl hg ?_
      refine J_if_le dc_Mo_form_58 (Eq.refl 61) rfl (fun hc => ?_) (fun hc => ?_)
      · have h := h.1 hc
        exact h
      · have h := h.2 hc
        refine J_aload_n dc_Mo_form_61 (Eq.refl 62) 0 rfl ?_
        refine J_bipush (v := (44 : Int32)) dc_Mo_form_62 (Eq.refl 64) rfl ?_
        refine J_callVV (As := [.int (44 : Int32)]) (st := []) dc_Mo_form_64 (Eq.refl 67) lk_Mo_288 mi_Mo_put rfl (Nat.le_of_ble_eq_true rfl) rfl rfl (Nat.le_of_ble_eq_true rfl) rfl (Nat.le_of_ble_eq_true rfl) (CV.mono h (fun σ1 h => ?_))
        exact h
theorem b_Mo_form_67 {E : En_t} {d : Nat} {σ : S_t} {Q : Option Value → S_t → Prop} {x1 : Int32} {x2 : Int32} {x3 : Int32} {x4 : Int32} {x5 : Int32}
    (h : vp_in (x3 + x5) 4500 ∧ (((gI σ 20 (x3 + x5).toNatClampNeg) < 0 → JE E (d + 1) m_Mo_form 113 [(0, pv E 0), (1, .int x1), (2, .int x2), (3, .int x3), (4, .int x4), (5, .int x5)] [] σ Q) ∧ (¬ (gI σ 20 (x3 + x5).toNatClampNeg) < 0 → vp_in (x3 + x5) 4500 ∧ (vp_in (x3 + x5) 4500 ∧ (CV E d m_Mo_putString [pv E 0, .int (((4000 : Int32) * x1) + (gI σ 19 (x3 + x5).toNatClampNeg)), .int (gI σ 20 (x3 + x5).toNatClampNeg)] σ (fun σ1 => CV E d m_Mo_put [pv E 0, .int (58 : Int32)] σ1 (fun σ2 => JE E (d + 1) m_Mo_form 113 [(0, pv E 0), (1, .int x1), (2, .int x2), (3, .int x3), (4, .int x4), (5, .int x5)] [] σ2 Q))))))) :
    JE E (d + 1) m_Mo_form 67 [(0, pv E 0), (1, .int x1), (2, .int x2), (3, .int x3), (4, .int x4), (5, .int x5)] [] σ Q := by
  refine J_aload_n dc_Mo_form_67 (Eq.refl 68) 0 rfl ?_
  refine J_getF (y := 20) dc_Mo_form_68 (Eq.refl 71) fl_Mo_68 (Nat.le_of_ble_eq_true rfl) rfl (Or.inl rfl) rfl ?_
  refine J_iload_n dc_Mo_form_71 (Eq.refl 72) 3 rfl ?_
  refine J_iload dc_Mo_form_72 (Eq.refl 74) 5 rfl ?_
  refine J_iadd dc_Mo_form_74 (Eq.refl 75) ?_
  obtain ⟨hg, h⟩ := h
  refine J_iald dc_Mo_form_75 (Eq.refl 76) rfl rfl hg ?_
  refine J_if_lt dc_Mo_form_76 (Eq.refl 79) rfl (fun hc => ?_) (fun hc => ?_)
  · have h := h.1 hc
    exact h
  · have h := h.2 hc
    refine J_aload_n dc_Mo_form_79 (Eq.refl 80) 0 rfl ?_
    refine J_sipush (v := (4000 : Int32)) dc_Mo_form_80 (Eq.refl 83) rfl ?_
    refine J_iload_n dc_Mo_form_83 (Eq.refl 84) 1 rfl ?_
    refine J_imul dc_Mo_form_84 (Eq.refl 85) ?_
    refine J_aload_n dc_Mo_form_85 (Eq.refl 86) 0 rfl ?_
    refine J_getF (y := 19) dc_Mo_form_86 (Eq.refl 89) fl_Mo_65 (Nat.le_of_ble_eq_true rfl) rfl (Or.inl rfl) rfl ?_
    refine J_iload_n dc_Mo_form_89 (Eq.refl 90) 3 rfl ?_
    refine J_iload dc_Mo_form_90 (Eq.refl 92) 5 rfl ?_
    refine J_iadd dc_Mo_form_92 (Eq.refl 93) ?_
    obtain ⟨hg, h⟩ := h
    refine J_iald dc_Mo_form_93 (Eq.refl 94) rfl rfl hg ?_
    refine J_iadd dc_Mo_form_94 (Eq.refl 95) ?_
    refine J_aload_n dc_Mo_form_95 (Eq.refl 96) 0 rfl ?_
    refine J_getF (y := 20) dc_Mo_form_96 (Eq.refl 99) fl_Mo_68 (Nat.le_of_ble_eq_true rfl) rfl (Or.inl rfl) rfl ?_
    refine J_iload_n dc_Mo_form_99 (Eq.refl 100) 3 rfl ?_
    refine J_iload dc_Mo_form_100 (Eq.refl 102) 5 rfl ?_
    refine J_iadd dc_Mo_form_102 (Eq.refl 103) ?_
    obtain ⟨hg, h⟩ := h
    refine J_iald dc_Mo_form_103 (Eq.refl 104) rfl rfl hg ?_
    refine J_callVV (As := [.int (((4000 : Int32) * x1) + (gI σ 19 (x3 + x5).toNatClampNeg)), .int (gI σ 20 (x3 + x5).toNatClampNeg)]) (st := []) dc_Mo_form_104 (Eq.refl 107) lk_Mo_405 mi_Mo_putString rfl (Nat.le_of_ble_eq_true rfl) rfl rfl (Nat.le_of_ble_eq_true rfl) rfl (Nat.le_of_ble_eq_true rfl) (CV.mono h (fun σ1 h => ?_))
    refine J_aload_n dc_Mo_form_107 (Eq.refl 108) 0 rfl ?_
    refine J_bipush (v := (58 : Int32)) dc_Mo_form_108 (Eq.refl 110) rfl ?_
    refine J_callVV (As := [.int (58 : Int32)]) (st := []) dc_Mo_form_110 (Eq.refl 113) lk_Mo_288 mi_Mo_put rfl (Nat.le_of_ble_eq_true rfl) rfl rfl (Nat.le_of_ble_eq_true rfl) rfl (Nat.le_of_ble_eq_true rfl) (CV.mono h (fun σ2 h => ?_))
    exact h
theorem b_Mo_form_113 {E : En_t} {d : Nat} {σ : S_t} {Q : Option Value → S_t → Prop} {x1 : Int32} {x2 : Int32} {x3 : Int32} {x4 : Int32} {x5 : Int32}
    (h : CV E d m_Mo_putPlain [pv E 0, .int x1, .int (x3 + x5)] σ (fun σ1 => JE E (d + 1) m_Mo_form 126 [(0, pv E 0), (1, .int x1), (2, .int x2), (3, .int x3), (4, .int x4), (5, .int x5), (6, .int x5)] [] σ1 Q)) :
    JE E (d + 1) m_Mo_form 113 [(0, pv E 0), (1, .int x1), (2, .int x2), (3, .int x3), (4, .int x4), (5, .int x5)] [] σ Q := by
  refine J_aload_n dc_Mo_form_113 (Eq.refl 114) 0 rfl ?_
  refine J_iload_n dc_Mo_form_114 (Eq.refl 115) 1 rfl ?_
  refine J_iload_n dc_Mo_form_115 (Eq.refl 116) 3 rfl ?_
  refine J_iload dc_Mo_form_116 (Eq.refl 118) 5 rfl ?_
  refine J_iadd dc_Mo_form_118 (Eq.refl 119) ?_
  refine J_callVV (As := [.int x1, .int (x3 + x5)]) (st := []) dc_Mo_form_119 (Eq.refl 122) lk_Mo_411 mi_Mo_putPlain rfl (Nat.le_of_ble_eq_true rfl) rfl rfl (Nat.le_of_ble_eq_true rfl) rfl (Nat.le_of_ble_eq_true rfl) (CV.mono h (fun σ1 h => ?_))
  refine J_iload dc_Mo_form_122 (Eq.refl 124) 5 rfl ?_
  refine J_istore (L' := [(6, .int x5), (0, pv E 0), (1, .int x1), (2, .int x2), (3, .int x3), (4, .int x4), (5, .int x5)]) dc_Mo_form_124 (Eq.refl 126) (Nat.le_of_ble_eq_true rfl) rfl ?_
  refine J_sub [1, 2, 3, 4, 5, 6, 0] rfl ?_
  exact h
theorem b_Mo_form_126 {E : En_t} {d : Nat} {σ : S_t} {Q : Option Value → S_t → Prop} {x1 : Int32} {x2 : Int32} {x3 : Int32} {x4 : Int32} {x5 : Int32} {x6 : Int32}
    (h : (x6 < x2 → JE E (d + 1) m_Mo_form 217 [(0, pv E 0), (1, .int x1), (2, .int x2), (3, .int x3), (4, .int x4), (5, .int x5)] [] σ Q) ∧ (¬ x6 < x2 → vp_in (x3 + x6) 4500 ∧ ((¬ (x5 + (1 : Int32)) = (x6 + (gI σ 17 (x3 + x6).toNatClampNeg)) → JE E (d + 1) m_Mo_form 217 [(0, pv E 0), (1, .int x1), (2, .int x2), (3, .int x3), (4, .int x4), (5, .int x5)] [] σ Q) ∧ ((x5 + (1 : Int32)) = (x6 + (gI σ 17 (x3 + x6).toNatClampNeg)) → vp_in (x3 + x6) 4500 ∧ ((¬ (gI σ 13 (x3 + x6).toNatClampNeg) = (5 : Int32) → vp_in (x3 + x6) 4500 ∧ ((¬ (gI σ 13 (x3 + x6).toNatClampNeg) = (6 : Int32) → JE E (d + 1) m_Mo_form 193 [(0, pv E 0), (1, .int x1), (2, .int x2), (3, .int x3), (4, .int x4), (5, .int x5), (6, .int x6)] [] σ Q) ∧ ((gI σ 13 (x3 + x6).toNatClampNeg) = (6 : Int32) → CV E d m_Mo_put [pv E 0, .int (125 : Int32)] σ (fun σ1 => JE E (d + 1) m_Mo_form 193 [(0, pv E 0), (1, .int x1), (2, .int x2), (3, .int x3), (4, .int x4), (5, .int x5), (6, .int x6)] [] σ1 Q)))) ∧ ((gI σ 13 (x3 + x6).toNatClampNeg) = (5 : Int32) → CV E d m_Mo_put [pv E 0, .int (93 : Int32)] σ (fun σ2 => JE E (d + 1) m_Mo_form 193 [(0, pv E 0), (1, .int x1), (2, .int x2), (3, .int x3), (4, .int x4), (5, .int x5), (6, .int x6)] [] σ2 Q))))))) :
    JE E (d + 1) m_Mo_form 126 [(0, pv E 0), (1, .int x1), (2, .int x2), (3, .int x3), (4, .int x4), (5, .int x5), (6, .int x6)] [] σ Q := by
  refine J_iload dc_Mo_form_126 (Eq.refl 128) 6 rfl ?_
  refine J_iload_n dc_Mo_form_128 (Eq.refl 129) 2 rfl ?_
  refine J_icmp_lt dc_Mo_form_129 (Eq.refl 132) rfl (fun hc => ?_) (fun hc => ?_)
  · have h := h.1 hc
    refine J_sub [0, 1, 2, 3, 4, 5] rfl ?_
    exact h
  · have h := h.2 hc
    refine J_iload dc_Mo_form_132 (Eq.refl 134) 5 rfl ?_
    refine J_iconst (v := (1 : Int32)) dc_Mo_form_134 (Eq.refl 135) rfl ?_
    refine J_iadd dc_Mo_form_135 (Eq.refl 136) ?_
    refine J_iload dc_Mo_form_136 (Eq.refl 138) 6 rfl ?_
    refine J_aload_n dc_Mo_form_138 (Eq.refl 139) 0 rfl ?_
    refine J_getF (y := 17) dc_Mo_form_139 (Eq.refl 142) fl_Mo_59 (Nat.le_of_ble_eq_true rfl) rfl (Or.inl rfl) rfl ?_
    refine J_iload_n dc_Mo_form_142 (Eq.refl 143) 3 rfl ?_
    refine J_iload dc_Mo_form_143 (Eq.refl 145) 6 rfl ?_
    refine J_iadd dc_Mo_form_145 (Eq.refl 146) ?_
    obtain ⟨hg, h⟩ := h
    refine J_iald dc_Mo_form_146 (Eq.refl 147) rfl rfl hg ?_
    refine J_iadd dc_Mo_form_147 (Eq.refl 148) ?_
    refine J_icmp_ne dc_Mo_form_148 (Eq.refl 151) rfl (fun hc => ?_) (fun hc => ?_)
    · have h := h.1 hc
      refine J_sub [0, 1, 2, 3, 4, 5] rfl ?_
      exact h
    · have h := h.2 hc
      refine J_aload_n dc_Mo_form_151 (Eq.refl 152) 0 rfl ?_
      refine J_getF (y := 13) dc_Mo_form_152 (Eq.refl 155) fl_Mo_47 (Nat.le_of_ble_eq_true rfl) rfl (Or.inl rfl) rfl ?_
      refine J_iload_n dc_Mo_form_155 (Eq.refl 156) 3 rfl ?_
      refine J_iload dc_Mo_form_156 (Eq.refl 158) 6 rfl ?_
      refine J_iadd dc_Mo_form_158 (Eq.refl 159) ?_
      obtain ⟨hg, h⟩ := h
      refine J_iald dc_Mo_form_159 (Eq.refl 160) rfl rfl hg ?_
      refine J_iconst (v := (5 : Int32)) dc_Mo_form_160 (Eq.refl 161) rfl ?_
      refine J_icmp_ne dc_Mo_form_161 (Eq.refl 164) rfl (fun hc => ?_) (fun hc => ?_)
      · have h := h.1 hc
        refine J_aload_n dc_Mo_form_173 (Eq.refl 174) 0 rfl ?_
        refine J_getF (y := 13) dc_Mo_form_174 (Eq.refl 177) fl_Mo_47 (Nat.le_of_ble_eq_true rfl) rfl (Or.inl rfl) rfl ?_
        refine J_iload_n dc_Mo_form_177 (Eq.refl 178) 3 rfl ?_
        refine J_iload dc_Mo_form_178 (Eq.refl 180) 6 rfl ?_
        refine J_iadd dc_Mo_form_180 (Eq.refl 181) ?_
        obtain ⟨hg, h⟩ := h
        refine J_iald dc_Mo_form_181 (Eq.refl 182) rfl rfl hg ?_
        refine J_bipush (v := (6 : Int32)) dc_Mo_form_182 (Eq.refl 184) rfl ?_
        refine J_icmp_ne dc_Mo_form_184 (Eq.refl 187) rfl (fun hc => ?_) (fun hc => ?_)
        · have h := h.1 hc
          exact h
        · have h := h.2 hc
          refine J_aload_n dc_Mo_form_187 (Eq.refl 188) 0 rfl ?_
          refine J_bipush (v := (125 : Int32)) dc_Mo_form_188 (Eq.refl 190) rfl ?_
          refine J_callVV (As := [.int (125 : Int32)]) (st := []) dc_Mo_form_190 (Eq.refl 193) lk_Mo_288 mi_Mo_put rfl (Nat.le_of_ble_eq_true rfl) rfl rfl (Nat.le_of_ble_eq_true rfl) rfl (Nat.le_of_ble_eq_true rfl) (CV.mono h (fun σ1 h => ?_))
          exact h
      · have h := h.2 hc
        refine J_aload_n dc_Mo_form_164 (Eq.refl 165) 0 rfl ?_
        refine J_bipush (v := (93 : Int32)) dc_Mo_form_165 (Eq.refl 167) rfl ?_
        refine J_callVV (As := [.int (93 : Int32)]) (st := []) dc_Mo_form_167 (Eq.refl 170) lk_Mo_288 mi_Mo_put rfl (Nat.le_of_ble_eq_true rfl) rfl rfl (Nat.le_of_ble_eq_true rfl) rfl (Nat.le_of_ble_eq_true rfl) (CV.mono h (fun σ2 h => ?_))
        refine J_goto dc_Mo_form_170 rfl ?_
        exact h
theorem b_Mo_form_193 {E : En_t} {d : Nat} {σ : S_t} {Q : Option Value → S_t → Prop} {x1 : Int32} {x2 : Int32} {x3 : Int32} {x4 : Int32} {x5 : Int32} {x6 : Int32}
    (h : (¬ x6 = x2 → vp_in (x3 + x6) 4500 ∧ (JE E (d + 1) m_Mo_form 212 [(0, pv E 0), (1, .int x1), (2, .int x2), (3, .int x3), (4, .int x4), (5, .int x5)] [.int (gI σ 14 (x3 + x6).toNatClampNeg)] σ Q)) ∧ (x6 = x2 → JE E (d + 1) m_Mo_form 212 [(0, pv E 0), (1, .int x1), (2, .int x2), (3, .int x3), (4, .int x4), (5, .int x5)] [.int (-1 : Int32)] σ Q)) :
    JE E (d + 1) m_Mo_form 193 [(0, pv E 0), (1, .int x1), (2, .int x2), (3, .int x3), (4, .int x4), (5, .int x5), (6, .int x6)] [] σ Q := by
  refine J_iload dc_Mo_form_193 (Eq.refl 195) 6 rfl ?_
  refine J_iload_n dc_Mo_form_195 (Eq.refl 196) 2 rfl ?_
  refine J_icmp_ne dc_Mo_form_196 (Eq.refl 199) rfl (fun hc => ?_) (fun hc => ?_)
  · have h := h.1 hc
    refine J_aload_n dc_Mo_form_203 (Eq.refl 204) 0 rfl ?_
    refine J_getF (y := 14) dc_Mo_form_204 (Eq.refl 207) fl_Mo_50 (Nat.le_of_ble_eq_true rfl) rfl (Or.inl rfl) rfl ?_
    refine J_iload_n dc_Mo_form_207 (Eq.refl 208) 3 rfl ?_
    refine J_iload dc_Mo_form_208 (Eq.refl 210) 6 rfl ?_
    refine J_iadd dc_Mo_form_210 (Eq.refl 211) ?_
    obtain ⟨hg, h⟩ := h
    refine J_iald dc_Mo_form_211 (Eq.refl 212) rfl rfl hg ?_
    refine J_sub [0, 1, 2, 3, 4, 5] rfl ?_
    exact h
  · have h := h.2 hc
    refine J_iconst (v := (-1 : Int32)) dc_Mo_form_199 (Eq.refl 200) rfl ?_
    refine J_goto dc_Mo_form_200 rfl ?_
    refine J_sub [0, 1, 2, 3, 4, 5] rfl ?_
    exact h
theorem b_Mo_form_212 {E : En_t} {d : Nat} {σ : S_t} {Q : Option Value → S_t → Prop} {x1 : Int32} {x2 : Int32} {x3 : Int32} {x4 : Int32} {x5 : Int32} {s0 : Int32}
    (h : JE E (d + 1) m_Mo_form 126 [(0, pv E 0), (1, .int x1), (2, .int x2), (3, .int x3), (4, .int x4), (5, .int x5), (6, .int s0)] [] σ Q) :
    JE E (d + 1) m_Mo_form 212 [(0, pv E 0), (1, .int x1), (2, .int x2), (3, .int x3), (4, .int x4), (5, .int x5)] [.int s0] σ Q := by
  refine J_istore (L' := [(6, .int s0), (0, pv E 0), (1, .int x1), (2, .int x2), (3, .int x3), (4, .int x4), (5, .int x5)]) dc_Mo_form_212 (Eq.refl 214) (Nat.le_of_ble_eq_true rfl) rfl ?_
  refine J_goto dc_Mo_form_214 rfl ?_
  refine J_sub [1, 2, 3, 4, 5, 6, 0] rfl ?_
  exact h
theorem b_Mo_form_217 {E : En_t} {d : Nat} {σ : S_t} {Q : Option Value → S_t → Prop} {x1 : Int32} {x2 : Int32} {x3 : Int32} {x4 : Int32} {x5 : Int32}
    (h : JE E (d + 1) m_Mo_form 36 [(0, pv E 0), (1, .int x1), (2, .int x2), (3, .int x3), (4, .int x4), (5, .int (x5 + (1 : Int32)))] [] σ Q) :
    JE E (d + 1) m_Mo_form 217 [(0, pv E 0), (1, .int x1), (2, .int x2), (3, .int x3), (4, .int x4), (5, .int x5)] [] σ Q := by
  refine J_iinc (v := x5 + (1 : Int32)) (L' := [(5, .int (x5 + (1 : Int32))), (0, pv E 0), (1, .int x1), (2, .int x2), (3, .int x3), (4, .int x4)]) dc_Mo_form_217 (Eq.refl 220) 5 rfl rfl (Nat.le_of_ble_eq_true rfl) rfl ?_
  refine J_goto dc_Mo_form_220 rfl ?_
  refine J_sub [1, 2, 3, 4, 5, 0] rfl ?_
  exact h
theorem dc_Mo_has_0 : decode m_Mo_has.2.1 0 = .ok (.iload_n 1, 1) := by decide +kernel
theorem dc_Mo_has_1 : decode m_Mo_has.2.1 1 = .ok (.invokestatic 291, 3) := by decide +kernel
theorem dc_Mo_has_4 : decode m_Mo_has.2.1 4 = .ok (.ifCond .eq 30, 3) := by decide +kernel
theorem dc_Mo_has_7 : decode m_Mo_has.2.1 7 = .ok (.aload_n 0, 1) := by decide +kernel
theorem dc_Mo_has_8 : decode m_Mo_has.2.1 8 = .ok (.getfield 31, 3) := by decide +kernel
theorem dc_Mo_has_11 : decode m_Mo_has.2.1 11 = .ok (.iload_n 1, 1) := by decide +kernel
theorem dc_Mo_has_12 : decode m_Mo_has.2.1 12 = .ok (.baload, 1) := by decide +kernel
theorem dc_Mo_has_13 : decode m_Mo_has.2.1 13 = .ok (.ifCond .eq 21, 3) := by decide +kernel
theorem dc_Mo_has_16 : decode m_Mo_has.2.1 16 = .ok (.iload_n 2, 1) := by decide +kernel
theorem dc_Mo_has_17 : decode m_Mo_has.2.1 17 = .ok (.ifCond .lt 17, 3) := by decide +kernel
theorem dc_Mo_has_20 : decode m_Mo_has.2.1 20 = .ok (.iload_n 2, 1) := by decide +kernel
theorem dc_Mo_has_21 : decode m_Mo_has.2.1 21 = .ok (.aload_n 0, 1) := by decide +kernel
theorem dc_Mo_has_22 : decode m_Mo_has.2.1 22 = .ok (.getfield 35, 3) := by decide +kernel
theorem dc_Mo_has_25 : decode m_Mo_has.2.1 25 = .ok (.iload_n 1, 1) := by decide +kernel
theorem dc_Mo_has_26 : decode m_Mo_has.2.1 26 = .ok (.iaload, 1) := by decide +kernel
theorem dc_Mo_has_27 : decode m_Mo_has.2.1 27 = .ok (.if_icmp .ge 7, 3) := by decide +kernel
theorem dc_Mo_has_30 : decode m_Mo_has.2.1 30 = .ok (.iconst 1, 1) := by decide +kernel
theorem dc_Mo_has_31 : decode m_Mo_has.2.1 31 = .ok (.goto 4, 3) := by decide +kernel
theorem dc_Mo_has_34 : decode m_Mo_has.2.1 34 = .ok (.iconst 0, 1) := by decide +kernel
theorem dc_Mo_has_35 : decode m_Mo_has.2.1 35 = .ok (.ireturn, 1) := by decide +kernel
theorem b_Mo_has_0 {E : En_t} {d : Nat} {σ : S_t} {Q : Option Value → S_t → Prop} {x1 : Int32} {x2 : Int32}
    (h : CI E d m_Mo_isShelf [.int x1] σ (fun r2 σ1 => (r2 = 0 → Q (some (.int (0 : Int32))) σ1) ∧ (¬ r2 = 0 → vp_in x1 9 ∧ (((gI σ1 8 x1.toNatClampNeg) = 0 → Q (some (.int (0 : Int32))) σ1) ∧ (¬ (gI σ1 8 x1.toNatClampNeg) = 0 → (x2 < 0 → Q (some (.int (0 : Int32))) σ1) ∧ (¬ x2 < 0 → vp_in x1 9 ∧ (((gI σ1 9 x1.toNatClampNeg) ≤ x2 → Q (some (.int (0 : Int32))) σ1) ∧ (¬ (gI σ1 9 x1.toNatClampNeg) ≤ x2 → Q (some (.int (1 : Int32))) σ1)))))))) :
    JE E (d + 1) m_Mo_has 0 [(0, pv E 0), (1, .int x1), (2, .int x2)] [] σ Q := by
  refine J_iload_n dc_Mo_has_0 (Eq.refl 1) 1 rfl ?_
  refine J_callSI (As := [.int x1]) (st := []) dc_Mo_has_1 (Eq.refl 4) lk_Mo_291 mi_Mo_isShelf (Nat.le_of_ble_eq_true rfl) rfl (Nat.le_of_ble_eq_true rfl) (CI.mono h (fun r2 σ1 h => ?_))
  refine J_if_eq dc_Mo_has_4 (Eq.refl 7) rfl (fun hc => ?_) (fun hc => ?_)
  · have h := h.1 hc
    refine J_iconst (v := (0 : Int32)) dc_Mo_has_34 (Eq.refl 35) rfl ?_
    exact J_zret dc_Mo_has_35 rfl rfl h
  · have h := h.2 hc
    refine J_aload_n dc_Mo_has_7 (Eq.refl 8) 0 rfl ?_
    refine J_getF (y := 8) dc_Mo_has_8 (Eq.refl 11) fl_Mo_31 (Nat.le_of_ble_eq_true rfl) rfl (Or.inl rfl) rfl ?_
    refine J_iload_n dc_Mo_has_11 (Eq.refl 12) 1 rfl ?_
    obtain ⟨hg, h⟩ := h
    refine J_zald dc_Mo_has_12 (Eq.refl 13) rfl rfl hg ?_
    refine J_if_eq dc_Mo_has_13 (Eq.refl 16) rfl (fun hc => ?_) (fun hc => ?_)
    · have h := h.1 hc
      refine J_iconst (v := (0 : Int32)) dc_Mo_has_34 (Eq.refl 35) rfl ?_
      exact J_zret dc_Mo_has_35 rfl rfl h
    · have h := h.2 hc
      refine J_iload_n dc_Mo_has_16 (Eq.refl 17) 2 rfl ?_
      refine J_if_lt dc_Mo_has_17 (Eq.refl 20) rfl (fun hc => ?_) (fun hc => ?_)
      · have h := h.1 hc
        refine J_iconst (v := (0 : Int32)) dc_Mo_has_34 (Eq.refl 35) rfl ?_
        exact J_zret dc_Mo_has_35 rfl rfl h
      · have h := h.2 hc
        refine J_iload_n dc_Mo_has_20 (Eq.refl 21) 2 rfl ?_
        refine J_aload_n dc_Mo_has_21 (Eq.refl 22) 0 rfl ?_
        refine J_getF (y := 9) dc_Mo_has_22 (Eq.refl 25) fl_Mo_35 (Nat.le_of_ble_eq_true rfl) rfl (Or.inl rfl) rfl ?_
        refine J_iload_n dc_Mo_has_25 (Eq.refl 26) 1 rfl ?_
        obtain ⟨hg, h⟩ := h
        refine J_iald dc_Mo_has_26 (Eq.refl 27) rfl rfl hg ?_
        refine J_icmp_ge dc_Mo_has_27 (Eq.refl 30) rfl (fun hc => ?_) (fun hc => ?_)
        · have h := h.1 hc
          refine J_iconst (v := (0 : Int32)) dc_Mo_has_34 (Eq.refl 35) rfl ?_
          exact J_zret dc_Mo_has_35 rfl rfl h
        · have h := h.2 hc
          refine J_iconst (v := (1 : Int32)) dc_Mo_has_30 (Eq.refl 31) rfl ?_
          refine J_goto dc_Mo_has_31 rfl ?_
          exact J_zret dc_Mo_has_35 rfl rfl h
theorem dc_Mo_putString_0 : decode m_Mo_putString.2.1 0 = .ok (.aload_n 0, 1) := by decide +kernel
theorem dc_Mo_putString_1 : decode m_Mo_putString.2.1 1 = .ok (.bipush 34, 2) := by decide +kernel
theorem dc_Mo_putString_3 : decode m_Mo_putString.2.1 3 = .ok (.invokevirtual 288, 3) := by decide +kernel
theorem dc_Mo_putString_6 : decode m_Mo_putString.2.1 6 = .ok (.iconst 0, 1) := by decide +kernel
theorem dc_Mo_putString_7 : decode m_Mo_putString.2.1 7 = .ok (.istore_n 3, 1) := by decide +kernel
theorem dc_Mo_putString_8 : decode m_Mo_putString.2.1 8 = .ok (.iload_n 3, 1) := by decide +kernel
theorem dc_Mo_putString_9 : decode m_Mo_putString.2.1 9 = .ok (.iload_n 2, 1) := by decide +kernel
theorem dc_Mo_putString_10 : decode m_Mo_putString.2.1 10 = .ok (.if_icmp .ge 184, 3) := by decide +kernel
theorem dc_Mo_putString_13 : decode m_Mo_putString.2.1 13 = .ok (.aload_n 0, 1) := by decide +kernel
theorem dc_Mo_putString_14 : decode m_Mo_putString.2.1 14 = .ok (.getfield 88, 3) := by decide +kernel
theorem dc_Mo_putString_17 : decode m_Mo_putString.2.1 17 = .ok (.iload_n 1, 1) := by decide +kernel
theorem dc_Mo_putString_18 : decode m_Mo_putString.2.1 18 = .ok (.iload_n 3, 1) := by decide +kernel
theorem dc_Mo_putString_19 : decode m_Mo_putString.2.1 19 = .ok (.iadd, 1) := by decide +kernel
theorem dc_Mo_putString_20 : decode m_Mo_putString.2.1 20 = .ok (.iaload, 1) := by decide +kernel
theorem dc_Mo_putString_21 : decode m_Mo_putString.2.1 21 = .ok (.istore 4, 2) := by decide +kernel
theorem dc_Mo_putString_23 : decode m_Mo_putString.2.1 23 = .ok (.iload 4, 2) := by decide +kernel
theorem dc_Mo_putString_25 : decode m_Mo_putString.2.1 25 = .ok (.bipush 34, 2) := by decide +kernel
theorem dc_Mo_putString_27 : decode m_Mo_putString.2.1 27 = .ok (.if_icmp .eq 10, 3) := by decide +kernel
theorem dc_Mo_putString_30 : decode m_Mo_putString.2.1 30 = .ok (.iload 4, 2) := by decide +kernel
theorem dc_Mo_putString_32 : decode m_Mo_putString.2.1 32 = .ok (.bipush 92, 2) := by decide +kernel
theorem dc_Mo_putString_34 : decode m_Mo_putString.2.1 34 = .ok (.if_icmp .ne 8, 3) := by decide +kernel
theorem dc_Mo_putString_37 : decode m_Mo_putString.2.1 37 = .ok (.iload 4, 2) := by decide +kernel
theorem dc_Mo_putString_39 : decode m_Mo_putString.2.1 39 = .ok (.goto 64, 3) := by decide +kernel
theorem dc_Mo_putString_42 : decode m_Mo_putString.2.1 42 = .ok (.iload 4, 2) := by decide +kernel
theorem dc_Mo_putString_44 : decode m_Mo_putString.2.1 44 = .ok (.bipush 8, 2) := by decide +kernel
theorem dc_Mo_putString_46 : decode m_Mo_putString.2.1 46 = .ok (.if_icmp .ne 8, 3) := by decide +kernel
theorem dc_Mo_putString_49 : decode m_Mo_putString.2.1 49 = .ok (.bipush 98, 2) := by decide +kernel
theorem dc_Mo_putString_51 : decode m_Mo_putString.2.1 51 = .ok (.goto 52, 3) := by decide +kernel
theorem dc_Mo_putString_54 : decode m_Mo_putString.2.1 54 = .ok (.iload 4, 2) := by decide +kernel
theorem dc_Mo_putString_56 : decode m_Mo_putString.2.1 56 = .ok (.bipush 9, 2) := by decide +kernel
theorem dc_Mo_putString_58 : decode m_Mo_putString.2.1 58 = .ok (.if_icmp .ne 8, 3) := by decide +kernel
theorem dc_Mo_putString_61 : decode m_Mo_putString.2.1 61 = .ok (.bipush 116, 2) := by decide +kernel
theorem dc_Mo_putString_63 : decode m_Mo_putString.2.1 63 = .ok (.goto 40, 3) := by decide +kernel
theorem dc_Mo_putString_66 : decode m_Mo_putString.2.1 66 = .ok (.iload 4, 2) := by decide +kernel
theorem dc_Mo_putString_68 : decode m_Mo_putString.2.1 68 = .ok (.bipush 10, 2) := by decide +kernel
theorem dc_Mo_putString_70 : decode m_Mo_putString.2.1 70 = .ok (.if_icmp .ne 8, 3) := by decide +kernel
theorem dc_Mo_putString_73 : decode m_Mo_putString.2.1 73 = .ok (.bipush 110, 2) := by decide +kernel
theorem dc_Mo_putString_75 : decode m_Mo_putString.2.1 75 = .ok (.goto 28, 3) := by decide +kernel
theorem dc_Mo_putString_78 : decode m_Mo_putString.2.1 78 = .ok (.iload 4, 2) := by decide +kernel
theorem dc_Mo_putString_80 : decode m_Mo_putString.2.1 80 = .ok (.bipush 12, 2) := by decide +kernel
theorem dc_Mo_putString_82 : decode m_Mo_putString.2.1 82 = .ok (.if_icmp .ne 8, 3) := by decide +kernel
theorem dc_Mo_putString_85 : decode m_Mo_putString.2.1 85 = .ok (.bipush 102, 2) := by decide +kernel
theorem dc_Mo_putString_87 : decode m_Mo_putString.2.1 87 = .ok (.goto 16, 3) := by decide +kernel
theorem dc_Mo_putString_90 : decode m_Mo_putString.2.1 90 = .ok (.iload 4, 2) := by decide +kernel
theorem dc_Mo_putString_92 : decode m_Mo_putString.2.1 92 = .ok (.bipush 13, 2) := by decide +kernel
theorem dc_Mo_putString_94 : decode m_Mo_putString.2.1 94 = .ok (.if_icmp .ne 8, 3) := by decide +kernel
theorem dc_Mo_putString_97 : decode m_Mo_putString.2.1 97 = .ok (.bipush 114, 2) := by decide +kernel
theorem dc_Mo_putString_99 : decode m_Mo_putString.2.1 99 = .ok (.goto 4, 3) := by decide +kernel
theorem dc_Mo_putString_102 : decode m_Mo_putString.2.1 102 = .ok (.iconst (-1), 1) := by decide +kernel
theorem dc_Mo_putString_103 : decode m_Mo_putString.2.1 103 = .ok (.istore 5, 2) := by decide +kernel
theorem dc_Mo_putString_105 : decode m_Mo_putString.2.1 105 = .ok (.iload 5, 2) := by decide +kernel
theorem dc_Mo_putString_107 : decode m_Mo_putString.2.1 107 = .ok (.ifCond .lt 18, 3) := by decide +kernel
theorem dc_Mo_putString_110 : decode m_Mo_putString.2.1 110 = .ok (.aload_n 0, 1) := by decide +kernel
theorem dc_Mo_putString_111 : decode m_Mo_putString.2.1 111 = .ok (.bipush 92, 2) := by decide +kernel
theorem dc_Mo_putString_113 : decode m_Mo_putString.2.1 113 = .ok (.invokevirtual 288, 3) := by decide +kernel
theorem dc_Mo_putString_116 : decode m_Mo_putString.2.1 116 = .ok (.aload_n 0, 1) := by decide +kernel
theorem dc_Mo_putString_117 : decode m_Mo_putString.2.1 117 = .ok (.iload 5, 2) := by decide +kernel
theorem dc_Mo_putString_119 : decode m_Mo_putString.2.1 119 = .ok (.invokevirtual 288, 3) := by decide +kernel
theorem dc_Mo_putString_122 : decode m_Mo_putString.2.1 122 = .ok (.goto 66, 3) := by decide +kernel
theorem dc_Mo_putString_125 : decode m_Mo_putString.2.1 125 = .ok (.iload 4, 2) := by decide +kernel
theorem dc_Mo_putString_127 : decode m_Mo_putString.2.1 127 = .ok (.bipush 32, 2) := by decide +kernel
theorem dc_Mo_putString_129 : decode m_Mo_putString.2.1 129 = .ok (.if_icmp .ge 53, 3) := by decide +kernel
theorem dc_Mo_putString_132 : decode m_Mo_putString.2.1 132 = .ok (.aload_n 0, 1) := by decide +kernel
theorem dc_Mo_putString_133 : decode m_Mo_putString.2.1 133 = .ok (.bipush 92, 2) := by decide +kernel
theorem dc_Mo_putString_135 : decode m_Mo_putString.2.1 135 = .ok (.invokevirtual 288, 3) := by decide +kernel
theorem dc_Mo_putString_138 : decode m_Mo_putString.2.1 138 = .ok (.aload_n 0, 1) := by decide +kernel
theorem dc_Mo_putString_139 : decode m_Mo_putString.2.1 139 = .ok (.bipush 117, 2) := by decide +kernel
theorem dc_Mo_putString_141 : decode m_Mo_putString.2.1 141 = .ok (.invokevirtual 288, 3) := by decide +kernel
theorem dc_Mo_putString_144 : decode m_Mo_putString.2.1 144 = .ok (.aload_n 0, 1) := by decide +kernel
theorem dc_Mo_putString_145 : decode m_Mo_putString.2.1 145 = .ok (.bipush 48, 2) := by decide +kernel
theorem dc_Mo_putString_147 : decode m_Mo_putString.2.1 147 = .ok (.invokevirtual 288, 3) := by decide +kernel
theorem dc_Mo_putString_150 : decode m_Mo_putString.2.1 150 = .ok (.aload_n 0, 1) := by decide +kernel
theorem dc_Mo_putString_151 : decode m_Mo_putString.2.1 151 = .ok (.bipush 48, 2) := by decide +kernel
theorem dc_Mo_putString_153 : decode m_Mo_putString.2.1 153 = .ok (.invokevirtual 288, 3) := by decide +kernel
theorem dc_Mo_putString_156 : decode m_Mo_putString.2.1 156 = .ok (.aload_n 0, 1) := by decide +kernel
theorem dc_Mo_putString_157 : decode m_Mo_putString.2.1 157 = .ok (.iload 4, 2) := by decide +kernel
theorem dc_Mo_putString_159 : decode m_Mo_putString.2.1 159 = .ok (.iconst 4, 1) := by decide +kernel
theorem dc_Mo_putString_160 : decode m_Mo_putString.2.1 160 = .ok (.ishr, 1) := by decide +kernel
theorem dc_Mo_putString_161 : decode m_Mo_putString.2.1 161 = .ok (.invokestatic 395, 3) := by decide +kernel
theorem dc_Mo_putString_164 : decode m_Mo_putString.2.1 164 = .ok (.invokevirtual 288, 3) := by decide +kernel
theorem dc_Mo_putString_167 : decode m_Mo_putString.2.1 167 = .ok (.aload_n 0, 1) := by decide +kernel
theorem dc_Mo_putString_168 : decode m_Mo_putString.2.1 168 = .ok (.iload 4, 2) := by decide +kernel
theorem dc_Mo_putString_170 : decode m_Mo_putString.2.1 170 = .ok (.bipush 15, 2) := by decide +kernel
theorem dc_Mo_putString_172 : decode m_Mo_putString.2.1 172 = .ok (.iand, 1) := by decide +kernel
theorem dc_Mo_putString_173 : decode m_Mo_putString.2.1 173 = .ok (.invokestatic 395, 3) := by decide +kernel
theorem dc_Mo_putString_176 : decode m_Mo_putString.2.1 176 = .ok (.invokevirtual 288, 3) := by decide +kernel
theorem dc_Mo_putString_179 : decode m_Mo_putString.2.1 179 = .ok (.goto 9, 3) := by decide +kernel
theorem dc_Mo_putString_182 : decode m_Mo_putString.2.1 182 = .ok (.aload_n 0, 1) := by decide +kernel
theorem dc_Mo_putString_183 : decode m_Mo_putString.2.1 183 = .ok (.iload 4, 2) := by decide +kernel
theorem dc_Mo_putString_185 : decode m_Mo_putString.2.1 185 = .ok (.invokevirtual 398, 3) := by decide +kernel
theorem dc_Mo_putString_188 : decode m_Mo_putString.2.1 188 = .ok (.iinc 3 1, 3) := by decide +kernel
theorem dc_Mo_putString_191 : decode m_Mo_putString.2.1 191 = .ok (.goto (-183), 3) := by decide +kernel
theorem dc_Mo_putString_194 : decode m_Mo_putString.2.1 194 = .ok (.aload_n 0, 1) := by decide +kernel
theorem dc_Mo_putString_195 : decode m_Mo_putString.2.1 195 = .ok (.bipush 34, 2) := by decide +kernel
theorem dc_Mo_putString_197 : decode m_Mo_putString.2.1 197 = .ok (.invokevirtual 288, 3) := by decide +kernel
theorem dc_Mo_putString_200 : decode m_Mo_putString.2.1 200 = .ok (.return_, 1) := by decide +kernel
theorem b_Mo_putString_0 {E : En_t} {d : Nat} {σ : S_t} {Q : Option Value → S_t → Prop} {x1 : Int32} {x2 : Int32}
    (h : CV E d m_Mo_put [pv E 0, .int (34 : Int32)] σ (fun σ1 => JE E (d + 1) m_Mo_putString 8 [(0, pv E 0), (1, .int x1), (2, .int x2), (3, .int (0 : Int32))] [] σ1 Q)) :
    JE E (d + 1) m_Mo_putString 0 [(0, pv E 0), (1, .int x1), (2, .int x2)] [] σ Q := by
  refine J_aload_n dc_Mo_putString_0 (Eq.refl 1) 0 rfl ?_
  refine J_bipush (v := (34 : Int32)) dc_Mo_putString_1 (Eq.refl 3) rfl ?_
  refine J_callVV (As := [.int (34 : Int32)]) (st := []) dc_Mo_putString_3 (Eq.refl 6) lk_Mo_288 mi_Mo_put rfl (Nat.le_of_ble_eq_true rfl) rfl rfl (Nat.le_of_ble_eq_true rfl) rfl (Nat.le_of_ble_eq_true rfl) (CV.mono h (fun σ1 h => ?_))
  refine J_iconst (v := (0 : Int32)) dc_Mo_putString_6 (Eq.refl 7) rfl ?_
  refine J_istore_n (L' := [(3, .int (0 : Int32)), (0, pv E 0), (1, .int x1), (2, .int x2)]) dc_Mo_putString_7 (Eq.refl 8) (Nat.le_of_ble_eq_true rfl) rfl ?_
  refine J_sub [1, 2, 3, 0] rfl ?_
  exact h
theorem b_Mo_putString_8 {E : En_t} {d : Nat} {σ : S_t} {Q : Option Value → S_t → Prop} {x1 : Int32} {x2 : Int32} {x3 : Int32}
    (h : (x2 ≤ x3 → CV E d m_Mo_put [pv E 0, .int (34 : Int32)] σ (fun σ1 => Q none σ1)) ∧ (¬ x2 ≤ x3 → vp_in (x1 + x3) 36000 ∧ (((gI σ 26 (x1 + x3).toNatClampNeg) = (34 : Int32) → JE E (d + 1) m_Mo_putString 37 [(0, pv E 0), (1, .int x1), (2, .int x2), (3, .int x3), (4, .int (gI σ 26 (x1 + x3).toNatClampNeg))] [] σ Q) ∧ (¬ (gI σ 26 (x1 + x3).toNatClampNeg) = (34 : Int32) → (¬ (gI σ 26 (x1 + x3).toNatClampNeg) = (92 : Int32) → (¬ (gI σ 26 (x1 + x3).toNatClampNeg) = (8 : Int32) → (¬ (gI σ 26 (x1 + x3).toNatClampNeg) = (9 : Int32) → (¬ (gI σ 26 (x1 + x3).toNatClampNeg) = (10 : Int32) → (¬ (gI σ 26 (x1 + x3).toNatClampNeg) = (12 : Int32) → (¬ (gI σ 26 (x1 + x3).toNatClampNeg) = (13 : Int32) → JE E (d + 1) m_Mo_putString 103 [(0, pv E 0), (1, .int x1), (2, .int x2), (3, .int x3), (4, .int (gI σ 26 (x1 + x3).toNatClampNeg))] [.int (-1 : Int32)] σ Q) ∧ ((gI σ 26 (x1 + x3).toNatClampNeg) = (13 : Int32) → JE E (d + 1) m_Mo_putString 103 [(0, pv E 0), (1, .int x1), (2, .int x2), (3, .int x3), (4, .int (gI σ 26 (x1 + x3).toNatClampNeg))] [.int (114 : Int32)] σ Q)) ∧ ((gI σ 26 (x1 + x3).toNatClampNeg) = (12 : Int32) → JE E (d + 1) m_Mo_putString 103 [(0, pv E 0), (1, .int x1), (2, .int x2), (3, .int x3), (4, .int (gI σ 26 (x1 + x3).toNatClampNeg))] [.int (102 : Int32)] σ Q)) ∧ ((gI σ 26 (x1 + x3).toNatClampNeg) = (10 : Int32) → JE E (d + 1) m_Mo_putString 103 [(0, pv E 0), (1, .int x1), (2, .int x2), (3, .int x3), (4, .int (gI σ 26 (x1 + x3).toNatClampNeg))] [.int (110 : Int32)] σ Q)) ∧ ((gI σ 26 (x1 + x3).toNatClampNeg) = (9 : Int32) → JE E (d + 1) m_Mo_putString 103 [(0, pv E 0), (1, .int x1), (2, .int x2), (3, .int x3), (4, .int (gI σ 26 (x1 + x3).toNatClampNeg))] [.int (116 : Int32)] σ Q)) ∧ ((gI σ 26 (x1 + x3).toNatClampNeg) = (8 : Int32) → JE E (d + 1) m_Mo_putString 103 [(0, pv E 0), (1, .int x1), (2, .int x2), (3, .int x3), (4, .int (gI σ 26 (x1 + x3).toNatClampNeg))] [.int (98 : Int32)] σ Q)) ∧ ((gI σ 26 (x1 + x3).toNatClampNeg) = (92 : Int32) → JE E (d + 1) m_Mo_putString 37 [(0, pv E 0), (1, .int x1), (2, .int x2), (3, .int x3), (4, .int (gI σ 26 (x1 + x3).toNatClampNeg))] [] σ Q))))) :
    JE E (d + 1) m_Mo_putString 8 [(0, pv E 0), (1, .int x1), (2, .int x2), (3, .int x3)] [] σ Q := by
  refine J_iload_n dc_Mo_putString_8 (Eq.refl 9) 3 rfl ?_
  refine J_iload_n dc_Mo_putString_9 (Eq.refl 10) 2 rfl ?_
  refine J_icmp_ge dc_Mo_putString_10 (Eq.refl 13) rfl (fun hc => ?_) (fun hc => ?_)
  · have h := h.1 hc
    refine J_aload_n dc_Mo_putString_194 (Eq.refl 195) 0 rfl ?_
    refine J_bipush (v := (34 : Int32)) dc_Mo_putString_195 (Eq.refl 197) rfl ?_
    refine J_callVV (As := [.int (34 : Int32)]) (st := []) dc_Mo_putString_197 (Eq.refl 200) lk_Mo_288 mi_Mo_put rfl (Nat.le_of_ble_eq_true rfl) rfl rfl (Nat.le_of_ble_eq_true rfl) rfl (Nat.le_of_ble_eq_true rfl) (CV.mono h (fun σ1 h => ?_))
    exact J_vret dc_Mo_putString_200 rfl h
  · have h := h.2 hc
    refine J_aload_n dc_Mo_putString_13 (Eq.refl 14) 0 rfl ?_
    refine J_getF (y := 26) dc_Mo_putString_14 (Eq.refl 17) fl_Mo_88 (Nat.le_of_ble_eq_true rfl) rfl (Or.inl rfl) rfl ?_
    refine J_iload_n dc_Mo_putString_17 (Eq.refl 18) 1 rfl ?_
    refine J_iload_n dc_Mo_putString_18 (Eq.refl 19) 3 rfl ?_
    refine J_iadd dc_Mo_putString_19 (Eq.refl 20) ?_
    obtain ⟨hg, h⟩ := h
    refine J_iald dc_Mo_putString_20 (Eq.refl 21) rfl rfl hg ?_
    refine J_istore (L' := [(4, .int (gI σ 26 (x1 + x3).toNatClampNeg)), (0, pv E 0), (1, .int x1), (2, .int x2), (3, .int x3)]) dc_Mo_putString_21 (Eq.refl 23) (Nat.le_of_ble_eq_true rfl) rfl ?_
    refine J_iload dc_Mo_putString_23 (Eq.refl 25) 0 rfl ?_
    refine J_bipush (v := (34 : Int32)) dc_Mo_putString_25 (Eq.refl 27) rfl ?_
    refine J_icmp_eq dc_Mo_putString_27 (Eq.refl 30) rfl (fun hc => ?_) (fun hc => ?_)
    · have h := h.1 hc
      refine J_sub [1, 2, 3, 4, 0] rfl ?_
      exact h
    · have h := h.2 hc
      refine J_iload dc_Mo_putString_30 (Eq.refl 32) 0 rfl ?_
      refine J_bipush (v := (92 : Int32)) dc_Mo_putString_32 (Eq.refl 34) rfl ?_
      refine J_icmp_ne dc_Mo_putString_34 (Eq.refl 37) rfl (fun hc => ?_) (fun hc => ?_)
      · have h := h.1 hc
        refine J_iload dc_Mo_putString_42 (Eq.refl 44) 0 rfl ?_
        refine J_bipush (v := (8 : Int32)) dc_Mo_putString_44 (Eq.refl 46) rfl ?_
        refine J_icmp_ne dc_Mo_putString_46 (Eq.refl 49) rfl (fun hc => ?_) (fun hc => ?_)
        · have h := h.1 hc
          refine J_iload dc_Mo_putString_54 (Eq.refl 56) 0 rfl ?_
          refine J_bipush (v := (9 : Int32)) dc_Mo_putString_56 (Eq.refl 58) rfl ?_
          refine J_icmp_ne dc_Mo_putString_58 (Eq.refl 61) rfl (fun hc => ?_) (fun hc => ?_)
          · have h := h.1 hc
            refine J_iload dc_Mo_putString_66 (Eq.refl 68) 0 rfl ?_
            refine J_bipush (v := (10 : Int32)) dc_Mo_putString_68 (Eq.refl 70) rfl ?_
            refine J_icmp_ne dc_Mo_putString_70 (Eq.refl 73) rfl (fun hc => ?_) (fun hc => ?_)
            · have h := h.1 hc
              refine J_iload dc_Mo_putString_78 (Eq.refl 80) 0 rfl ?_
              refine J_bipush (v := (12 : Int32)) dc_Mo_putString_80 (Eq.refl 82) rfl ?_
              refine J_icmp_ne dc_Mo_putString_82 (Eq.refl 85) rfl (fun hc => ?_) (fun hc => ?_)
              · have h := h.1 hc
                refine J_iload dc_Mo_putString_90 (Eq.refl 92) 0 rfl ?_
                refine J_bipush (v := (13 : Int32)) dc_Mo_putString_92 (Eq.refl 94) rfl ?_
                refine J_icmp_ne dc_Mo_putString_94 (Eq.refl 97) rfl (fun hc => ?_) (fun hc => ?_)
                · have h := h.1 hc
                  refine J_iconst (v := (-1 : Int32)) dc_Mo_putString_102 (Eq.refl 103) rfl ?_
                  refine J_sub [1, 2, 3, 4, 0] rfl ?_
                  exact h
                · have h := h.2 hc
                  refine J_bipush (v := (114 : Int32)) dc_Mo_putString_97 (Eq.refl 99) rfl ?_
                  refine J_goto dc_Mo_putString_99 rfl ?_
                  refine J_sub [1, 2, 3, 4, 0] rfl ?_
                  exact h
              · have h := h.2 hc
                refine J_bipush (v := (102 : Int32)) dc_Mo_putString_85 (Eq.refl 87) rfl ?_
                refine J_goto dc_Mo_putString_87 rfl ?_
                refine J_sub [1, 2, 3, 4, 0] rfl ?_
                exact h
            · have h := h.2 hc
              refine J_bipush (v := (110 : Int32)) dc_Mo_putString_73 (Eq.refl 75) rfl ?_
              refine J_goto dc_Mo_putString_75 rfl ?_
              refine J_sub [1, 2, 3, 4, 0] rfl ?_
              exact h
          · have h := h.2 hc
            refine J_bipush (v := (116 : Int32)) dc_Mo_putString_61 (Eq.refl 63) rfl ?_
            refine J_goto dc_Mo_putString_63 rfl ?_
            refine J_sub [1, 2, 3, 4, 0] rfl ?_
            exact h
        · have h := h.2 hc
          refine J_bipush (v := (98 : Int32)) dc_Mo_putString_49 (Eq.refl 51) rfl ?_
          refine J_goto dc_Mo_putString_51 rfl ?_
          refine J_sub [1, 2, 3, 4, 0] rfl ?_
          exact h
      · have h := h.2 hc
        refine J_sub [1, 2, 3, 4, 0] rfl ?_
        exact h
theorem b_Mo_putString_37 {E : En_t} {d : Nat} {σ : S_t} {Q : Option Value → S_t → Prop} {x1 : Int32} {x2 : Int32} {x3 : Int32} {x4 : Int32}
    (h : JE E (d + 1) m_Mo_putString 103 [(0, pv E 0), (1, .int x1), (2, .int x2), (3, .int x3), (4, .int x4)] [.int x4] σ Q) :
    JE E (d + 1) m_Mo_putString 37 [(0, pv E 0), (1, .int x1), (2, .int x2), (3, .int x3), (4, .int x4)] [] σ Q := by
  refine J_iload dc_Mo_putString_37 (Eq.refl 39) 4 rfl ?_
  refine J_goto dc_Mo_putString_39 rfl ?_
  exact h
theorem b_Mo_putString_103 {E : En_t} {d : Nat} {σ : S_t} {Q : Option Value → S_t → Prop} {x1 : Int32} {x2 : Int32} {x3 : Int32} {x4 : Int32} {s0 : Int32}
    (h : (s0 < 0 → ((32 : Int32) ≤ x4 → CV E d m_Mo_putWide [pv E 0, .int x4] σ (fun σ1 => JE E (d + 1) m_Mo_putString 188 [(0, pv E 0), (1, .int x1), (2, .int x2), (3, .int x3)] [] σ1 Q)) ∧ (¬ (32 : Int32) ≤ x4 → CV E d m_Mo_put [pv E 0, .int (92 : Int32)] σ (fun σ2 => CV E d m_Mo_put [pv E 0, .int (117 : Int32)] σ2 (fun σ3 => CV E d m_Mo_put [pv E 0, .int (48 : Int32)] σ3 (fun σ4 => CV E d m_Mo_put [pv E 0, .int (48 : Int32)] σ4 (fun σ5 => CI E d m_Mo_digitOf [.int (x4 >>> ((4 : Int32) &&& 31))] σ5 (fun r7 σ6 => CV E d m_Mo_put [pv E 0, .int r7] σ6 (fun σ8 => CI E d m_Mo_digitOf [.int (x4 &&& (15 : Int32))] σ8 (fun r10 σ9 => CV E d m_Mo_put [pv E 0, .int r10] σ9 (fun σ11 => JE E (d + 1) m_Mo_putString 188 [(0, pv E 0), (1, .int x1), (2, .int x2), (3, .int x3)] [] σ11 Q)))))))))) ∧ (¬ s0 < 0 → CV E d m_Mo_put [pv E 0, .int (92 : Int32)] σ (fun σ12 => CV E d m_Mo_put [pv E 0, .int s0] σ12 (fun σ13 => JE E (d + 1) m_Mo_putString 188 [(0, pv E 0), (1, .int x1), (2, .int x2), (3, .int x3)] [] σ13 Q)))) :
    JE E (d + 1) m_Mo_putString 103 [(0, pv E 0), (1, .int x1), (2, .int x2), (3, .int x3), (4, .int x4)] [.int s0] σ Q := by
  refine J_istore (L' := [(5, .int s0), (0, pv E 0), (1, .int x1), (2, .int x2), (3, .int x3), (4, .int x4)]) dc_Mo_putString_103 (Eq.refl 105) (Nat.le_of_ble_eq_true rfl) rfl ?_
  refine J_iload dc_Mo_putString_105 (Eq.refl 107) 0 rfl ?_
  refine J_if_lt dc_Mo_putString_107 (Eq.refl 110) rfl (fun hc => ?_) (fun hc => ?_)
  · have h := h.1 hc
    refine J_iload dc_Mo_putString_125 (Eq.refl 127) 5 rfl ?_
    refine J_bipush (v := (32 : Int32)) dc_Mo_putString_127 (Eq.refl 129) rfl ?_
    refine J_icmp_ge dc_Mo_putString_129 (Eq.refl 132) rfl (fun hc => ?_) (fun hc => ?_)
    · have h := h.1 hc
      refine J_aload_n dc_Mo_putString_182 (Eq.refl 183) 1 rfl ?_
      refine J_iload dc_Mo_putString_183 (Eq.refl 185) 5 rfl ?_
      refine J_callVV (As := [.int x4]) (st := []) dc_Mo_putString_185 (Eq.refl 188) lk_Mo_398 mi_Mo_putWide rfl (Nat.le_of_ble_eq_true rfl) rfl rfl (Nat.le_of_ble_eq_true rfl) rfl (Nat.le_of_ble_eq_true rfl) (CV.mono h (fun σ1 h => ?_))
      refine J_sub [1, 2, 3, 4] rfl ?_
      exact h
    · have h := h.2 hc
      refine J_aload_n dc_Mo_putString_132 (Eq.refl 133) 1 rfl ?_
      refine J_bipush (v := (92 : Int32)) dc_Mo_putString_133 (Eq.refl 135) rfl ?_
      refine J_callVV (As := [.int (92 : Int32)]) (st := []) dc_Mo_putString_135 (Eq.refl 138) lk_Mo_288 mi_Mo_put rfl (Nat.le_of_ble_eq_true rfl) rfl rfl (Nat.le_of_ble_eq_true rfl) rfl (Nat.le_of_ble_eq_true rfl) (CV.mono h (fun σ2 h => ?_))
      refine J_aload_n dc_Mo_putString_138 (Eq.refl 139) 1 rfl ?_
      refine J_bipush (v := (117 : Int32)) dc_Mo_putString_139 (Eq.refl 141) rfl ?_
      refine J_callVV (As := [.int (117 : Int32)]) (st := []) dc_Mo_putString_141 (Eq.refl 144) lk_Mo_288 mi_Mo_put rfl (Nat.le_of_ble_eq_true rfl) rfl rfl (Nat.le_of_ble_eq_true rfl) rfl (Nat.le_of_ble_eq_true rfl) (CV.mono h (fun σ3 h => ?_))
      refine J_aload_n dc_Mo_putString_144 (Eq.refl 145) 1 rfl ?_
      refine J_bipush (v := (48 : Int32)) dc_Mo_putString_145 (Eq.refl 147) rfl ?_
      refine J_callVV (As := [.int (48 : Int32)]) (st := []) dc_Mo_putString_147 (Eq.refl 150) lk_Mo_288 mi_Mo_put rfl (Nat.le_of_ble_eq_true rfl) rfl rfl (Nat.le_of_ble_eq_true rfl) rfl (Nat.le_of_ble_eq_true rfl) (CV.mono h (fun σ4 h => ?_))
      refine J_aload_n dc_Mo_putString_150 (Eq.refl 151) 1 rfl ?_
      refine J_bipush (v := (48 : Int32)) dc_Mo_putString_151 (Eq.refl 153) rfl ?_
      refine J_callVV (As := [.int (48 : Int32)]) (st := []) dc_Mo_putString_153 (Eq.refl 156) lk_Mo_288 mi_Mo_put rfl (Nat.le_of_ble_eq_true rfl) rfl rfl (Nat.le_of_ble_eq_true rfl) rfl (Nat.le_of_ble_eq_true rfl) (CV.mono h (fun σ5 h => ?_))
      refine J_aload_n dc_Mo_putString_156 (Eq.refl 157) 1 rfl ?_
      refine J_iload dc_Mo_putString_157 (Eq.refl 159) 5 rfl ?_
      refine J_iconst (v := (4 : Int32)) dc_Mo_putString_159 (Eq.refl 160) rfl ?_
      refine J_ishr dc_Mo_putString_160 (Eq.refl 161) ?_
      refine J_callSI (As := [.int (x4 >>> ((4 : Int32) &&& 31))]) (st := [pv E 0]) dc_Mo_putString_161 (Eq.refl 164) lk_Mo_395 mi_Mo_digitOf (Nat.le_of_ble_eq_true rfl) rfl (Nat.le_of_ble_eq_true rfl) (CI.mono h (fun r7 σ6 h => ?_))
      refine J_callVV (As := [.int r7]) (st := []) dc_Mo_putString_164 (Eq.refl 167) lk_Mo_288 mi_Mo_put rfl (Nat.le_of_ble_eq_true rfl) rfl rfl (Nat.le_of_ble_eq_true rfl) rfl (Nat.le_of_ble_eq_true rfl) (CV.mono h (fun σ8 h => ?_))
      refine J_aload_n dc_Mo_putString_167 (Eq.refl 168) 1 rfl ?_
      refine J_iload dc_Mo_putString_168 (Eq.refl 170) 5 rfl ?_
      refine J_bipush (v := (15 : Int32)) dc_Mo_putString_170 (Eq.refl 172) rfl ?_
      refine J_iand dc_Mo_putString_172 (Eq.refl 173) ?_
      refine J_callSI (As := [.int (x4 &&& (15 : Int32))]) (st := [pv E 0]) dc_Mo_putString_173 (Eq.refl 176) lk_Mo_395 mi_Mo_digitOf (Nat.le_of_ble_eq_true rfl) rfl (Nat.le_of_ble_eq_true rfl) (CI.mono h (fun r10 σ9 h => ?_))
      refine J_callVV (As := [.int r10]) (st := []) dc_Mo_putString_176 (Eq.refl 179) lk_Mo_288 mi_Mo_put rfl (Nat.le_of_ble_eq_true rfl) rfl rfl (Nat.le_of_ble_eq_true rfl) rfl (Nat.le_of_ble_eq_true rfl) (CV.mono h (fun σ11 h => ?_))
      refine J_goto dc_Mo_putString_179 rfl ?_
      refine J_sub [1, 2, 3, 4] rfl ?_
      exact h
  · have h := h.2 hc
    refine J_aload_n dc_Mo_putString_110 (Eq.refl 111) 1 rfl ?_
    refine J_bipush (v := (92 : Int32)) dc_Mo_putString_111 (Eq.refl 113) rfl ?_
    refine J_callVV (As := [.int (92 : Int32)]) (st := []) dc_Mo_putString_113 (Eq.refl 116) lk_Mo_288 mi_Mo_put rfl (Nat.le_of_ble_eq_true rfl) rfl rfl (Nat.le_of_ble_eq_true rfl) rfl (Nat.le_of_ble_eq_true rfl) (CV.mono h (fun σ12 h => ?_))
    refine J_aload_n dc_Mo_putString_116 (Eq.refl 117) 1 rfl ?_
    refine J_iload dc_Mo_putString_117 (Eq.refl 119) 0 rfl ?_
    refine J_callVV (As := [.int s0]) (st := []) dc_Mo_putString_119 (Eq.refl 122) lk_Mo_288 mi_Mo_put rfl (Nat.le_of_ble_eq_true rfl) rfl rfl (Nat.le_of_ble_eq_true rfl) rfl (Nat.le_of_ble_eq_true rfl) (CV.mono h (fun σ13 h => ?_))
    refine J_goto dc_Mo_putString_122 rfl ?_
    refine J_sub [1, 2, 3, 4] rfl ?_
    exact h
theorem b_Mo_putString_188 {E : En_t} {d : Nat} {σ : S_t} {Q : Option Value → S_t → Prop} {x1 : Int32} {x2 : Int32} {x3 : Int32}
    (h : JE E (d + 1) m_Mo_putString 8 [(0, pv E 0), (1, .int x1), (2, .int x2), (3, .int (x3 + (1 : Int32)))] [] σ Q) :
    JE E (d + 1) m_Mo_putString 188 [(0, pv E 0), (1, .int x1), (2, .int x2), (3, .int x3)] [] σ Q := by
  refine J_iinc (v := x3 + (1 : Int32)) (L' := [(3, .int (x3 + (1 : Int32))), (0, pv E 0), (1, .int x1), (2, .int x2)]) dc_Mo_putString_188 (Eq.refl 191) 3 rfl rfl (Nat.le_of_ble_eq_true rfl) rfl ?_
  refine J_goto dc_Mo_putString_191 rfl ?_
  refine J_sub [1, 2, 3, 0] rfl ?_
  exact h
