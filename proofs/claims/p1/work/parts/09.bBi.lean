theorem dc_Bi_set_0 : decode m_Bi_set.2.1 0 = .ok (.aload_n 0, 1) := by decide +kernel
theorem dc_Bi_set_1 : decode m_Bi_set.2.1 1 = .ok (.getfield 9, 3) := by decide +kernel
theorem dc_Bi_set_4 : decode m_Bi_set.2.1 4 = .ok (.iconst 0, 1) := by decide +kernel
theorem dc_Bi_set_5 : decode m_Bi_set.2.1 5 = .ok (.lload_n 1, 1) := by decide +kernel
theorem dc_Bi_set_6 : decode m_Bi_set.2.1 6 = .ok (.l2i, 1) := by decide +kernel
theorem dc_Bi_set_7 : decode m_Bi_set.2.1 7 = .ok (.iastore, 1) := by decide +kernel
theorem dc_Bi_set_8 : decode m_Bi_set.2.1 8 = .ok (.aload_n 0, 1) := by decide +kernel
theorem dc_Bi_set_9 : decode m_Bi_set.2.1 9 = .ok (.getfield 9, 3) := by decide +kernel
theorem dc_Bi_set_12 : decode m_Bi_set.2.1 12 = .ok (.iconst 1, 1) := by decide +kernel
theorem dc_Bi_set_13 : decode m_Bi_set.2.1 13 = .ok (.lload_n 1, 1) := by decide +kernel
theorem dc_Bi_set_14 : decode m_Bi_set.2.1 14 = .ok (.bipush 32, 2) := by decide +kernel
theorem dc_Bi_set_16 : decode m_Bi_set.2.1 16 = .ok (.lushr, 1) := by decide +kernel
theorem dc_Bi_set_17 : decode m_Bi_set.2.1 17 = .ok (.l2i, 1) := by decide +kernel
theorem dc_Bi_set_18 : decode m_Bi_set.2.1 18 = .ok (.iastore, 1) := by decide +kernel
theorem dc_Bi_set_19 : decode m_Bi_set.2.1 19 = .ok (.aload_n 0, 1) := by decide +kernel
theorem dc_Bi_set_20 : decode m_Bi_set.2.1 20 = .ok (.aload_n 0, 1) := by decide +kernel
theorem dc_Bi_set_21 : decode m_Bi_set.2.1 21 = .ok (.getfield 9, 3) := by decide +kernel
theorem dc_Bi_set_24 : decode m_Bi_set.2.1 24 = .ok (.iconst 1, 1) := by decide +kernel
theorem dc_Bi_set_25 : decode m_Bi_set.2.1 25 = .ok (.iaload, 1) := by decide +kernel
theorem dc_Bi_set_26 : decode m_Bi_set.2.1 26 = .ok (.ifCond .eq 7, 3) := by decide +kernel
theorem dc_Bi_set_29 : decode m_Bi_set.2.1 29 = .ok (.iconst 2, 1) := by decide +kernel
theorem dc_Bi_set_30 : decode m_Bi_set.2.1 30 = .ok (.goto 17, 3) := by decide +kernel
theorem dc_Bi_set_33 : decode m_Bi_set.2.1 33 = .ok (.aload_n 0, 1) := by decide +kernel
theorem dc_Bi_set_34 : decode m_Bi_set.2.1 34 = .ok (.getfield 9, 3) := by decide +kernel
theorem dc_Bi_set_37 : decode m_Bi_set.2.1 37 = .ok (.iconst 0, 1) := by decide +kernel
theorem dc_Bi_set_38 : decode m_Bi_set.2.1 38 = .ok (.iaload, 1) := by decide +kernel
theorem dc_Bi_set_39 : decode m_Bi_set.2.1 39 = .ok (.ifCond .eq 7, 3) := by decide +kernel
theorem dc_Bi_set_42 : decode m_Bi_set.2.1 42 = .ok (.iconst 1, 1) := by decide +kernel
theorem dc_Bi_set_43 : decode m_Bi_set.2.1 43 = .ok (.goto 4, 3) := by decide +kernel
theorem dc_Bi_set_46 : decode m_Bi_set.2.1 46 = .ok (.iconst 0, 1) := by decide +kernel
theorem dc_Bi_set_47 : decode m_Bi_set.2.1 47 = .ok (.putfield 13, 3) := by decide +kernel
theorem dc_Bi_set_50 : decode m_Bi_set.2.1 50 = .ok (.aload_n 0, 1) := by decide +kernel
theorem dc_Bi_set_51 : decode m_Bi_set.2.1 51 = .ok (.iconst 0, 1) := by decide +kernel
theorem dc_Bi_set_52 : decode m_Bi_set.2.1 52 = .ok (.putfield 17, 3) := by decide +kernel
theorem dc_Bi_set_55 : decode m_Bi_set.2.1 55 = .ok (.return_, 1) := by decide +kernel
theorem b_Bi_set_0 {E : En_t} {d : Nat} {σ : S_t} {Q : Option Value → S_t → Prop} {o0 : Nat} {x1 : Int64} (hk_o0 : kindP o0 = 5)
    (h : vp_in (0 : Int32) 96 ∧ (vp_in (1 : Int32) 96 ∧ (∀ σ1, σ1 = sI (sI σ (o0 + 1) (0 : Int32).toNatClampNeg x1.toInt32) (o0 + 1) (1 : Int32).toNatClampNeg (((x1.toUInt64 >>> ((32 : Int32).toInt64.toUInt64 &&& Int64.toUInt64 63)).toInt64).toInt32) → (vp_in (1 : Int32) 96 ∧ (((gI σ1 (o0 + 1) (1 : Int32).toNatClampNeg) = 0 → vp_in (0 : Int32) 96 ∧ (((gI σ1 (o0 + 1) (0 : Int32).toNatClampNeg) = 0 → Q none (sI (sI σ1 o0 1 (0 : Int32)) o0 2 (0 : Int32))) ∧ (¬ (gI σ1 (o0 + 1) (0 : Int32).toNatClampNeg) = 0 → Q none (sI (sI σ1 o0 1 (1 : Int32)) o0 2 (0 : Int32))))) ∧ (¬ (gI σ1 (o0 + 1) (1 : Int32).toNatClampNeg) = 0 → Q none (sI (sI σ1 o0 1 (2 : Int32)) o0 2 (0 : Int32)))))))) :
    JE E d m_Bi_set 0 [(0, pv E o0), (1, .long x1)] [] σ Q := by
  refine J_aload_n dc_Bi_set_0 (Eq.refl 1) 0 rfl ?_
  refine J_getF (y := o0 + 1) dc_Bi_set_1 (Eq.refl 4) fl_Bi_9 (Nat.le_of_ble_eq_true rfl) hk_o0 (Or.inl rfl) rfl ?_
  refine J_iconst (v := (0 : Int32)) dc_Bi_set_4 (Eq.refl 5) rfl ?_
  refine J_lload_n dc_Bi_set_5 (Eq.refl 6) 1 rfl ?_
  refine J_l2i dc_Bi_set_6 (Eq.refl 7) ?_
  obtain ⟨hg, h⟩ := h
  refine J_iast dc_Bi_set_7 (Eq.refl 8) (ak_Bi_0 hk_o0).1 (ak_Bi_0 hk_o0).2 hg ?_
  refine J_aload_n dc_Bi_set_8 (Eq.refl 9) 0 rfl ?_
  refine J_getF (y := o0 + 1) dc_Bi_set_9 (Eq.refl 12) fl_Bi_9 (Nat.le_of_ble_eq_true rfl) hk_o0 (Or.inl rfl) rfl ?_
  refine J_iconst (v := (1 : Int32)) dc_Bi_set_12 (Eq.refl 13) rfl ?_
  refine J_lload_n dc_Bi_set_13 (Eq.refl 14) 1 rfl ?_
  refine J_bipush (v := (32 : Int32)) dc_Bi_set_14 (Eq.refl 16) rfl ?_
  refine J_lushr dc_Bi_set_16 (Eq.refl 17) ?_
  refine J_l2i dc_Bi_set_17 (Eq.refl 18) ?_
  obtain ⟨hg, h⟩ := h
  refine J_iast dc_Bi_set_18 (Eq.refl 19) (ak_Bi_0 hk_o0).1 (ak_Bi_0 hk_o0).2 hg ?_
  refine J_st (fun σ1 eσ1 => ?_)
  have h := h σ1 eσ1
  refine J_aload_n dc_Bi_set_19 (Eq.refl 20) 0 rfl ?_
  refine J_aload_n dc_Bi_set_20 (Eq.refl 21) 0 rfl ?_
  refine J_getF (y := o0 + 1) dc_Bi_set_21 (Eq.refl 24) fl_Bi_9 (Nat.le_of_ble_eq_true rfl) hk_o0 (Or.inl rfl) rfl ?_
  refine J_iconst (v := (1 : Int32)) dc_Bi_set_24 (Eq.refl 25) rfl ?_
  obtain ⟨hg, h⟩ := h
  refine J_iald dc_Bi_set_25 (Eq.refl 26) (ak_Bi_0 hk_o0).1 (ak_Bi_0 hk_o0).2 hg ?_
  refine J_if_eq dc_Bi_set_26 (Eq.refl 29) rfl (fun hc => ?_) (fun hc => ?_)
  · have h := h.1 hc
    refine J_aload_n dc_Bi_set_33 (Eq.refl 34) 0 rfl ?_
    refine J_getF (y := o0 + 1) dc_Bi_set_34 (Eq.refl 37) fl_Bi_9 (Nat.le_of_ble_eq_true rfl) hk_o0 (Or.inl rfl) rfl ?_
    refine J_iconst (v := (0 : Int32)) dc_Bi_set_37 (Eq.refl 38) rfl ?_
    obtain ⟨hg, h⟩ := h
    refine J_iald dc_Bi_set_38 (Eq.refl 39) (ak_Bi_0 hk_o0).1 (ak_Bi_0 hk_o0).2 hg ?_
    refine J_if_eq dc_Bi_set_39 (Eq.refl 42) rfl (fun hc => ?_) (fun hc => ?_)
    · have h := h.1 hc
      refine J_iconst (v := (0 : Int32)) dc_Bi_set_46 (Eq.refl 47) rfl ?_
      refine J_putI dc_Bi_set_47 (Eq.refl 50) pl_Bi_13 (Nat.le_of_ble_eq_true rfl) hk_o0 rfl ?_
      refine J_aload_n dc_Bi_set_50 (Eq.refl 51) 0 rfl ?_
      refine J_iconst (v := (0 : Int32)) dc_Bi_set_51 (Eq.refl 52) rfl ?_
      refine J_putZ dc_Bi_set_52 (Eq.refl 55) pl_Bi_17 (Nat.le_of_ble_eq_true rfl) hk_o0 rfl (Or.inl rfl) ?_
      exact J_vret dc_Bi_set_55 rfl h
    · have h := h.2 hc
      refine J_iconst (v := (1 : Int32)) dc_Bi_set_42 (Eq.refl 43) rfl ?_
      refine J_goto dc_Bi_set_43 rfl ?_
      refine J_putI dc_Bi_set_47 (Eq.refl 50) pl_Bi_13 (Nat.le_of_ble_eq_true rfl) hk_o0 rfl ?_
      refine J_aload_n dc_Bi_set_50 (Eq.refl 51) 0 rfl ?_
      refine J_iconst (v := (0 : Int32)) dc_Bi_set_51 (Eq.refl 52) rfl ?_
      refine J_putZ dc_Bi_set_52 (Eq.refl 55) pl_Bi_17 (Nat.le_of_ble_eq_true rfl) hk_o0 rfl (Or.inl rfl) ?_
      exact J_vret dc_Bi_set_55 rfl h
  · have h := h.2 hc
    refine J_iconst (v := (2 : Int32)) dc_Bi_set_29 (Eq.refl 30) rfl ?_
    refine J_goto dc_Bi_set_30 rfl ?_
    refine J_putI dc_Bi_set_47 (Eq.refl 50) pl_Bi_13 (Nat.le_of_ble_eq_true rfl) hk_o0 rfl ?_
    refine J_aload_n dc_Bi_set_50 (Eq.refl 51) 0 rfl ?_
    refine J_iconst (v := (0 : Int32)) dc_Bi_set_51 (Eq.refl 52) rfl ?_
    refine J_putZ dc_Bi_set_52 (Eq.refl 55) pl_Bi_17 (Nat.le_of_ble_eq_true rfl) hk_o0 rfl (Or.inl rfl) ?_
    exact J_vret dc_Bi_set_55 rfl h
theorem dc_Bi_multiply_0 : decode m_Bi_multiply.2.1 0 = .ok (.iload_n 2, 1) := by decide +kernel
theorem dc_Bi_multiply_1 : decode m_Bi_multiply.2.1 1 = .ok (.i2l, 1) := by decide +kernel
theorem dc_Bi_multiply_2 : decode m_Bi_multiply.2.1 2 = .ok (.lstore_n 3, 1) := by decide +kernel
theorem dc_Bi_multiply_3 : decode m_Bi_multiply.2.1 3 = .ok (.iconst 0, 1) := by decide +kernel
theorem dc_Bi_multiply_4 : decode m_Bi_multiply.2.1 4 = .ok (.istore 5, 2) := by decide +kernel
theorem dc_Bi_multiply_6 : decode m_Bi_multiply.2.1 6 = .ok (.iload 5, 2) := by decide +kernel
theorem dc_Bi_multiply_8 : decode m_Bi_multiply.2.1 8 = .ok (.aload_n 0, 1) := by decide +kernel
theorem dc_Bi_multiply_9 : decode m_Bi_multiply.2.1 9 = .ok (.getfield 13, 3) := by decide +kernel
theorem dc_Bi_multiply_12 : decode m_Bi_multiply.2.1 12 = .ok (.if_icmp .ge 41, 3) := by decide +kernel
theorem dc_Bi_multiply_15 : decode m_Bi_multiply.2.1 15 = .ok (.lload_n 3, 1) := by decide +kernel
theorem dc_Bi_multiply_16 : decode m_Bi_multiply.2.1 16 = .ok (.aload_n 0, 1) := by decide +kernel
theorem dc_Bi_multiply_17 : decode m_Bi_multiply.2.1 17 = .ok (.getfield 9, 3) := by decide +kernel
theorem dc_Bi_multiply_20 : decode m_Bi_multiply.2.1 20 = .ok (.iload 5, 2) := by decide +kernel
theorem dc_Bi_multiply_22 : decode m_Bi_multiply.2.1 22 = .ok (.iaload, 1) := by decide +kernel
theorem dc_Bi_multiply_23 : decode m_Bi_multiply.2.1 23 = .ok (.i2l, 1) := by decide +kernel
theorem dc_Bi_multiply_24 : decode m_Bi_multiply.2.1 24 = .ok (.ldc2_w 27, 3) := by decide +kernel
theorem dc_Bi_multiply_27 : decode m_Bi_multiply.2.1 27 = .ok (.land, 1) := by decide +kernel
theorem dc_Bi_multiply_28 : decode m_Bi_multiply.2.1 28 = .ok (.iload_n 1, 1) := by decide +kernel
theorem dc_Bi_multiply_29 : decode m_Bi_multiply.2.1 29 = .ok (.i2l, 1) := by decide +kernel
theorem dc_Bi_multiply_30 : decode m_Bi_multiply.2.1 30 = .ok (.lmul, 1) := by decide +kernel
theorem dc_Bi_multiply_31 : decode m_Bi_multiply.2.1 31 = .ok (.ladd, 1) := by decide +kernel
theorem dc_Bi_multiply_32 : decode m_Bi_multiply.2.1 32 = .ok (.lstore_n 3, 1) := by decide +kernel
theorem dc_Bi_multiply_33 : decode m_Bi_multiply.2.1 33 = .ok (.aload_n 0, 1) := by decide +kernel
theorem dc_Bi_multiply_34 : decode m_Bi_multiply.2.1 34 = .ok (.getfield 9, 3) := by decide +kernel
theorem dc_Bi_multiply_37 : decode m_Bi_multiply.2.1 37 = .ok (.iload 5, 2) := by decide +kernel
theorem dc_Bi_multiply_39 : decode m_Bi_multiply.2.1 39 = .ok (.lload_n 3, 1) := by decide +kernel
theorem dc_Bi_multiply_40 : decode m_Bi_multiply.2.1 40 = .ok (.l2i, 1) := by decide +kernel
theorem dc_Bi_multiply_41 : decode m_Bi_multiply.2.1 41 = .ok (.iastore, 1) := by decide +kernel
theorem dc_Bi_multiply_42 : decode m_Bi_multiply.2.1 42 = .ok (.lload_n 3, 1) := by decide +kernel
theorem dc_Bi_multiply_43 : decode m_Bi_multiply.2.1 43 = .ok (.bipush 32, 2) := by decide +kernel
theorem dc_Bi_multiply_45 : decode m_Bi_multiply.2.1 45 = .ok (.lushr, 1) := by decide +kernel
theorem dc_Bi_multiply_46 : decode m_Bi_multiply.2.1 46 = .ok (.lstore_n 3, 1) := by decide +kernel
theorem dc_Bi_multiply_47 : decode m_Bi_multiply.2.1 47 = .ok (.iinc 5 1, 3) := by decide +kernel
theorem dc_Bi_multiply_50 : decode m_Bi_multiply.2.1 50 = .ok (.goto (-44), 3) := by decide +kernel
theorem dc_Bi_multiply_53 : decode m_Bi_multiply.2.1 53 = .ok (.lload_n 3, 1) := by decide +kernel
theorem dc_Bi_multiply_54 : decode m_Bi_multiply.2.1 54 = .ok (.lconst 0, 1) := by decide +kernel
theorem dc_Bi_multiply_55 : decode m_Bi_multiply.2.1 55 = .ok (.lcmp, 1) := by decide +kernel
theorem dc_Bi_multiply_56 : decode m_Bi_multiply.2.1 56 = .ok (.ifCond .eq 33, 3) := by decide +kernel
theorem dc_Bi_multiply_59 : decode m_Bi_multiply.2.1 59 = .ok (.aload_n 0, 1) := by decide +kernel
theorem dc_Bi_multiply_60 : decode m_Bi_multiply.2.1 60 = .ok (.getfield 13, 3) := by decide +kernel
theorem dc_Bi_multiply_63 : decode m_Bi_multiply.2.1 63 = .ok (.bipush 96, 2) := by decide +kernel
theorem dc_Bi_multiply_65 : decode m_Bi_multiply.2.1 65 = .ok (.if_icmp .ge 24, 3) := by decide +kernel
theorem dc_Bi_multiply_68 : decode m_Bi_multiply.2.1 68 = .ok (.aload_n 0, 1) := by decide +kernel
theorem dc_Bi_multiply_69 : decode m_Bi_multiply.2.1 69 = .ok (.getfield 9, 3) := by decide +kernel
theorem dc_Bi_multiply_72 : decode m_Bi_multiply.2.1 72 = .ok (.aload_n 0, 1) := by decide +kernel
theorem dc_Bi_multiply_73 : decode m_Bi_multiply.2.1 73 = .ok (.getfield 13, 3) := by decide +kernel
theorem dc_Bi_multiply_76 : decode m_Bi_multiply.2.1 76 = .ok (.lload_n 3, 1) := by decide +kernel
theorem dc_Bi_multiply_77 : decode m_Bi_multiply.2.1 77 = .ok (.l2i, 1) := by decide +kernel
theorem dc_Bi_multiply_78 : decode m_Bi_multiply.2.1 78 = .ok (.iastore, 1) := by decide +kernel
theorem dc_Bi_multiply_79 : decode m_Bi_multiply.2.1 79 = .ok (.aload_n 0, 1) := by decide +kernel
theorem dc_Bi_multiply_80 : decode m_Bi_multiply.2.1 80 = .ok (.dup, 1) := by decide +kernel
theorem dc_Bi_multiply_81 : decode m_Bi_multiply.2.1 81 = .ok (.getfield 13, 3) := by decide +kernel
theorem dc_Bi_multiply_84 : decode m_Bi_multiply.2.1 84 = .ok (.iconst 1, 1) := by decide +kernel
theorem dc_Bi_multiply_85 : decode m_Bi_multiply.2.1 85 = .ok (.iadd, 1) := by decide +kernel
theorem dc_Bi_multiply_86 : decode m_Bi_multiply.2.1 86 = .ok (.putfield 13, 3) := by decide +kernel
theorem dc_Bi_multiply_89 : decode m_Bi_multiply.2.1 89 = .ok (.return_, 1) := by decide +kernel
theorem b_Bi_multiply_0 {E : En_t} {d : Nat} {σ : S_t} {Q : Option Value → S_t → Prop} {o0 : Nat} {x1 : Int32} {x2 : Int32} (hk_o0 : kindP o0 = 5)
    (h : JE E d m_Bi_multiply 6 [(0, pv E o0), (1, .int x1), (3, .long x2.toInt64), (5, .int (0 : Int32))] [] σ Q) :
    JE E d m_Bi_multiply 0 [(0, pv E o0), (1, .int x1), (2, .int x2)] [] σ Q := by
  refine J_iload_n dc_Bi_multiply_0 (Eq.refl 1) 2 rfl ?_
  refine J_i2l dc_Bi_multiply_1 (Eq.refl 2) ?_
  refine J_lstore_n (L' := [(3, .long x2.toInt64), (0, pv E o0), (1, .int x1), (2, .int x2)]) dc_Bi_multiply_2 (Eq.refl 3) (Nat.le_of_ble_eq_true rfl) rfl ?_
  refine J_iconst (v := (0 : Int32)) dc_Bi_multiply_3 (Eq.refl 4) rfl ?_
  refine J_istore (L' := [(5, .int (0 : Int32)), (3, .long x2.toInt64), (0, pv E o0), (1, .int x1), (2, .int x2)]) dc_Bi_multiply_4 (Eq.refl 6) (Nat.le_of_ble_eq_true rfl) rfl ?_
  refine J_sub [2, 3, 1, 0] rfl ?_
  exact h
theorem b_Bi_multiply_6 {E : En_t} {d : Nat} {σ : S_t} {Q : Option Value → S_t → Prop} {o0 : Nat} {x1 : Int32} {x3 : Int64} {x5 : Int32} (hk_o0 : kindP o0 = 5)
    (h : ((gI σ o0 1) ≤ x5 → ((lg_cmp x3 (0 : Int64)) = 0 → Q none σ) ∧ (¬ (lg_cmp x3 (0 : Int64)) = 0 → ((96 : Int32) ≤ (gI σ o0 1) → Q none σ) ∧ (¬ (96 : Int32) ≤ (gI σ o0 1) → vp_in (gI σ o0 1) 96 ∧ (Q none (sI (sI σ (o0 + 1) (gI σ o0 1).toNatClampNeg x3.toInt32) o0 1 ((gI (sI σ (o0 + 1) (gI σ o0 1).toNatClampNeg x3.toInt32) o0 1) + (1 : Int32))))))) ∧ (¬ (gI σ o0 1) ≤ x5 → vp_in x5 96 ∧ (vp_in x5 96 ∧ (∀ v1, v1 = ((x3 + ((((gI σ (o0 + 1) x5.toNatClampNeg).toInt64) &&& (4294967295 : Int64)) * x1.toInt64)).toUInt64 >>> ((32 : Int32).toInt64.toUInt64 &&& Int64.toUInt64 63)).toInt64 → (JE E d m_Bi_multiply 6 [(0, pv E o0), (1, .int x1), (3, .long v1), (5, .int (x5 + (1 : Int32)))] [] (sI σ (o0 + 1) x5.toNatClampNeg ((x3 + ((((gI σ (o0 + 1) x5.toNatClampNeg).toInt64) &&& (4294967295 : Int64)) * x1.toInt64)).toInt32)) Q))))) :
    JE E d m_Bi_multiply 6 [(0, pv E o0), (1, .int x1), (3, .long x3), (5, .int x5)] [] σ Q := by
  refine J_iload dc_Bi_multiply_6 (Eq.refl 8) 3 rfl ?_
  refine J_aload_n dc_Bi_multiply_8 (Eq.refl 9) 0 rfl ?_
  refine J_getI dc_Bi_multiply_9 (Eq.refl 12) fl_Bi_13 (Nat.le_of_ble_eq_true rfl) hk_o0 (Or.inl rfl) ?_
  refine J_icmp_ge dc_Bi_multiply_12 (Eq.refl 15) rfl (fun hc => ?_) (fun hc => ?_)
  · have h := h.1 hc
    refine J_lload_n dc_Bi_multiply_53 (Eq.refl 54) 2 rfl ?_
    refine J_lconst (v := (0 : Int64)) dc_Bi_multiply_54 (Eq.refl 55) rfl ?_
    refine J_lcmp dc_Bi_multiply_55 (Eq.refl 56) ?_
    refine J_if_eq dc_Bi_multiply_56 (Eq.refl 59) rfl (fun hc => ?_) (fun hc => ?_)
    · have h := h.1 hc
      exact J_vret dc_Bi_multiply_89 rfl h
    · have h := h.2 hc
      refine J_aload_n dc_Bi_multiply_59 (Eq.refl 60) 0 rfl ?_
      refine J_getI dc_Bi_multiply_60 (Eq.refl 63) fl_Bi_13 (Nat.le_of_ble_eq_true rfl) hk_o0 (Or.inl rfl) ?_
      refine J_bipush (v := (96 : Int32)) dc_Bi_multiply_63 (Eq.refl 65) rfl ?_
      refine J_icmp_ge dc_Bi_multiply_65 (Eq.refl 68) rfl (fun hc => ?_) (fun hc => ?_)
      · have h := h.1 hc
        exact J_vret dc_Bi_multiply_89 rfl h
      · have h := h.2 hc
        refine J_aload_n dc_Bi_multiply_68 (Eq.refl 69) 0 rfl ?_
        refine J_getF (y := o0 + 1) dc_Bi_multiply_69 (Eq.refl 72) fl_Bi_9 (Nat.le_of_ble_eq_true rfl) hk_o0 (Or.inl rfl) rfl ?_
        refine J_aload_n dc_Bi_multiply_72 (Eq.refl 73) 0 rfl ?_
        refine J_getI dc_Bi_multiply_73 (Eq.refl 76) fl_Bi_13 (Nat.le_of_ble_eq_true rfl) hk_o0 (Or.inl rfl) ?_
        refine J_lload_n dc_Bi_multiply_76 (Eq.refl 77) 2 rfl ?_
        refine J_l2i dc_Bi_multiply_77 (Eq.refl 78) ?_
        obtain ⟨hg, h⟩ := h
        refine J_iast dc_Bi_multiply_78 (Eq.refl 79) (ak_Bi_0 hk_o0).1 (ak_Bi_0 hk_o0).2 hg ?_
        refine J_aload_n dc_Bi_multiply_79 (Eq.refl 80) 0 rfl ?_
        refine J_dup dc_Bi_multiply_80 (Eq.refl 81) rfl ?_
        refine J_getI dc_Bi_multiply_81 (Eq.refl 84) fl_Bi_13 (Nat.le_of_ble_eq_true rfl) hk_o0 (Or.inl rfl) ?_
        refine J_iconst (v := (1 : Int32)) dc_Bi_multiply_84 (Eq.refl 85) rfl ?_
        refine J_iadd dc_Bi_multiply_85 (Eq.refl 86) ?_
        refine J_putI dc_Bi_multiply_86 (Eq.refl 89) pl_Bi_13 (Nat.le_of_ble_eq_true rfl) hk_o0 rfl ?_
        exact J_vret dc_Bi_multiply_89 rfl h
  · have h := h.2 hc
    refine J_lload_n dc_Bi_multiply_15 (Eq.refl 16) 2 rfl ?_
    refine J_aload_n dc_Bi_multiply_16 (Eq.refl 17) 0 rfl ?_
    refine J_getF (y := o0 + 1) dc_Bi_multiply_17 (Eq.refl 20) fl_Bi_9 (Nat.le_of_ble_eq_true rfl) hk_o0 (Or.inl rfl) rfl ?_
    refine J_iload dc_Bi_multiply_20 (Eq.refl 22) 3 rfl ?_
    obtain ⟨hg, h⟩ := h
    refine J_iald dc_Bi_multiply_22 (Eq.refl 23) (ak_Bi_0 hk_o0).1 (ak_Bi_0 hk_o0).2 hg ?_
    refine J_i2l dc_Bi_multiply_23 (Eq.refl 24) ?_
    refine J_ldc2 dc_Bi_multiply_24 (Eq.refl 27) kc_Bi_27 ?_
    refine J_land dc_Bi_multiply_27 (Eq.refl 28) ?_
    refine J_iload_n dc_Bi_multiply_28 (Eq.refl 29) 1 rfl ?_
    refine J_i2l dc_Bi_multiply_29 (Eq.refl 30) ?_
    refine J_lmul dc_Bi_multiply_30 (Eq.refl 31) ?_
    refine J_ladd dc_Bi_multiply_31 (Eq.refl 32) ?_
    refine J_lstore_n (L' := [(3, .long (x3 + ((((gI σ (o0 + 1) x5.toNatClampNeg).toInt64) &&& (4294967295 : Int64)) * x1.toInt64))), (0, pv E o0), (1, .int x1), (5, .int x5)]) dc_Bi_multiply_32 (Eq.refl 33) (Nat.le_of_ble_eq_true rfl) rfl ?_
    refine J_aload_n dc_Bi_multiply_33 (Eq.refl 34) 1 rfl ?_
    refine J_getF (y := o0 + 1) dc_Bi_multiply_34 (Eq.refl 37) fl_Bi_9 (Nat.le_of_ble_eq_true rfl) hk_o0 (Or.inl rfl) rfl ?_
    refine J_iload dc_Bi_multiply_37 (Eq.refl 39) 3 rfl ?_
    refine J_lload_n dc_Bi_multiply_39 (Eq.refl 40) 0 rfl ?_
    refine J_l2i dc_Bi_multiply_40 (Eq.refl 41) ?_
    obtain ⟨hg, h⟩ := h
    refine J_iast dc_Bi_multiply_41 (Eq.refl 42) (ak_Bi_0 hk_o0).1 (ak_Bi_0 hk_o0).2 hg ?_
    refine J_lload_n dc_Bi_multiply_42 (Eq.refl 43) 0 rfl ?_
    refine J_bipush (v := (32 : Int32)) dc_Bi_multiply_43 (Eq.refl 45) rfl ?_
    refine J_lushr dc_Bi_multiply_45 (Eq.refl 46) ?_
    refine J_topl (fun v1 ev1 => ?_)
    have h := h v1 ev1
    refine J_lstore_n (L' := [(3, .long v1), (0, pv E o0), (1, .int x1), (5, .int x5)]) dc_Bi_multiply_46 (Eq.refl 47) (Nat.le_of_ble_eq_true rfl) rfl ?_
    refine J_iinc (v := x5 + (1 : Int32)) (L' := [(5, .int (x5 + (1 : Int32))), (3, .long v1), (0, pv E o0), (1, .int x1)]) dc_Bi_multiply_47 (Eq.refl 50) 3 rfl rfl (Nat.le_of_ble_eq_true rfl) rfl ?_
    refine J_goto dc_Bi_multiply_50 rfl ?_
    refine J_sub [2, 3, 1, 0] rfl ?_
    exact h
theorem dc_Bi_timesFive_0 : decode m_Bi_timesFive.2.1 0 = .ok (.iload_n 1, 1) := by decide +kernel
theorem dc_Bi_timesFive_1 : decode m_Bi_timesFive.2.1 1 = .ok (.istore_n 2, 1) := by decide +kernel
theorem dc_Bi_timesFive_2 : decode m_Bi_timesFive.2.1 2 = .ok (.iload_n 2, 1) := by decide +kernel
theorem dc_Bi_timesFive_3 : decode m_Bi_timesFive.2.1 3 = .ok (.ifCond .le 24, 3) := by decide +kernel
theorem dc_Bi_timesFive_6 : decode m_Bi_timesFive.2.1 6 = .ok (.aload_n 0, 1) := by decide +kernel
theorem dc_Bi_timesFive_7 : decode m_Bi_timesFive.2.1 7 = .ok (.getstatic 29, 3) := by decide +kernel
theorem dc_Bi_timesFive_10 : decode m_Bi_timesFive.2.1 10 = .ok (.iload_n 2, 1) := by decide +kernel
theorem dc_Bi_timesFive_11 : decode m_Bi_timesFive.2.1 11 = .ok (.bipush 13, 2) := by decide +kernel
theorem dc_Bi_timesFive_13 : decode m_Bi_timesFive.2.1 13 = .ok (.invokestatic 32, 3) := by decide +kernel
theorem dc_Bi_timesFive_16 : decode m_Bi_timesFive.2.1 16 = .ok (.iaload, 1) := by decide +kernel
theorem dc_Bi_timesFive_17 : decode m_Bi_timesFive.2.1 17 = .ok (.iconst 0, 1) := by decide +kernel
theorem dc_Bi_timesFive_18 : decode m_Bi_timesFive.2.1 18 = .ok (.invokevirtual 38, 3) := by decide +kernel
theorem dc_Bi_timesFive_21 : decode m_Bi_timesFive.2.1 21 = .ok (.iinc 2 (-13), 3) := by decide +kernel
theorem dc_Bi_timesFive_24 : decode m_Bi_timesFive.2.1 24 = .ok (.goto (-22), 3) := by decide +kernel
theorem dc_Bi_timesFive_27 : decode m_Bi_timesFive.2.1 27 = .ok (.return_, 1) := by decide +kernel
theorem b_Bi_timesFive_0 {E : En_t} {d : Nat} {σ : S_t} {Q : Option Value → S_t → Prop} {o0 : Nat} {x1 : Int32} (hk_o0 : kindP o0 = 5)
    (h : JE E (d + 1) m_Bi_timesFive 2 [(0, pv E o0), (2, .int x1)] [] σ Q) :
    JE E (d + 1) m_Bi_timesFive 0 [(0, pv E o0), (1, .int x1)] [] σ Q := by
  refine J_iload_n dc_Bi_timesFive_0 (Eq.refl 1) 1 rfl ?_
  refine J_istore_n (L' := [(2, .int x1), (0, pv E o0), (1, .int x1)]) dc_Bi_timesFive_1 (Eq.refl 2) (Nat.le_of_ble_eq_true rfl) rfl ?_
  refine J_sub [1, 0] rfl ?_
  exact h
theorem b_Bi_timesFive_2 {E : En_t} {d : Nat} {σ : S_t} {Q : Option Value → S_t → Prop} {o0 : Nat} {x2 : Int32} (hk_o0 : kindP o0 = 5)
    (h : (x2 ≤ 0 → Q none σ) ∧ (¬ x2 ≤ 0 → ∀ r1, r1 = mnI x2 (13 : Int32) → (vp_in r1 14 ∧ (CV E d m_Bi_multiply [pv E o0, .int (tabV 1 r1.toNatClampNeg), .int (0 : Int32)] σ (fun σ2 => JE E (d + 1) m_Bi_timesFive 2 [(0, pv E o0), (2, .int (x2 + (-13 : Int32)))] [] σ2 Q))))) :
    JE E (d + 1) m_Bi_timesFive 2 [(0, pv E o0), (2, .int x2)] [] σ Q := by
  refine J_iload_n dc_Bi_timesFive_2 (Eq.refl 3) 1 rfl ?_
  refine J_if_le dc_Bi_timesFive_3 (Eq.refl 6) rfl (fun hc => ?_) (fun hc => ?_)
  · have h := h.1 hc
    exact J_vret dc_Bi_timesFive_27 rfl h
  · have h := h.2 hc
    refine J_aload_n dc_Bi_timesFive_6 (Eq.refl 7) 0 rfl ?_
    refine J_gets (t := 1) dc_Bi_timesFive_7 (Eq.refl 10) rfl fl_Bi_29 ?_
    refine J_iload_n dc_Bi_timesFive_10 (Eq.refl 11) 1 rfl ?_
    refine J_bipush (v := (13 : Int32)) dc_Bi_timesFive_11 (Eq.refl 13) rfl ?_
    refine J_mmin dc_Bi_timesFive_13 (Eq.refl 16) lk_Bi_32 (Nat.le_of_ble_eq_true rfl) (fun r1 er1 => ?_)
    have h := h r1 er1
    obtain ⟨hg, h⟩ := h
    refine J_tald (t := 1) (v := tabV 1 r1.toNatClampNeg) dc_Bi_timesFive_16 (Eq.refl 17) rfl hg rfl ?_
    refine J_iconst (v := (0 : Int32)) dc_Bi_timesFive_17 (Eq.refl 18) rfl ?_
    refine J_callVV (As := [.int (tabV 1 r1.toNatClampNeg), .int (0 : Int32)]) (st := []) dc_Bi_timesFive_18 (Eq.refl 21) lk_Bi_38 mi_Bi_multiply hk_o0 (Nat.le_of_ble_eq_true rfl) rfl rfl (Nat.le_of_ble_eq_true rfl) rfl (Nat.le_of_ble_eq_true rfl) (CV.mono h (fun σ2 h => ?_))
    refine J_iinc (v := x2 + (-13 : Int32)) (L' := [(2, .int (x2 + (-13 : Int32))), (0, pv E o0)]) dc_Bi_timesFive_21 (Eq.refl 24) 1 rfl rfl (Nat.le_of_ble_eq_true rfl) rfl ?_
    refine J_goto dc_Bi_timesFive_24 rfl ?_
    refine J_sub [1, 0] rfl ?_
    exact h
theorem dc_Bi_bitLength_0 : decode m_Bi_bitLength.2.1 0 = .ok (.aload_n 0, 1) := by decide +kernel
theorem dc_Bi_bitLength_1 : decode m_Bi_bitLength.2.1 1 = .ok (.getfield 13, 3) := by decide +kernel
theorem dc_Bi_bitLength_4 : decode m_Bi_bitLength.2.1 4 = .ok (.ifCond .ne 7, 3) := by decide +kernel
theorem dc_Bi_bitLength_7 : decode m_Bi_bitLength.2.1 7 = .ok (.iconst 0, 1) := by decide +kernel
theorem dc_Bi_bitLength_8 : decode m_Bi_bitLength.2.1 8 = .ok (.goto 25, 3) := by decide +kernel
theorem dc_Bi_bitLength_11 : decode m_Bi_bitLength.2.1 11 = .ok (.bipush 32, 2) := by decide +kernel
theorem dc_Bi_bitLength_13 : decode m_Bi_bitLength.2.1 13 = .ok (.aload_n 0, 1) := by decide +kernel
theorem dc_Bi_bitLength_14 : decode m_Bi_bitLength.2.1 14 = .ok (.getfield 13, 3) := by decide +kernel
theorem dc_Bi_bitLength_17 : decode m_Bi_bitLength.2.1 17 = .ok (.imul, 1) := by decide +kernel
theorem dc_Bi_bitLength_18 : decode m_Bi_bitLength.2.1 18 = .ok (.aload_n 0, 1) := by decide +kernel
theorem dc_Bi_bitLength_19 : decode m_Bi_bitLength.2.1 19 = .ok (.getfield 9, 3) := by decide +kernel
theorem dc_Bi_bitLength_22 : decode m_Bi_bitLength.2.1 22 = .ok (.aload_n 0, 1) := by decide +kernel
theorem dc_Bi_bitLength_23 : decode m_Bi_bitLength.2.1 23 = .ok (.getfield 13, 3) := by decide +kernel
theorem dc_Bi_bitLength_26 : decode m_Bi_bitLength.2.1 26 = .ok (.iconst 1, 1) := by decide +kernel
theorem dc_Bi_bitLength_27 : decode m_Bi_bitLength.2.1 27 = .ok (.isub, 1) := by decide +kernel
theorem dc_Bi_bitLength_28 : decode m_Bi_bitLength.2.1 28 = .ok (.iaload, 1) := by decide +kernel
theorem dc_Bi_bitLength_29 : decode m_Bi_bitLength.2.1 29 = .ok (.invokestatic 21, 3) := by decide +kernel
theorem dc_Bi_bitLength_32 : decode m_Bi_bitLength.2.1 32 = .ok (.isub, 1) := by decide +kernel
theorem dc_Bi_bitLength_33 : decode m_Bi_bitLength.2.1 33 = .ok (.ireturn, 1) := by decide +kernel
theorem b_Bi_bitLength_0 {E : En_t} {d : Nat} {σ : S_t} {Q : Option Value → S_t → Prop} {o0 : Nat} (hk_o0 : kindP o0 = 5)
    (h : (¬ (gI σ o0 1) = 0 → vp_in ((gI σ o0 1) - (1 : Int32)) 96 ∧ (CI E d m_JIn_numberOfLeadingZeros [.int (gI σ (o0 + 1) ((gI σ o0 1) - (1 : Int32)).toNatClampNeg)] σ (fun r2 σ1 => Q (some (.int (((32 : Int32) * (gI σ o0 1)) - r2))) σ1))) ∧ ((gI σ o0 1) = 0 → Q (some (.int (0 : Int32))) σ)) :
    JE E (d + 1) m_Bi_bitLength 0 [(0, pv E o0)] [] σ Q := by
  refine J_aload_n dc_Bi_bitLength_0 (Eq.refl 1) 0 rfl ?_
  refine J_getI dc_Bi_bitLength_1 (Eq.refl 4) fl_Bi_13 (Nat.le_of_ble_eq_true rfl) hk_o0 (Or.inl rfl) ?_
  refine J_if_ne dc_Bi_bitLength_4 (Eq.refl 7) rfl (fun hc => ?_) (fun hc => ?_)
  · have h := h.1 hc
    refine J_bipush (v := (32 : Int32)) dc_Bi_bitLength_11 (Eq.refl 13) rfl ?_
    refine J_aload_n dc_Bi_bitLength_13 (Eq.refl 14) 0 rfl ?_
    refine J_getI dc_Bi_bitLength_14 (Eq.refl 17) fl_Bi_13 (Nat.le_of_ble_eq_true rfl) hk_o0 (Or.inl rfl) ?_
    refine J_imul dc_Bi_bitLength_17 (Eq.refl 18) ?_
    refine J_aload_n dc_Bi_bitLength_18 (Eq.refl 19) 0 rfl ?_
    refine J_getF (y := o0 + 1) dc_Bi_bitLength_19 (Eq.refl 22) fl_Bi_9 (Nat.le_of_ble_eq_true rfl) hk_o0 (Or.inl rfl) rfl ?_
    refine J_aload_n dc_Bi_bitLength_22 (Eq.refl 23) 0 rfl ?_
    refine J_getI dc_Bi_bitLength_23 (Eq.refl 26) fl_Bi_13 (Nat.le_of_ble_eq_true rfl) hk_o0 (Or.inl rfl) ?_
    refine J_iconst (v := (1 : Int32)) dc_Bi_bitLength_26 (Eq.refl 27) rfl ?_
    refine J_isub dc_Bi_bitLength_27 (Eq.refl 28) ?_
    obtain ⟨hg, h⟩ := h
    refine J_iald dc_Bi_bitLength_28 (Eq.refl 29) (ak_Bi_0 hk_o0).1 (ak_Bi_0 hk_o0).2 hg ?_
    refine J_callSI (As := [.int (gI σ (o0 + 1) ((gI σ o0 1) - (1 : Int32)).toNatClampNeg)]) (st := [.int ((32 : Int32) * (gI σ o0 1))]) dc_Bi_bitLength_29 (Eq.refl 32) lk_Bi_21 mi_JIn_numberOfLeadingZeros (Nat.le_of_ble_eq_true rfl) rfl (Nat.le_of_ble_eq_true rfl) (CI.mono h (fun r2 σ1 h => ?_))
    refine J_isub dc_Bi_bitLength_32 (Eq.refl 33) ?_
    exact J_iret dc_Bi_bitLength_33 rfl h
  · have h := h.2 hc
    refine J_iconst (v := (0 : Int32)) dc_Bi_bitLength_7 (Eq.refl 8) rfl ?_
    refine J_goto dc_Bi_bitLength_8 rfl ?_
    exact J_iret dc_Bi_bitLength_33 rfl h
theorem dc_Bi_shiftLeft_0 : decode m_Bi_shiftLeft.2.1 0 = .ok (.iload_n 1, 1) := by decide +kernel
theorem dc_Bi_shiftLeft_1 : decode m_Bi_shiftLeft.2.1 1 = .ok (.iconst 5, 1) := by decide +kernel
theorem dc_Bi_shiftLeft_2 : decode m_Bi_shiftLeft.2.1 2 = .ok (.ishr, 1) := by decide +kernel
theorem dc_Bi_shiftLeft_3 : decode m_Bi_shiftLeft.2.1 3 = .ok (.istore_n 2, 1) := by decide +kernel
theorem dc_Bi_shiftLeft_4 : decode m_Bi_shiftLeft.2.1 4 = .ok (.iload_n 1, 1) := by decide +kernel
theorem dc_Bi_shiftLeft_5 : decode m_Bi_shiftLeft.2.1 5 = .ok (.bipush 31, 2) := by decide +kernel
theorem dc_Bi_shiftLeft_7 : decode m_Bi_shiftLeft.2.1 7 = .ok (.iand, 1) := by decide +kernel
theorem dc_Bi_shiftLeft_8 : decode m_Bi_shiftLeft.2.1 8 = .ok (.istore_n 3, 1) := by decide +kernel
theorem dc_Bi_shiftLeft_9 : decode m_Bi_shiftLeft.2.1 9 = .ok (.aload_n 0, 1) := by decide +kernel
theorem dc_Bi_shiftLeft_10 : decode m_Bi_shiftLeft.2.1 10 = .ok (.getfield 13, 3) := by decide +kernel
theorem dc_Bi_shiftLeft_13 : decode m_Bi_shiftLeft.2.1 13 = .ok (.iload_n 2, 1) := by decide +kernel
theorem dc_Bi_shiftLeft_14 : decode m_Bi_shiftLeft.2.1 14 = .ok (.iadd, 1) := by decide +kernel
theorem dc_Bi_shiftLeft_15 : decode m_Bi_shiftLeft.2.1 15 = .ok (.iconst 1, 1) := by decide +kernel
theorem dc_Bi_shiftLeft_16 : decode m_Bi_shiftLeft.2.1 16 = .ok (.iadd, 1) := by decide +kernel
theorem dc_Bi_shiftLeft_17 : decode m_Bi_shiftLeft.2.1 17 = .ok (.istore 4, 2) := by decide +kernel
theorem dc_Bi_shiftLeft_19 : decode m_Bi_shiftLeft.2.1 19 = .ok (.aload_n 0, 1) := by decide +kernel
theorem dc_Bi_shiftLeft_20 : decode m_Bi_shiftLeft.2.1 20 = .ok (.getfield 13, 3) := by decide +kernel
theorem dc_Bi_shiftLeft_23 : decode m_Bi_shiftLeft.2.1 23 = .ok (.ifCond .eq 14, 3) := by decide +kernel
theorem dc_Bi_shiftLeft_26 : decode m_Bi_shiftLeft.2.1 26 = .ok (.iload_n 1, 1) := by decide +kernel
theorem dc_Bi_shiftLeft_27 : decode m_Bi_shiftLeft.2.1 27 = .ok (.ifCond .le 10, 3) := by decide +kernel
theorem dc_Bi_shiftLeft_30 : decode m_Bi_shiftLeft.2.1 30 = .ok (.iload 4, 2) := by decide +kernel
theorem dc_Bi_shiftLeft_32 : decode m_Bi_shiftLeft.2.1 32 = .ok (.bipush 96, 2) := by decide +kernel
theorem dc_Bi_shiftLeft_34 : decode m_Bi_shiftLeft.2.1 34 = .ok (.if_icmp .le 4, 3) := by decide +kernel
theorem dc_Bi_shiftLeft_37 : decode m_Bi_shiftLeft.2.1 37 = .ok (.return_, 1) := by decide +kernel
theorem dc_Bi_shiftLeft_38 : decode m_Bi_shiftLeft.2.1 38 = .ok (.aload_n 0, 1) := by decide +kernel
theorem dc_Bi_shiftLeft_39 : decode m_Bi_shiftLeft.2.1 39 = .ok (.getfield 9, 3) := by decide +kernel
theorem dc_Bi_shiftLeft_42 : decode m_Bi_shiftLeft.2.1 42 = .ok (.aload_n 0, 1) := by decide +kernel
theorem dc_Bi_shiftLeft_43 : decode m_Bi_shiftLeft.2.1 43 = .ok (.getfield 13, 3) := by decide +kernel
theorem dc_Bi_shiftLeft_46 : decode m_Bi_shiftLeft.2.1 46 = .ok (.iconst 0, 1) := by decide +kernel
theorem dc_Bi_shiftLeft_47 : decode m_Bi_shiftLeft.2.1 47 = .ok (.iastore, 1) := by decide +kernel
theorem dc_Bi_shiftLeft_48 : decode m_Bi_shiftLeft.2.1 48 = .ok (.iload 4, 2) := by decide +kernel
theorem dc_Bi_shiftLeft_50 : decode m_Bi_shiftLeft.2.1 50 = .ok (.iconst 1, 1) := by decide +kernel
theorem dc_Bi_shiftLeft_51 : decode m_Bi_shiftLeft.2.1 51 = .ok (.isub, 1) := by decide +kernel
theorem dc_Bi_shiftLeft_52 : decode m_Bi_shiftLeft.2.1 52 = .ok (.istore 5, 2) := by decide +kernel
theorem dc_Bi_shiftLeft_54 : decode m_Bi_shiftLeft.2.1 54 = .ok (.iload 5, 2) := by decide +kernel
theorem dc_Bi_shiftLeft_56 : decode m_Bi_shiftLeft.2.1 56 = .ok (.iload_n 2, 1) := by decide +kernel
theorem dc_Bi_shiftLeft_57 : decode m_Bi_shiftLeft.2.1 57 = .ok (.if_icmp .lt 75, 3) := by decide +kernel
theorem dc_Bi_shiftLeft_60 : decode m_Bi_shiftLeft.2.1 60 = .ok (.aload_n 0, 1) := by decide +kernel
theorem dc_Bi_shiftLeft_61 : decode m_Bi_shiftLeft.2.1 61 = .ok (.getfield 9, 3) := by decide +kernel
theorem dc_Bi_shiftLeft_64 : decode m_Bi_shiftLeft.2.1 64 = .ok (.iload 5, 2) := by decide +kernel
theorem dc_Bi_shiftLeft_66 : decode m_Bi_shiftLeft.2.1 66 = .ok (.iload_n 2, 1) := by decide +kernel
theorem dc_Bi_shiftLeft_67 : decode m_Bi_shiftLeft.2.1 67 = .ok (.isub, 1) := by decide +kernel
theorem dc_Bi_shiftLeft_68 : decode m_Bi_shiftLeft.2.1 68 = .ok (.iaload, 1) := by decide +kernel
theorem dc_Bi_shiftLeft_69 : decode m_Bi_shiftLeft.2.1 69 = .ok (.iload_n 3, 1) := by decide +kernel
theorem dc_Bi_shiftLeft_70 : decode m_Bi_shiftLeft.2.1 70 = .ok (.ishl, 1) := by decide +kernel
theorem dc_Bi_shiftLeft_71 : decode m_Bi_shiftLeft.2.1 71 = .ok (.istore 6, 2) := by decide +kernel
theorem dc_Bi_shiftLeft_73 : decode m_Bi_shiftLeft.2.1 73 = .ok (.iload_n 3, 1) := by decide +kernel
theorem dc_Bi_shiftLeft_74 : decode m_Bi_shiftLeft.2.1 74 = .ok (.ifCond .le 13, 3) := by decide +kernel
theorem dc_Bi_shiftLeft_77 : decode m_Bi_shiftLeft.2.1 77 = .ok (.iload 5, 2) := by decide +kernel
theorem dc_Bi_shiftLeft_79 : decode m_Bi_shiftLeft.2.1 79 = .ok (.iload_n 2, 1) := by decide +kernel
theorem dc_Bi_shiftLeft_80 : decode m_Bi_shiftLeft.2.1 80 = .ok (.if_icmp .le 7, 3) := by decide +kernel
theorem dc_Bi_shiftLeft_83 : decode m_Bi_shiftLeft.2.1 83 = .ok (.iconst 1, 1) := by decide +kernel
theorem dc_Bi_shiftLeft_84 : decode m_Bi_shiftLeft.2.1 84 = .ok (.goto 4, 3) := by decide +kernel
theorem dc_Bi_shiftLeft_87 : decode m_Bi_shiftLeft.2.1 87 = .ok (.iconst 0, 1) := by decide +kernel
theorem dc_Bi_shiftLeft_88 : decode m_Bi_shiftLeft.2.1 88 = .ok (.istore 7, 2) := by decide +kernel
theorem dc_Bi_shiftLeft_90 : decode m_Bi_shiftLeft.2.1 90 = .ok (.aload_n 0, 1) := by decide +kernel
theorem dc_Bi_shiftLeft_91 : decode m_Bi_shiftLeft.2.1 91 = .ok (.getfield 9, 3) := by decide +kernel
theorem dc_Bi_shiftLeft_94 : decode m_Bi_shiftLeft.2.1 94 = .ok (.iload 5, 2) := by decide +kernel
theorem dc_Bi_shiftLeft_96 : decode m_Bi_shiftLeft.2.1 96 = .ok (.iload 7, 2) := by decide +kernel
theorem dc_Bi_shiftLeft_98 : decode m_Bi_shiftLeft.2.1 98 = .ok (.ifCond .eq 25, 3) := by decide +kernel
theorem dc_Bi_shiftLeft_101 : decode m_Bi_shiftLeft.2.1 101 = .ok (.iload 6, 2) := by decide +kernel
theorem dc_Bi_shiftLeft_103 : decode m_Bi_shiftLeft.2.1 103 = .ok (.aload_n 0, 1) := by decide +kernel
theorem dc_Bi_shiftLeft_104 : decode m_Bi_shiftLeft.2.1 104 = .ok (.getfield 9, 3) := by decide +kernel
theorem dc_Bi_shiftLeft_107 : decode m_Bi_shiftLeft.2.1 107 = .ok (.iload 5, 2) := by decide +kernel
theorem dc_Bi_shiftLeft_109 : decode m_Bi_shiftLeft.2.1 109 = .ok (.iload_n 2, 1) := by decide +kernel
theorem dc_Bi_shiftLeft_110 : decode m_Bi_shiftLeft.2.1 110 = .ok (.isub, 1) := by decide +kernel
theorem dc_Bi_shiftLeft_111 : decode m_Bi_shiftLeft.2.1 111 = .ok (.iconst 1, 1) := by decide +kernel
theorem dc_Bi_shiftLeft_112 : decode m_Bi_shiftLeft.2.1 112 = .ok (.isub, 1) := by decide +kernel
theorem dc_Bi_shiftLeft_113 : decode m_Bi_shiftLeft.2.1 113 = .ok (.iaload, 1) := by decide +kernel
theorem dc_Bi_shiftLeft_114 : decode m_Bi_shiftLeft.2.1 114 = .ok (.bipush 32, 2) := by decide +kernel
theorem dc_Bi_shiftLeft_116 : decode m_Bi_shiftLeft.2.1 116 = .ok (.iload_n 3, 1) := by decide +kernel
theorem dc_Bi_shiftLeft_117 : decode m_Bi_shiftLeft.2.1 117 = .ok (.isub, 1) := by decide +kernel
theorem dc_Bi_shiftLeft_118 : decode m_Bi_shiftLeft.2.1 118 = .ok (.iushr, 1) := by decide +kernel
theorem dc_Bi_shiftLeft_119 : decode m_Bi_shiftLeft.2.1 119 = .ok (.ior, 1) := by decide +kernel
theorem dc_Bi_shiftLeft_120 : decode m_Bi_shiftLeft.2.1 120 = .ok (.goto 5, 3) := by decide +kernel
theorem dc_Bi_shiftLeft_123 : decode m_Bi_shiftLeft.2.1 123 = .ok (.iload 6, 2) := by decide +kernel
theorem dc_Bi_shiftLeft_125 : decode m_Bi_shiftLeft.2.1 125 = .ok (.iastore, 1) := by decide +kernel
theorem dc_Bi_shiftLeft_126 : decode m_Bi_shiftLeft.2.1 126 = .ok (.iinc 5 (-1), 3) := by decide +kernel
theorem dc_Bi_shiftLeft_129 : decode m_Bi_shiftLeft.2.1 129 = .ok (.goto (-75), 3) := by decide +kernel
theorem dc_Bi_shiftLeft_132 : decode m_Bi_shiftLeft.2.1 132 = .ok (.iconst 0, 1) := by decide +kernel
theorem dc_Bi_shiftLeft_133 : decode m_Bi_shiftLeft.2.1 133 = .ok (.istore 5, 2) := by decide +kernel
theorem dc_Bi_shiftLeft_135 : decode m_Bi_shiftLeft.2.1 135 = .ok (.iload 5, 2) := by decide +kernel
theorem dc_Bi_shiftLeft_137 : decode m_Bi_shiftLeft.2.1 137 = .ok (.iload_n 2, 1) := by decide +kernel
theorem dc_Bi_shiftLeft_138 : decode m_Bi_shiftLeft.2.1 138 = .ok (.if_icmp .ge 17, 3) := by decide +kernel
theorem dc_Bi_shiftLeft_141 : decode m_Bi_shiftLeft.2.1 141 = .ok (.aload_n 0, 1) := by decide +kernel
theorem dc_Bi_shiftLeft_142 : decode m_Bi_shiftLeft.2.1 142 = .ok (.getfield 9, 3) := by decide +kernel
theorem dc_Bi_shiftLeft_145 : decode m_Bi_shiftLeft.2.1 145 = .ok (.iload 5, 2) := by decide +kernel
theorem dc_Bi_shiftLeft_147 : decode m_Bi_shiftLeft.2.1 147 = .ok (.iconst 0, 1) := by decide +kernel
theorem dc_Bi_shiftLeft_148 : decode m_Bi_shiftLeft.2.1 148 = .ok (.iastore, 1) := by decide +kernel
theorem dc_Bi_shiftLeft_149 : decode m_Bi_shiftLeft.2.1 149 = .ok (.iinc 5 1, 3) := by decide +kernel
theorem dc_Bi_shiftLeft_152 : decode m_Bi_shiftLeft.2.1 152 = .ok (.goto (-17), 3) := by decide +kernel
theorem dc_Bi_shiftLeft_155 : decode m_Bi_shiftLeft.2.1 155 = .ok (.aload_n 0, 1) := by decide +kernel
theorem dc_Bi_shiftLeft_156 : decode m_Bi_shiftLeft.2.1 156 = .ok (.iload 4, 2) := by decide +kernel
theorem dc_Bi_shiftLeft_158 : decode m_Bi_shiftLeft.2.1 158 = .ok (.putfield 13, 3) := by decide +kernel
theorem dc_Bi_shiftLeft_161 : decode m_Bi_shiftLeft.2.1 161 = .ok (.aload_n 0, 1) := by decide +kernel
theorem dc_Bi_shiftLeft_162 : decode m_Bi_shiftLeft.2.1 162 = .ok (.invokevirtual 45, 3) := by decide +kernel
theorem dc_Bi_shiftLeft_165 : decode m_Bi_shiftLeft.2.1 165 = .ok (.return_, 1) := by decide +kernel
theorem b_Bi_shiftLeft_0 {E : En_t} {d : Nat} {σ : S_t} {Q : Option Value → S_t → Prop} {o0 : Nat} {x1 : Int32} (hk_o0 : kindP o0 = 5)
    (h : ((gI σ o0 1) = 0 → Q none σ) ∧ (¬ (gI σ o0 1) = 0 → (x1 ≤ 0 → Q none σ) ∧ (¬ x1 ≤ 0 → ((((gI σ o0 1) + (x1 >>> ((5 : Int32) &&& 31))) + (1 : Int32)) ≤ (96 : Int32) → vp_in (gI σ o0 1) 96 ∧ (JE E (d + 1) m_Bi_shiftLeft 54 [(0, pv E o0), (2, .int (x1 >>> ((5 : Int32) &&& 31))), (3, .int (x1 &&& (31 : Int32))), (4, .int (((gI σ o0 1) + (x1 >>> ((5 : Int32) &&& 31))) + (1 : Int32))), (5, .int ((((gI σ o0 1) + (x1 >>> ((5 : Int32) &&& 31))) + (1 : Int32)) - (1 : Int32)))] [] (sI σ (o0 + 1) (gI σ o0 1).toNatClampNeg (0 : Int32)) Q)) ∧ (¬ (((gI σ o0 1) + (x1 >>> ((5 : Int32) &&& 31))) + (1 : Int32)) ≤ (96 : Int32) → Q none σ)))) :
    JE E (d + 1) m_Bi_shiftLeft 0 [(0, pv E o0), (1, .int x1)] [] σ Q := by
  refine J_iload_n dc_Bi_shiftLeft_0 (Eq.refl 1) 1 rfl ?_
  refine J_iconst (v := (5 : Int32)) dc_Bi_shiftLeft_1 (Eq.refl 2) rfl ?_
  refine J_ishr dc_Bi_shiftLeft_2 (Eq.refl 3) ?_
  refine J_istore_n (L' := [(2, .int (x1 >>> ((5 : Int32) &&& 31))), (0, pv E o0), (1, .int x1)]) dc_Bi_shiftLeft_3 (Eq.refl 4) (Nat.le_of_ble_eq_true rfl) rfl ?_
  refine J_iload_n dc_Bi_shiftLeft_4 (Eq.refl 5) 2 rfl ?_
  refine J_bipush (v := (31 : Int32)) dc_Bi_shiftLeft_5 (Eq.refl 7) rfl ?_
  refine J_iand dc_Bi_shiftLeft_7 (Eq.refl 8) ?_
  refine J_istore_n (L' := [(3, .int (x1 &&& (31 : Int32))), (2, .int (x1 >>> ((5 : Int32) &&& 31))), (0, pv E o0), (1, .int x1)]) dc_Bi_shiftLeft_8 (Eq.refl 9) (Nat.le_of_ble_eq_true rfl) rfl ?_
  refine J_aload_n dc_Bi_shiftLeft_9 (Eq.refl 10) 2 rfl ?_
  refine J_getI dc_Bi_shiftLeft_10 (Eq.refl 13) fl_Bi_13 (Nat.le_of_ble_eq_true rfl) hk_o0 (Or.inl rfl) ?_
  refine J_iload_n dc_Bi_shiftLeft_13 (Eq.refl 14) 1 rfl ?_
  refine J_iadd dc_Bi_shiftLeft_14 (Eq.refl 15) ?_
  refine J_iconst (v := (1 : Int32)) dc_Bi_shiftLeft_15 (Eq.refl 16) rfl ?_
  refine J_iadd dc_Bi_shiftLeft_16 (Eq.refl 17) ?_
  refine J_istore (L' := [(4, .int (((gI σ o0 1) + (x1 >>> ((5 : Int32) &&& 31))) + (1 : Int32))), (3, .int (x1 &&& (31 : Int32))), (2, .int (x1 >>> ((5 : Int32) &&& 31))), (0, pv E o0), (1, .int x1)]) dc_Bi_shiftLeft_17 (Eq.refl 19) (Nat.le_of_ble_eq_true rfl) rfl ?_
  refine J_aload_n dc_Bi_shiftLeft_19 (Eq.refl 20) 3 rfl ?_
  refine J_getI dc_Bi_shiftLeft_20 (Eq.refl 23) fl_Bi_13 (Nat.le_of_ble_eq_true rfl) hk_o0 (Or.inl rfl) ?_
  refine J_if_eq dc_Bi_shiftLeft_23 (Eq.refl 26) rfl (fun hc => ?_) (fun hc => ?_)
  · have h := h.1 hc
    exact J_vret dc_Bi_shiftLeft_37 rfl h
  · have h := h.2 hc
    refine J_iload_n dc_Bi_shiftLeft_26 (Eq.refl 27) 4 rfl ?_
    refine J_if_le dc_Bi_shiftLeft_27 (Eq.refl 30) rfl (fun hc => ?_) (fun hc => ?_)
    · have h := h.1 hc
      exact J_vret dc_Bi_shiftLeft_37 rfl h
    · have h := h.2 hc
      refine J_iload dc_Bi_shiftLeft_30 (Eq.refl 32) 0 rfl ?_
      refine J_bipush (v := (96 : Int32)) dc_Bi_shiftLeft_32 (Eq.refl 34) rfl ?_
      refine J_icmp_le dc_Bi_shiftLeft_34 (Eq.refl 37) rfl (fun hc => ?_) (fun hc => ?_)
      · have h := h.1 hc
        refine J_aload_n dc_Bi_shiftLeft_38 (Eq.refl 39) 3 rfl ?_
        refine J_getF (y := o0 + 1) dc_Bi_shiftLeft_39 (Eq.refl 42) fl_Bi_9 (Nat.le_of_ble_eq_true rfl) hk_o0 (Or.inl rfl) rfl ?_
        refine J_aload_n dc_Bi_shiftLeft_42 (Eq.refl 43) 3 rfl ?_
        refine J_getI dc_Bi_shiftLeft_43 (Eq.refl 46) fl_Bi_13 (Nat.le_of_ble_eq_true rfl) hk_o0 (Or.inl rfl) ?_
        refine J_iconst (v := (0 : Int32)) dc_Bi_shiftLeft_46 (Eq.refl 47) rfl ?_
        obtain ⟨hg, h⟩ := h
        refine J_iast dc_Bi_shiftLeft_47 (Eq.refl 48) (ak_Bi_0 hk_o0).1 (ak_Bi_0 hk_o0).2 hg ?_
        refine J_iload dc_Bi_shiftLeft_48 (Eq.refl 50) 0 rfl ?_
        refine J_iconst (v := (1 : Int32)) dc_Bi_shiftLeft_50 (Eq.refl 51) rfl ?_
        refine J_isub dc_Bi_shiftLeft_51 (Eq.refl 52) ?_
        refine J_istore (L' := [(5, .int ((((gI σ o0 1) + (x1 >>> ((5 : Int32) &&& 31))) + (1 : Int32)) - (1 : Int32))), (4, .int (((gI σ o0 1) + (x1 >>> ((5 : Int32) &&& 31))) + (1 : Int32))), (3, .int (x1 &&& (31 : Int32))), (2, .int (x1 >>> ((5 : Int32) &&& 31))), (0, pv E o0), (1, .int x1)]) dc_Bi_shiftLeft_52 (Eq.refl 54) (Nat.le_of_ble_eq_true rfl) rfl ?_
        refine J_sub [4, 3, 2, 1, 0] rfl ?_
        exact h
      · have h := h.2 hc
        exact J_vret dc_Bi_shiftLeft_37 rfl h
theorem b_Bi_shiftLeft_54 {E : En_t} {d : Nat} {σ : S_t} {Q : Option Value → S_t → Prop} {o0 : Nat} {x2 : Int32} {x3 : Int32} {x4 : Int32} {x5 : Int32} (hk_o0 : kindP o0 = 5)
    (h : (x5 < x2 → JE E (d + 1) m_Bi_shiftLeft 135 [(0, pv E o0), (2, .int x2), (4, .int x4), (5, .int (0 : Int32))] [] σ Q) ∧ (¬ x5 < x2 → vp_in (x5 - x2) 96 ∧ ((x3 ≤ 0 → JE E (d + 1) m_Bi_shiftLeft 87 [(0, pv E o0), (2, .int x2), (3, .int x3), (4, .int x4), (5, .int x5), (6, .int ((gI σ (o0 + 1) (x5 - x2).toNatClampNeg) <<< (x3 &&& 31)))] [] σ Q) ∧ (¬ x3 ≤ 0 → (x5 ≤ x2 → JE E (d + 1) m_Bi_shiftLeft 87 [(0, pv E o0), (2, .int x2), (3, .int x3), (4, .int x4), (5, .int x5), (6, .int ((gI σ (o0 + 1) (x5 - x2).toNatClampNeg) <<< (x3 &&& 31)))] [] σ Q) ∧ (¬ x5 ≤ x2 → JE E (d + 1) m_Bi_shiftLeft 88 [(0, pv E o0), (2, .int x2), (3, .int x3), (4, .int x4), (5, .int x5), (6, .int ((gI σ (o0 + 1) (x5 - x2).toNatClampNeg) <<< (x3 &&& 31)))] [.int (1 : Int32)] σ Q))))) :
    JE E (d + 1) m_Bi_shiftLeft 54 [(0, pv E o0), (2, .int x2), (3, .int x3), (4, .int x4), (5, .int x5)] [] σ Q := by
  refine J_iload dc_Bi_shiftLeft_54 (Eq.refl 56) 4 rfl ?_
  refine J_iload_n dc_Bi_shiftLeft_56 (Eq.refl 57) 1 rfl ?_
  refine J_icmp_lt dc_Bi_shiftLeft_57 (Eq.refl 60) rfl (fun hc => ?_) (fun hc => ?_)
  · have h := h.1 hc
    refine J_iconst (v := (0 : Int32)) dc_Bi_shiftLeft_132 (Eq.refl 133) rfl ?_
    refine J_istore (L' := [(5, .int (0 : Int32)), (0, pv E o0), (2, .int x2), (3, .int x3), (4, .int x4)]) dc_Bi_shiftLeft_133 (Eq.refl 135) (Nat.le_of_ble_eq_true rfl) rfl ?_
    refine J_sub [1, 2, 4, 0] rfl ?_
    exact h
  · have h := h.2 hc
    refine J_aload_n dc_Bi_shiftLeft_60 (Eq.refl 61) 0 rfl ?_
    refine J_getF (y := o0 + 1) dc_Bi_shiftLeft_61 (Eq.refl 64) fl_Bi_9 (Nat.le_of_ble_eq_true rfl) hk_o0 (Or.inl rfl) rfl ?_
    refine J_iload dc_Bi_shiftLeft_64 (Eq.refl 66) 4 rfl ?_
    refine J_iload_n dc_Bi_shiftLeft_66 (Eq.refl 67) 1 rfl ?_
    refine J_isub dc_Bi_shiftLeft_67 (Eq.refl 68) ?_
    obtain ⟨hg, h⟩ := h
    refine J_iald dc_Bi_shiftLeft_68 (Eq.refl 69) (ak_Bi_0 hk_o0).1 (ak_Bi_0 hk_o0).2 hg ?_
    refine J_iload_n dc_Bi_shiftLeft_69 (Eq.refl 70) 2 rfl ?_
    refine J_ishl dc_Bi_shiftLeft_70 (Eq.refl 71) ?_
    refine J_istore (L' := [(6, .int ((gI σ (o0 + 1) (x5 - x2).toNatClampNeg) <<< (x3 &&& 31))), (0, pv E o0), (2, .int x2), (3, .int x3), (4, .int x4), (5, .int x5)]) dc_Bi_shiftLeft_71 (Eq.refl 73) (Nat.le_of_ble_eq_true rfl) rfl ?_
    refine J_iload_n dc_Bi_shiftLeft_73 (Eq.refl 74) 3 rfl ?_
    refine J_if_le dc_Bi_shiftLeft_74 (Eq.refl 77) rfl (fun hc => ?_) (fun hc => ?_)
    · have h := h.1 hc
      refine J_sub [1, 2, 3, 4, 5, 0] rfl ?_
      exact h
    · have h := h.2 hc
      refine J_iload dc_Bi_shiftLeft_77 (Eq.refl 79) 5 rfl ?_
      refine J_iload_n dc_Bi_shiftLeft_79 (Eq.refl 80) 2 rfl ?_
      refine J_icmp_le dc_Bi_shiftLeft_80 (Eq.refl 83) rfl (fun hc => ?_) (fun hc => ?_)
      · have h := h.1 hc
        refine J_sub [1, 2, 3, 4, 5, 0] rfl ?_
        exact h
      · have h := h.2 hc
        refine J_iconst (v := (1 : Int32)) dc_Bi_shiftLeft_83 (Eq.refl 84) rfl ?_
        refine J_goto dc_Bi_shiftLeft_84 rfl ?_
        refine J_sub [1, 2, 3, 4, 5, 0] rfl ?_
        exact h
theorem b_Bi_shiftLeft_87 {E : En_t} {d : Nat} {σ : S_t} {Q : Option Value → S_t → Prop} {o0 : Nat} {x2 : Int32} {x3 : Int32} {x4 : Int32} {x5 : Int32} {x6 : Int32} (hk_o0 : kindP o0 = 5)
    (h : JE E (d + 1) m_Bi_shiftLeft 88 [(0, pv E o0), (2, .int x2), (3, .int x3), (4, .int x4), (5, .int x5), (6, .int x6)] [.int (0 : Int32)] σ Q) :
    JE E (d + 1) m_Bi_shiftLeft 87 [(0, pv E o0), (2, .int x2), (3, .int x3), (4, .int x4), (5, .int x5), (6, .int x6)] [] σ Q := by
  refine J_iconst (v := (0 : Int32)) dc_Bi_shiftLeft_87 (Eq.refl 88) rfl ?_
  exact h
theorem b_Bi_shiftLeft_88 {E : En_t} {d : Nat} {σ : S_t} {Q : Option Value → S_t → Prop} {o0 : Nat} {x2 : Int32} {x3 : Int32} {x4 : Int32} {x5 : Int32} {x6 : Int32} {s0 : Int32} (hk_o0 : kindP o0 = 5)
    (h : (s0 = 0 → JE E (d + 1) m_Bi_shiftLeft 125 [(0, pv E o0), (2, .int x2), (3, .int x3), (4, .int x4), (5, .int x5)] [.int x6, .int x5, pv E (o0 + 1)] σ Q) ∧ (¬ s0 = 0 → vp_in ((x5 - x2) - (1 : Int32)) 96 ∧ (∀ v1, v1 = ((gI σ (o0 + 1) ((x5 - x2) - (1 : Int32)).toNatClampNeg).toUInt32 >>> (((32 : Int32) - x3).toUInt32 &&& Int32.toUInt32 31)).toInt32 → (JE E (d + 1) m_Bi_shiftLeft 125 [(0, pv E o0), (2, .int x2), (3, .int x3), (4, .int x4), (5, .int x5)] [.int (x6 ||| v1), .int x5, pv E (o0 + 1)] σ Q)))) :
    JE E (d + 1) m_Bi_shiftLeft 88 [(0, pv E o0), (2, .int x2), (3, .int x3), (4, .int x4), (5, .int x5), (6, .int x6)] [.int s0] σ Q := by
  refine J_istore (L' := [(7, .int s0), (0, pv E o0), (2, .int x2), (3, .int x3), (4, .int x4), (5, .int x5), (6, .int x6)]) dc_Bi_shiftLeft_88 (Eq.refl 90) (Nat.le_of_ble_eq_true rfl) rfl ?_
  refine J_aload_n dc_Bi_shiftLeft_90 (Eq.refl 91) 1 rfl ?_
  refine J_getF (y := o0 + 1) dc_Bi_shiftLeft_91 (Eq.refl 94) fl_Bi_9 (Nat.le_of_ble_eq_true rfl) hk_o0 (Or.inl rfl) rfl ?_
  refine J_iload dc_Bi_shiftLeft_94 (Eq.refl 96) 5 rfl ?_
  refine J_iload dc_Bi_shiftLeft_96 (Eq.refl 98) 0 rfl ?_
  refine J_if_eq dc_Bi_shiftLeft_98 (Eq.refl 101) rfl (fun hc => ?_) (fun hc => ?_)
  · have h := h.1 hc
    refine J_iload dc_Bi_shiftLeft_123 (Eq.refl 125) 6 rfl ?_
    refine J_sub [1, 2, 3, 4, 5] rfl ?_
    exact h
  · have h := h.2 hc
    refine J_iload dc_Bi_shiftLeft_101 (Eq.refl 103) 6 rfl ?_
    refine J_aload_n dc_Bi_shiftLeft_103 (Eq.refl 104) 1 rfl ?_
    refine J_getF (y := o0 + 1) dc_Bi_shiftLeft_104 (Eq.refl 107) fl_Bi_9 (Nat.le_of_ble_eq_true rfl) hk_o0 (Or.inl rfl) rfl ?_
    refine J_iload dc_Bi_shiftLeft_107 (Eq.refl 109) 5 rfl ?_
    refine J_iload_n dc_Bi_shiftLeft_109 (Eq.refl 110) 2 rfl ?_
    refine J_isub dc_Bi_shiftLeft_110 (Eq.refl 111) ?_
    refine J_iconst (v := (1 : Int32)) dc_Bi_shiftLeft_111 (Eq.refl 112) rfl ?_
    refine J_isub dc_Bi_shiftLeft_112 (Eq.refl 113) ?_
    obtain ⟨hg, h⟩ := h
    refine J_iald dc_Bi_shiftLeft_113 (Eq.refl 114) (ak_Bi_0 hk_o0).1 (ak_Bi_0 hk_o0).2 hg ?_
    refine J_bipush (v := (32 : Int32)) dc_Bi_shiftLeft_114 (Eq.refl 116) rfl ?_
    refine J_iload_n dc_Bi_shiftLeft_116 (Eq.refl 117) 3 rfl ?_
    refine J_isub dc_Bi_shiftLeft_117 (Eq.refl 118) ?_
    refine J_iushr dc_Bi_shiftLeft_118 (Eq.refl 119) ?_
    refine J_topi (fun v1 ev1 => ?_)
    have h := h v1 ev1
    refine J_ior dc_Bi_shiftLeft_119 (Eq.refl 120) ?_
    refine J_goto dc_Bi_shiftLeft_120 rfl ?_
    refine J_sub [1, 2, 3, 4, 5] rfl ?_
    exact h
theorem b_Bi_shiftLeft_125 {E : En_t} {d : Nat} {σ : S_t} {Q : Option Value → S_t → Prop} {o0 : Nat} {x2 : Int32} {x3 : Int32} {x4 : Int32} {x5 : Int32} {s0 : Int32} {s1 : Int32} {q2 : Nat} (hk_o0 : kindP o0 = 5) (hk_q2 : kindP q2 = 20)
    (h : vp_in s1 (lenP q2) ∧ (JE E (d + 1) m_Bi_shiftLeft 54 [(0, pv E o0), (2, .int x2), (3, .int x3), (4, .int x4), (5, .int (x5 + (-1 : Int32)))] [] (sI σ q2 s1.toNatClampNeg s0) Q)) :
    JE E (d + 1) m_Bi_shiftLeft 125 [(0, pv E o0), (2, .int x2), (3, .int x3), (4, .int x4), (5, .int x5)] [.int s0, .int s1, pv E q2] σ Q := by
  obtain ⟨hg, h⟩ := h
  refine J_iast dc_Bi_shiftLeft_125 (Eq.refl 126) hk_q2 rfl hg ?_
  refine J_iinc (v := x5 + (-1 : Int32)) (L' := [(5, .int (x5 + (-1 : Int32))), (0, pv E o0), (2, .int x2), (3, .int x3), (4, .int x4)]) dc_Bi_shiftLeft_126 (Eq.refl 129) 4 rfl rfl (Nat.le_of_ble_eq_true rfl) rfl ?_
  refine J_goto dc_Bi_shiftLeft_129 rfl ?_
  refine J_sub [1, 2, 3, 4, 0] rfl ?_
  exact h
theorem b_Bi_shiftLeft_135 {E : En_t} {d : Nat} {σ : S_t} {Q : Option Value → S_t → Prop} {o0 : Nat} {x2 : Int32} {x4 : Int32} {x5 : Int32} (hk_o0 : kindP o0 = 5)
    (h : (x2 ≤ x5 → CV E d m_Bi_dropZeroLimb [pv E o0] (sI σ o0 1 x4) (fun σ1 => Q none σ1)) ∧ (¬ x2 ≤ x5 → vp_in x5 96 ∧ (JE E (d + 1) m_Bi_shiftLeft 135 [(0, pv E o0), (2, .int x2), (4, .int x4), (5, .int (x5 + (1 : Int32)))] [] (sI σ (o0 + 1) x5.toNatClampNeg (0 : Int32)) Q))) :
    JE E (d + 1) m_Bi_shiftLeft 135 [(0, pv E o0), (2, .int x2), (4, .int x4), (5, .int x5)] [] σ Q := by
  refine J_iload dc_Bi_shiftLeft_135 (Eq.refl 137) 3 rfl ?_
  refine J_iload_n dc_Bi_shiftLeft_137 (Eq.refl 138) 1 rfl ?_
  refine J_icmp_ge dc_Bi_shiftLeft_138 (Eq.refl 141) rfl (fun hc => ?_) (fun hc => ?_)
  · have h := h.1 hc
    refine J_aload_n dc_Bi_shiftLeft_155 (Eq.refl 156) 0 rfl ?_
    refine J_iload dc_Bi_shiftLeft_156 (Eq.refl 158) 2 rfl ?_
    refine J_putI dc_Bi_shiftLeft_158 (Eq.refl 161) pl_Bi_13 (Nat.le_of_ble_eq_true rfl) hk_o0 rfl ?_
    refine J_aload_n dc_Bi_shiftLeft_161 (Eq.refl 162) 0 rfl ?_
    refine J_callVV (As := []) (st := []) dc_Bi_shiftLeft_162 (Eq.refl 165) lk_Bi_45 mi_Bi_dropZeroLimb hk_o0 (Nat.le_of_ble_eq_true rfl) rfl rfl (Nat.le_of_ble_eq_true rfl) rfl (Nat.le_of_ble_eq_true rfl) (CV.mono h (fun σ1 h => ?_))
    exact J_vret dc_Bi_shiftLeft_165 rfl h
  · have h := h.2 hc
    refine J_aload_n dc_Bi_shiftLeft_141 (Eq.refl 142) 0 rfl ?_
    refine J_getF (y := o0 + 1) dc_Bi_shiftLeft_142 (Eq.refl 145) fl_Bi_9 (Nat.le_of_ble_eq_true rfl) hk_o0 (Or.inl rfl) rfl ?_
    refine J_iload dc_Bi_shiftLeft_145 (Eq.refl 147) 3 rfl ?_
    refine J_iconst (v := (0 : Int32)) dc_Bi_shiftLeft_147 (Eq.refl 148) rfl ?_
    obtain ⟨hg, h⟩ := h
    refine J_iast dc_Bi_shiftLeft_148 (Eq.refl 149) (ak_Bi_0 hk_o0).1 (ak_Bi_0 hk_o0).2 hg ?_
    refine J_iinc (v := x5 + (1 : Int32)) (L' := [(5, .int (x5 + (1 : Int32))), (0, pv E o0), (2, .int x2), (4, .int x4)]) dc_Bi_shiftLeft_149 (Eq.refl 152) 3 rfl rfl (Nat.le_of_ble_eq_true rfl) rfl ?_
    refine J_goto dc_Bi_shiftLeft_152 rfl ?_
    refine J_sub [1, 2, 3, 0] rfl ?_
    exact h
theorem dc_Bi_dropZeroLimb_0 : decode m_Bi_dropZeroLimb.2.1 0 = .ok (.aload_n 0, 1) := by decide +kernel
theorem dc_Bi_dropZeroLimb_1 : decode m_Bi_dropZeroLimb.2.1 1 = .ok (.getfield 13, 3) := by decide +kernel
theorem dc_Bi_dropZeroLimb_4 : decode m_Bi_dropZeroLimb.2.1 4 = .ok (.ifCond .le 27, 3) := by decide +kernel
theorem dc_Bi_dropZeroLimb_7 : decode m_Bi_dropZeroLimb.2.1 7 = .ok (.aload_n 0, 1) := by decide +kernel
theorem dc_Bi_dropZeroLimb_8 : decode m_Bi_dropZeroLimb.2.1 8 = .ok (.getfield 9, 3) := by decide +kernel
theorem dc_Bi_dropZeroLimb_11 : decode m_Bi_dropZeroLimb.2.1 11 = .ok (.aload_n 0, 1) := by decide +kernel
theorem dc_Bi_dropZeroLimb_12 : decode m_Bi_dropZeroLimb.2.1 12 = .ok (.getfield 13, 3) := by decide +kernel
theorem dc_Bi_dropZeroLimb_15 : decode m_Bi_dropZeroLimb.2.1 15 = .ok (.iconst 1, 1) := by decide +kernel
theorem dc_Bi_dropZeroLimb_16 : decode m_Bi_dropZeroLimb.2.1 16 = .ok (.isub, 1) := by decide +kernel
theorem dc_Bi_dropZeroLimb_17 : decode m_Bi_dropZeroLimb.2.1 17 = .ok (.iaload, 1) := by decide +kernel
theorem dc_Bi_dropZeroLimb_18 : decode m_Bi_dropZeroLimb.2.1 18 = .ok (.ifCond .ne 13, 3) := by decide +kernel
theorem dc_Bi_dropZeroLimb_21 : decode m_Bi_dropZeroLimb.2.1 21 = .ok (.aload_n 0, 1) := by decide +kernel
theorem dc_Bi_dropZeroLimb_22 : decode m_Bi_dropZeroLimb.2.1 22 = .ok (.dup, 1) := by decide +kernel
theorem dc_Bi_dropZeroLimb_23 : decode m_Bi_dropZeroLimb.2.1 23 = .ok (.getfield 13, 3) := by decide +kernel
theorem dc_Bi_dropZeroLimb_26 : decode m_Bi_dropZeroLimb.2.1 26 = .ok (.iconst 1, 1) := by decide +kernel
theorem dc_Bi_dropZeroLimb_27 : decode m_Bi_dropZeroLimb.2.1 27 = .ok (.isub, 1) := by decide +kernel
theorem dc_Bi_dropZeroLimb_28 : decode m_Bi_dropZeroLimb.2.1 28 = .ok (.putfield 13, 3) := by decide +kernel
theorem dc_Bi_dropZeroLimb_31 : decode m_Bi_dropZeroLimb.2.1 31 = .ok (.return_, 1) := by decide +kernel
theorem b_Bi_dropZeroLimb_0 {E : En_t} {d : Nat} {σ : S_t} {Q : Option Value → S_t → Prop} {o0 : Nat} (hk_o0 : kindP o0 = 5)
    (h : ((gI σ o0 1) ≤ 0 → Q none σ) ∧ (¬ (gI σ o0 1) ≤ 0 → vp_in ((gI σ o0 1) - (1 : Int32)) 96 ∧ ((¬ (gI σ (o0 + 1) ((gI σ o0 1) - (1 : Int32)).toNatClampNeg) = 0 → Q none σ) ∧ ((gI σ (o0 + 1) ((gI σ o0 1) - (1 : Int32)).toNatClampNeg) = 0 → Q none (sI σ o0 1 ((gI σ o0 1) - (1 : Int32))))))) :
    JE E d m_Bi_dropZeroLimb 0 [(0, pv E o0)] [] σ Q := by
  refine J_aload_n dc_Bi_dropZeroLimb_0 (Eq.refl 1) 0 rfl ?_
  refine J_getI dc_Bi_dropZeroLimb_1 (Eq.refl 4) fl_Bi_13 (Nat.le_of_ble_eq_true rfl) hk_o0 (Or.inl rfl) ?_
  refine J_if_le dc_Bi_dropZeroLimb_4 (Eq.refl 7) rfl (fun hc => ?_) (fun hc => ?_)
  · have h := h.1 hc
    exact J_vret dc_Bi_dropZeroLimb_31 rfl h
  · have h := h.2 hc
    refine J_aload_n dc_Bi_dropZeroLimb_7 (Eq.refl 8) 0 rfl ?_
    refine J_getF (y := o0 + 1) dc_Bi_dropZeroLimb_8 (Eq.refl 11) fl_Bi_9 (Nat.le_of_ble_eq_true rfl) hk_o0 (Or.inl rfl) rfl ?_
    refine J_aload_n dc_Bi_dropZeroLimb_11 (Eq.refl 12) 0 rfl ?_
    refine J_getI dc_Bi_dropZeroLimb_12 (Eq.refl 15) fl_Bi_13 (Nat.le_of_ble_eq_true rfl) hk_o0 (Or.inl rfl) ?_
    refine J_iconst (v := (1 : Int32)) dc_Bi_dropZeroLimb_15 (Eq.refl 16) rfl ?_
    refine J_isub dc_Bi_dropZeroLimb_16 (Eq.refl 17) ?_
    obtain ⟨hg, h⟩ := h
    refine J_iald dc_Bi_dropZeroLimb_17 (Eq.refl 18) (ak_Bi_0 hk_o0).1 (ak_Bi_0 hk_o0).2 hg ?_
    refine J_if_ne dc_Bi_dropZeroLimb_18 (Eq.refl 21) rfl (fun hc => ?_) (fun hc => ?_)
    · have h := h.1 hc
      exact J_vret dc_Bi_dropZeroLimb_31 rfl h
    · have h := h.2 hc
      refine J_aload_n dc_Bi_dropZeroLimb_21 (Eq.refl 22) 0 rfl ?_
      refine J_dup dc_Bi_dropZeroLimb_22 (Eq.refl 23) rfl ?_
      refine J_getI dc_Bi_dropZeroLimb_23 (Eq.refl 26) fl_Bi_13 (Nat.le_of_ble_eq_true rfl) hk_o0 (Or.inl rfl) ?_
      refine J_iconst (v := (1 : Int32)) dc_Bi_dropZeroLimb_26 (Eq.refl 27) rfl ?_
      refine J_isub dc_Bi_dropZeroLimb_27 (Eq.refl 28) ?_
      refine J_putI dc_Bi_dropZeroLimb_28 (Eq.refl 31) pl_Bi_13 (Nat.le_of_ble_eq_true rfl) hk_o0 rfl ?_
      exact J_vret dc_Bi_dropZeroLimb_31 rfl h
theorem dc_Bi_overFive_0 : decode m_Bi_overFive.2.1 0 = .ok (.iload_n 1, 1) := by decide +kernel
theorem dc_Bi_overFive_1 : decode m_Bi_overFive.2.1 1 = .ok (.istore_n 2, 1) := by decide +kernel
theorem dc_Bi_overFive_2 : decode m_Bi_overFive.2.1 2 = .ok (.iload_n 2, 1) := by decide +kernel
theorem dc_Bi_overFive_3 : decode m_Bi_overFive.2.1 3 = .ok (.ifCond .le 31, 3) := by decide +kernel
theorem dc_Bi_overFive_6 : decode m_Bi_overFive.2.1 6 = .ok (.aload_n 0, 1) := by decide +kernel
theorem dc_Bi_overFive_7 : decode m_Bi_overFive.2.1 7 = .ok (.getstatic 29, 3) := by decide +kernel
theorem dc_Bi_overFive_10 : decode m_Bi_overFive.2.1 10 = .ok (.iload_n 2, 1) := by decide +kernel
theorem dc_Bi_overFive_11 : decode m_Bi_overFive.2.1 11 = .ok (.bipush 13, 2) := by decide +kernel
theorem dc_Bi_overFive_13 : decode m_Bi_overFive.2.1 13 = .ok (.invokestatic 32, 3) := by decide +kernel
theorem dc_Bi_overFive_16 : decode m_Bi_overFive.2.1 16 = .ok (.iaload, 1) := by decide +kernel
theorem dc_Bi_overFive_17 : decode m_Bi_overFive.2.1 17 = .ok (.invokevirtual 42, 3) := by decide +kernel
theorem dc_Bi_overFive_20 : decode m_Bi_overFive.2.1 20 = .ok (.ifCond .eq 8, 3) := by decide +kernel
theorem dc_Bi_overFive_23 : decode m_Bi_overFive.2.1 23 = .ok (.aload_n 0, 1) := by decide +kernel
theorem dc_Bi_overFive_24 : decode m_Bi_overFive.2.1 24 = .ok (.iconst 1, 1) := by decide +kernel
theorem dc_Bi_overFive_25 : decode m_Bi_overFive.2.1 25 = .ok (.putfield 17, 3) := by decide +kernel
theorem dc_Bi_overFive_28 : decode m_Bi_overFive.2.1 28 = .ok (.iinc 2 (-13), 3) := by decide +kernel
theorem dc_Bi_overFive_31 : decode m_Bi_overFive.2.1 31 = .ok (.goto (-29), 3) := by decide +kernel
theorem dc_Bi_overFive_34 : decode m_Bi_overFive.2.1 34 = .ok (.return_, 1) := by decide +kernel
theorem b_Bi_overFive_0 {E : En_t} {d : Nat} {σ : S_t} {Q : Option Value → S_t → Prop} {o0 : Nat} {x1 : Int32} (hk_o0 : kindP o0 = 5)
    (h : JE E (d + 1) m_Bi_overFive 2 [(0, pv E o0), (2, .int x1)] [] σ Q) :
    JE E (d + 1) m_Bi_overFive 0 [(0, pv E o0), (1, .int x1)] [] σ Q := by
  refine J_iload_n dc_Bi_overFive_0 (Eq.refl 1) 1 rfl ?_
  refine J_istore_n (L' := [(2, .int x1), (0, pv E o0), (1, .int x1)]) dc_Bi_overFive_1 (Eq.refl 2) (Nat.le_of_ble_eq_true rfl) rfl ?_
  refine J_sub [1, 0] rfl ?_
  exact h
theorem b_Bi_overFive_2 {E : En_t} {d : Nat} {σ : S_t} {Q : Option Value → S_t → Prop} {o0 : Nat} {x2 : Int32} (hk_o0 : kindP o0 = 5)
    (h : (x2 ≤ 0 → Q none σ) ∧ (¬ x2 ≤ 0 → ∀ r1, r1 = mnI x2 (13 : Int32) → (vp_in r1 14 ∧ (CI E d m_Bi_divide [pv E o0, .int (tabV 1 r1.toNatClampNeg)] σ (fun r3 σ2 => (r3 = 0 → JE E (d + 1) m_Bi_overFive 28 [(0, pv E o0), (2, .int x2)] [] σ2 Q) ∧ (¬ r3 = 0 → JE E (d + 1) m_Bi_overFive 28 [(0, pv E o0), (2, .int x2)] [] (sI σ2 o0 2 (1 : Int32)) Q)))))) :
    JE E (d + 1) m_Bi_overFive 2 [(0, pv E o0), (2, .int x2)] [] σ Q := by
  refine J_iload_n dc_Bi_overFive_2 (Eq.refl 3) 1 rfl ?_
  refine J_if_le dc_Bi_overFive_3 (Eq.refl 6) rfl (fun hc => ?_) (fun hc => ?_)
  · have h := h.1 hc
    exact J_vret dc_Bi_overFive_34 rfl h
  · have h := h.2 hc
    refine J_aload_n dc_Bi_overFive_6 (Eq.refl 7) 0 rfl ?_
    refine J_gets (t := 1) dc_Bi_overFive_7 (Eq.refl 10) rfl fl_Bi_29 ?_
    refine J_iload_n dc_Bi_overFive_10 (Eq.refl 11) 1 rfl ?_
    refine J_bipush (v := (13 : Int32)) dc_Bi_overFive_11 (Eq.refl 13) rfl ?_
    refine J_mmin dc_Bi_overFive_13 (Eq.refl 16) lk_Bi_32 (Nat.le_of_ble_eq_true rfl) (fun r1 er1 => ?_)
    have h := h r1 er1
    obtain ⟨hg, h⟩ := h
    refine J_tald (t := 1) (v := tabV 1 r1.toNatClampNeg) dc_Bi_overFive_16 (Eq.refl 17) rfl hg rfl ?_
    refine J_callVI (As := [.int (tabV 1 r1.toNatClampNeg)]) (st := []) dc_Bi_overFive_17 (Eq.refl 20) lk_Bi_42 mi_Bi_divide hk_o0 (Nat.le_of_ble_eq_true rfl) rfl rfl (Nat.le_of_ble_eq_true rfl) rfl (Nat.le_of_ble_eq_true rfl) (CI.mono h (fun r3 σ2 h => ?_))
    refine J_if_eq dc_Bi_overFive_20 (Eq.refl 23) rfl (fun hc => ?_) (fun hc => ?_)
    · have h := h.1 hc
      exact h
    · have h := h.2 hc
      refine J_aload_n dc_Bi_overFive_23 (Eq.refl 24) 0 rfl ?_
      refine J_iconst (v := (1 : Int32)) dc_Bi_overFive_24 (Eq.refl 25) rfl ?_
      refine J_putZ dc_Bi_overFive_25 (Eq.refl 28) pl_Bi_17 (Nat.le_of_ble_eq_true rfl) hk_o0 rfl (Or.inr rfl) ?_
      exact h
theorem b_Bi_overFive_28 {E : En_t} {d : Nat} {σ : S_t} {Q : Option Value → S_t → Prop} {o0 : Nat} {x2 : Int32} (hk_o0 : kindP o0 = 5)
    (h : JE E (d + 1) m_Bi_overFive 2 [(0, pv E o0), (2, .int (x2 + (-13 : Int32)))] [] σ Q) :
    JE E (d + 1) m_Bi_overFive 28 [(0, pv E o0), (2, .int x2)] [] σ Q := by
  refine J_iinc (v := x2 + (-13 : Int32)) (L' := [(2, .int (x2 + (-13 : Int32))), (0, pv E o0)]) dc_Bi_overFive_28 (Eq.refl 31) 1 rfl rfl (Nat.le_of_ble_eq_true rfl) rfl ?_
  refine J_goto dc_Bi_overFive_31 rfl ?_
  refine J_sub [1, 0] rfl ?_
  exact h
theorem dc_Bi_divide_0 : decode m_Bi_divide.2.1 0 = .ok (.iload_n 1, 1) := by decide +kernel
theorem dc_Bi_divide_1 : decode m_Bi_divide.2.1 1 = .ok (.ifCond .gt 5, 3) := by decide +kernel
theorem dc_Bi_divide_4 : decode m_Bi_divide.2.1 4 = .ok (.iconst 0, 1) := by decide +kernel
theorem dc_Bi_divide_5 : decode m_Bi_divide.2.1 5 = .ok (.ireturn, 1) := by decide +kernel
theorem dc_Bi_divide_6 : decode m_Bi_divide.2.1 6 = .ok (.lconst 0, 1) := by decide +kernel
theorem dc_Bi_divide_7 : decode m_Bi_divide.2.1 7 = .ok (.lstore_n 2, 1) := by decide +kernel
theorem dc_Bi_divide_8 : decode m_Bi_divide.2.1 8 = .ok (.aload_n 0, 1) := by decide +kernel
theorem dc_Bi_divide_9 : decode m_Bi_divide.2.1 9 = .ok (.getfield 13, 3) := by decide +kernel
theorem dc_Bi_divide_12 : decode m_Bi_divide.2.1 12 = .ok (.iconst 1, 1) := by decide +kernel
theorem dc_Bi_divide_13 : decode m_Bi_divide.2.1 13 = .ok (.isub, 1) := by decide +kernel
theorem dc_Bi_divide_14 : decode m_Bi_divide.2.1 14 = .ok (.istore 4, 2) := by decide +kernel
theorem dc_Bi_divide_16 : decode m_Bi_divide.2.1 16 = .ok (.iload 4, 2) := by decide +kernel
theorem dc_Bi_divide_18 : decode m_Bi_divide.2.1 18 = .ok (.ifCond .lt 44, 3) := by decide +kernel
theorem dc_Bi_divide_21 : decode m_Bi_divide.2.1 21 = .ok (.lload_n 2, 1) := by decide +kernel
theorem dc_Bi_divide_22 : decode m_Bi_divide.2.1 22 = .ok (.bipush 32, 2) := by decide +kernel
theorem dc_Bi_divide_24 : decode m_Bi_divide.2.1 24 = .ok (.lshl, 1) := by decide +kernel
theorem dc_Bi_divide_25 : decode m_Bi_divide.2.1 25 = .ok (.aload_n 0, 1) := by decide +kernel
theorem dc_Bi_divide_26 : decode m_Bi_divide.2.1 26 = .ok (.getfield 9, 3) := by decide +kernel
theorem dc_Bi_divide_29 : decode m_Bi_divide.2.1 29 = .ok (.iload 4, 2) := by decide +kernel
theorem dc_Bi_divide_31 : decode m_Bi_divide.2.1 31 = .ok (.iaload, 1) := by decide +kernel
theorem dc_Bi_divide_32 : decode m_Bi_divide.2.1 32 = .ok (.i2l, 1) := by decide +kernel
theorem dc_Bi_divide_33 : decode m_Bi_divide.2.1 33 = .ok (.ldc2_w 27, 3) := by decide +kernel
theorem dc_Bi_divide_36 : decode m_Bi_divide.2.1 36 = .ok (.land, 1) := by decide +kernel
theorem dc_Bi_divide_37 : decode m_Bi_divide.2.1 37 = .ok (.lor, 1) := by decide +kernel
theorem dc_Bi_divide_38 : decode m_Bi_divide.2.1 38 = .ok (.lstore_n 2, 1) := by decide +kernel
theorem dc_Bi_divide_39 : decode m_Bi_divide.2.1 39 = .ok (.aload_n 0, 1) := by decide +kernel
theorem dc_Bi_divide_40 : decode m_Bi_divide.2.1 40 = .ok (.getfield 9, 3) := by decide +kernel
theorem dc_Bi_divide_43 : decode m_Bi_divide.2.1 43 = .ok (.iload 4, 2) := by decide +kernel
theorem dc_Bi_divide_45 : decode m_Bi_divide.2.1 45 = .ok (.lload_n 2, 1) := by decide +kernel
theorem dc_Bi_divide_46 : decode m_Bi_divide.2.1 46 = .ok (.iload_n 1, 1) := by decide +kernel
theorem dc_Bi_divide_47 : decode m_Bi_divide.2.1 47 = .ok (.i2l, 1) := by decide +kernel
theorem dc_Bi_divide_48 : decode m_Bi_divide.2.1 48 = .ok (.ldiv, 1) := by decide +kernel
theorem dc_Bi_divide_49 : decode m_Bi_divide.2.1 49 = .ok (.l2i, 1) := by decide +kernel
theorem dc_Bi_divide_50 : decode m_Bi_divide.2.1 50 = .ok (.iastore, 1) := by decide +kernel
theorem dc_Bi_divide_51 : decode m_Bi_divide.2.1 51 = .ok (.lload_n 2, 1) := by decide +kernel
theorem dc_Bi_divide_52 : decode m_Bi_divide.2.1 52 = .ok (.iload_n 1, 1) := by decide +kernel
theorem dc_Bi_divide_53 : decode m_Bi_divide.2.1 53 = .ok (.i2l, 1) := by decide +kernel
theorem dc_Bi_divide_54 : decode m_Bi_divide.2.1 54 = .ok (.lrem, 1) := by decide +kernel
theorem dc_Bi_divide_55 : decode m_Bi_divide.2.1 55 = .ok (.lstore_n 2, 1) := by decide +kernel
theorem dc_Bi_divide_56 : decode m_Bi_divide.2.1 56 = .ok (.iinc 4 (-1), 3) := by decide +kernel
theorem dc_Bi_divide_59 : decode m_Bi_divide.2.1 59 = .ok (.goto (-43), 3) := by decide +kernel
theorem dc_Bi_divide_62 : decode m_Bi_divide.2.1 62 = .ok (.aload_n 0, 1) := by decide +kernel
theorem dc_Bi_divide_63 : decode m_Bi_divide.2.1 63 = .ok (.getfield 13, 3) := by decide +kernel
theorem dc_Bi_divide_66 : decode m_Bi_divide.2.1 66 = .ok (.ifCond .le 27, 3) := by decide +kernel
theorem dc_Bi_divide_69 : decode m_Bi_divide.2.1 69 = .ok (.aload_n 0, 1) := by decide +kernel
theorem dc_Bi_divide_70 : decode m_Bi_divide.2.1 70 = .ok (.getfield 9, 3) := by decide +kernel
theorem dc_Bi_divide_73 : decode m_Bi_divide.2.1 73 = .ok (.aload_n 0, 1) := by decide +kernel
theorem dc_Bi_divide_74 : decode m_Bi_divide.2.1 74 = .ok (.getfield 13, 3) := by decide +kernel
theorem dc_Bi_divide_77 : decode m_Bi_divide.2.1 77 = .ok (.iconst 1, 1) := by decide +kernel
theorem dc_Bi_divide_78 : decode m_Bi_divide.2.1 78 = .ok (.isub, 1) := by decide +kernel
theorem dc_Bi_divide_79 : decode m_Bi_divide.2.1 79 = .ok (.iaload, 1) := by decide +kernel
theorem dc_Bi_divide_80 : decode m_Bi_divide.2.1 80 = .ok (.ifCond .ne 13, 3) := by decide +kernel
theorem dc_Bi_divide_83 : decode m_Bi_divide.2.1 83 = .ok (.aload_n 0, 1) := by decide +kernel
theorem dc_Bi_divide_84 : decode m_Bi_divide.2.1 84 = .ok (.dup, 1) := by decide +kernel
theorem dc_Bi_divide_85 : decode m_Bi_divide.2.1 85 = .ok (.getfield 13, 3) := by decide +kernel
theorem dc_Bi_divide_88 : decode m_Bi_divide.2.1 88 = .ok (.iconst 1, 1) := by decide +kernel
theorem dc_Bi_divide_89 : decode m_Bi_divide.2.1 89 = .ok (.isub, 1) := by decide +kernel
theorem dc_Bi_divide_90 : decode m_Bi_divide.2.1 90 = .ok (.putfield 13, 3) := by decide +kernel
theorem dc_Bi_divide_93 : decode m_Bi_divide.2.1 93 = .ok (.lload_n 2, 1) := by decide +kernel
theorem dc_Bi_divide_94 : decode m_Bi_divide.2.1 94 = .ok (.l2i, 1) := by decide +kernel
theorem dc_Bi_divide_95 : decode m_Bi_divide.2.1 95 = .ok (.ireturn, 1) := by decide +kernel
theorem b_Bi_divide_0 {E : En_t} {d : Nat} {σ : S_t} {Q : Option Value → S_t → Prop} {o0 : Nat} {x1 : Int32} (hk_o0 : kindP o0 = 5)
    (h : (0 < x1 → JE E d m_Bi_divide 16 [(0, pv E o0), (1, .int x1), (2, .long (0 : Int64)), (4, .int ((gI σ o0 1) - (1 : Int32)))] [] σ Q) ∧ (¬ 0 < x1 → Q (some (.int (0 : Int32))) σ)) :
    JE E d m_Bi_divide 0 [(0, pv E o0), (1, .int x1)] [] σ Q := by
  refine J_iload_n dc_Bi_divide_0 (Eq.refl 1) 1 rfl ?_
  refine J_if_gt dc_Bi_divide_1 (Eq.refl 4) rfl (fun hc => ?_) (fun hc => ?_)
  · have h := h.1 hc
    refine J_lconst (v := (0 : Int64)) dc_Bi_divide_6 (Eq.refl 7) rfl ?_
    refine J_lstore_n (L' := [(2, .long (0 : Int64)), (0, pv E o0), (1, .int x1)]) dc_Bi_divide_7 (Eq.refl 8) (Nat.le_of_ble_eq_true rfl) rfl ?_
    refine J_aload_n dc_Bi_divide_8 (Eq.refl 9) 1 rfl ?_
    refine J_getI dc_Bi_divide_9 (Eq.refl 12) fl_Bi_13 (Nat.le_of_ble_eq_true rfl) hk_o0 (Or.inl rfl) ?_
    refine J_iconst (v := (1 : Int32)) dc_Bi_divide_12 (Eq.refl 13) rfl ?_
    refine J_isub dc_Bi_divide_13 (Eq.refl 14) ?_
    refine J_istore (L' := [(4, .int ((gI σ o0 1) - (1 : Int32))), (2, .long (0 : Int64)), (0, pv E o0), (1, .int x1)]) dc_Bi_divide_14 (Eq.refl 16) (Nat.le_of_ble_eq_true rfl) rfl ?_
    refine J_sub [2, 3, 1, 0] rfl ?_
    exact h
  · have h := h.2 hc
    refine J_iconst (v := (0 : Int32)) dc_Bi_divide_4 (Eq.refl 5) rfl ?_
    exact J_iret dc_Bi_divide_5 rfl h
theorem b_Bi_divide_16 {E : En_t} {d : Nat} {σ : S_t} {Q : Option Value → S_t → Prop} {o0 : Nat} {x1 : Int32} {x2 : Int64} {x4 : Int32} (hk_o0 : kindP o0 = 5)
    (h : (x4 < 0 → ((gI σ o0 1) ≤ 0 → Q (some (.int x2.toInt32)) σ) ∧ (¬ (gI σ o0 1) ≤ 0 → vp_in ((gI σ o0 1) - (1 : Int32)) 96 ∧ ((¬ (gI σ (o0 + 1) ((gI σ o0 1) - (1 : Int32)).toNatClampNeg) = 0 → Q (some (.int x2.toInt32)) σ) ∧ ((gI σ (o0 + 1) ((gI σ o0 1) - (1 : Int32)).toNatClampNeg) = 0 → Q (some (.int x2.toInt32)) (sI σ o0 1 ((gI σ o0 1) - (1 : Int32))))))) ∧ (¬ x4 < 0 → vp_in x4 96 ∧ (∀ v1, v1 = (x2 <<< ((32 : Int32).toInt64 &&& 63)) ||| (((gI σ (o0 + 1) x4.toNatClampNeg).toInt64) &&& (4294967295 : Int64)) → (¬ x1.toInt64 = 0 ∧ (vp_in x4 96 ∧ (¬ x1.toInt64 = 0 ∧ (JE E d m_Bi_divide 16 [(0, pv E o0), (1, .int x1), (2, .long (v1 - v1 / x1.toInt64 * x1.toInt64)), (4, .int (x4 + (-1 : Int32)))] [] (sI σ (o0 + 1) x4.toNatClampNeg ((v1 / x1.toInt64).toInt32)) Q))))))) :
    JE E d m_Bi_divide 16 [(0, pv E o0), (1, .int x1), (2, .long x2), (4, .int x4)] [] σ Q := by
  refine J_iload dc_Bi_divide_16 (Eq.refl 18) 3 rfl ?_
  refine J_if_lt dc_Bi_divide_18 (Eq.refl 21) rfl (fun hc => ?_) (fun hc => ?_)
  · have h := h.1 hc
    refine J_aload_n dc_Bi_divide_62 (Eq.refl 63) 0 rfl ?_
    refine J_getI dc_Bi_divide_63 (Eq.refl 66) fl_Bi_13 (Nat.le_of_ble_eq_true rfl) hk_o0 (Or.inl rfl) ?_
    refine J_if_le dc_Bi_divide_66 (Eq.refl 69) rfl (fun hc => ?_) (fun hc => ?_)
    · have h := h.1 hc
      refine J_lload_n dc_Bi_divide_93 (Eq.refl 94) 2 rfl ?_
      refine J_l2i dc_Bi_divide_94 (Eq.refl 95) ?_
      exact J_iret dc_Bi_divide_95 rfl h
    · have h := h.2 hc
      refine J_aload_n dc_Bi_divide_69 (Eq.refl 70) 0 rfl ?_
      refine J_getF (y := o0 + 1) dc_Bi_divide_70 (Eq.refl 73) fl_Bi_9 (Nat.le_of_ble_eq_true rfl) hk_o0 (Or.inl rfl) rfl ?_
      refine J_aload_n dc_Bi_divide_73 (Eq.refl 74) 0 rfl ?_
      refine J_getI dc_Bi_divide_74 (Eq.refl 77) fl_Bi_13 (Nat.le_of_ble_eq_true rfl) hk_o0 (Or.inl rfl) ?_
      refine J_iconst (v := (1 : Int32)) dc_Bi_divide_77 (Eq.refl 78) rfl ?_
      refine J_isub dc_Bi_divide_78 (Eq.refl 79) ?_
      obtain ⟨hg, h⟩ := h
      refine J_iald dc_Bi_divide_79 (Eq.refl 80) (ak_Bi_0 hk_o0).1 (ak_Bi_0 hk_o0).2 hg ?_
      refine J_if_ne dc_Bi_divide_80 (Eq.refl 83) rfl (fun hc => ?_) (fun hc => ?_)
      · have h := h.1 hc
        refine J_lload_n dc_Bi_divide_93 (Eq.refl 94) 2 rfl ?_
        refine J_l2i dc_Bi_divide_94 (Eq.refl 95) ?_
        exact J_iret dc_Bi_divide_95 rfl h
      · have h := h.2 hc
        refine J_aload_n dc_Bi_divide_83 (Eq.refl 84) 0 rfl ?_
        refine J_dup dc_Bi_divide_84 (Eq.refl 85) rfl ?_
        refine J_getI dc_Bi_divide_85 (Eq.refl 88) fl_Bi_13 (Nat.le_of_ble_eq_true rfl) hk_o0 (Or.inl rfl) ?_
        refine J_iconst (v := (1 : Int32)) dc_Bi_divide_88 (Eq.refl 89) rfl ?_
        refine J_isub dc_Bi_divide_89 (Eq.refl 90) ?_
        refine J_putI dc_Bi_divide_90 (Eq.refl 93) pl_Bi_13 (Nat.le_of_ble_eq_true rfl) hk_o0 rfl ?_
        refine J_lload_n dc_Bi_divide_93 (Eq.refl 94) 2 rfl ?_
        refine J_l2i dc_Bi_divide_94 (Eq.refl 95) ?_
        exact J_iret dc_Bi_divide_95 rfl h
  · have h := h.2 hc
    refine J_lload_n dc_Bi_divide_21 (Eq.refl 22) 2 rfl ?_
    refine J_bipush (v := (32 : Int32)) dc_Bi_divide_22 (Eq.refl 24) rfl ?_
    refine J_lshl dc_Bi_divide_24 (Eq.refl 25) ?_
    refine J_aload_n dc_Bi_divide_25 (Eq.refl 26) 0 rfl ?_
    refine J_getF (y := o0 + 1) dc_Bi_divide_26 (Eq.refl 29) fl_Bi_9 (Nat.le_of_ble_eq_true rfl) hk_o0 (Or.inl rfl) rfl ?_
    refine J_iload dc_Bi_divide_29 (Eq.refl 31) 3 rfl ?_
    obtain ⟨hg, h⟩ := h
    refine J_iald dc_Bi_divide_31 (Eq.refl 32) (ak_Bi_0 hk_o0).1 (ak_Bi_0 hk_o0).2 hg ?_
    refine J_i2l dc_Bi_divide_32 (Eq.refl 33) ?_
    refine J_ldc2 dc_Bi_divide_33 (Eq.refl 36) kc_Bi_27 ?_
    refine J_land dc_Bi_divide_36 (Eq.refl 37) ?_
    refine J_lor dc_Bi_divide_37 (Eq.refl 38) ?_
    refine J_topl (fun v1 ev1 => ?_)
    have h := h v1 ev1
    refine J_lstore_n (L' := [(2, .long v1), (0, pv E o0), (1, .int x1), (4, .int x4)]) dc_Bi_divide_38 (Eq.refl 39) (Nat.le_of_ble_eq_true rfl) rfl ?_
    refine J_aload_n dc_Bi_divide_39 (Eq.refl 40) 1 rfl ?_
    refine J_getF (y := o0 + 1) dc_Bi_divide_40 (Eq.refl 43) fl_Bi_9 (Nat.le_of_ble_eq_true rfl) hk_o0 (Or.inl rfl) rfl ?_
    refine J_iload dc_Bi_divide_43 (Eq.refl 45) 3 rfl ?_
    refine J_lload_n dc_Bi_divide_45 (Eq.refl 46) 0 rfl ?_
    refine J_iload_n dc_Bi_divide_46 (Eq.refl 47) 2 rfl ?_
    refine J_i2l dc_Bi_divide_47 (Eq.refl 48) ?_
    obtain ⟨hg, h⟩ := h
    refine J_ldiv dc_Bi_divide_48 (Eq.refl 49) hg ?_
    refine J_l2i dc_Bi_divide_49 (Eq.refl 50) ?_
    obtain ⟨hg, h⟩ := h
    refine J_iast dc_Bi_divide_50 (Eq.refl 51) (ak_Bi_0 hk_o0).1 (ak_Bi_0 hk_o0).2 hg ?_
    refine J_lload_n dc_Bi_divide_51 (Eq.refl 52) 0 rfl ?_
    refine J_iload_n dc_Bi_divide_52 (Eq.refl 53) 2 rfl ?_
    refine J_i2l dc_Bi_divide_53 (Eq.refl 54) ?_
    obtain ⟨hg, h⟩ := h
    refine J_lrem dc_Bi_divide_54 (Eq.refl 55) hg ?_
    refine J_lstore_n (L' := [(2, .long (v1 - v1 / x1.toInt64 * x1.toInt64)), (0, pv E o0), (1, .int x1), (4, .int x4)]) dc_Bi_divide_55 (Eq.refl 56) (Nat.le_of_ble_eq_true rfl) rfl ?_
    refine J_iinc (v := x4 + (-1 : Int32)) (L' := [(4, .int (x4 + (-1 : Int32))), (2, .long (v1 - v1 / x1.toInt64 * x1.toInt64)), (0, pv E o0), (1, .int x1)]) dc_Bi_divide_56 (Eq.refl 59) 3 rfl rfl (Nat.le_of_ble_eq_true rfl) rfl ?_
    refine J_goto dc_Bi_divide_59 rfl ?_
    refine J_sub [2, 3, 1, 0] rfl ?_
    exact h
theorem dc_Bi_shiftRight_0 : decode m_Bi_shiftRight.2.1 0 = .ok (.iload_n 1, 1) := by decide +kernel
theorem dc_Bi_shiftRight_1 : decode m_Bi_shiftRight.2.1 1 = .ok (.ifCond .gt 4, 3) := by decide +kernel
theorem dc_Bi_shiftRight_4 : decode m_Bi_shiftRight.2.1 4 = .ok (.return_, 1) := by decide +kernel
theorem dc_Bi_shiftRight_5 : decode m_Bi_shiftRight.2.1 5 = .ok (.iload_n 1, 1) := by decide +kernel
theorem dc_Bi_shiftRight_6 : decode m_Bi_shiftRight.2.1 6 = .ok (.iconst 5, 1) := by decide +kernel
theorem dc_Bi_shiftRight_7 : decode m_Bi_shiftRight.2.1 7 = .ok (.ishr, 1) := by decide +kernel
theorem dc_Bi_shiftRight_8 : decode m_Bi_shiftRight.2.1 8 = .ok (.aload_n 0, 1) := by decide +kernel
theorem dc_Bi_shiftRight_9 : decode m_Bi_shiftRight.2.1 9 = .ok (.getfield 13, 3) := by decide +kernel
theorem dc_Bi_shiftRight_12 : decode m_Bi_shiftRight.2.1 12 = .ok (.invokestatic 32, 3) := by decide +kernel
theorem dc_Bi_shiftRight_15 : decode m_Bi_shiftRight.2.1 15 = .ok (.istore_n 2, 1) := by decide +kernel
theorem dc_Bi_shiftRight_16 : decode m_Bi_shiftRight.2.1 16 = .ok (.iload_n 1, 1) := by decide +kernel
theorem dc_Bi_shiftRight_17 : decode m_Bi_shiftRight.2.1 17 = .ok (.bipush 31, 2) := by decide +kernel
theorem dc_Bi_shiftRight_19 : decode m_Bi_shiftRight.2.1 19 = .ok (.iand, 1) := by decide +kernel
theorem dc_Bi_shiftRight_20 : decode m_Bi_shiftRight.2.1 20 = .ok (.istore_n 3, 1) := by decide +kernel
theorem dc_Bi_shiftRight_21 : decode m_Bi_shiftRight.2.1 21 = .ok (.iconst 0, 1) := by decide +kernel
theorem dc_Bi_shiftRight_22 : decode m_Bi_shiftRight.2.1 22 = .ok (.istore 4, 2) := by decide +kernel
theorem dc_Bi_shiftRight_24 : decode m_Bi_shiftRight.2.1 24 = .ok (.iload 4, 2) := by decide +kernel
theorem dc_Bi_shiftRight_26 : decode m_Bi_shiftRight.2.1 26 = .ok (.iload_n 2, 1) := by decide +kernel
theorem dc_Bi_shiftRight_27 : decode m_Bi_shiftRight.2.1 27 = .ok (.if_icmp .ge 35, 3) := by decide +kernel
theorem dc_Bi_shiftRight_30 : decode m_Bi_shiftRight.2.1 30 = .ok (.aload_n 0, 1) := by decide +kernel
theorem dc_Bi_shiftRight_31 : decode m_Bi_shiftRight.2.1 31 = .ok (.aload_n 0, 1) := by decide +kernel
theorem dc_Bi_shiftRight_32 : decode m_Bi_shiftRight.2.1 32 = .ok (.getfield 17, 3) := by decide +kernel
theorem dc_Bi_shiftRight_35 : decode m_Bi_shiftRight.2.1 35 = .ok (.ifCond .ne 13, 3) := by decide +kernel
theorem dc_Bi_shiftRight_38 : decode m_Bi_shiftRight.2.1 38 = .ok (.aload_n 0, 1) := by decide +kernel
theorem dc_Bi_shiftRight_39 : decode m_Bi_shiftRight.2.1 39 = .ok (.getfield 9, 3) := by decide +kernel
theorem dc_Bi_shiftRight_42 : decode m_Bi_shiftRight.2.1 42 = .ok (.iload 4, 2) := by decide +kernel
theorem dc_Bi_shiftRight_44 : decode m_Bi_shiftRight.2.1 44 = .ok (.iaload, 1) := by decide +kernel
theorem dc_Bi_shiftRight_45 : decode m_Bi_shiftRight.2.1 45 = .ok (.ifCond .eq 7, 3) := by decide +kernel
theorem dc_Bi_shiftRight_48 : decode m_Bi_shiftRight.2.1 48 = .ok (.iconst 1, 1) := by decide +kernel
theorem dc_Bi_shiftRight_49 : decode m_Bi_shiftRight.2.1 49 = .ok (.goto 4, 3) := by decide +kernel
theorem dc_Bi_shiftRight_52 : decode m_Bi_shiftRight.2.1 52 = .ok (.iconst 0, 1) := by decide +kernel
theorem dc_Bi_shiftRight_53 : decode m_Bi_shiftRight.2.1 53 = .ok (.putfield 17, 3) := by decide +kernel
theorem dc_Bi_shiftRight_56 : decode m_Bi_shiftRight.2.1 56 = .ok (.iinc 4 1, 3) := by decide +kernel
theorem dc_Bi_shiftRight_59 : decode m_Bi_shiftRight.2.1 59 = .ok (.goto (-35), 3) := by decide +kernel
theorem dc_Bi_shiftRight_62 : decode m_Bi_shiftRight.2.1 62 = .ok (.aload_n 0, 1) := by decide +kernel
theorem dc_Bi_shiftRight_63 : decode m_Bi_shiftRight.2.1 63 = .ok (.dup, 1) := by decide +kernel
theorem dc_Bi_shiftRight_64 : decode m_Bi_shiftRight.2.1 64 = .ok (.getfield 13, 3) := by decide +kernel
theorem dc_Bi_shiftRight_67 : decode m_Bi_shiftRight.2.1 67 = .ok (.iload_n 2, 1) := by decide +kernel
theorem dc_Bi_shiftRight_68 : decode m_Bi_shiftRight.2.1 68 = .ok (.isub, 1) := by decide +kernel
theorem dc_Bi_shiftRight_69 : decode m_Bi_shiftRight.2.1 69 = .ok (.putfield 13, 3) := by decide +kernel
theorem dc_Bi_shiftRight_72 : decode m_Bi_shiftRight.2.1 72 = .ok (.aload_n 0, 1) := by decide +kernel
theorem dc_Bi_shiftRight_73 : decode m_Bi_shiftRight.2.1 73 = .ok (.getfield 13, 3) := by decide +kernel
theorem dc_Bi_shiftRight_76 : decode m_Bi_shiftRight.2.1 76 = .ok (.ifCond .le 23, 3) := by decide +kernel
theorem dc_Bi_shiftRight_79 : decode m_Bi_shiftRight.2.1 79 = .ok (.aload_n 0, 1) := by decide +kernel
theorem dc_Bi_shiftRight_80 : decode m_Bi_shiftRight.2.1 80 = .ok (.getfield 9, 3) := by decide +kernel
theorem dc_Bi_shiftRight_83 : decode m_Bi_shiftRight.2.1 83 = .ok (.iload_n 2, 1) := by decide +kernel
theorem dc_Bi_shiftRight_84 : decode m_Bi_shiftRight.2.1 84 = .ok (.iaload, 1) := by decide +kernel
theorem dc_Bi_shiftRight_85 : decode m_Bi_shiftRight.2.1 85 = .ok (.iconst 1, 1) := by decide +kernel
theorem dc_Bi_shiftRight_86 : decode m_Bi_shiftRight.2.1 86 = .ok (.iload_n 3, 1) := by decide +kernel
theorem dc_Bi_shiftRight_87 : decode m_Bi_shiftRight.2.1 87 = .ok (.ishl, 1) := by decide +kernel
theorem dc_Bi_shiftRight_88 : decode m_Bi_shiftRight.2.1 88 = .ok (.iconst 1, 1) := by decide +kernel
theorem dc_Bi_shiftRight_89 : decode m_Bi_shiftRight.2.1 89 = .ok (.isub, 1) := by decide +kernel
theorem dc_Bi_shiftRight_90 : decode m_Bi_shiftRight.2.1 90 = .ok (.iand, 1) := by decide +kernel
theorem dc_Bi_shiftRight_91 : decode m_Bi_shiftRight.2.1 91 = .ok (.ifCond .eq 8, 3) := by decide +kernel
theorem dc_Bi_shiftRight_94 : decode m_Bi_shiftRight.2.1 94 = .ok (.aload_n 0, 1) := by decide +kernel
theorem dc_Bi_shiftRight_95 : decode m_Bi_shiftRight.2.1 95 = .ok (.iconst 1, 1) := by decide +kernel
theorem dc_Bi_shiftRight_96 : decode m_Bi_shiftRight.2.1 96 = .ok (.putfield 17, 3) := by decide +kernel
theorem dc_Bi_shiftRight_99 : decode m_Bi_shiftRight.2.1 99 = .ok (.iconst 0, 1) := by decide +kernel
theorem dc_Bi_shiftRight_100 : decode m_Bi_shiftRight.2.1 100 = .ok (.istore 4, 2) := by decide +kernel
theorem dc_Bi_shiftRight_102 : decode m_Bi_shiftRight.2.1 102 = .ok (.iload 4, 2) := by decide +kernel
theorem dc_Bi_shiftRight_104 : decode m_Bi_shiftRight.2.1 104 = .ok (.aload_n 0, 1) := by decide +kernel
theorem dc_Bi_shiftRight_105 : decode m_Bi_shiftRight.2.1 105 = .ok (.getfield 13, 3) := by decide +kernel
theorem dc_Bi_shiftRight_108 : decode m_Bi_shiftRight.2.1 108 = .ok (.if_icmp .ge 80, 3) := by decide +kernel
theorem dc_Bi_shiftRight_111 : decode m_Bi_shiftRight.2.1 111 = .ok (.aload_n 0, 1) := by decide +kernel
theorem dc_Bi_shiftRight_112 : decode m_Bi_shiftRight.2.1 112 = .ok (.getfield 9, 3) := by decide +kernel
theorem dc_Bi_shiftRight_115 : decode m_Bi_shiftRight.2.1 115 = .ok (.iload 4, 2) := by decide +kernel
theorem dc_Bi_shiftRight_117 : decode m_Bi_shiftRight.2.1 117 = .ok (.iload_n 2, 1) := by decide +kernel
theorem dc_Bi_shiftRight_118 : decode m_Bi_shiftRight.2.1 118 = .ok (.iadd, 1) := by decide +kernel
theorem dc_Bi_shiftRight_119 : decode m_Bi_shiftRight.2.1 119 = .ok (.iaload, 1) := by decide +kernel
theorem dc_Bi_shiftRight_120 : decode m_Bi_shiftRight.2.1 120 = .ok (.iload_n 3, 1) := by decide +kernel
theorem dc_Bi_shiftRight_121 : decode m_Bi_shiftRight.2.1 121 = .ok (.iushr, 1) := by decide +kernel
theorem dc_Bi_shiftRight_122 : decode m_Bi_shiftRight.2.1 122 = .ok (.istore 5, 2) := by decide +kernel
theorem dc_Bi_shiftRight_124 : decode m_Bi_shiftRight.2.1 124 = .ok (.iload_n 3, 1) := by decide +kernel
theorem dc_Bi_shiftRight_125 : decode m_Bi_shiftRight.2.1 125 = .ok (.ifCond .le 18, 3) := by decide +kernel
theorem dc_Bi_shiftRight_128 : decode m_Bi_shiftRight.2.1 128 = .ok (.iload 4, 2) := by decide +kernel
theorem dc_Bi_shiftRight_130 : decode m_Bi_shiftRight.2.1 130 = .ok (.aload_n 0, 1) := by decide +kernel
theorem dc_Bi_shiftRight_131 : decode m_Bi_shiftRight.2.1 131 = .ok (.getfield 13, 3) := by decide +kernel
theorem dc_Bi_shiftRight_134 : decode m_Bi_shiftRight.2.1 134 = .ok (.iconst 1, 1) := by decide +kernel
theorem dc_Bi_shiftRight_135 : decode m_Bi_shiftRight.2.1 135 = .ok (.isub, 1) := by decide +kernel
theorem dc_Bi_shiftRight_136 : decode m_Bi_shiftRight.2.1 136 = .ok (.if_icmp .ge 7, 3) := by decide +kernel
theorem dc_Bi_shiftRight_139 : decode m_Bi_shiftRight.2.1 139 = .ok (.iconst 1, 1) := by decide +kernel
theorem dc_Bi_shiftRight_140 : decode m_Bi_shiftRight.2.1 140 = .ok (.goto 4, 3) := by decide +kernel
theorem dc_Bi_shiftRight_143 : decode m_Bi_shiftRight.2.1 143 = .ok (.iconst 0, 1) := by decide +kernel
theorem dc_Bi_shiftRight_144 : decode m_Bi_shiftRight.2.1 144 = .ok (.istore 6, 2) := by decide +kernel
theorem dc_Bi_shiftRight_146 : decode m_Bi_shiftRight.2.1 146 = .ok (.aload_n 0, 1) := by decide +kernel
theorem dc_Bi_shiftRight_147 : decode m_Bi_shiftRight.2.1 147 = .ok (.getfield 9, 3) := by decide +kernel
theorem dc_Bi_shiftRight_150 : decode m_Bi_shiftRight.2.1 150 = .ok (.iload 4, 2) := by decide +kernel
theorem dc_Bi_shiftRight_152 : decode m_Bi_shiftRight.2.1 152 = .ok (.iload 6, 2) := by decide +kernel
theorem dc_Bi_shiftRight_154 : decode m_Bi_shiftRight.2.1 154 = .ok (.ifCond .eq 25, 3) := by decide +kernel
theorem dc_Bi_shiftRight_157 : decode m_Bi_shiftRight.2.1 157 = .ok (.iload 5, 2) := by decide +kernel
theorem dc_Bi_shiftRight_159 : decode m_Bi_shiftRight.2.1 159 = .ok (.aload_n 0, 1) := by decide +kernel
theorem dc_Bi_shiftRight_160 : decode m_Bi_shiftRight.2.1 160 = .ok (.getfield 9, 3) := by decide +kernel
theorem dc_Bi_shiftRight_163 : decode m_Bi_shiftRight.2.1 163 = .ok (.iload 4, 2) := by decide +kernel
theorem dc_Bi_shiftRight_165 : decode m_Bi_shiftRight.2.1 165 = .ok (.iload_n 2, 1) := by decide +kernel
theorem dc_Bi_shiftRight_166 : decode m_Bi_shiftRight.2.1 166 = .ok (.iadd, 1) := by decide +kernel
theorem dc_Bi_shiftRight_167 : decode m_Bi_shiftRight.2.1 167 = .ok (.iconst 1, 1) := by decide +kernel
theorem dc_Bi_shiftRight_168 : decode m_Bi_shiftRight.2.1 168 = .ok (.iadd, 1) := by decide +kernel
theorem dc_Bi_shiftRight_169 : decode m_Bi_shiftRight.2.1 169 = .ok (.iaload, 1) := by decide +kernel
theorem dc_Bi_shiftRight_170 : decode m_Bi_shiftRight.2.1 170 = .ok (.bipush 32, 2) := by decide +kernel
theorem dc_Bi_shiftRight_172 : decode m_Bi_shiftRight.2.1 172 = .ok (.iload_n 3, 1) := by decide +kernel
theorem dc_Bi_shiftRight_173 : decode m_Bi_shiftRight.2.1 173 = .ok (.isub, 1) := by decide +kernel
theorem dc_Bi_shiftRight_174 : decode m_Bi_shiftRight.2.1 174 = .ok (.ishl, 1) := by decide +kernel
theorem dc_Bi_shiftRight_175 : decode m_Bi_shiftRight.2.1 175 = .ok (.ior, 1) := by decide +kernel
theorem dc_Bi_shiftRight_176 : decode m_Bi_shiftRight.2.1 176 = .ok (.goto 5, 3) := by decide +kernel
theorem dc_Bi_shiftRight_179 : decode m_Bi_shiftRight.2.1 179 = .ok (.iload 5, 2) := by decide +kernel
theorem dc_Bi_shiftRight_181 : decode m_Bi_shiftRight.2.1 181 = .ok (.iastore, 1) := by decide +kernel
theorem dc_Bi_shiftRight_182 : decode m_Bi_shiftRight.2.1 182 = .ok (.iinc 4 1, 3) := by decide +kernel
theorem dc_Bi_shiftRight_185 : decode m_Bi_shiftRight.2.1 185 = .ok (.goto (-83), 3) := by decide +kernel
theorem dc_Bi_shiftRight_188 : decode m_Bi_shiftRight.2.1 188 = .ok (.aload_n 0, 1) := by decide +kernel
theorem dc_Bi_shiftRight_189 : decode m_Bi_shiftRight.2.1 189 = .ok (.invokevirtual 45, 3) := by decide +kernel
theorem dc_Bi_shiftRight_192 : decode m_Bi_shiftRight.2.1 192 = .ok (.return_, 1) := by decide +kernel
theorem b_Bi_shiftRight_0 {E : En_t} {d : Nat} {σ : S_t} {Q : Option Value → S_t → Prop} {o0 : Nat} {x1 : Int32} (hk_o0 : kindP o0 = 5)
    (h : (0 < x1 → ∀ r1, r1 = mnI (x1 >>> ((5 : Int32) &&& 31)) (gI σ o0 1) → (JE E (d + 1) m_Bi_shiftRight 24 [(0, pv E o0), (2, .int r1), (3, .int (x1 &&& (31 : Int32))), (4, .int (0 : Int32))] [] σ Q)) ∧ (¬ 0 < x1 → Q none σ)) :
    JE E (d + 1) m_Bi_shiftRight 0 [(0, pv E o0), (1, .int x1)] [] σ Q := by
  refine J_iload_n dc_Bi_shiftRight_0 (Eq.refl 1) 1 rfl ?_
  refine J_if_gt dc_Bi_shiftRight_1 (Eq.refl 4) rfl (fun hc => ?_) (fun hc => ?_)
  · have h := h.1 hc
    refine J_iload_n dc_Bi_shiftRight_5 (Eq.refl 6) 1 rfl ?_
    refine J_iconst (v := (5 : Int32)) dc_Bi_shiftRight_6 (Eq.refl 7) rfl ?_
    refine J_ishr dc_Bi_shiftRight_7 (Eq.refl 8) ?_
    refine J_aload_n dc_Bi_shiftRight_8 (Eq.refl 9) 0 rfl ?_
    refine J_getI dc_Bi_shiftRight_9 (Eq.refl 12) fl_Bi_13 (Nat.le_of_ble_eq_true rfl) hk_o0 (Or.inl rfl) ?_
    refine J_mmin dc_Bi_shiftRight_12 (Eq.refl 15) lk_Bi_32 (Nat.le_of_ble_eq_true rfl) (fun r1 er1 => ?_)
    have h := h r1 er1
    refine J_istore_n (L' := [(2, .int r1), (0, pv E o0), (1, .int x1)]) dc_Bi_shiftRight_15 (Eq.refl 16) (Nat.le_of_ble_eq_true rfl) rfl ?_
    refine J_iload_n dc_Bi_shiftRight_16 (Eq.refl 17) 2 rfl ?_
    refine J_bipush (v := (31 : Int32)) dc_Bi_shiftRight_17 (Eq.refl 19) rfl ?_
    refine J_iand dc_Bi_shiftRight_19 (Eq.refl 20) ?_
    refine J_istore_n (L' := [(3, .int (x1 &&& (31 : Int32))), (2, .int r1), (0, pv E o0), (1, .int x1)]) dc_Bi_shiftRight_20 (Eq.refl 21) (Nat.le_of_ble_eq_true rfl) rfl ?_
    refine J_iconst (v := (0 : Int32)) dc_Bi_shiftRight_21 (Eq.refl 22) rfl ?_
    refine J_istore (L' := [(4, .int (0 : Int32)), (3, .int (x1 &&& (31 : Int32))), (2, .int r1), (0, pv E o0), (1, .int x1)]) dc_Bi_shiftRight_22 (Eq.refl 24) (Nat.le_of_ble_eq_true rfl) rfl ?_
    refine J_sub [3, 2, 1, 0] rfl ?_
    exact h
  · have h := h.2 hc
    exact J_vret dc_Bi_shiftRight_4 rfl h
theorem b_Bi_shiftRight_24 {E : En_t} {d : Nat} {σ : S_t} {Q : Option Value → S_t → Prop} {o0 : Nat} {x2 : Int32} {x3 : Int32} {x4 : Int32} (hk_o0 : kindP o0 = 5)
    (h : (x2 ≤ x4 → ((gI (sI σ o0 1 ((gI σ o0 1) - x2)) o0 1) ≤ 0 → JE E (d + 1) m_Bi_shiftRight 99 [(0, pv E o0), (2, .int x2), (3, .int x3)] [] (sI σ o0 1 ((gI σ o0 1) - x2)) Q) ∧ (¬ (gI (sI σ o0 1 ((gI σ o0 1) - x2)) o0 1) ≤ 0 → vp_in x2 96 ∧ (∀ v1, v1 = (gI (sI σ o0 1 ((gI σ o0 1) - x2)) (o0 + 1) x2.toNatClampNeg) &&& (((1 : Int32) <<< (x3 &&& 31)) - (1 : Int32)) → ((v1 = 0 → JE E (d + 1) m_Bi_shiftRight 99 [(0, pv E o0), (2, .int x2), (3, .int x3)] [] (sI σ o0 1 ((gI σ o0 1) - x2)) Q) ∧ (¬ v1 = 0 → JE E (d + 1) m_Bi_shiftRight 99 [(0, pv E o0), (2, .int x2), (3, .int x3)] [] (sI (sI σ o0 1 ((gI σ o0 1) - x2)) o0 2 (1 : Int32)) Q))))) ∧ (¬ x2 ≤ x4 → (¬ (gI σ o0 2) = 0 → JE E (d + 1) m_Bi_shiftRight 48 [(0, pv E o0), (2, .int x2), (3, .int x3), (4, .int x4)] [pv E o0] σ Q) ∧ ((gI σ o0 2) = 0 → vp_in x4 96 ∧ (((gI σ (o0 + 1) x4.toNatClampNeg) = 0 → JE E (d + 1) m_Bi_shiftRight 53 [(0, pv E o0), (2, .int x2), (3, .int x3), (4, .int x4)] [.int (0 : Int32), pv E o0] σ Q) ∧ (¬ (gI σ (o0 + 1) x4.toNatClampNeg) = 0 → JE E (d + 1) m_Bi_shiftRight 48 [(0, pv E o0), (2, .int x2), (3, .int x3), (4, .int x4)] [pv E o0] σ Q))))) :
    JE E (d + 1) m_Bi_shiftRight 24 [(0, pv E o0), (2, .int x2), (3, .int x3), (4, .int x4)] [] σ Q := by
  refine J_iload dc_Bi_shiftRight_24 (Eq.refl 26) 3 rfl ?_
  refine J_iload_n dc_Bi_shiftRight_26 (Eq.refl 27) 1 rfl ?_
  refine J_icmp_ge dc_Bi_shiftRight_27 (Eq.refl 30) rfl (fun hc => ?_) (fun hc => ?_)
  · have h := h.1 hc
    refine J_aload_n dc_Bi_shiftRight_62 (Eq.refl 63) 0 rfl ?_
    refine J_dup dc_Bi_shiftRight_63 (Eq.refl 64) rfl ?_
    refine J_getI dc_Bi_shiftRight_64 (Eq.refl 67) fl_Bi_13 (Nat.le_of_ble_eq_true rfl) hk_o0 (Or.inl rfl) ?_
    refine J_iload_n dc_Bi_shiftRight_67 (Eq.refl 68) 1 rfl ?_
    refine J_isub dc_Bi_shiftRight_68 (Eq.refl 69) ?_
    refine J_putI dc_Bi_shiftRight_69 (Eq.refl 72) pl_Bi_13 (Nat.le_of_ble_eq_true rfl) hk_o0 rfl ?_
    refine J_aload_n dc_Bi_shiftRight_72 (Eq.refl 73) 0 rfl ?_
    refine J_getI dc_Bi_shiftRight_73 (Eq.refl 76) fl_Bi_13 (Nat.le_of_ble_eq_true rfl) hk_o0 (Or.inl rfl) ?_
    refine J_if_le dc_Bi_shiftRight_76 (Eq.refl 79) rfl (fun hc => ?_) (fun hc => ?_)
    · have h := h.1 hc
      refine J_sub [0, 1, 2] rfl ?_
      exact h
    · have h := h.2 hc
      refine J_aload_n dc_Bi_shiftRight_79 (Eq.refl 80) 0 rfl ?_
      refine J_getF (y := o0 + 1) dc_Bi_shiftRight_80 (Eq.refl 83) fl_Bi_9 (Nat.le_of_ble_eq_true rfl) hk_o0 (Or.inl rfl) rfl ?_
      refine J_iload_n dc_Bi_shiftRight_83 (Eq.refl 84) 1 rfl ?_
      obtain ⟨hg, h⟩ := h
      refine J_iald dc_Bi_shiftRight_84 (Eq.refl 85) (ak_Bi_0 hk_o0).1 (ak_Bi_0 hk_o0).2 hg ?_
      refine J_iconst (v := (1 : Int32)) dc_Bi_shiftRight_85 (Eq.refl 86) rfl ?_
      refine J_iload_n dc_Bi_shiftRight_86 (Eq.refl 87) 2 rfl ?_
      refine J_ishl dc_Bi_shiftRight_87 (Eq.refl 88) ?_
      refine J_iconst (v := (1 : Int32)) dc_Bi_shiftRight_88 (Eq.refl 89) rfl ?_
      refine J_isub dc_Bi_shiftRight_89 (Eq.refl 90) ?_
      refine J_iand dc_Bi_shiftRight_90 (Eq.refl 91) ?_
      refine J_topi (fun v1 ev1 => ?_)
      have h := h v1 ev1
      refine J_if_eq dc_Bi_shiftRight_91 (Eq.refl 94) rfl (fun hc => ?_) (fun hc => ?_)
      · have h := h.1 hc
        refine J_sub [0, 1, 2] rfl ?_
        exact h
      · have h := h.2 hc
        refine J_aload_n dc_Bi_shiftRight_94 (Eq.refl 95) 0 rfl ?_
        refine J_iconst (v := (1 : Int32)) dc_Bi_shiftRight_95 (Eq.refl 96) rfl ?_
        refine J_putZ dc_Bi_shiftRight_96 (Eq.refl 99) pl_Bi_17 (Nat.le_of_ble_eq_true rfl) hk_o0 rfl (Or.inr rfl) ?_
        refine J_sub [0, 1, 2] rfl ?_
        exact h
  · have h := h.2 hc
    refine J_aload_n dc_Bi_shiftRight_30 (Eq.refl 31) 0 rfl ?_
    refine J_aload_n dc_Bi_shiftRight_31 (Eq.refl 32) 0 rfl ?_
    refine J_getI dc_Bi_shiftRight_32 (Eq.refl 35) fl_Bi_17 (Nat.le_of_ble_eq_true rfl) hk_o0 (Or.inr rfl) ?_
    refine J_if_ne dc_Bi_shiftRight_35 (Eq.refl 38) rfl (fun hc => ?_) (fun hc => ?_)
    · have h := h.1 hc
      exact h
    · have h := h.2 hc
      refine J_aload_n dc_Bi_shiftRight_38 (Eq.refl 39) 0 rfl ?_
      refine J_getF (y := o0 + 1) dc_Bi_shiftRight_39 (Eq.refl 42) fl_Bi_9 (Nat.le_of_ble_eq_true rfl) hk_o0 (Or.inl rfl) rfl ?_
      refine J_iload dc_Bi_shiftRight_42 (Eq.refl 44) 3 rfl ?_
      obtain ⟨hg, h⟩ := h
      refine J_iald dc_Bi_shiftRight_44 (Eq.refl 45) (ak_Bi_0 hk_o0).1 (ak_Bi_0 hk_o0).2 hg ?_
      refine J_if_eq dc_Bi_shiftRight_45 (Eq.refl 48) rfl (fun hc => ?_) (fun hc => ?_)
      · have h := h.1 hc
        refine J_iconst (v := (0 : Int32)) dc_Bi_shiftRight_52 (Eq.refl 53) rfl ?_
        exact h
      · have h := h.2 hc
        exact h
theorem b_Bi_shiftRight_48 {E : En_t} {d : Nat} {σ : S_t} {Q : Option Value → S_t → Prop} {o0 : Nat} {x2 : Int32} {x3 : Int32} {x4 : Int32} {q0 : Nat} (hk_o0 : kindP o0 = 5) (hk_q0 : kindP q0 = 5)
    (h : JE E (d + 1) m_Bi_shiftRight 53 [(0, pv E o0), (2, .int x2), (3, .int x3), (4, .int x4)] [.int (1 : Int32), pv E q0] σ Q) :
    JE E (d + 1) m_Bi_shiftRight 48 [(0, pv E o0), (2, .int x2), (3, .int x3), (4, .int x4)] [pv E q0] σ Q := by
  refine J_iconst (v := (1 : Int32)) dc_Bi_shiftRight_48 (Eq.refl 49) rfl ?_
  refine J_goto dc_Bi_shiftRight_49 rfl ?_
  exact h
theorem b_Bi_shiftRight_53 {E : En_t} {d : Nat} {σ : S_t} {Q : Option Value → S_t → Prop} {o0 : Nat} {x2 : Int32} {x3 : Int32} {x4 : Int32} {s0 : Int32} {q1 : Nat} (hk_o0 : kindP o0 = 5) (hk_q1 : kindP q1 = 5)
    (h : (s0 = 0 ∨ s0 = 1) ∧ (JE E (d + 1) m_Bi_shiftRight 24 [(0, pv E o0), (2, .int x2), (3, .int x3), (4, .int (x4 + (1 : Int32)))] [] (sI σ q1 2 s0) Q)) :
    JE E (d + 1) m_Bi_shiftRight 53 [(0, pv E o0), (2, .int x2), (3, .int x3), (4, .int x4)] [.int s0, pv E q1] σ Q := by
  obtain ⟨hg, h⟩ := h
  refine J_putZ dc_Bi_shiftRight_53 (Eq.refl 56) pl_Bi_17 (Nat.le_of_ble_eq_true rfl) hk_q1 rfl hg ?_
  refine J_iinc (v := x4 + (1 : Int32)) (L' := [(4, .int (x4 + (1 : Int32))), (0, pv E o0), (2, .int x2), (3, .int x3)]) dc_Bi_shiftRight_56 (Eq.refl 59) 3 rfl rfl (Nat.le_of_ble_eq_true rfl) rfl ?_
  refine J_goto dc_Bi_shiftRight_59 rfl ?_
  refine J_sub [1, 2, 3, 0] rfl ?_
  exact h
theorem b_Bi_shiftRight_99 {E : En_t} {d : Nat} {σ : S_t} {Q : Option Value → S_t → Prop} {o0 : Nat} {x2 : Int32} {x3 : Int32} (hk_o0 : kindP o0 = 5)
    (h : JE E (d + 1) m_Bi_shiftRight 102 [(0, pv E o0), (2, .int x2), (3, .int x3), (4, .int (0 : Int32))] [] σ Q) :
    JE E (d + 1) m_Bi_shiftRight 99 [(0, pv E o0), (2, .int x2), (3, .int x3)] [] σ Q := by
  refine J_iconst (v := (0 : Int32)) dc_Bi_shiftRight_99 (Eq.refl 100) rfl ?_
  refine J_istore (L' := [(4, .int (0 : Int32)), (0, pv E o0), (2, .int x2), (3, .int x3)]) dc_Bi_shiftRight_100 (Eq.refl 102) (Nat.le_of_ble_eq_true rfl) rfl ?_
  refine J_sub [1, 2, 3, 0] rfl ?_
  exact h
theorem b_Bi_shiftRight_102 {E : En_t} {d : Nat} {σ : S_t} {Q : Option Value → S_t → Prop} {o0 : Nat} {x2 : Int32} {x3 : Int32} {x4 : Int32} (hk_o0 : kindP o0 = 5)
    (h : ((gI σ o0 1) ≤ x4 → CV E d m_Bi_dropZeroLimb [pv E o0] σ (fun σ1 => Q none σ1)) ∧ (¬ (gI σ o0 1) ≤ x4 → vp_in (x4 + x2) 96 ∧ ((x3 ≤ 0 → JE E (d + 1) m_Bi_shiftRight 143 [(0, pv E o0), (2, .int x2), (3, .int x3), (4, .int x4), (5, .int (((gI σ (o0 + 1) (x4 + x2).toNatClampNeg).toUInt32 >>> (x3.toUInt32 &&& Int32.toUInt32 31)).toInt32))] [] σ Q) ∧ (¬ x3 ≤ 0 → (((gI σ o0 1) - (1 : Int32)) ≤ x4 → JE E (d + 1) m_Bi_shiftRight 143 [(0, pv E o0), (2, .int x2), (3, .int x3), (4, .int x4), (5, .int (((gI σ (o0 + 1) (x4 + x2).toNatClampNeg).toUInt32 >>> (x3.toUInt32 &&& Int32.toUInt32 31)).toInt32))] [] σ Q) ∧ (¬ ((gI σ o0 1) - (1 : Int32)) ≤ x4 → JE E (d + 1) m_Bi_shiftRight 144 [(0, pv E o0), (2, .int x2), (3, .int x3), (4, .int x4), (5, .int (((gI σ (o0 + 1) (x4 + x2).toNatClampNeg).toUInt32 >>> (x3.toUInt32 &&& Int32.toUInt32 31)).toInt32))] [.int (1 : Int32)] σ Q))))) :
    JE E (d + 1) m_Bi_shiftRight 102 [(0, pv E o0), (2, .int x2), (3, .int x3), (4, .int x4)] [] σ Q := by
  refine J_iload dc_Bi_shiftRight_102 (Eq.refl 104) 3 rfl ?_
  refine J_aload_n dc_Bi_shiftRight_104 (Eq.refl 105) 0 rfl ?_
  refine J_getI dc_Bi_shiftRight_105 (Eq.refl 108) fl_Bi_13 (Nat.le_of_ble_eq_true rfl) hk_o0 (Or.inl rfl) ?_
  refine J_icmp_ge dc_Bi_shiftRight_108 (Eq.refl 111) rfl (fun hc => ?_) (fun hc => ?_)
  · have h := h.1 hc
    refine J_aload_n dc_Bi_shiftRight_188 (Eq.refl 189) 0 rfl ?_
    refine J_callVV (As := []) (st := []) dc_Bi_shiftRight_189 (Eq.refl 192) lk_Bi_45 mi_Bi_dropZeroLimb hk_o0 (Nat.le_of_ble_eq_true rfl) rfl rfl (Nat.le_of_ble_eq_true rfl) rfl (Nat.le_of_ble_eq_true rfl) (CV.mono h (fun σ1 h => ?_))
    exact J_vret dc_Bi_shiftRight_192 rfl h
  · have h := h.2 hc
    refine J_aload_n dc_Bi_shiftRight_111 (Eq.refl 112) 0 rfl ?_
    refine J_getF (y := o0 + 1) dc_Bi_shiftRight_112 (Eq.refl 115) fl_Bi_9 (Nat.le_of_ble_eq_true rfl) hk_o0 (Or.inl rfl) rfl ?_
    refine J_iload dc_Bi_shiftRight_115 (Eq.refl 117) 3 rfl ?_
    refine J_iload_n dc_Bi_shiftRight_117 (Eq.refl 118) 1 rfl ?_
    refine J_iadd dc_Bi_shiftRight_118 (Eq.refl 119) ?_
    obtain ⟨hg, h⟩ := h
    refine J_iald dc_Bi_shiftRight_119 (Eq.refl 120) (ak_Bi_0 hk_o0).1 (ak_Bi_0 hk_o0).2 hg ?_
    refine J_iload_n dc_Bi_shiftRight_120 (Eq.refl 121) 2 rfl ?_
    refine J_iushr dc_Bi_shiftRight_121 (Eq.refl 122) ?_
    refine J_istore (L' := [(5, .int (((gI σ (o0 + 1) (x4 + x2).toNatClampNeg).toUInt32 >>> (x3.toUInt32 &&& Int32.toUInt32 31)).toInt32)), (0, pv E o0), (2, .int x2), (3, .int x3), (4, .int x4)]) dc_Bi_shiftRight_122 (Eq.refl 124) (Nat.le_of_ble_eq_true rfl) rfl ?_
    refine J_iload_n dc_Bi_shiftRight_124 (Eq.refl 125) 3 rfl ?_
    refine J_if_le dc_Bi_shiftRight_125 (Eq.refl 128) rfl (fun hc => ?_) (fun hc => ?_)
    · have h := h.1 hc
      refine J_sub [1, 2, 3, 4, 0] rfl ?_
      exact h
    · have h := h.2 hc
      refine J_iload dc_Bi_shiftRight_128 (Eq.refl 130) 4 rfl ?_
      refine J_aload_n dc_Bi_shiftRight_130 (Eq.refl 131) 1 rfl ?_
      refine J_getI dc_Bi_shiftRight_131 (Eq.refl 134) fl_Bi_13 (Nat.le_of_ble_eq_true rfl) hk_o0 (Or.inl rfl) ?_
      refine J_iconst (v := (1 : Int32)) dc_Bi_shiftRight_134 (Eq.refl 135) rfl ?_
      refine J_isub dc_Bi_shiftRight_135 (Eq.refl 136) ?_
      refine J_icmp_ge dc_Bi_shiftRight_136 (Eq.refl 139) rfl (fun hc => ?_) (fun hc => ?_)
      · have h := h.1 hc
        refine J_sub [1, 2, 3, 4, 0] rfl ?_
        exact h
      · have h := h.2 hc
        refine J_iconst (v := (1 : Int32)) dc_Bi_shiftRight_139 (Eq.refl 140) rfl ?_
        refine J_goto dc_Bi_shiftRight_140 rfl ?_
        refine J_sub [1, 2, 3, 4, 0] rfl ?_
        exact h
theorem b_Bi_shiftRight_143 {E : En_t} {d : Nat} {σ : S_t} {Q : Option Value → S_t → Prop} {o0 : Nat} {x2 : Int32} {x3 : Int32} {x4 : Int32} {x5 : Int32} (hk_o0 : kindP o0 = 5)
    (h : JE E (d + 1) m_Bi_shiftRight 144 [(0, pv E o0), (2, .int x2), (3, .int x3), (4, .int x4), (5, .int x5)] [.int (0 : Int32)] σ Q) :
    JE E (d + 1) m_Bi_shiftRight 143 [(0, pv E o0), (2, .int x2), (3, .int x3), (4, .int x4), (5, .int x5)] [] σ Q := by
  refine J_iconst (v := (0 : Int32)) dc_Bi_shiftRight_143 (Eq.refl 144) rfl ?_
  exact h
theorem b_Bi_shiftRight_144 {E : En_t} {d : Nat} {σ : S_t} {Q : Option Value → S_t → Prop} {o0 : Nat} {x2 : Int32} {x3 : Int32} {x4 : Int32} {x5 : Int32} {s0 : Int32} (hk_o0 : kindP o0 = 5)
    (h : (s0 = 0 → JE E (d + 1) m_Bi_shiftRight 181 [(0, pv E o0), (2, .int x2), (3, .int x3), (4, .int x4)] [.int x5, .int x4, pv E (o0 + 1)] σ Q) ∧ (¬ s0 = 0 → vp_in ((x4 + x2) + (1 : Int32)) 96 ∧ (JE E (d + 1) m_Bi_shiftRight 181 [(0, pv E o0), (2, .int x2), (3, .int x3), (4, .int x4)] [.int (x5 ||| ((gI σ (o0 + 1) ((x4 + x2) + (1 : Int32)).toNatClampNeg) <<< (((32 : Int32) - x3) &&& 31))), .int x4, pv E (o0 + 1)] σ Q))) :
    JE E (d + 1) m_Bi_shiftRight 144 [(0, pv E o0), (2, .int x2), (3, .int x3), (4, .int x4), (5, .int x5)] [.int s0] σ Q := by
  refine J_istore (L' := [(6, .int s0), (0, pv E o0), (2, .int x2), (3, .int x3), (4, .int x4), (5, .int x5)]) dc_Bi_shiftRight_144 (Eq.refl 146) (Nat.le_of_ble_eq_true rfl) rfl ?_
  refine J_aload_n dc_Bi_shiftRight_146 (Eq.refl 147) 1 rfl ?_
  refine J_getF (y := o0 + 1) dc_Bi_shiftRight_147 (Eq.refl 150) fl_Bi_9 (Nat.le_of_ble_eq_true rfl) hk_o0 (Or.inl rfl) rfl ?_
  refine J_iload dc_Bi_shiftRight_150 (Eq.refl 152) 4 rfl ?_
  refine J_iload dc_Bi_shiftRight_152 (Eq.refl 154) 0 rfl ?_
  refine J_if_eq dc_Bi_shiftRight_154 (Eq.refl 157) rfl (fun hc => ?_) (fun hc => ?_)
  · have h := h.1 hc
    refine J_iload dc_Bi_shiftRight_179 (Eq.refl 181) 5 rfl ?_
    refine J_sub [1, 2, 3, 4] rfl ?_
    exact h
  · have h := h.2 hc
    refine J_iload dc_Bi_shiftRight_157 (Eq.refl 159) 5 rfl ?_
    refine J_aload_n dc_Bi_shiftRight_159 (Eq.refl 160) 1 rfl ?_
    refine J_getF (y := o0 + 1) dc_Bi_shiftRight_160 (Eq.refl 163) fl_Bi_9 (Nat.le_of_ble_eq_true rfl) hk_o0 (Or.inl rfl) rfl ?_
    refine J_iload dc_Bi_shiftRight_163 (Eq.refl 165) 4 rfl ?_
    refine J_iload_n dc_Bi_shiftRight_165 (Eq.refl 166) 2 rfl ?_
    refine J_iadd dc_Bi_shiftRight_166 (Eq.refl 167) ?_
    refine J_iconst (v := (1 : Int32)) dc_Bi_shiftRight_167 (Eq.refl 168) rfl ?_
    refine J_iadd dc_Bi_shiftRight_168 (Eq.refl 169) ?_
    obtain ⟨hg, h⟩ := h
    refine J_iald dc_Bi_shiftRight_169 (Eq.refl 170) (ak_Bi_0 hk_o0).1 (ak_Bi_0 hk_o0).2 hg ?_
    refine J_bipush (v := (32 : Int32)) dc_Bi_shiftRight_170 (Eq.refl 172) rfl ?_
    refine J_iload_n dc_Bi_shiftRight_172 (Eq.refl 173) 3 rfl ?_
    refine J_isub dc_Bi_shiftRight_173 (Eq.refl 174) ?_
    refine J_ishl dc_Bi_shiftRight_174 (Eq.refl 175) ?_
    refine J_ior dc_Bi_shiftRight_175 (Eq.refl 176) ?_
    refine J_goto dc_Bi_shiftRight_176 rfl ?_
    refine J_sub [1, 2, 3, 4] rfl ?_
    exact h
theorem b_Bi_shiftRight_181 {E : En_t} {d : Nat} {σ : S_t} {Q : Option Value → S_t → Prop} {o0 : Nat} {x2 : Int32} {x3 : Int32} {x4 : Int32} {s0 : Int32} {s1 : Int32} {q2 : Nat} (hk_o0 : kindP o0 = 5) (hk_q2 : kindP q2 = 20)
    (h : vp_in s1 (lenP q2) ∧ (JE E (d + 1) m_Bi_shiftRight 102 [(0, pv E o0), (2, .int x2), (3, .int x3), (4, .int (x4 + (1 : Int32)))] [] (sI σ q2 s1.toNatClampNeg s0) Q)) :
    JE E (d + 1) m_Bi_shiftRight 181 [(0, pv E o0), (2, .int x2), (3, .int x3), (4, .int x4)] [.int s0, .int s1, pv E q2] σ Q := by
  obtain ⟨hg, h⟩ := h
  refine J_iast dc_Bi_shiftRight_181 (Eq.refl 182) hk_q2 rfl hg ?_
  refine J_iinc (v := x4 + (1 : Int32)) (L' := [(4, .int (x4 + (1 : Int32))), (0, pv E o0), (2, .int x2), (3, .int x3)]) dc_Bi_shiftRight_182 (Eq.refl 185) 3 rfl rfl (Nat.le_of_ble_eq_true rfl) rfl ?_
  refine J_goto dc_Bi_shiftRight_185 rfl ?_
  refine J_sub [1, 2, 3, 0] rfl ?_
  exact h
theorem dc_Bi_low_0 : decode m_Bi_low.2.1 0 = .ok (.aload_n 0, 1) := by decide +kernel
theorem dc_Bi_low_1 : decode m_Bi_low.2.1 1 = .ok (.getfield 13, 3) := by decide +kernel
theorem dc_Bi_low_4 : decode m_Bi_low.2.1 4 = .ok (.ifCond .le 17, 3) := by decide +kernel
theorem dc_Bi_low_7 : decode m_Bi_low.2.1 7 = .ok (.aload_n 0, 1) := by decide +kernel
theorem dc_Bi_low_8 : decode m_Bi_low.2.1 8 = .ok (.getfield 9, 3) := by decide +kernel
theorem dc_Bi_low_11 : decode m_Bi_low.2.1 11 = .ok (.iconst 0, 1) := by decide +kernel
theorem dc_Bi_low_12 : decode m_Bi_low.2.1 12 = .ok (.iaload, 1) := by decide +kernel
theorem dc_Bi_low_13 : decode m_Bi_low.2.1 13 = .ok (.i2l, 1) := by decide +kernel
theorem dc_Bi_low_14 : decode m_Bi_low.2.1 14 = .ok (.ldc2_w 27, 3) := by decide +kernel
theorem dc_Bi_low_17 : decode m_Bi_low.2.1 17 = .ok (.land, 1) := by decide +kernel
theorem dc_Bi_low_18 : decode m_Bi_low.2.1 18 = .ok (.goto 4, 3) := by decide +kernel
theorem dc_Bi_low_21 : decode m_Bi_low.2.1 21 = .ok (.lconst 0, 1) := by decide +kernel
theorem dc_Bi_low_22 : decode m_Bi_low.2.1 22 = .ok (.lstore_n 1, 1) := by decide +kernel
theorem dc_Bi_low_23 : decode m_Bi_low.2.1 23 = .ok (.aload_n 0, 1) := by decide +kernel
theorem dc_Bi_low_24 : decode m_Bi_low.2.1 24 = .ok (.getfield 13, 3) := by decide +kernel
theorem dc_Bi_low_27 : decode m_Bi_low.2.1 27 = .ok (.iconst 1, 1) := by decide +kernel
theorem dc_Bi_low_28 : decode m_Bi_low.2.1 28 = .ok (.if_icmp .le 18, 3) := by decide +kernel
theorem dc_Bi_low_31 : decode m_Bi_low.2.1 31 = .ok (.lload_n 1, 1) := by decide +kernel
theorem dc_Bi_low_32 : decode m_Bi_low.2.1 32 = .ok (.aload_n 0, 1) := by decide +kernel
theorem dc_Bi_low_33 : decode m_Bi_low.2.1 33 = .ok (.getfield 9, 3) := by decide +kernel
theorem dc_Bi_low_36 : decode m_Bi_low.2.1 36 = .ok (.iconst 1, 1) := by decide +kernel
theorem dc_Bi_low_37 : decode m_Bi_low.2.1 37 = .ok (.iaload, 1) := by decide +kernel
theorem dc_Bi_low_38 : decode m_Bi_low.2.1 38 = .ok (.i2l, 1) := by decide +kernel
theorem dc_Bi_low_39 : decode m_Bi_low.2.1 39 = .ok (.bipush 32, 2) := by decide +kernel
theorem dc_Bi_low_41 : decode m_Bi_low.2.1 41 = .ok (.lshl, 1) := by decide +kernel
theorem dc_Bi_low_42 : decode m_Bi_low.2.1 42 = .ok (.lor, 1) := by decide +kernel
theorem dc_Bi_low_43 : decode m_Bi_low.2.1 43 = .ok (.goto 4, 3) := by decide +kernel
theorem dc_Bi_low_46 : decode m_Bi_low.2.1 46 = .ok (.lload_n 1, 1) := by decide +kernel
theorem dc_Bi_low_47 : decode m_Bi_low.2.1 47 = .ok (.lreturn, 1) := by decide +kernel
theorem b_Bi_low_0 {E : En_t} {d : Nat} {σ : S_t} {Q : Option Value → S_t → Prop} {o0 : Nat} (hk_o0 : kindP o0 = 5)
    (h : ((gI σ o0 1) ≤ 0 → JE E d m_Bi_low 22 [(0, pv E o0)] [.long (0 : Int64)] σ Q) ∧ (¬ (gI σ o0 1) ≤ 0 → vp_in (0 : Int32) 96 ∧ (JE E d m_Bi_low 22 [(0, pv E o0)] [.long (((gI σ (o0 + 1) (0 : Int32).toNatClampNeg).toInt64) &&& (4294967295 : Int64))] σ Q))) :
    JE E d m_Bi_low 0 [(0, pv E o0)] [] σ Q := by
  refine J_aload_n dc_Bi_low_0 (Eq.refl 1) 0 rfl ?_
  refine J_getI dc_Bi_low_1 (Eq.refl 4) fl_Bi_13 (Nat.le_of_ble_eq_true rfl) hk_o0 (Or.inl rfl) ?_
  refine J_if_le dc_Bi_low_4 (Eq.refl 7) rfl (fun hc => ?_) (fun hc => ?_)
  · have h := h.1 hc
    refine J_lconst (v := (0 : Int64)) dc_Bi_low_21 (Eq.refl 22) rfl ?_
    exact h
  · have h := h.2 hc
    refine J_aload_n dc_Bi_low_7 (Eq.refl 8) 0 rfl ?_
    refine J_getF (y := o0 + 1) dc_Bi_low_8 (Eq.refl 11) fl_Bi_9 (Nat.le_of_ble_eq_true rfl) hk_o0 (Or.inl rfl) rfl ?_
    refine J_iconst (v := (0 : Int32)) dc_Bi_low_11 (Eq.refl 12) rfl ?_
    obtain ⟨hg, h⟩ := h
    refine J_iald dc_Bi_low_12 (Eq.refl 13) (ak_Bi_0 hk_o0).1 (ak_Bi_0 hk_o0).2 hg ?_
    refine J_i2l dc_Bi_low_13 (Eq.refl 14) ?_
    refine J_ldc2 dc_Bi_low_14 (Eq.refl 17) kc_Bi_27 ?_
    refine J_land dc_Bi_low_17 (Eq.refl 18) ?_
    refine J_goto dc_Bi_low_18 rfl ?_
    exact h
theorem b_Bi_low_22 {E : En_t} {d : Nat} {σ : S_t} {Q : Option Value → S_t → Prop} {o0 : Nat} {s0 : Int64} (hk_o0 : kindP o0 = 5)
    (h : ((gI σ o0 1) ≤ (1 : Int32) → Q (some (.long s0)) σ) ∧ (¬ (gI σ o0 1) ≤ (1 : Int32) → vp_in (1 : Int32) 96 ∧ (Q (some (.long (s0 ||| (((gI σ (o0 + 1) (1 : Int32).toNatClampNeg).toInt64) <<< ((32 : Int32).toInt64 &&& 63))))) σ))) :
    JE E d m_Bi_low 22 [(0, pv E o0)] [.long s0] σ Q := by
  refine J_lstore_n (L' := [(1, .long s0), (0, pv E o0)]) dc_Bi_low_22 (Eq.refl 23) (Nat.le_of_ble_eq_true rfl) rfl ?_
  refine J_aload_n dc_Bi_low_23 (Eq.refl 24) 1 rfl ?_
  refine J_getI dc_Bi_low_24 (Eq.refl 27) fl_Bi_13 (Nat.le_of_ble_eq_true rfl) hk_o0 (Or.inl rfl) ?_
  refine J_iconst (v := (1 : Int32)) dc_Bi_low_27 (Eq.refl 28) rfl ?_
  refine J_icmp_le dc_Bi_low_28 (Eq.refl 31) rfl (fun hc => ?_) (fun hc => ?_)
  · have h := h.1 hc
    refine J_lload_n dc_Bi_low_46 (Eq.refl 47) 0 rfl ?_
    exact J_lret dc_Bi_low_47 rfl h
  · have h := h.2 hc
    refine J_lload_n dc_Bi_low_31 (Eq.refl 32) 0 rfl ?_
    refine J_aload_n dc_Bi_low_32 (Eq.refl 33) 1 rfl ?_
    refine J_getF (y := o0 + 1) dc_Bi_low_33 (Eq.refl 36) fl_Bi_9 (Nat.le_of_ble_eq_true rfl) hk_o0 (Or.inl rfl) rfl ?_
    refine J_iconst (v := (1 : Int32)) dc_Bi_low_36 (Eq.refl 37) rfl ?_
    obtain ⟨hg, h⟩ := h
    refine J_iald dc_Bi_low_37 (Eq.refl 38) (ak_Bi_0 hk_o0).1 (ak_Bi_0 hk_o0).2 hg ?_
    refine J_i2l dc_Bi_low_38 (Eq.refl 39) ?_
    refine J_bipush (v := (32 : Int32)) dc_Bi_low_39 (Eq.refl 41) rfl ?_
    refine J_lshl dc_Bi_low_41 (Eq.refl 42) ?_
    refine J_lor dc_Bi_low_42 (Eq.refl 43) ?_
    refine J_goto dc_Bi_low_43 rfl ?_
    exact J_lret dc_Bi_low_47 rfl h
theorem dc_Bi_isZero_0 : decode m_Bi_isZero.2.1 0 = .ok (.aload_n 0, 1) := by decide +kernel
theorem dc_Bi_isZero_1 : decode m_Bi_isZero.2.1 1 = .ok (.getfield 13, 3) := by decide +kernel
theorem dc_Bi_isZero_4 : decode m_Bi_isZero.2.1 4 = .ok (.ifCond .ne 7, 3) := by decide +kernel
theorem dc_Bi_isZero_7 : decode m_Bi_isZero.2.1 7 = .ok (.iconst 1, 1) := by decide +kernel
theorem dc_Bi_isZero_8 : decode m_Bi_isZero.2.1 8 = .ok (.goto 4, 3) := by decide +kernel
theorem dc_Bi_isZero_11 : decode m_Bi_isZero.2.1 11 = .ok (.iconst 0, 1) := by decide +kernel
theorem dc_Bi_isZero_12 : decode m_Bi_isZero.2.1 12 = .ok (.ireturn, 1) := by decide +kernel
theorem b_Bi_isZero_0 {E : En_t} {d : Nat} {σ : S_t} {Q : Option Value → S_t → Prop} {o0 : Nat} (hk_o0 : kindP o0 = 5)
    (h : (¬ (gI σ o0 1) = 0 → Q (some (.int (0 : Int32))) σ) ∧ ((gI σ o0 1) = 0 → Q (some (.int (1 : Int32))) σ)) :
    JE E d m_Bi_isZero 0 [(0, pv E o0)] [] σ Q := by
  refine J_aload_n dc_Bi_isZero_0 (Eq.refl 1) 0 rfl ?_
  refine J_getI dc_Bi_isZero_1 (Eq.refl 4) fl_Bi_13 (Nat.le_of_ble_eq_true rfl) hk_o0 (Or.inl rfl) ?_
  refine J_if_ne dc_Bi_isZero_4 (Eq.refl 7) rfl (fun hc => ?_) (fun hc => ?_)
  · have h := h.1 hc
    refine J_iconst (v := (0 : Int32)) dc_Bi_isZero_11 (Eq.refl 12) rfl ?_
    exact J_zret dc_Bi_isZero_12 rfl rfl h
  · have h := h.2 hc
    refine J_iconst (v := (1 : Int32)) dc_Bi_isZero_7 (Eq.refl 8) rfl ?_
    refine J_goto dc_Bi_isZero_8 rfl ?_
    exact J_zret dc_Bi_isZero_12 rfl rfl h
