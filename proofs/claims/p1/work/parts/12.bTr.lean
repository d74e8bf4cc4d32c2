theorem dc_Tr_clear_0 : decode m_Tr_clear.2.1 0 = .ok (.aload_n 0, 1) := by decide +kernel
theorem dc_Tr_clear_1 : decode m_Tr_clear.2.1 1 = .ok (.iconst 0, 1) := by decide +kernel
theorem dc_Tr_clear_2 : decode m_Tr_clear.2.1 2 = .ok (.putfield 46, 3) := by decide +kernel
theorem dc_Tr_clear_5 : decode m_Tr_clear.2.1 5 = .ok (.aload_n 0, 1) := by decide +kernel
theorem dc_Tr_clear_6 : decode m_Tr_clear.2.1 6 = .ok (.iconst 0, 1) := by decide +kernel
theorem dc_Tr_clear_7 : decode m_Tr_clear.2.1 7 = .ok (.putfield 50, 3) := by decide +kernel
theorem dc_Tr_clear_10 : decode m_Tr_clear.2.1 10 = .ok (.aload_n 0, 1) := by decide +kernel
theorem dc_Tr_clear_11 : decode m_Tr_clear.2.1 11 = .ok (.iconst 0, 1) := by decide +kernel
theorem dc_Tr_clear_12 : decode m_Tr_clear.2.1 12 = .ok (.putfield 53, 3) := by decide +kernel
theorem dc_Tr_clear_15 : decode m_Tr_clear.2.1 15 = .ok (.aload_n 0, 1) := by decide +kernel
theorem dc_Tr_clear_16 : decode m_Tr_clear.2.1 16 = .ok (.iconst 0, 1) := by decide +kernel
theorem dc_Tr_clear_17 : decode m_Tr_clear.2.1 17 = .ok (.putfield 56, 3) := by decide +kernel
theorem dc_Tr_clear_20 : decode m_Tr_clear.2.1 20 = .ok (.return_, 1) := by decide +kernel
theorem b_Tr_clear_0 {E : En_t} {d : Nat} {σ : S_t} {Q : Option Value → S_t → Prop} {o0 : Nat} (hk_o0 : kindP o0 = 11)
    (h : Q none (sI (sI (sI (sI σ o0 13 (0 : Int32)) o0 11 (0 : Int32)) o0 12 (0 : Int32)) o0 14 (0 : Int32))) :
    JE E d m_Tr_clear 0 [(0, pv E o0)] [] σ Q := by
  refine J_aload_n dc_Tr_clear_0 (Eq.refl 1) 0 rfl ?_
  refine J_iconst (v := (0 : Int32)) dc_Tr_clear_1 (Eq.refl 2) rfl ?_
  refine J_putI dc_Tr_clear_2 (Eq.refl 5) pl_Tr_46 (Nat.le_of_ble_eq_true rfl) hk_o0 rfl ?_
  refine J_aload_n dc_Tr_clear_5 (Eq.refl 6) 0 rfl ?_
  refine J_iconst (v := (0 : Int32)) dc_Tr_clear_6 (Eq.refl 7) rfl ?_
  refine J_putI dc_Tr_clear_7 (Eq.refl 10) pl_Tr_50 (Nat.le_of_ble_eq_true rfl) hk_o0 rfl ?_
  refine J_aload_n dc_Tr_clear_10 (Eq.refl 11) 0 rfl ?_
  refine J_iconst (v := (0 : Int32)) dc_Tr_clear_11 (Eq.refl 12) rfl ?_
  refine J_putI dc_Tr_clear_12 (Eq.refl 15) pl_Tr_53 (Nat.le_of_ble_eq_true rfl) hk_o0 rfl ?_
  refine J_aload_n dc_Tr_clear_15 (Eq.refl 16) 0 rfl ?_
  refine J_iconst (v := (0 : Int32)) dc_Tr_clear_16 (Eq.refl 17) rfl ?_
  refine J_putZ dc_Tr_clear_17 (Eq.refl 20) pl_Tr_56 (Nat.le_of_ble_eq_true rfl) hk_o0 rfl (Or.inl rfl) ?_
  exact J_vret dc_Tr_clear_20 rfl h
theorem dc_Tr_addCharacter_0 : decode m_Tr_addCharacter.2.1 0 = .ok (.iload_n 1, 1) := by decide +kernel
theorem dc_Tr_addCharacter_1 : decode m_Tr_addCharacter.2.1 1 = .ok (.sipush 128, 3) := by decide +kernel
theorem dc_Tr_addCharacter_4 : decode m_Tr_addCharacter.2.1 4 = .ok (.if_icmp .ge 7, 3) := by decide +kernel
theorem dc_Tr_addCharacter_7 : decode m_Tr_addCharacter.2.1 7 = .ok (.iconst 1, 1) := by decide +kernel
theorem dc_Tr_addCharacter_8 : decode m_Tr_addCharacter.2.1 8 = .ok (.goto 25, 3) := by decide +kernel
theorem dc_Tr_addCharacter_11 : decode m_Tr_addCharacter.2.1 11 = .ok (.iload_n 1, 1) := by decide +kernel
theorem dc_Tr_addCharacter_12 : decode m_Tr_addCharacter.2.1 12 = .ok (.sipush 2048, 3) := by decide +kernel
theorem dc_Tr_addCharacter_15 : decode m_Tr_addCharacter.2.1 15 = .ok (.if_icmp .ge 7, 3) := by decide +kernel
theorem dc_Tr_addCharacter_18 : decode m_Tr_addCharacter.2.1 18 = .ok (.iconst 2, 1) := by decide +kernel
theorem dc_Tr_addCharacter_19 : decode m_Tr_addCharacter.2.1 19 = .ok (.goto 14, 3) := by decide +kernel
theorem dc_Tr_addCharacter_22 : decode m_Tr_addCharacter.2.1 22 = .ok (.iload_n 1, 1) := by decide +kernel
theorem dc_Tr_addCharacter_23 : decode m_Tr_addCharacter.2.1 23 = .ok (.ldc 60, 2) := by decide +kernel
theorem dc_Tr_addCharacter_25 : decode m_Tr_addCharacter.2.1 25 = .ok (.if_icmp .ge 7, 3) := by decide +kernel
theorem dc_Tr_addCharacter_28 : decode m_Tr_addCharacter.2.1 28 = .ok (.iconst 3, 1) := by decide +kernel
theorem dc_Tr_addCharacter_29 : decode m_Tr_addCharacter.2.1 29 = .ok (.goto 4, 3) := by decide +kernel
theorem dc_Tr_addCharacter_32 : decode m_Tr_addCharacter.2.1 32 = .ok (.iconst 4, 1) := by decide +kernel
theorem dc_Tr_addCharacter_33 : decode m_Tr_addCharacter.2.1 33 = .ok (.istore_n 2, 1) := by decide +kernel
theorem dc_Tr_addCharacter_34 : decode m_Tr_addCharacter.2.1 34 = .ok (.aload_n 0, 1) := by decide +kernel
theorem dc_Tr_addCharacter_35 : decode m_Tr_addCharacter.2.1 35 = .ok (.getfield 56, 3) := by decide +kernel
theorem dc_Tr_addCharacter_38 : decode m_Tr_addCharacter.2.1 38 = .ok (.ifCond .ne 25, 3) := by decide +kernel
theorem dc_Tr_addCharacter_41 : decode m_Tr_addCharacter.2.1 41 = .ok (.aload_n 0, 1) := by decide +kernel
theorem dc_Tr_addCharacter_42 : decode m_Tr_addCharacter.2.1 42 = .ok (.getfield 53, 3) := by decide +kernel
theorem dc_Tr_addCharacter_45 : decode m_Tr_addCharacter.2.1 45 = .ok (.sipush 4000, 3) := by decide +kernel
theorem dc_Tr_addCharacter_48 : decode m_Tr_addCharacter.2.1 48 = .ok (.iload_n 2, 1) := by decide +kernel
theorem dc_Tr_addCharacter_49 : decode m_Tr_addCharacter.2.1 49 = .ok (.isub, 1) := by decide +kernel
theorem dc_Tr_addCharacter_50 : decode m_Tr_addCharacter.2.1 50 = .ok (.if_icmp .gt 13, 3) := by decide +kernel
theorem dc_Tr_addCharacter_53 : decode m_Tr_addCharacter.2.1 53 = .ok (.aload_n 0, 1) := by decide +kernel
theorem dc_Tr_addCharacter_54 : decode m_Tr_addCharacter.2.1 54 = .ok (.getfield 50, 3) := by decide +kernel
theorem dc_Tr_addCharacter_57 : decode m_Tr_addCharacter.2.1 57 = .ok (.sipush 4000, 3) := by decide +kernel
theorem dc_Tr_addCharacter_60 : decode m_Tr_addCharacter.2.1 60 = .ok (.if_icmp .lt 9, 3) := by decide +kernel
theorem dc_Tr_addCharacter_63 : decode m_Tr_addCharacter.2.1 63 = .ok (.aload_n 0, 1) := by decide +kernel
theorem dc_Tr_addCharacter_64 : decode m_Tr_addCharacter.2.1 64 = .ok (.iconst 1, 1) := by decide +kernel
theorem dc_Tr_addCharacter_65 : decode m_Tr_addCharacter.2.1 65 = .ok (.putfield 56, 3) := by decide +kernel
theorem dc_Tr_addCharacter_68 : decode m_Tr_addCharacter.2.1 68 = .ok (.return_, 1) := by decide +kernel
theorem dc_Tr_addCharacter_69 : decode m_Tr_addCharacter.2.1 69 = .ok (.aload_n 0, 1) := by decide +kernel
theorem dc_Tr_addCharacter_70 : decode m_Tr_addCharacter.2.1 70 = .ok (.getfield 43, 3) := by decide +kernel
theorem dc_Tr_addCharacter_73 : decode m_Tr_addCharacter.2.1 73 = .ok (.aload_n 0, 1) := by decide +kernel
theorem dc_Tr_addCharacter_74 : decode m_Tr_addCharacter.2.1 74 = .ok (.getfield 50, 3) := by decide +kernel
theorem dc_Tr_addCharacter_77 : decode m_Tr_addCharacter.2.1 77 = .ok (.iload_n 1, 1) := by decide +kernel
theorem dc_Tr_addCharacter_78 : decode m_Tr_addCharacter.2.1 78 = .ok (.iastore, 1) := by decide +kernel
theorem dc_Tr_addCharacter_79 : decode m_Tr_addCharacter.2.1 79 = .ok (.aload_n 0, 1) := by decide +kernel
theorem dc_Tr_addCharacter_80 : decode m_Tr_addCharacter.2.1 80 = .ok (.dup, 1) := by decide +kernel
theorem dc_Tr_addCharacter_81 : decode m_Tr_addCharacter.2.1 81 = .ok (.getfield 50, 3) := by decide +kernel
theorem dc_Tr_addCharacter_84 : decode m_Tr_addCharacter.2.1 84 = .ok (.iconst 1, 1) := by decide +kernel
theorem dc_Tr_addCharacter_85 : decode m_Tr_addCharacter.2.1 85 = .ok (.iadd, 1) := by decide +kernel
theorem dc_Tr_addCharacter_86 : decode m_Tr_addCharacter.2.1 86 = .ok (.putfield 50, 3) := by decide +kernel
theorem dc_Tr_addCharacter_89 : decode m_Tr_addCharacter.2.1 89 = .ok (.aload_n 0, 1) := by decide +kernel
theorem dc_Tr_addCharacter_90 : decode m_Tr_addCharacter.2.1 90 = .ok (.dup, 1) := by decide +kernel
theorem dc_Tr_addCharacter_91 : decode m_Tr_addCharacter.2.1 91 = .ok (.getfield 53, 3) := by decide +kernel
theorem dc_Tr_addCharacter_94 : decode m_Tr_addCharacter.2.1 94 = .ok (.iload_n 2, 1) := by decide +kernel
theorem dc_Tr_addCharacter_95 : decode m_Tr_addCharacter.2.1 95 = .ok (.iadd, 1) := by decide +kernel
theorem dc_Tr_addCharacter_96 : decode m_Tr_addCharacter.2.1 96 = .ok (.putfield 53, 3) := by decide +kernel
theorem dc_Tr_addCharacter_99 : decode m_Tr_addCharacter.2.1 99 = .ok (.return_, 1) := by decide +kernel
theorem b_Tr_addCharacter_0 {E : En_t} {d : Nat} {σ : S_t} {Q : Option Value → S_t → Prop} {o0 : Nat} {x1 : Int32} (hk_o0 : kindP o0 = 11)
    (h : ((128 : Int32) ≤ x1 → ((2048 : Int32) ≤ x1 → ((65536 : Int32) ≤ x1 → JE E d m_Tr_addCharacter 33 [(0, pv E o0), (1, .int x1)] [.int (4 : Int32)] σ Q) ∧ (¬ (65536 : Int32) ≤ x1 → JE E d m_Tr_addCharacter 33 [(0, pv E o0), (1, .int x1)] [.int (3 : Int32)] σ Q)) ∧ (¬ (2048 : Int32) ≤ x1 → JE E d m_Tr_addCharacter 33 [(0, pv E o0), (1, .int x1)] [.int (2 : Int32)] σ Q)) ∧ (¬ (128 : Int32) ≤ x1 → JE E d m_Tr_addCharacter 33 [(0, pv E o0), (1, .int x1)] [.int (1 : Int32)] σ Q)) :
    JE E d m_Tr_addCharacter 0 [(0, pv E o0), (1, .int x1)] [] σ Q := by
  refine J_iload_n dc_Tr_addCharacter_0 (Eq.refl 1) 1 rfl ?_
  refine J_sipush (v := (128 : Int32)) dc_Tr_addCharacter_1 (Eq.refl 4) rfl ?_
  refine J_icmp_ge dc_Tr_addCharacter_4 (Eq.refl 7) rfl (fun hc => ?_) (fun hc => ?_)
  · have h := h.1 hc
    refine J_iload_n dc_Tr_addCharacter_11 (Eq.refl 12) 1 rfl ?_
    refine J_sipush (v := (2048 : Int32)) dc_Tr_addCharacter_12 (Eq.refl 15) rfl ?_
    refine J_icmp_ge dc_Tr_addCharacter_15 (Eq.refl 18) rfl (fun hc => ?_) (fun hc => ?_)
    · have h := h.1 hc
      refine J_iload_n dc_Tr_addCharacter_22 (Eq.refl 23) 1 rfl ?_
      refine J_ldc dc_Tr_addCharacter_23 (Eq.refl 25) kc_Tr_60 ?_
      refine J_icmp_ge dc_Tr_addCharacter_25 (Eq.refl 28) rfl (fun hc => ?_) (fun hc => ?_)
      · have h := h.1 hc
        refine J_iconst (v := (4 : Int32)) dc_Tr_addCharacter_32 (Eq.refl 33) rfl ?_
        exact h
      · have h := h.2 hc
        refine J_iconst (v := (3 : Int32)) dc_Tr_addCharacter_28 (Eq.refl 29) rfl ?_
        refine J_goto dc_Tr_addCharacter_29 rfl ?_
        exact h
    · have h := h.2 hc
      refine J_iconst (v := (2 : Int32)) dc_Tr_addCharacter_18 (Eq.refl 19) rfl ?_
      refine J_goto dc_Tr_addCharacter_19 rfl ?_
      exact h
  · have h := h.2 hc
    refine J_iconst (v := (1 : Int32)) dc_Tr_addCharacter_7 (Eq.refl 8) rfl ?_
    refine J_goto dc_Tr_addCharacter_8 rfl ?_
    exact h
theorem b_Tr_addCharacter_33 {E : En_t} {d : Nat} {σ : S_t} {Q : Option Value → S_t → Prop} {o0 : Nat} {x1 : Int32} {s0 : Int32} (hk_o0 : kindP o0 = 11)
    (h : (¬ (gI σ o0 14) = 0 → Q none (sI σ o0 14 (1 : Int32))) ∧ ((gI σ o0 14) = 0 → (((4000 : Int32) - s0) < (gI σ o0 12) → Q none (sI σ o0 14 (1 : Int32))) ∧ (¬ ((4000 : Int32) - s0) < (gI σ o0 12) → ((gI σ o0 11) < (4000 : Int32) → vp_in (gI σ o0 11) 4000 ∧ (∀ v1, v1 = gI (sI (sI σ (o0 + 11) (gI σ o0 11).toNatClampNeg x1) o0 11 ((gI (sI σ (o0 + 11) (gI σ o0 11).toNatClampNeg x1) o0 11) + (1 : Int32))) o0 12 → (∀ σ2, σ2 = sI (sI (sI σ (o0 + 11) (gI σ o0 11).toNatClampNeg x1) o0 11 ((gI (sI σ (o0 + 11) (gI σ o0 11).toNatClampNeg x1) o0 11) + (1 : Int32))) o0 12 (v1 + s0) → (Q none σ2)))) ∧ (¬ (gI σ o0 11) < (4000 : Int32) → Q none (sI σ o0 14 (1 : Int32)))))) :
    JE E d m_Tr_addCharacter 33 [(0, pv E o0), (1, .int x1)] [.int s0] σ Q := by
  refine J_istore_n (L' := [(2, .int s0), (0, pv E o0), (1, .int x1)]) dc_Tr_addCharacter_33 (Eq.refl 34) (Nat.le_of_ble_eq_true rfl) rfl ?_
  refine J_aload_n dc_Tr_addCharacter_34 (Eq.refl 35) 1 rfl ?_
  refine J_getI dc_Tr_addCharacter_35 (Eq.refl 38) fl_Tr_56 (Nat.le_of_ble_eq_true rfl) hk_o0 (Or.inr rfl) ?_
  refine J_if_ne dc_Tr_addCharacter_38 (Eq.refl 41) rfl (fun hc => ?_) (fun hc => ?_)
  · have h := h.1 hc
    refine J_aload_n dc_Tr_addCharacter_63 (Eq.refl 64) 1 rfl ?_
    refine J_iconst (v := (1 : Int32)) dc_Tr_addCharacter_64 (Eq.refl 65) rfl ?_
    refine J_putZ dc_Tr_addCharacter_65 (Eq.refl 68) pl_Tr_56 (Nat.le_of_ble_eq_true rfl) hk_o0 rfl (Or.inr rfl) ?_
    exact J_vret dc_Tr_addCharacter_68 rfl h
  · have h := h.2 hc
    refine J_aload_n dc_Tr_addCharacter_41 (Eq.refl 42) 1 rfl ?_
    refine J_getI dc_Tr_addCharacter_42 (Eq.refl 45) fl_Tr_53 (Nat.le_of_ble_eq_true rfl) hk_o0 (Or.inl rfl) ?_
    refine J_sipush (v := (4000 : Int32)) dc_Tr_addCharacter_45 (Eq.refl 48) rfl ?_
    refine J_iload_n dc_Tr_addCharacter_48 (Eq.refl 49) 0 rfl ?_
    refine J_isub dc_Tr_addCharacter_49 (Eq.refl 50) ?_
    refine J_icmp_gt dc_Tr_addCharacter_50 (Eq.refl 53) rfl (fun hc => ?_) (fun hc => ?_)
    · have h := h.1 hc
      refine J_aload_n dc_Tr_addCharacter_63 (Eq.refl 64) 1 rfl ?_
      refine J_iconst (v := (1 : Int32)) dc_Tr_addCharacter_64 (Eq.refl 65) rfl ?_
      refine J_putZ dc_Tr_addCharacter_65 (Eq.refl 68) pl_Tr_56 (Nat.le_of_ble_eq_true rfl) hk_o0 rfl (Or.inr rfl) ?_
      exact J_vret dc_Tr_addCharacter_68 rfl h
    · have h := h.2 hc
      refine J_aload_n dc_Tr_addCharacter_53 (Eq.refl 54) 1 rfl ?_
      refine J_getI dc_Tr_addCharacter_54 (Eq.refl 57) fl_Tr_50 (Nat.le_of_ble_eq_true rfl) hk_o0 (Or.inl rfl) ?_
      refine J_sipush (v := (4000 : Int32)) dc_Tr_addCharacter_57 (Eq.refl 60) rfl ?_
      refine J_icmp_lt dc_Tr_addCharacter_60 (Eq.refl 63) rfl (fun hc => ?_) (fun hc => ?_)
      · have h := h.1 hc
        refine J_aload_n dc_Tr_addCharacter_69 (Eq.refl 70) 1 rfl ?_
        refine J_getF (y := o0 + 11) dc_Tr_addCharacter_70 (Eq.refl 73) fl_Tr_43 (Nat.le_of_ble_eq_true rfl) hk_o0 (Or.inl rfl) rfl ?_
        refine J_aload_n dc_Tr_addCharacter_73 (Eq.refl 74) 1 rfl ?_
        refine J_getI dc_Tr_addCharacter_74 (Eq.refl 77) fl_Tr_50 (Nat.le_of_ble_eq_true rfl) hk_o0 (Or.inl rfl) ?_
        refine J_iload_n dc_Tr_addCharacter_77 (Eq.refl 78) 2 rfl ?_
        obtain ⟨hg, h⟩ := h
        refine J_iast dc_Tr_addCharacter_78 (Eq.refl 79) (ak_Tr_10 hk_o0).1 (ak_Tr_10 hk_o0).2 hg ?_
        refine J_aload_n dc_Tr_addCharacter_79 (Eq.refl 80) 1 rfl ?_
        refine J_dup dc_Tr_addCharacter_80 (Eq.refl 81) rfl ?_
        refine J_getI dc_Tr_addCharacter_81 (Eq.refl 84) fl_Tr_50 (Nat.le_of_ble_eq_true rfl) hk_o0 (Or.inl rfl) ?_
        refine J_iconst (v := (1 : Int32)) dc_Tr_addCharacter_84 (Eq.refl 85) rfl ?_
        refine J_iadd dc_Tr_addCharacter_85 (Eq.refl 86) ?_
        refine J_putI dc_Tr_addCharacter_86 (Eq.refl 89) pl_Tr_50 (Nat.le_of_ble_eq_true rfl) hk_o0 rfl ?_
        refine J_aload_n dc_Tr_addCharacter_89 (Eq.refl 90) 1 rfl ?_
        refine J_dup dc_Tr_addCharacter_90 (Eq.refl 91) rfl ?_
        refine J_getI dc_Tr_addCharacter_91 (Eq.refl 94) fl_Tr_53 (Nat.le_of_ble_eq_true rfl) hk_o0 (Or.inl rfl) ?_
        refine J_topi (fun v1 ev1 => ?_)
        have h := h v1 ev1
        refine J_iload_n dc_Tr_addCharacter_94 (Eq.refl 95) 0 rfl ?_
        refine J_iadd dc_Tr_addCharacter_95 (Eq.refl 96) ?_
        refine J_putI dc_Tr_addCharacter_96 (Eq.refl 99) pl_Tr_53 (Nat.le_of_ble_eq_true rfl) hk_o0 rfl ?_
        refine J_st (fun σ2 eσ2 => ?_)
        have h := h σ2 eσ2
        exact J_vret dc_Tr_addCharacter_99 rfl h
      · have h := h.2 hc
        refine J_aload_n dc_Tr_addCharacter_63 (Eq.refl 64) 1 rfl ?_
        refine J_iconst (v := (1 : Int32)) dc_Tr_addCharacter_64 (Eq.refl 65) rfl ?_
        refine J_putZ dc_Tr_addCharacter_65 (Eq.refl 68) pl_Tr_56 (Nat.le_of_ble_eq_true rfl) hk_o0 rfl (Or.inr rfl) ?_
        exact J_vret dc_Tr_addCharacter_68 rfl h
theorem dc_Tr_add_0 : decode m_Tr_add.2.1 0 = .ok (.aload_n 0, 1) := by decide +kernel
theorem dc_Tr_add_1 : decode m_Tr_add.2.1 1 = .ok (.getfield 56, 3) := by decide +kernel
theorem dc_Tr_add_4 : decode m_Tr_add.2.1 4 = .ok (.ifCond .ne 13, 3) := by decide +kernel
theorem dc_Tr_add_7 : decode m_Tr_add.2.1 7 = .ok (.aload_n 0, 1) := by decide +kernel
theorem dc_Tr_add_8 : decode m_Tr_add.2.1 8 = .ok (.getfield 46, 3) := by decide +kernel
theorem dc_Tr_add_11 : decode m_Tr_add.2.1 11 = .ok (.sipush 500, 3) := by decide +kernel
theorem dc_Tr_add_14 : decode m_Tr_add.2.1 14 = .ok (.if_icmp .lt 10, 3) := by decide +kernel
theorem dc_Tr_add_17 : decode m_Tr_add.2.1 17 = .ok (.aload_n 0, 1) := by decide +kernel
theorem dc_Tr_add_18 : decode m_Tr_add.2.1 18 = .ok (.iconst 1, 1) := by decide +kernel
theorem dc_Tr_add_19 : decode m_Tr_add.2.1 19 = .ok (.putfield 56, 3) := by decide +kernel
theorem dc_Tr_add_22 : decode m_Tr_add.2.1 22 = .ok (.iconst (-1), 1) := by decide +kernel
theorem dc_Tr_add_23 : decode m_Tr_add.2.1 23 = .ok (.ireturn, 1) := by decide +kernel
theorem dc_Tr_add_24 : decode m_Tr_add.2.1 24 = .ok (.aload_n 0, 1) := by decide +kernel
theorem dc_Tr_add_25 : decode m_Tr_add.2.1 25 = .ok (.getfield 46, 3) := by decide +kernel
theorem dc_Tr_add_28 : decode m_Tr_add.2.1 28 = .ok (.istore_n 3, 1) := by decide +kernel
theorem dc_Tr_add_29 : decode m_Tr_add.2.1 29 = .ok (.aload_n 0, 1) := by decide +kernel
theorem dc_Tr_add_30 : decode m_Tr_add.2.1 30 = .ok (.dup, 1) := by decide +kernel
theorem dc_Tr_add_31 : decode m_Tr_add.2.1 31 = .ok (.getfield 46, 3) := by decide +kernel
theorem dc_Tr_add_34 : decode m_Tr_add.2.1 34 = .ok (.iconst 1, 1) := by decide +kernel
theorem dc_Tr_add_35 : decode m_Tr_add.2.1 35 = .ok (.iadd, 1) := by decide +kernel
theorem dc_Tr_add_36 : decode m_Tr_add.2.1 36 = .ok (.putfield 46, 3) := by decide +kernel
theorem dc_Tr_add_39 : decode m_Tr_add.2.1 39 = .ok (.aload_n 0, 1) := by decide +kernel
theorem dc_Tr_add_40 : decode m_Tr_add.2.1 40 = .ok (.getfield 9, 3) := by decide +kernel
theorem dc_Tr_add_43 : decode m_Tr_add.2.1 43 = .ok (.iload_n 3, 1) := by decide +kernel
theorem dc_Tr_add_44 : decode m_Tr_add.2.1 44 = .ok (.iload_n 1, 1) := by decide +kernel
theorem dc_Tr_add_45 : decode m_Tr_add.2.1 45 = .ok (.iastore, 1) := by decide +kernel
theorem dc_Tr_add_46 : decode m_Tr_add.2.1 46 = .ok (.aload_n 0, 1) := by decide +kernel
theorem dc_Tr_add_47 : decode m_Tr_add.2.1 47 = .ok (.getfield 15, 3) := by decide +kernel
theorem dc_Tr_add_50 : decode m_Tr_add.2.1 50 = .ok (.iload_n 3, 1) := by decide +kernel
theorem dc_Tr_add_51 : decode m_Tr_add.2.1 51 = .ok (.iconst 0, 1) := by decide +kernel
theorem dc_Tr_add_52 : decode m_Tr_add.2.1 52 = .ok (.iastore, 1) := by decide +kernel
theorem dc_Tr_add_53 : decode m_Tr_add.2.1 53 = .ok (.aload_n 0, 1) := by decide +kernel
theorem dc_Tr_add_54 : decode m_Tr_add.2.1 54 = .ok (.getfield 30, 3) := by decide +kernel
theorem dc_Tr_add_57 : decode m_Tr_add.2.1 57 = .ok (.iload_n 3, 1) := by decide +kernel
theorem dc_Tr_add_58 : decode m_Tr_add.2.1 58 = .ok (.lconst 0, 1) := by decide +kernel
theorem dc_Tr_add_59 : decode m_Tr_add.2.1 59 = .ok (.lastore, 1) := by decide +kernel
theorem dc_Tr_add_60 : decode m_Tr_add.2.1 60 = .ok (.aload_n 0, 1) := by decide +kernel
theorem dc_Tr_add_61 : decode m_Tr_add.2.1 61 = .ok (.getfield 34, 3) := by decide +kernel
theorem dc_Tr_add_64 : decode m_Tr_add.2.1 64 = .ok (.iload_n 3, 1) := by decide +kernel
theorem dc_Tr_add_65 : decode m_Tr_add.2.1 65 = .ok (.iconst 0, 1) := by decide +kernel
theorem dc_Tr_add_66 : decode m_Tr_add.2.1 66 = .ok (.iastore, 1) := by decide +kernel
theorem dc_Tr_add_67 : decode m_Tr_add.2.1 67 = .ok (.aload_n 0, 1) := by decide +kernel
theorem dc_Tr_add_68 : decode m_Tr_add.2.1 68 = .ok (.getfield 37, 3) := by decide +kernel
theorem dc_Tr_add_71 : decode m_Tr_add.2.1 71 = .ok (.iload_n 3, 1) := by decide +kernel
theorem dc_Tr_add_72 : decode m_Tr_add.2.1 72 = .ok (.iconst 0, 1) := by decide +kernel
theorem dc_Tr_add_73 : decode m_Tr_add.2.1 73 = .ok (.iastore, 1) := by decide +kernel
theorem dc_Tr_add_74 : decode m_Tr_add.2.1 74 = .ok (.aload_n 0, 1) := by decide +kernel
theorem dc_Tr_add_75 : decode m_Tr_add.2.1 75 = .ok (.getfield 40, 3) := by decide +kernel
theorem dc_Tr_add_78 : decode m_Tr_add.2.1 78 = .ok (.iload_n 3, 1) := by decide +kernel
theorem dc_Tr_add_79 : decode m_Tr_add.2.1 79 = .ok (.iconst 0, 1) := by decide +kernel
theorem dc_Tr_add_80 : decode m_Tr_add.2.1 80 = .ok (.iastore, 1) := by decide +kernel
theorem dc_Tr_add_81 : decode m_Tr_add.2.1 81 = .ok (.iload_n 2, 1) := by decide +kernel
theorem dc_Tr_add_82 : decode m_Tr_add.2.1 82 = .ok (.ifCond .lt 12, 3) := by decide +kernel
theorem dc_Tr_add_85 : decode m_Tr_add.2.1 85 = .ok (.iload_n 2, 1) := by decide +kernel
theorem dc_Tr_add_86 : decode m_Tr_add.2.1 86 = .ok (.iload_n 3, 1) := by decide +kernel
theorem dc_Tr_add_87 : decode m_Tr_add.2.1 87 = .ok (.if_icmp .ge 7, 3) := by decide +kernel
theorem dc_Tr_add_90 : decode m_Tr_add.2.1 90 = .ok (.iconst 1, 1) := by decide +kernel
theorem dc_Tr_add_91 : decode m_Tr_add.2.1 91 = .ok (.goto 4, 3) := by decide +kernel
theorem dc_Tr_add_94 : decode m_Tr_add.2.1 94 = .ok (.iconst 0, 1) := by decide +kernel
theorem dc_Tr_add_95 : decode m_Tr_add.2.1 95 = .ok (.istore 4, 2) := by decide +kernel
theorem dc_Tr_add_97 : decode m_Tr_add.2.1 97 = .ok (.aload_n 0, 1) := by decide +kernel
theorem dc_Tr_add_98 : decode m_Tr_add.2.1 98 = .ok (.getfield 18, 3) := by decide +kernel
theorem dc_Tr_add_101 : decode m_Tr_add.2.1 101 = .ok (.iload_n 3, 1) := by decide +kernel
theorem dc_Tr_add_102 : decode m_Tr_add.2.1 102 = .ok (.iload 4, 2) := by decide +kernel
theorem dc_Tr_add_104 : decode m_Tr_add.2.1 104 = .ok (.ifCond .eq 7, 3) := by decide +kernel
theorem dc_Tr_add_107 : decode m_Tr_add.2.1 107 = .ok (.iload_n 2, 1) := by decide +kernel
theorem dc_Tr_add_108 : decode m_Tr_add.2.1 108 = .ok (.goto 4, 3) := by decide +kernel
theorem dc_Tr_add_111 : decode m_Tr_add.2.1 111 = .ok (.iconst (-1), 1) := by decide +kernel
theorem dc_Tr_add_112 : decode m_Tr_add.2.1 112 = .ok (.iastore, 1) := by decide +kernel
theorem dc_Tr_add_113 : decode m_Tr_add.2.1 113 = .ok (.aload_n 0, 1) := by decide +kernel
theorem dc_Tr_add_114 : decode m_Tr_add.2.1 114 = .ok (.getfield 21, 3) := by decide +kernel
theorem dc_Tr_add_117 : decode m_Tr_add.2.1 117 = .ok (.iload_n 3, 1) := by decide +kernel
theorem dc_Tr_add_118 : decode m_Tr_add.2.1 118 = .ok (.iload 4, 2) := by decide +kernel
theorem dc_Tr_add_120 : decode m_Tr_add.2.1 120 = .ok (.ifCond .eq 12, 3) := by decide +kernel
theorem dc_Tr_add_123 : decode m_Tr_add.2.1 123 = .ok (.aload_n 0, 1) := by decide +kernel
theorem dc_Tr_add_124 : decode m_Tr_add.2.1 124 = .ok (.getfield 15, 3) := by decide +kernel
theorem dc_Tr_add_127 : decode m_Tr_add.2.1 127 = .ok (.iload_n 2, 1) := by decide +kernel
theorem dc_Tr_add_128 : decode m_Tr_add.2.1 128 = .ok (.iaload, 1) := by decide +kernel
theorem dc_Tr_add_129 : decode m_Tr_add.2.1 129 = .ok (.goto 4, 3) := by decide +kernel
theorem dc_Tr_add_132 : decode m_Tr_add.2.1 132 = .ok (.iconst 0, 1) := by decide +kernel
theorem dc_Tr_add_133 : decode m_Tr_add.2.1 133 = .ok (.iastore, 1) := by decide +kernel
theorem dc_Tr_add_134 : decode m_Tr_add.2.1 134 = .ok (.aload_n 0, 1) := by decide +kernel
theorem dc_Tr_add_135 : decode m_Tr_add.2.1 135 = .ok (.getfield 27, 3) := by decide +kernel
theorem dc_Tr_add_138 : decode m_Tr_add.2.1 138 = .ok (.iload_n 3, 1) := by decide +kernel
theorem dc_Tr_add_139 : decode m_Tr_add.2.1 139 = .ok (.iload 4, 2) := by decide +kernel
theorem dc_Tr_add_141 : decode m_Tr_add.2.1 141 = .ok (.ifCond .eq 14, 3) := by decide +kernel
theorem dc_Tr_add_144 : decode m_Tr_add.2.1 144 = .ok (.aload_n 0, 1) := by decide +kernel
theorem dc_Tr_add_145 : decode m_Tr_add.2.1 145 = .ok (.getfield 27, 3) := by decide +kernel
theorem dc_Tr_add_148 : decode m_Tr_add.2.1 148 = .ok (.iload_n 2, 1) := by decide +kernel
theorem dc_Tr_add_149 : decode m_Tr_add.2.1 149 = .ok (.iaload, 1) := by decide +kernel
theorem dc_Tr_add_150 : decode m_Tr_add.2.1 150 = .ok (.iconst 1, 1) := by decide +kernel
theorem dc_Tr_add_151 : decode m_Tr_add.2.1 151 = .ok (.iadd, 1) := by decide +kernel
theorem dc_Tr_add_152 : decode m_Tr_add.2.1 152 = .ok (.goto 4, 3) := by decide +kernel
theorem dc_Tr_add_155 : decode m_Tr_add.2.1 155 = .ok (.iconst 0, 1) := by decide +kernel
theorem dc_Tr_add_156 : decode m_Tr_add.2.1 156 = .ok (.iastore, 1) := by decide +kernel
theorem dc_Tr_add_157 : decode m_Tr_add.2.1 157 = .ok (.iload 4, 2) := by decide +kernel
theorem dc_Tr_add_159 : decode m_Tr_add.2.1 159 = .ok (.ifCond .eq 13, 3) := by decide +kernel
theorem dc_Tr_add_162 : decode m_Tr_add.2.1 162 = .ok (.aload_n 0, 1) := by decide +kernel
theorem dc_Tr_add_163 : decode m_Tr_add.2.1 163 = .ok (.getfield 15, 3) := by decide +kernel
theorem dc_Tr_add_166 : decode m_Tr_add.2.1 166 = .ok (.iload_n 2, 1) := by decide +kernel
theorem dc_Tr_add_167 : decode m_Tr_add.2.1 167 = .ok (.dup2, 1) := by decide +kernel
theorem dc_Tr_add_168 : decode m_Tr_add.2.1 168 = .ok (.iaload, 1) := by decide +kernel
theorem dc_Tr_add_169 : decode m_Tr_add.2.1 169 = .ok (.iconst 1, 1) := by decide +kernel
theorem dc_Tr_add_170 : decode m_Tr_add.2.1 170 = .ok (.iadd, 1) := by decide +kernel
theorem dc_Tr_add_171 : decode m_Tr_add.2.1 171 = .ok (.iastore, 1) := by decide +kernel
theorem dc_Tr_add_172 : decode m_Tr_add.2.1 172 = .ok (.iload_n 3, 1) := by decide +kernel
theorem dc_Tr_add_173 : decode m_Tr_add.2.1 173 = .ok (.ireturn, 1) := by decide +kernel
theorem b_Tr_add_0 {E : En_t} {d : Nat} {σ : S_t} {Q : Option Value → S_t → Prop} {o0 : Nat} {x1 : Int32} {x2 : Int32} (hk_o0 : kindP o0 = 11)
    (h : (¬ (gI σ o0 14) = 0 → Q (some (.int (-1 : Int32))) (sI σ o0 14 (1 : Int32))) ∧ ((gI σ o0 14) = 0 → ((gI σ o0 13) < (500 : Int32) → vp_in (gI σ o0 13) 500 ∧ (vp_in (gI σ o0 13) 500 ∧ (vp_in (gI σ o0 13) 500 ∧ (∀ σ1, σ1 = sL (sI (sI (sI σ o0 13 ((gI σ o0 13) + (1 : Int32))) (o0 + 1) (gI σ o0 13).toNatClampNeg x1) (o0 + 2) (gI σ o0 13).toNatClampNeg (0 : Int32)) (o0 + 7) (gI σ o0 13).toNatClampNeg (0 : Int64) → (vp_in (gI σ o0 13) 500 ∧ (vp_in (gI σ o0 13) 500 ∧ (vp_in (gI σ o0 13) 500 ∧ (∀ σ2, σ2 = sI (sI (sI σ1 (o0 + 8) (gI σ o0 13).toNatClampNeg (0 : Int32)) (o0 + 9) (gI σ o0 13).toNatClampNeg (0 : Int32)) (o0 + 10) (gI σ o0 13).toNatClampNeg (0 : Int32) → ((x2 < 0 → JE E d m_Tr_add 94 [(0, pv E o0), (2, .int x2), (3, .int (gI σ o0 13))] [] σ2 Q) ∧ (¬ x2 < 0 → ((gI σ o0 13) ≤ x2 → JE E d m_Tr_add 94 [(0, pv E o0), (2, .int x2), (3, .int (gI σ o0 13))] [] σ2 Q) ∧ (¬ (gI σ o0 13) ≤ x2 → JE E d m_Tr_add 95 [(0, pv E o0), (2, .int x2), (3, .int (gI σ o0 13))] [.int (1 : Int32)] σ2 Q))))))))))) ∧ (¬ (gI σ o0 13) < (500 : Int32) → Q (some (.int (-1 : Int32))) (sI σ o0 14 (1 : Int32))))) :
    JE E d m_Tr_add 0 [(0, pv E o0), (1, .int x1), (2, .int x2)] [] σ Q := by
  refine J_aload_n dc_Tr_add_0 (Eq.refl 1) 0 rfl ?_
  refine J_getI dc_Tr_add_1 (Eq.refl 4) fl_Tr_56 (Nat.le_of_ble_eq_true rfl) hk_o0 (Or.inr rfl) ?_
  refine J_if_ne dc_Tr_add_4 (Eq.refl 7) rfl (fun hc => ?_) (fun hc => ?_)
  · have h := h.1 hc
    refine J_aload_n dc_Tr_add_17 (Eq.refl 18) 0 rfl ?_
    refine J_iconst (v := (1 : Int32)) dc_Tr_add_18 (Eq.refl 19) rfl ?_
    refine J_putZ dc_Tr_add_19 (Eq.refl 22) pl_Tr_56 (Nat.le_of_ble_eq_true rfl) hk_o0 rfl (Or.inr rfl) ?_
    refine J_iconst (v := (-1 : Int32)) dc_Tr_add_22 (Eq.refl 23) rfl ?_
    exact J_iret dc_Tr_add_23 rfl h
  · have h := h.2 hc
    refine J_aload_n dc_Tr_add_7 (Eq.refl 8) 0 rfl ?_
    refine J_getI dc_Tr_add_8 (Eq.refl 11) fl_Tr_46 (Nat.le_of_ble_eq_true rfl) hk_o0 (Or.inl rfl) ?_
    refine J_sipush (v := (500 : Int32)) dc_Tr_add_11 (Eq.refl 14) rfl ?_
    refine J_icmp_lt dc_Tr_add_14 (Eq.refl 17) rfl (fun hc => ?_) (fun hc => ?_)
    · have h := h.1 hc
      refine J_aload_n dc_Tr_add_24 (Eq.refl 25) 0 rfl ?_
      refine J_getI dc_Tr_add_25 (Eq.refl 28) fl_Tr_46 (Nat.le_of_ble_eq_true rfl) hk_o0 (Or.inl rfl) ?_
      refine J_istore_n (L' := [(3, .int (gI σ o0 13)), (0, pv E o0), (1, .int x1), (2, .int x2)]) dc_Tr_add_28 (Eq.refl 29) (Nat.le_of_ble_eq_true rfl) rfl ?_
      refine J_aload_n dc_Tr_add_29 (Eq.refl 30) 1 rfl ?_
      refine J_dup dc_Tr_add_30 (Eq.refl 31) rfl ?_
      refine J_getI dc_Tr_add_31 (Eq.refl 34) fl_Tr_46 (Nat.le_of_ble_eq_true rfl) hk_o0 (Or.inl rfl) ?_
      refine J_iconst (v := (1 : Int32)) dc_Tr_add_34 (Eq.refl 35) rfl ?_
      refine J_iadd dc_Tr_add_35 (Eq.refl 36) ?_
      refine J_putI dc_Tr_add_36 (Eq.refl 39) pl_Tr_46 (Nat.le_of_ble_eq_true rfl) hk_o0 rfl ?_
      refine J_aload_n dc_Tr_add_39 (Eq.refl 40) 1 rfl ?_
      refine J_getF (y := o0 + 1) dc_Tr_add_40 (Eq.refl 43) fl_Tr_9 (Nat.le_of_ble_eq_true rfl) hk_o0 (Or.inl rfl) rfl ?_
      refine J_iload_n dc_Tr_add_43 (Eq.refl 44) 0 rfl ?_
      refine J_iload_n dc_Tr_add_44 (Eq.refl 45) 2 rfl ?_
      obtain ⟨hg, h⟩ := h
      refine J_iast dc_Tr_add_45 (Eq.refl 46) (ak_Tr_0 hk_o0).1 (ak_Tr_0 hk_o0).2 hg ?_
      refine J_aload_n dc_Tr_add_46 (Eq.refl 47) 1 rfl ?_
      refine J_getF (y := o0 + 2) dc_Tr_add_47 (Eq.refl 50) fl_Tr_15 (Nat.le_of_ble_eq_true rfl) hk_o0 (Or.inl rfl) rfl ?_
      refine J_iload_n dc_Tr_add_50 (Eq.refl 51) 0 rfl ?_
      refine J_iconst (v := (0 : Int32)) dc_Tr_add_51 (Eq.refl 52) rfl ?_
      obtain ⟨hg, h⟩ := h
      refine J_iast dc_Tr_add_52 (Eq.refl 53) (ak_Tr_1 hk_o0).1 (ak_Tr_1 hk_o0).2 hg ?_
      refine J_aload_n dc_Tr_add_53 (Eq.refl 54) 1 rfl ?_
      refine J_getF (y := o0 + 7) dc_Tr_add_54 (Eq.refl 57) fl_Tr_30 (Nat.le_of_ble_eq_true rfl) hk_o0 (Or.inl rfl) rfl ?_
      refine J_iload_n dc_Tr_add_57 (Eq.refl 58) 0 rfl ?_
      refine J_lconst (v := (0 : Int64)) dc_Tr_add_58 (Eq.refl 59) rfl ?_
      obtain ⟨hg, h⟩ := h
      refine J_last dc_Tr_add_59 (Eq.refl 60) (ak_Tr_6 hk_o0).1 (ak_Tr_6 hk_o0).2 hg ?_
      refine J_st (fun σ1 eσ1 => ?_)
      have h := h σ1 eσ1
      refine J_aload_n dc_Tr_add_60 (Eq.refl 61) 1 rfl ?_
      refine J_getF (y := o0 + 8) dc_Tr_add_61 (Eq.refl 64) fl_Tr_34 (Nat.le_of_ble_eq_true rfl) hk_o0 (Or.inl rfl) rfl ?_
      refine J_iload_n dc_Tr_add_64 (Eq.refl 65) 0 rfl ?_
      refine J_iconst (v := (0 : Int32)) dc_Tr_add_65 (Eq.refl 66) rfl ?_
      obtain ⟨hg, h⟩ := h
      refine J_iast dc_Tr_add_66 (Eq.refl 67) (ak_Tr_7 hk_o0).1 (ak_Tr_7 hk_o0).2 hg ?_
      refine J_aload_n dc_Tr_add_67 (Eq.refl 68) 1 rfl ?_
      refine J_getF (y := o0 + 9) dc_Tr_add_68 (Eq.refl 71) fl_Tr_37 (Nat.le_of_ble_eq_true rfl) hk_o0 (Or.inl rfl) rfl ?_
      refine J_iload_n dc_Tr_add_71 (Eq.refl 72) 0 rfl ?_
      refine J_iconst (v := (0 : Int32)) dc_Tr_add_72 (Eq.refl 73) rfl ?_
      obtain ⟨hg, h⟩ := h
      refine J_iast dc_Tr_add_73 (Eq.refl 74) (ak_Tr_8 hk_o0).1 (ak_Tr_8 hk_o0).2 hg ?_
      refine J_aload_n dc_Tr_add_74 (Eq.refl 75) 1 rfl ?_
      refine J_getF (y := o0 + 10) dc_Tr_add_75 (Eq.refl 78) fl_Tr_40 (Nat.le_of_ble_eq_true rfl) hk_o0 (Or.inl rfl) rfl ?_
      refine J_iload_n dc_Tr_add_78 (Eq.refl 79) 0 rfl ?_
      refine J_iconst (v := (0 : Int32)) dc_Tr_add_79 (Eq.refl 80) rfl ?_
      obtain ⟨hg, h⟩ := h
      refine J_iast dc_Tr_add_80 (Eq.refl 81) (ak_Tr_9 hk_o0).1 (ak_Tr_9 hk_o0).2 hg ?_
      refine J_st (fun σ2 eσ2 => ?_)
      have h := h σ2 eσ2
      refine J_iload_n dc_Tr_add_81 (Eq.refl 82) 3 rfl ?_
      refine J_if_lt dc_Tr_add_82 (Eq.refl 85) rfl (fun hc => ?_) (fun hc => ?_)
      · have h := h.1 hc
        refine J_sub [1, 3, 0] rfl ?_
        exact h
      · have h := h.2 hc
        refine J_iload_n dc_Tr_add_85 (Eq.refl 86) 3 rfl ?_
        refine J_iload_n dc_Tr_add_86 (Eq.refl 87) 0 rfl ?_
        refine J_icmp_ge dc_Tr_add_87 (Eq.refl 90) rfl (fun hc => ?_) (fun hc => ?_)
        · have h := h.1 hc
          refine J_sub [1, 3, 0] rfl ?_
          exact h
        · have h := h.2 hc
          refine J_iconst (v := (1 : Int32)) dc_Tr_add_90 (Eq.refl 91) rfl ?_
          refine J_goto dc_Tr_add_91 rfl ?_
          refine J_sub [1, 3, 0] rfl ?_
          exact h
    · have h := h.2 hc
      refine J_aload_n dc_Tr_add_17 (Eq.refl 18) 0 rfl ?_
      refine J_iconst (v := (1 : Int32)) dc_Tr_add_18 (Eq.refl 19) rfl ?_
      refine J_putZ dc_Tr_add_19 (Eq.refl 22) pl_Tr_56 (Nat.le_of_ble_eq_true rfl) hk_o0 rfl (Or.inr rfl) ?_
      refine J_iconst (v := (-1 : Int32)) dc_Tr_add_22 (Eq.refl 23) rfl ?_
      exact J_iret dc_Tr_add_23 rfl h
theorem b_Tr_add_94 {E : En_t} {d : Nat} {σ : S_t} {Q : Option Value → S_t → Prop} {o0 : Nat} {x2 : Int32} {x3 : Int32} (hk_o0 : kindP o0 = 11)
    (h : JE E d m_Tr_add 95 [(0, pv E o0), (2, .int x2), (3, .int x3)] [.int (0 : Int32)] σ Q) :
    JE E d m_Tr_add 94 [(0, pv E o0), (2, .int x2), (3, .int x3)] [] σ Q := by
  refine J_iconst (v := (0 : Int32)) dc_Tr_add_94 (Eq.refl 95) rfl ?_
  exact h
theorem b_Tr_add_95 {E : En_t} {d : Nat} {σ : S_t} {Q : Option Value → S_t → Prop} {o0 : Nat} {x2 : Int32} {x3 : Int32} {s0 : Int32} (hk_o0 : kindP o0 = 11)
    (h : (s0 = 0 → JE E d m_Tr_add 112 [(0, pv E o0), (2, .int x2), (3, .int x3), (4, .int s0)] [.int (-1 : Int32), .int x3, pv E (o0 + 3)] σ Q) ∧ (¬ s0 = 0 → JE E d m_Tr_add 112 [(0, pv E o0), (2, .int x2), (3, .int x3), (4, .int s0)] [.int x2, .int x3, pv E (o0 + 3)] σ Q)) :
    JE E d m_Tr_add 95 [(0, pv E o0), (2, .int x2), (3, .int x3)] [.int s0] σ Q := by
  refine J_istore (L' := [(4, .int s0), (0, pv E o0), (2, .int x2), (3, .int x3)]) dc_Tr_add_95 (Eq.refl 97) (Nat.le_of_ble_eq_true rfl) rfl ?_
  refine J_aload_n dc_Tr_add_97 (Eq.refl 98) 1 rfl ?_
  refine J_getF (y := o0 + 3) dc_Tr_add_98 (Eq.refl 101) fl_Tr_18 (Nat.le_of_ble_eq_true rfl) hk_o0 (Or.inl rfl) rfl ?_
  refine J_iload_n dc_Tr_add_101 (Eq.refl 102) 3 rfl ?_
  refine J_iload dc_Tr_add_102 (Eq.refl 104) 0 rfl ?_
  refine J_if_eq dc_Tr_add_104 (Eq.refl 107) rfl (fun hc => ?_) (fun hc => ?_)
  · have h := h.1 hc
    refine J_iconst (v := (-1 : Int32)) dc_Tr_add_111 (Eq.refl 112) rfl ?_
    refine J_sub [1, 2, 3, 0] rfl ?_
    exact h
  · have h := h.2 hc
    refine J_iload_n dc_Tr_add_107 (Eq.refl 108) 2 rfl ?_
    refine J_goto dc_Tr_add_108 rfl ?_
    refine J_sub [1, 2, 3, 0] rfl ?_
    exact h
theorem b_Tr_add_112 {E : En_t} {d : Nat} {σ : S_t} {Q : Option Value → S_t → Prop} {o0 : Nat} {x2 : Int32} {x3 : Int32} {x4 : Int32} {s0 : Int32} {s1 : Int32} {q2 : Nat} (hk_o0 : kindP o0 = 11) (hk_q2 : kindP q2 = 20)
    (h : vp_in s1 (lenP q2) ∧ ((x4 = 0 → JE E d m_Tr_add 133 [(0, pv E o0), (2, .int x2), (3, .int x3), (4, .int x4)] [.int (0 : Int32), .int x3, pv E (o0 + 4)] (sI σ q2 s1.toNatClampNeg s0) Q) ∧ (¬ x4 = 0 → vp_in x2 500 ∧ (JE E d m_Tr_add 133 [(0, pv E o0), (2, .int x2), (3, .int x3), (4, .int x4)] [.int (gI (sI σ q2 s1.toNatClampNeg s0) (o0 + 2) x2.toNatClampNeg), .int x3, pv E (o0 + 4)] (sI σ q2 s1.toNatClampNeg s0) Q)))) :
    JE E d m_Tr_add 112 [(0, pv E o0), (2, .int x2), (3, .int x3), (4, .int x4)] [.int s0, .int s1, pv E q2] σ Q := by
  obtain ⟨hg, h⟩ := h
  refine J_iast dc_Tr_add_112 (Eq.refl 113) hk_q2 rfl hg ?_
  refine J_aload_n dc_Tr_add_113 (Eq.refl 114) 0 rfl ?_
  refine J_getF (y := o0 + 4) dc_Tr_add_114 (Eq.refl 117) fl_Tr_21 (Nat.le_of_ble_eq_true rfl) hk_o0 (Or.inl rfl) rfl ?_
  refine J_iload_n dc_Tr_add_117 (Eq.refl 118) 2 rfl ?_
  refine J_iload dc_Tr_add_118 (Eq.refl 120) 3 rfl ?_
  refine J_if_eq dc_Tr_add_120 (Eq.refl 123) rfl (fun hc => ?_) (fun hc => ?_)
  · have h := h.1 hc
    refine J_iconst (v := (0 : Int32)) dc_Tr_add_132 (Eq.refl 133) rfl ?_
    exact h
  · have h := h.2 hc
    refine J_aload_n dc_Tr_add_123 (Eq.refl 124) 0 rfl ?_
    refine J_getF (y := o0 + 2) dc_Tr_add_124 (Eq.refl 127) fl_Tr_15 (Nat.le_of_ble_eq_true rfl) hk_o0 (Or.inl rfl) rfl ?_
    refine J_iload_n dc_Tr_add_127 (Eq.refl 128) 1 rfl ?_
    obtain ⟨hg, h⟩ := h
    refine J_iald dc_Tr_add_128 (Eq.refl 129) (ak_Tr_1 hk_o0).1 (ak_Tr_1 hk_o0).2 hg ?_
    refine J_goto dc_Tr_add_129 rfl ?_
    exact h
theorem b_Tr_add_133 {E : En_t} {d : Nat} {σ : S_t} {Q : Option Value → S_t → Prop} {o0 : Nat} {x2 : Int32} {x3 : Int32} {x4 : Int32} {s0 : Int32} {s1 : Int32} {q2 : Nat} (hk_o0 : kindP o0 = 11) (hk_q2 : kindP q2 = 20)
    (h : vp_in s1 (lenP q2) ∧ ((x4 = 0 → JE E d m_Tr_add 156 [(0, pv E o0), (2, .int x2), (3, .int x3), (4, .int x4)] [.int (0 : Int32), .int x3, pv E (o0 + 6)] (sI σ q2 s1.toNatClampNeg s0) Q) ∧ (¬ x4 = 0 → vp_in x2 500 ∧ (JE E d m_Tr_add 156 [(0, pv E o0), (2, .int x2), (3, .int x3), (4, .int x4)] [.int ((gI (sI σ q2 s1.toNatClampNeg s0) (o0 + 6) x2.toNatClampNeg) + (1 : Int32)), .int x3, pv E (o0 + 6)] (sI σ q2 s1.toNatClampNeg s0) Q)))) :
    JE E d m_Tr_add 133 [(0, pv E o0), (2, .int x2), (3, .int x3), (4, .int x4)] [.int s0, .int s1, pv E q2] σ Q := by
  obtain ⟨hg, h⟩ := h
  refine J_iast dc_Tr_add_133 (Eq.refl 134) hk_q2 rfl hg ?_
  refine J_aload_n dc_Tr_add_134 (Eq.refl 135) 0 rfl ?_
  refine J_getF (y := o0 + 6) dc_Tr_add_135 (Eq.refl 138) fl_Tr_27 (Nat.le_of_ble_eq_true rfl) hk_o0 (Or.inl rfl) rfl ?_
  refine J_iload_n dc_Tr_add_138 (Eq.refl 139) 2 rfl ?_
  refine J_iload dc_Tr_add_139 (Eq.refl 141) 3 rfl ?_
  refine J_if_eq dc_Tr_add_141 (Eq.refl 144) rfl (fun hc => ?_) (fun hc => ?_)
  · have h := h.1 hc
    refine J_iconst (v := (0 : Int32)) dc_Tr_add_155 (Eq.refl 156) rfl ?_
    exact h
  · have h := h.2 hc
    refine J_aload_n dc_Tr_add_144 (Eq.refl 145) 0 rfl ?_
    refine J_getF (y := o0 + 6) dc_Tr_add_145 (Eq.refl 148) fl_Tr_27 (Nat.le_of_ble_eq_true rfl) hk_o0 (Or.inl rfl) rfl ?_
    refine J_iload_n dc_Tr_add_148 (Eq.refl 149) 1 rfl ?_
    obtain ⟨hg, h⟩ := h
    refine J_iald dc_Tr_add_149 (Eq.refl 150) (ak_Tr_5 hk_o0).1 (ak_Tr_5 hk_o0).2 hg ?_
    refine J_iconst (v := (1 : Int32)) dc_Tr_add_150 (Eq.refl 151) rfl ?_
    refine J_iadd dc_Tr_add_151 (Eq.refl 152) ?_
    refine J_goto dc_Tr_add_152 rfl ?_
    exact h
theorem b_Tr_add_156 {E : En_t} {d : Nat} {σ : S_t} {Q : Option Value → S_t → Prop} {o0 : Nat} {x2 : Int32} {x3 : Int32} {x4 : Int32} {s0 : Int32} {s1 : Int32} {q2 : Nat} (hk_o0 : kindP o0 = 11) (hk_q2 : kindP q2 = 20)
    (h : vp_in s1 (lenP q2) ∧ ((x4 = 0 → Q (some (.int x3)) (sI σ q2 s1.toNatClampNeg s0)) ∧ (¬ x4 = 0 → vp_in x2 500 ∧ (vp_in x2 500 ∧ (Q (some (.int x3)) (sI (sI σ q2 s1.toNatClampNeg s0) (o0 + 2) x2.toNatClampNeg ((gI (sI σ q2 s1.toNatClampNeg s0) (o0 + 2) x2.toNatClampNeg) + (1 : Int32)))))))) :
    JE E d m_Tr_add 156 [(0, pv E o0), (2, .int x2), (3, .int x3), (4, .int x4)] [.int s0, .int s1, pv E q2] σ Q := by
  obtain ⟨hg, h⟩ := h
  refine J_iast dc_Tr_add_156 (Eq.refl 157) hk_q2 rfl hg ?_
  refine J_iload dc_Tr_add_157 (Eq.refl 159) 3 rfl ?_
  refine J_if_eq dc_Tr_add_159 (Eq.refl 162) rfl (fun hc => ?_) (fun hc => ?_)
  · have h := h.1 hc
    refine J_iload_n dc_Tr_add_172 (Eq.refl 173) 2 rfl ?_
    exact J_iret dc_Tr_add_173 rfl h
  · have h := h.2 hc
    refine J_aload_n dc_Tr_add_162 (Eq.refl 163) 0 rfl ?_
    refine J_getF (y := o0 + 2) dc_Tr_add_163 (Eq.refl 166) fl_Tr_15 (Nat.le_of_ble_eq_true rfl) hk_o0 (Or.inl rfl) rfl ?_
    refine J_iload_n dc_Tr_add_166 (Eq.refl 167) 1 rfl ?_
    refine J_dup2_11 dc_Tr_add_167 (Eq.refl 168) rfl rfl ?_
    obtain ⟨hg, h⟩ := h
    refine J_iald dc_Tr_add_168 (Eq.refl 169) (ak_Tr_1 hk_o0).1 (ak_Tr_1 hk_o0).2 hg ?_
    refine J_iconst (v := (1 : Int32)) dc_Tr_add_169 (Eq.refl 170) rfl ?_
    refine J_iadd dc_Tr_add_170 (Eq.refl 171) ?_
    obtain ⟨hg, h⟩ := h
    refine J_iast dc_Tr_add_171 (Eq.refl 172) (ak_Tr_1 hk_o0).1 (ak_Tr_1 hk_o0).2 hg ?_
    refine J_iload_n dc_Tr_add_172 (Eq.refl 173) 2 rfl ?_
    exact J_iret dc_Tr_add_173 rfl h
theorem dc_Tr_compareWithName_0 : decode m_Tr_compareWithName.2.1 0 = .ok (.aload_n 3, 1) := by decide +kernel
theorem dc_Tr_compareWithName_1 : decode m_Tr_compareWithName.2.1 1 = .ok (.getfield 37, 3) := by decide +kernel
theorem dc_Tr_compareWithName_4 : decode m_Tr_compareWithName.2.1 4 = .ok (.iload 4, 2) := by decide +kernel
theorem dc_Tr_compareWithName_6 : decode m_Tr_compareWithName.2.1 6 = .ok (.iaload, 1) := by decide +kernel
theorem dc_Tr_compareWithName_7 : decode m_Tr_compareWithName.2.1 7 = .ok (.istore 5, 2) := by decide +kernel
theorem dc_Tr_compareWithName_9 : decode m_Tr_compareWithName.2.1 9 = .ok (.iload_n 2, 1) := by decide +kernel
theorem dc_Tr_compareWithName_10 : decode m_Tr_compareWithName.2.1 10 = .ok (.iload 5, 2) := by decide +kernel
theorem dc_Tr_compareWithName_12 : decode m_Tr_compareWithName.2.1 12 = .ok (.invokestatic 77, 3) := by decide +kernel
theorem dc_Tr_compareWithName_15 : decode m_Tr_compareWithName.2.1 15 = .ok (.istore 6, 2) := by decide +kernel
theorem dc_Tr_compareWithName_17 : decode m_Tr_compareWithName.2.1 17 = .ok (.iconst 0, 1) := by decide +kernel
theorem dc_Tr_compareWithName_18 : decode m_Tr_compareWithName.2.1 18 = .ok (.istore 7, 2) := by decide +kernel
theorem dc_Tr_compareWithName_20 : decode m_Tr_compareWithName.2.1 20 = .ok (.iload 7, 2) := by decide +kernel
theorem dc_Tr_compareWithName_22 : decode m_Tr_compareWithName.2.1 22 = .ok (.iload 6, 2) := by decide +kernel
theorem dc_Tr_compareWithName_24 : decode m_Tr_compareWithName.2.1 24 = .ok (.if_icmp .ge 58, 3) := by decide +kernel
theorem dc_Tr_compareWithName_27 : decode m_Tr_compareWithName.2.1 27 = .ok (.aload_n 0, 1) := by decide +kernel
theorem dc_Tr_compareWithName_28 : decode m_Tr_compareWithName.2.1 28 = .ok (.getfield 43, 3) := by decide +kernel
theorem dc_Tr_compareWithName_31 : decode m_Tr_compareWithName.2.1 31 = .ok (.iload_n 1, 1) := by decide +kernel
theorem dc_Tr_compareWithName_32 : decode m_Tr_compareWithName.2.1 32 = .ok (.iload 7, 2) := by decide +kernel
theorem dc_Tr_compareWithName_34 : decode m_Tr_compareWithName.2.1 34 = .ok (.iadd, 1) := by decide +kernel
theorem dc_Tr_compareWithName_35 : decode m_Tr_compareWithName.2.1 35 = .ok (.iaload, 1) := by decide +kernel
theorem dc_Tr_compareWithName_36 : decode m_Tr_compareWithName.2.1 36 = .ok (.istore 8, 2) := by decide +kernel
theorem dc_Tr_compareWithName_38 : decode m_Tr_compareWithName.2.1 38 = .ok (.aload_n 3, 1) := by decide +kernel
theorem dc_Tr_compareWithName_39 : decode m_Tr_compareWithName.2.1 39 = .ok (.getfield 43, 3) := by decide +kernel
theorem dc_Tr_compareWithName_42 : decode m_Tr_compareWithName.2.1 42 = .ok (.aload_n 3, 1) := by decide +kernel
theorem dc_Tr_compareWithName_43 : decode m_Tr_compareWithName.2.1 43 = .ok (.getfield 34, 3) := by decide +kernel
theorem dc_Tr_compareWithName_46 : decode m_Tr_compareWithName.2.1 46 = .ok (.iload 4, 2) := by decide +kernel
theorem dc_Tr_compareWithName_48 : decode m_Tr_compareWithName.2.1 48 = .ok (.iaload, 1) := by decide +kernel
theorem dc_Tr_compareWithName_49 : decode m_Tr_compareWithName.2.1 49 = .ok (.iload 7, 2) := by decide +kernel
theorem dc_Tr_compareWithName_51 : decode m_Tr_compareWithName.2.1 51 = .ok (.iadd, 1) := by decide +kernel
theorem dc_Tr_compareWithName_52 : decode m_Tr_compareWithName.2.1 52 = .ok (.iaload, 1) := by decide +kernel
theorem dc_Tr_compareWithName_53 : decode m_Tr_compareWithName.2.1 53 = .ok (.istore 9, 2) := by decide +kernel
theorem dc_Tr_compareWithName_55 : decode m_Tr_compareWithName.2.1 55 = .ok (.iload 8, 2) := by decide +kernel
theorem dc_Tr_compareWithName_57 : decode m_Tr_compareWithName.2.1 57 = .ok (.iload 9, 2) := by decide +kernel
theorem dc_Tr_compareWithName_59 : decode m_Tr_compareWithName.2.1 59 = .ok (.if_icmp .eq 17, 3) := by decide +kernel
theorem dc_Tr_compareWithName_62 : decode m_Tr_compareWithName.2.1 62 = .ok (.iload 8, 2) := by decide +kernel
theorem dc_Tr_compareWithName_64 : decode m_Tr_compareWithName.2.1 64 = .ok (.invokestatic 90, 3) := by decide +kernel
theorem dc_Tr_compareWithName_67 : decode m_Tr_compareWithName.2.1 67 = .ok (.iload 9, 2) := by decide +kernel
theorem dc_Tr_compareWithName_69 : decode m_Tr_compareWithName.2.1 69 = .ok (.invokestatic 90, 3) := by decide +kernel
theorem dc_Tr_compareWithName_72 : decode m_Tr_compareWithName.2.1 72 = .ok (.invokestatic 94, 3) := by decide +kernel
theorem dc_Tr_compareWithName_75 : decode m_Tr_compareWithName.2.1 75 = .ok (.ireturn, 1) := by decide +kernel
theorem dc_Tr_compareWithName_76 : decode m_Tr_compareWithName.2.1 76 = .ok (.iinc 7 1, 3) := by decide +kernel
theorem dc_Tr_compareWithName_79 : decode m_Tr_compareWithName.2.1 79 = .ok (.goto (-59), 3) := by decide +kernel
theorem dc_Tr_compareWithName_82 : decode m_Tr_compareWithName.2.1 82 = .ok (.iload_n 2, 1) := by decide +kernel
theorem dc_Tr_compareWithName_83 : decode m_Tr_compareWithName.2.1 83 = .ok (.iload 5, 2) := by decide +kernel
theorem dc_Tr_compareWithName_85 : decode m_Tr_compareWithName.2.1 85 = .ok (.invokestatic 94, 3) := by decide +kernel
theorem dc_Tr_compareWithName_88 : decode m_Tr_compareWithName.2.1 88 = .ok (.ireturn, 1) := by decide +kernel
theorem b_Tr_compareWithName_0 {E : En_t} {d : Nat} {σ : S_t} {Q : Option Value → S_t → Prop} {o0 : Nat} {x1 : Int32} {x2 : Int32} {o3 : Nat} {x4 : Int32} (hk_o0 : kindP o0 = 11) (hk_o3 : kindP o3 = 11)
    (h : vp_in x4 500 ∧ (∀ r1, r1 = mnI x2 (gI σ (o3 + 9) x4.toNatClampNeg) → (JE E (d + 1) m_Tr_compareWithName 20 [(0, pv E o0), (1, .int x1), (2, .int x2), (3, pv E o3), (4, .int x4), (5, .int (gI σ (o3 + 9) x4.toNatClampNeg)), (6, .int r1), (7, .int (0 : Int32))] [] σ Q))) :
    JE E (d + 1) m_Tr_compareWithName 0 [(0, pv E o0), (1, .int x1), (2, .int x2), (3, pv E o3), (4, .int x4)] [] σ Q := by
  refine J_aload_n dc_Tr_compareWithName_0 (Eq.refl 1) 3 rfl ?_
  refine J_getF (y := o3 + 9) dc_Tr_compareWithName_1 (Eq.refl 4) fl_Tr_37 (Nat.le_of_ble_eq_true rfl) hk_o3 (Or.inl rfl) rfl ?_
  refine J_iload dc_Tr_compareWithName_4 (Eq.refl 6) 4 rfl ?_
  obtain ⟨hg, h⟩ := h
  refine J_iald dc_Tr_compareWithName_6 (Eq.refl 7) (ak_Tr_8 hk_o3).1 (ak_Tr_8 hk_o3).2 hg ?_
  refine J_istore (L' := [(5, .int (gI σ (o3 + 9) x4.toNatClampNeg)), (0, pv E o0), (1, .int x1), (2, .int x2), (3, pv E o3), (4, .int x4)]) dc_Tr_compareWithName_7 (Eq.refl 9) (Nat.le_of_ble_eq_true rfl) rfl ?_
  refine J_iload_n dc_Tr_compareWithName_9 (Eq.refl 10) 3 rfl ?_
  refine J_iload dc_Tr_compareWithName_10 (Eq.refl 12) 0 rfl ?_
  refine J_mmin dc_Tr_compareWithName_12 (Eq.refl 15) lk_Tr_77 (Nat.le_of_ble_eq_true rfl) (fun r1 er1 => ?_)
  have h := h r1 er1
  refine J_istore (L' := [(6, .int r1), (5, .int (gI σ (o3 + 9) x4.toNatClampNeg)), (0, pv E o0), (1, .int x1), (2, .int x2), (3, pv E o3), (4, .int x4)]) dc_Tr_compareWithName_15 (Eq.refl 17) (Nat.le_of_ble_eq_true rfl) rfl ?_
  refine J_iconst (v := (0 : Int32)) dc_Tr_compareWithName_17 (Eq.refl 18) rfl ?_
  refine J_istore (L' := [(7, .int (0 : Int32)), (6, .int r1), (5, .int (gI σ (o3 + 9) x4.toNatClampNeg)), (0, pv E o0), (1, .int x1), (2, .int x2), (3, pv E o3), (4, .int x4)]) dc_Tr_compareWithName_18 (Eq.refl 20) (Nat.le_of_ble_eq_true rfl) rfl ?_
  refine J_sub [3, 4, 5, 6, 7, 2, 1, 0] rfl ?_
  exact h
theorem b_Tr_compareWithName_20 {E : En_t} {d : Nat} {σ : S_t} {Q : Option Value → S_t → Prop} {o0 : Nat} {x1 : Int32} {x2 : Int32} {o3 : Nat} {x4 : Int32} {x5 : Int32} {x6 : Int32} {x7 : Int32} (hk_o0 : kindP o0 = 11) (hk_o3 : kindP o3 = 11)
    (h : (x6 ≤ x7 → CI E d m_JIn_compare [.int x2, .int x5] σ (fun r2 σ1 => Q (some (.int r2)) σ1)) ∧ (¬ x6 ≤ x7 → vp_in (x1 + x7) 4000 ∧ (vp_in x4 500 ∧ (vp_in ((gI σ (o3 + 8) x4.toNatClampNeg) + x7) 4000 ∧ (((gI σ (o0 + 11) (x1 + x7).toNatClampNeg) = (gI σ (o3 + 11) ((gI σ (o3 + 8) x4.toNatClampNeg) + x7).toNatClampNeg) → JE E (d + 1) m_Tr_compareWithName 20 [(0, pv E o0), (1, .int x1), (2, .int x2), (3, pv E o3), (4, .int x4), (5, .int x5), (6, .int x6), (7, .int (x7 + (1 : Int32)))] [] σ Q) ∧ (¬ (gI σ (o0 + 11) (x1 + x7).toNatClampNeg) = (gI σ (o3 + 11) ((gI σ (o3 + 8) x4.toNatClampNeg) + x7).toNatClampNeg) → CI E d m_Tr_rank [.int (gI σ (o0 + 11) (x1 + x7).toNatClampNeg)] σ (fun r4 σ3 => CI E d m_Tr_rank [.int (gI σ (o3 + 11) ((gI σ (o3 + 8) x4.toNatClampNeg) + x7).toNatClampNeg)] σ3 (fun r6 σ5 => CI E d m_JIn_compare [.int r4, .int r6] σ5 (fun r8 σ7 => Q (some (.int r8)) σ7))))))))) :
    JE E (d + 1) m_Tr_compareWithName 20 [(0, pv E o0), (1, .int x1), (2, .int x2), (3, pv E o3), (4, .int x4), (5, .int x5), (6, .int x6), (7, .int x7)] [] σ Q := by
  refine J_iload dc_Tr_compareWithName_20 (Eq.refl 22) 7 rfl ?_
  refine J_iload dc_Tr_compareWithName_22 (Eq.refl 24) 6 rfl ?_
  refine J_icmp_ge dc_Tr_compareWithName_24 (Eq.refl 27) rfl (fun hc => ?_) (fun hc => ?_)
  · have h := h.1 hc
    refine J_iload_n dc_Tr_compareWithName_82 (Eq.refl 83) 2 rfl ?_
    refine J_iload dc_Tr_compareWithName_83 (Eq.refl 85) 5 rfl ?_
    refine J_callSI (As := [.int x2, .int x5]) (st := []) dc_Tr_compareWithName_85 (Eq.refl 88) lk_Tr_94 mi_JIn_compare (Nat.le_of_ble_eq_true rfl) rfl (Nat.le_of_ble_eq_true rfl) (CI.mono h (fun r2 σ1 h => ?_))
    exact J_iret dc_Tr_compareWithName_88 rfl h
  · have h := h.2 hc
    refine J_aload_n dc_Tr_compareWithName_27 (Eq.refl 28) 0 rfl ?_
    refine J_getF (y := o0 + 11) dc_Tr_compareWithName_28 (Eq.refl 31) fl_Tr_43 (Nat.le_of_ble_eq_true rfl) hk_o0 (Or.inl rfl) rfl ?_
    refine J_iload_n dc_Tr_compareWithName_31 (Eq.refl 32) 1 rfl ?_
    refine J_iload dc_Tr_compareWithName_32 (Eq.refl 34) 7 rfl ?_
    refine J_iadd dc_Tr_compareWithName_34 (Eq.refl 35) ?_
    obtain ⟨hg, h⟩ := h
    refine J_iald dc_Tr_compareWithName_35 (Eq.refl 36) (ak_Tr_10 hk_o0).1 (ak_Tr_10 hk_o0).2 hg ?_
    refine J_istore (L' := [(8, .int (gI σ (o0 + 11) (x1 + x7).toNatClampNeg)), (0, pv E o0), (1, .int x1), (2, .int x2), (3, pv E o3), (4, .int x4), (5, .int x5), (6, .int x6), (7, .int x7)]) dc_Tr_compareWithName_36 (Eq.refl 38) (Nat.le_of_ble_eq_true rfl) rfl ?_
    refine J_aload_n dc_Tr_compareWithName_38 (Eq.refl 39) 4 rfl ?_
    refine J_getF (y := o3 + 11) dc_Tr_compareWithName_39 (Eq.refl 42) fl_Tr_43 (Nat.le_of_ble_eq_true rfl) hk_o3 (Or.inl rfl) rfl ?_
    refine J_aload_n dc_Tr_compareWithName_42 (Eq.refl 43) 4 rfl ?_
    refine J_getF (y := o3 + 8) dc_Tr_compareWithName_43 (Eq.refl 46) fl_Tr_34 (Nat.le_of_ble_eq_true rfl) hk_o3 (Or.inl rfl) rfl ?_
    refine J_iload dc_Tr_compareWithName_46 (Eq.refl 48) 5 rfl ?_
    obtain ⟨hg, h⟩ := h
    refine J_iald dc_Tr_compareWithName_48 (Eq.refl 49) (ak_Tr_7 hk_o3).1 (ak_Tr_7 hk_o3).2 hg ?_
    refine J_iload dc_Tr_compareWithName_49 (Eq.refl 51) 8 rfl ?_
    refine J_iadd dc_Tr_compareWithName_51 (Eq.refl 52) ?_
    obtain ⟨hg, h⟩ := h
    refine J_iald dc_Tr_compareWithName_52 (Eq.refl 53) (ak_Tr_10 hk_o3).1 (ak_Tr_10 hk_o3).2 hg ?_
    refine J_istore (L' := [(9, .int (gI σ (o3 + 11) ((gI σ (o3 + 8) x4.toNatClampNeg) + x7).toNatClampNeg)), (8, .int (gI σ (o0 + 11) (x1 + x7).toNatClampNeg)), (0, pv E o0), (1, .int x1), (2, .int x2), (3, pv E o3), (4, .int x4), (5, .int x5), (6, .int x6), (7, .int x7)]) dc_Tr_compareWithName_53 (Eq.refl 55) (Nat.le_of_ble_eq_true rfl) rfl ?_
    refine J_iload dc_Tr_compareWithName_55 (Eq.refl 57) 1 rfl ?_
    refine J_iload dc_Tr_compareWithName_57 (Eq.refl 59) 0 rfl ?_
    refine J_icmp_eq dc_Tr_compareWithName_59 (Eq.refl 62) rfl (fun hc => ?_) (fun hc => ?_)
    · have h := h.1 hc
      refine J_iinc (v := x7 + (1 : Int32)) (L' := [(7, .int (x7 + (1 : Int32))), (9, .int (gI σ (o3 + 11) ((gI σ (o3 + 8) x4.toNatClampNeg) + x7).toNatClampNeg)), (8, .int (gI σ (o0 + 11) (x1 + x7).toNatClampNeg)), (0, pv E o0), (1, .int x1), (2, .int x2), (3, pv E o3), (4, .int x4), (5, .int x5), (6, .int x6)]) dc_Tr_compareWithName_76 (Eq.refl 79) 9 rfl rfl (Nat.le_of_ble_eq_true rfl) rfl ?_
      refine J_goto dc_Tr_compareWithName_79 rfl ?_
      refine J_sub [3, 4, 5, 6, 7, 8, 9, 0] rfl ?_
      exact h
    · have h := h.2 hc
      refine J_iload dc_Tr_compareWithName_62 (Eq.refl 64) 1 rfl ?_
      refine J_callSI (As := [.int (gI σ (o0 + 11) (x1 + x7).toNatClampNeg)]) (st := []) dc_Tr_compareWithName_64 (Eq.refl 67) lk_Tr_90 mi_Tr_rank (Nat.le_of_ble_eq_true rfl) rfl (Nat.le_of_ble_eq_true rfl) (CI.mono h (fun r4 σ3 h => ?_))
      refine J_iload dc_Tr_compareWithName_67 (Eq.refl 69) 0 rfl ?_
      refine J_callSI (As := [.int (gI σ (o3 + 11) ((gI σ (o3 + 8) x4.toNatClampNeg) + x7).toNatClampNeg)]) (st := [.int r4]) dc_Tr_compareWithName_69 (Eq.refl 72) lk_Tr_90 mi_Tr_rank (Nat.le_of_ble_eq_true rfl) rfl (Nat.le_of_ble_eq_true rfl) (CI.mono h (fun r6 σ5 h => ?_))
      refine J_callSI (As := [.int r4, .int r6]) (st := []) dc_Tr_compareWithName_72 (Eq.refl 75) lk_Tr_94 mi_JIn_compare (Nat.le_of_ble_eq_true rfl) rfl (Nat.le_of_ble_eq_true rfl) (CI.mono h (fun r8 σ7 h => ?_))
      exact J_iret dc_Tr_compareWithName_75 rfl h
theorem dc_Tr_rank_0 : decode m_Tr_rank.2.1 0 = .ok (.iload_n 0, 1) := by decide +kernel
theorem dc_Tr_rank_1 : decode m_Tr_rank.2.1 1 = .ok (.ldc 103, 2) := by decide +kernel
theorem dc_Tr_rank_3 : decode m_Tr_rank.2.1 3 = .ok (.if_icmp .ge 5, 3) := by decide +kernel
theorem dc_Tr_rank_6 : decode m_Tr_rank.2.1 6 = .ok (.iload_n 0, 1) := by decide +kernel
theorem dc_Tr_rank_7 : decode m_Tr_rank.2.1 7 = .ok (.ireturn, 1) := by decide +kernel
theorem dc_Tr_rank_8 : decode m_Tr_rank.2.1 8 = .ok (.iload_n 0, 1) := by decide +kernel
theorem dc_Tr_rank_9 : decode m_Tr_rank.2.1 9 = .ok (.ldc 60, 2) := by decide +kernel
theorem dc_Tr_rank_11 : decode m_Tr_rank.2.1 11 = .ok (.if_icmp .ge 10, 3) := by decide +kernel
theorem dc_Tr_rank_14 : decode m_Tr_rank.2.1 14 = .ok (.iload_n 0, 1) := by decide +kernel
theorem dc_Tr_rank_15 : decode m_Tr_rank.2.1 15 = .ok (.ldc 104, 2) := by decide +kernel
theorem dc_Tr_rank_17 : decode m_Tr_rank.2.1 17 = .ok (.iadd, 1) := by decide +kernel
theorem dc_Tr_rank_18 : decode m_Tr_rank.2.1 18 = .ok (.goto 10, 3) := by decide +kernel
theorem dc_Tr_rank_21 : decode m_Tr_rank.2.1 21 = .ok (.iload_n 0, 1) := by decide +kernel
theorem dc_Tr_rank_22 : decode m_Tr_rank.2.1 22 = .ok (.ldc 60, 2) := by decide +kernel
theorem dc_Tr_rank_24 : decode m_Tr_rank.2.1 24 = .ok (.isub, 1) := by decide +kernel
theorem dc_Tr_rank_25 : decode m_Tr_rank.2.1 25 = .ok (.ldc 103, 2) := by decide +kernel
theorem dc_Tr_rank_27 : decode m_Tr_rank.2.1 27 = .ok (.iadd, 1) := by decide +kernel
theorem dc_Tr_rank_28 : decode m_Tr_rank.2.1 28 = .ok (.ireturn, 1) := by decide +kernel
theorem b_Tr_rank_0 {E : En_t} {d : Nat} {σ : S_t} {Q : Option Value → S_t → Prop} {x0 : Int32}
    (h : ((55296 : Int32) ≤ x0 → ((65536 : Int32) ≤ x0 → Q (some (.int ((x0 - (65536 : Int32)) + (55296 : Int32)))) σ) ∧ (¬ (65536 : Int32) ≤ x0 → Q (some (.int (x0 + (1048576 : Int32)))) σ)) ∧ (¬ (55296 : Int32) ≤ x0 → Q (some (.int x0)) σ)) :
    JE E d m_Tr_rank 0 [(0, .int x0)] [] σ Q := by
  refine J_iload_n dc_Tr_rank_0 (Eq.refl 1) 0 rfl ?_
  refine J_ldc dc_Tr_rank_1 (Eq.refl 3) kc_Tr_103 ?_
  refine J_icmp_ge dc_Tr_rank_3 (Eq.refl 6) rfl (fun hc => ?_) (fun hc => ?_)
  · have h := h.1 hc
    refine J_iload_n dc_Tr_rank_8 (Eq.refl 9) 0 rfl ?_
    refine J_ldc dc_Tr_rank_9 (Eq.refl 11) kc_Tr_60 ?_
    refine J_icmp_ge dc_Tr_rank_11 (Eq.refl 14) rfl (fun hc => ?_) (fun hc => ?_)
    · have h := h.1 hc
      refine J_iload_n dc_Tr_rank_21 (Eq.refl 22) 0 rfl ?_
      refine J_ldc dc_Tr_rank_22 (Eq.refl 24) kc_Tr_60 ?_
      refine J_isub dc_Tr_rank_24 (Eq.refl 25) ?_
      refine J_ldc dc_Tr_rank_25 (Eq.refl 27) kc_Tr_103 ?_
      refine J_iadd dc_Tr_rank_27 (Eq.refl 28) ?_
      exact J_iret dc_Tr_rank_28 rfl h
    · have h := h.2 hc
      refine J_iload_n dc_Tr_rank_14 (Eq.refl 15) 0 rfl ?_
      refine J_ldc dc_Tr_rank_15 (Eq.refl 17) kc_Tr_104 ?_
      refine J_iadd dc_Tr_rank_17 (Eq.refl 18) ?_
      refine J_goto dc_Tr_rank_18 rfl ?_
      exact J_iret dc_Tr_rank_28 rfl h
  · have h := h.2 hc
    refine J_iload_n dc_Tr_rank_6 (Eq.refl 7) 0 rfl ?_
    exact J_iret dc_Tr_rank_7 rfl h
theorem dc_Tr_addLike_0 : decode m_Tr_addLike.2.1 0 = .ok (.aload_n 0, 1) := by decide +kernel
theorem dc_Tr_addLike_1 : decode m_Tr_addLike.2.1 1 = .ok (.aload_n 1, 1) := by decide +kernel
theorem dc_Tr_addLike_2 : decode m_Tr_addLike.2.1 2 = .ok (.getfield 9, 3) := by decide +kernel
theorem dc_Tr_addLike_5 : decode m_Tr_addLike.2.1 5 = .ok (.iload_n 2, 1) := by decide +kernel
theorem dc_Tr_addLike_6 : decode m_Tr_addLike.2.1 6 = .ok (.iaload, 1) := by decide +kernel
theorem dc_Tr_addLike_7 : decode m_Tr_addLike.2.1 7 = .ok (.aload_n 1, 1) := by decide +kernel
theorem dc_Tr_addLike_8 : decode m_Tr_addLike.2.1 8 = .ok (.iload_n 2, 1) := by decide +kernel
theorem dc_Tr_addLike_9 : decode m_Tr_addLike.2.1 9 = .ok (.iload_n 3, 1) := by decide +kernel
theorem dc_Tr_addLike_10 : decode m_Tr_addLike.2.1 10 = .ok (.invokevirtual 73, 3) := by decide +kernel
theorem dc_Tr_addLike_13 : decode m_Tr_addLike.2.1 13 = .ok (.istore 4, 2) := by decide +kernel
theorem dc_Tr_addLike_15 : decode m_Tr_addLike.2.1 15 = .ok (.iload 4, 2) := by decide +kernel
theorem dc_Tr_addLike_17 : decode m_Tr_addLike.2.1 17 = .ok (.iconst (-1), 1) := by decide +kernel
theorem dc_Tr_addLike_18 : decode m_Tr_addLike.2.1 18 = .ok (.if_icmp .ne 5, 3) := by decide +kernel
theorem dc_Tr_addLike_21 : decode m_Tr_addLike.2.1 21 = .ok (.iconst (-1), 1) := by decide +kernel
theorem dc_Tr_addLike_22 : decode m_Tr_addLike.2.1 22 = .ok (.ireturn, 1) := by decide +kernel
theorem dc_Tr_addLike_23 : decode m_Tr_addLike.2.1 23 = .ok (.aload_n 0, 1) := by decide +kernel
theorem dc_Tr_addLike_24 : decode m_Tr_addLike.2.1 24 = .ok (.getfield 30, 3) := by decide +kernel
theorem dc_Tr_addLike_27 : decode m_Tr_addLike.2.1 27 = .ok (.iload 4, 2) := by decide +kernel
theorem dc_Tr_addLike_29 : decode m_Tr_addLike.2.1 29 = .ok (.aload_n 1, 1) := by decide +kernel
theorem dc_Tr_addLike_30 : decode m_Tr_addLike.2.1 30 = .ok (.getfield 30, 3) := by decide +kernel
theorem dc_Tr_addLike_33 : decode m_Tr_addLike.2.1 33 = .ok (.iload_n 2, 1) := by decide +kernel
theorem dc_Tr_addLike_34 : decode m_Tr_addLike.2.1 34 = .ok (.laload, 1) := by decide +kernel
theorem dc_Tr_addLike_35 : decode m_Tr_addLike.2.1 35 = .ok (.lastore, 1) := by decide +kernel
theorem dc_Tr_addLike_36 : decode m_Tr_addLike.2.1 36 = .ok (.aload_n 1, 1) := by decide +kernel
theorem dc_Tr_addLike_37 : decode m_Tr_addLike.2.1 37 = .ok (.getfield 9, 3) := by decide +kernel
theorem dc_Tr_addLike_40 : decode m_Tr_addLike.2.1 40 = .ok (.iload_n 2, 1) := by decide +kernel
theorem dc_Tr_addLike_41 : decode m_Tr_addLike.2.1 41 = .ok (.iaload, 1) := by decide +kernel
theorem dc_Tr_addLike_42 : decode m_Tr_addLike.2.1 42 = .ok (.iconst 4, 1) := by decide +kernel
theorem dc_Tr_addLike_43 : decode m_Tr_addLike.2.1 43 = .ok (.if_icmp .ne 50, 3) := by decide +kernel
theorem dc_Tr_addLike_46 : decode m_Tr_addLike.2.1 46 = .ok (.aload_n 0, 1) := by decide +kernel
theorem dc_Tr_addLike_47 : decode m_Tr_addLike.2.1 47 = .ok (.getfield 40, 3) := by decide +kernel
theorem dc_Tr_addLike_50 : decode m_Tr_addLike.2.1 50 = .ok (.iload 4, 2) := by decide +kernel
theorem dc_Tr_addLike_52 : decode m_Tr_addLike.2.1 52 = .ok (.aload_n 0, 1) := by decide +kernel
theorem dc_Tr_addLike_53 : decode m_Tr_addLike.2.1 53 = .ok (.getfield 50, 3) := by decide +kernel
theorem dc_Tr_addLike_56 : decode m_Tr_addLike.2.1 56 = .ok (.iastore, 1) := by decide +kernel
theorem dc_Tr_addLike_57 : decode m_Tr_addLike.2.1 57 = .ok (.aload_n 0, 1) := by decide +kernel
theorem dc_Tr_addLike_58 : decode m_Tr_addLike.2.1 58 = .ok (.aload_n 1, 1) := by decide +kernel
theorem dc_Tr_addLike_59 : decode m_Tr_addLike.2.1 59 = .ok (.aload_n 1, 1) := by decide +kernel
theorem dc_Tr_addLike_60 : decode m_Tr_addLike.2.1 60 = .ok (.getfield 40, 3) := by decide +kernel
theorem dc_Tr_addLike_63 : decode m_Tr_addLike.2.1 63 = .ok (.iload_n 2, 1) := by decide +kernel
theorem dc_Tr_addLike_64 : decode m_Tr_addLike.2.1 64 = .ok (.iaload, 1) := by decide +kernel
theorem dc_Tr_addLike_65 : decode m_Tr_addLike.2.1 65 = .ok (.aload_n 1, 1) := by decide +kernel
theorem dc_Tr_addLike_66 : decode m_Tr_addLike.2.1 66 = .ok (.getfield 15, 3) := by decide +kernel
theorem dc_Tr_addLike_69 : decode m_Tr_addLike.2.1 69 = .ok (.iload_n 2, 1) := by decide +kernel
theorem dc_Tr_addLike_70 : decode m_Tr_addLike.2.1 70 = .ok (.iaload, 1) := by decide +kernel
theorem dc_Tr_addLike_71 : decode m_Tr_addLike.2.1 71 = .ok (.invokevirtual 69, 3) := by decide +kernel
theorem dc_Tr_addLike_74 : decode m_Tr_addLike.2.1 74 = .ok (.aload_n 0, 1) := by decide +kernel
theorem dc_Tr_addLike_75 : decode m_Tr_addLike.2.1 75 = .ok (.getfield 15, 3) := by decide +kernel
theorem dc_Tr_addLike_78 : decode m_Tr_addLike.2.1 78 = .ok (.iload 4, 2) := by decide +kernel
theorem dc_Tr_addLike_80 : decode m_Tr_addLike.2.1 80 = .ok (.aload_n 0, 1) := by decide +kernel
theorem dc_Tr_addLike_81 : decode m_Tr_addLike.2.1 81 = .ok (.getfield 50, 3) := by decide +kernel
theorem dc_Tr_addLike_84 : decode m_Tr_addLike.2.1 84 = .ok (.aload_n 0, 1) := by decide +kernel
theorem dc_Tr_addLike_85 : decode m_Tr_addLike.2.1 85 = .ok (.getfield 40, 3) := by decide +kernel
theorem dc_Tr_addLike_88 : decode m_Tr_addLike.2.1 88 = .ok (.iload 4, 2) := by decide +kernel
theorem dc_Tr_addLike_90 : decode m_Tr_addLike.2.1 90 = .ok (.iaload, 1) := by decide +kernel
theorem dc_Tr_addLike_91 : decode m_Tr_addLike.2.1 91 = .ok (.isub, 1) := by decide +kernel
theorem dc_Tr_addLike_92 : decode m_Tr_addLike.2.1 92 = .ok (.iastore, 1) := by decide +kernel
theorem dc_Tr_addLike_93 : decode m_Tr_addLike.2.1 93 = .ok (.iload 4, 2) := by decide +kernel
theorem dc_Tr_addLike_95 : decode m_Tr_addLike.2.1 95 = .ok (.ireturn, 1) := by decide +kernel
theorem b_Tr_addLike_0 {E : En_t} {d : Nat} {σ : S_t} {Q : Option Value → S_t → Prop} {o0 : Nat} {o1 : Nat} {x2 : Int32} {x3 : Int32} (hk_o0 : kindP o0 = 11) (hk_o1 : kindP o1 = 11)
    (h : vp_in x2 500 ∧ (CI E d m_Tr_addNamed [pv E o0, .int (gI σ (o1 + 1) x2.toNatClampNeg), pv E o1, .int x2, .int x3] σ (fun r2 σ1 => (¬ r2 = (-1 : Int32) → vp_in x2 500 ∧ (vp_in r2 500 ∧ (vp_in x2 500 ∧ ((¬ (gI (sL σ1 (o0 + 7) r2.toNatClampNeg (gL σ1 (o1 + 7) x2.toNatClampNeg)) (o1 + 1) x2.toNatClampNeg) = (4 : Int32) → Q (some (.int r2)) (sL σ1 (o0 + 7) r2.toNatClampNeg (gL σ1 (o1 + 7) x2.toNatClampNeg))) ∧ ((gI (sL σ1 (o0 + 7) r2.toNatClampNeg (gL σ1 (o1 + 7) x2.toNatClampNeg)) (o1 + 1) x2.toNatClampNeg) = (4 : Int32) → vp_in r2 500 ∧ (∀ σ3, σ3 = sI (sL σ1 (o0 + 7) r2.toNatClampNeg (gL σ1 (o1 + 7) x2.toNatClampNeg)) (o0 + 10) r2.toNatClampNeg (gI (sL σ1 (o0 + 7) r2.toNatClampNeg (gL σ1 (o1 + 7) x2.toNatClampNeg)) o0 11) → (vp_in x2 500 ∧ (vp_in x2 500 ∧ (CV E d m_Tr_addCharacters [pv E o0, pv E o1, .int (gI σ3 (o1 + 10) x2.toNatClampNeg), .int (gI σ3 (o1 + 2) x2.toNatClampNeg)] σ3 (fun σ4 => vp_in r2 500 ∧ (vp_in r2 500 ∧ (Q (some (.int r2)) (sI σ4 (o0 + 2) r2.toNatClampNeg ((gI σ4 o0 11) - (gI σ4 (o0 + 10) r2.toNatClampNeg))))))))))))))) ∧ (r2 = (-1 : Int32) → Q (some (.int (-1 : Int32))) σ1)))) :
    JE E (d + 1) m_Tr_addLike 0 [(0, pv E o0), (1, pv E o1), (2, .int x2), (3, .int x3)] [] σ Q := by
  refine J_aload_n dc_Tr_addLike_0 (Eq.refl 1) 0 rfl ?_
  refine J_aload_n dc_Tr_addLike_1 (Eq.refl 2) 1 rfl ?_
  refine J_getF (y := o1 + 1) dc_Tr_addLike_2 (Eq.refl 5) fl_Tr_9 (Nat.le_of_ble_eq_true rfl) hk_o1 (Or.inl rfl) rfl ?_
  refine J_iload_n dc_Tr_addLike_5 (Eq.refl 6) 2 rfl ?_
  obtain ⟨hg, h⟩ := h
  refine J_iald dc_Tr_addLike_6 (Eq.refl 7) (ak_Tr_0 hk_o1).1 (ak_Tr_0 hk_o1).2 hg ?_
  refine J_aload_n dc_Tr_addLike_7 (Eq.refl 8) 1 rfl ?_
  refine J_iload_n dc_Tr_addLike_8 (Eq.refl 9) 2 rfl ?_
  refine J_iload_n dc_Tr_addLike_9 (Eq.refl 10) 3 rfl ?_
  refine J_callVI (As := [.int (gI σ (o1 + 1) x2.toNatClampNeg), pv E o1, .int x2, .int x3]) (st := []) dc_Tr_addLike_10 (Eq.refl 13) lk_Tr_73 mi_Tr_addNamed hk_o0 (Nat.le_of_ble_eq_true rfl) rfl rfl (Nat.le_of_ble_eq_true rfl) rfl (Nat.le_of_ble_eq_true rfl) (CI.mono h (fun r2 σ1 h => ?_))
  refine J_istore (L' := [(4, .int r2), (0, pv E o0), (1, pv E o1), (2, .int x2), (3, .int x3)]) dc_Tr_addLike_13 (Eq.refl 15) (Nat.le_of_ble_eq_true rfl) rfl ?_
  refine J_iload dc_Tr_addLike_15 (Eq.refl 17) 0 rfl ?_
  refine J_iconst (v := (-1 : Int32)) dc_Tr_addLike_17 (Eq.refl 18) rfl ?_
  refine J_icmp_ne dc_Tr_addLike_18 (Eq.refl 21) rfl (fun hc => ?_) (fun hc => ?_)
  · have h := h.1 hc
    refine J_aload_n dc_Tr_addLike_23 (Eq.refl 24) 1 rfl ?_
    refine J_getF (y := o0 + 7) dc_Tr_addLike_24 (Eq.refl 27) fl_Tr_30 (Nat.le_of_ble_eq_true rfl) hk_o0 (Or.inl rfl) rfl ?_
    refine J_iload dc_Tr_addLike_27 (Eq.refl 29) 0 rfl ?_
    refine J_aload_n dc_Tr_addLike_29 (Eq.refl 30) 2 rfl ?_
    refine J_getF (y := o1 + 7) dc_Tr_addLike_30 (Eq.refl 33) fl_Tr_30 (Nat.le_of_ble_eq_true rfl) hk_o1 (Or.inl rfl) rfl ?_
    refine J_iload_n dc_Tr_addLike_33 (Eq.refl 34) 3 rfl ?_
    obtain ⟨hg, h⟩ := h
    refine J_lald dc_Tr_addLike_34 (Eq.refl 35) (ak_Tr_6 hk_o1).1 (ak_Tr_6 hk_o1).2 hg ?_
    obtain ⟨hg, h⟩ := h
    refine J_last dc_Tr_addLike_35 (Eq.refl 36) (ak_Tr_6 hk_o0).1 (ak_Tr_6 hk_o0).2 hg ?_
    refine J_aload_n dc_Tr_addLike_36 (Eq.refl 37) 2 rfl ?_
    refine J_getF (y := o1 + 1) dc_Tr_addLike_37 (Eq.refl 40) fl_Tr_9 (Nat.le_of_ble_eq_true rfl) hk_o1 (Or.inl rfl) rfl ?_
    refine J_iload_n dc_Tr_addLike_40 (Eq.refl 41) 3 rfl ?_
    obtain ⟨hg, h⟩ := h
    refine J_iald dc_Tr_addLike_41 (Eq.refl 42) (ak_Tr_0 hk_o1).1 (ak_Tr_0 hk_o1).2 hg ?_
    refine J_iconst (v := (4 : Int32)) dc_Tr_addLike_42 (Eq.refl 43) rfl ?_
    refine J_icmp_ne dc_Tr_addLike_43 (Eq.refl 46) rfl (fun hc => ?_) (fun hc => ?_)
    · have h := h.1 hc
      refine J_iload dc_Tr_addLike_93 (Eq.refl 95) 0 rfl ?_
      exact J_iret dc_Tr_addLike_95 rfl h
    · have h := h.2 hc
      refine J_aload_n dc_Tr_addLike_46 (Eq.refl 47) 1 rfl ?_
      refine J_getF (y := o0 + 10) dc_Tr_addLike_47 (Eq.refl 50) fl_Tr_40 (Nat.le_of_ble_eq_true rfl) hk_o0 (Or.inl rfl) rfl ?_
      refine J_iload dc_Tr_addLike_50 (Eq.refl 52) 0 rfl ?_
      refine J_aload_n dc_Tr_addLike_52 (Eq.refl 53) 1 rfl ?_
      refine J_getI dc_Tr_addLike_53 (Eq.refl 56) fl_Tr_50 (Nat.le_of_ble_eq_true rfl) hk_o0 (Or.inl rfl) ?_
      obtain ⟨hg, h⟩ := h
      refine J_iast dc_Tr_addLike_56 (Eq.refl 57) (ak_Tr_9 hk_o0).1 (ak_Tr_9 hk_o0).2 hg ?_
      refine J_st (fun σ3 eσ3 => ?_)
      have h := h σ3 eσ3
      refine J_aload_n dc_Tr_addLike_57 (Eq.refl 58) 1 rfl ?_
      refine J_aload_n dc_Tr_addLike_58 (Eq.refl 59) 2 rfl ?_
      refine J_aload_n dc_Tr_addLike_59 (Eq.refl 60) 2 rfl ?_
      refine J_getF (y := o1 + 10) dc_Tr_addLike_60 (Eq.refl 63) fl_Tr_40 (Nat.le_of_ble_eq_true rfl) hk_o1 (Or.inl rfl) rfl ?_
      refine J_iload_n dc_Tr_addLike_63 (Eq.refl 64) 3 rfl ?_
      obtain ⟨hg, h⟩ := h
      refine J_iald dc_Tr_addLike_64 (Eq.refl 65) (ak_Tr_9 hk_o1).1 (ak_Tr_9 hk_o1).2 hg ?_
      refine J_aload_n dc_Tr_addLike_65 (Eq.refl 66) 2 rfl ?_
      refine J_getF (y := o1 + 2) dc_Tr_addLike_66 (Eq.refl 69) fl_Tr_15 (Nat.le_of_ble_eq_true rfl) hk_o1 (Or.inl rfl) rfl ?_
      refine J_iload_n dc_Tr_addLike_69 (Eq.refl 70) 3 rfl ?_
      obtain ⟨hg, h⟩ := h
      refine J_iald dc_Tr_addLike_70 (Eq.refl 71) (ak_Tr_1 hk_o1).1 (ak_Tr_1 hk_o1).2 hg ?_
      refine J_callVV (As := [pv E o1, .int (gI σ3 (o1 + 10) x2.toNatClampNeg), .int (gI σ3 (o1 + 2) x2.toNatClampNeg)]) (st := []) dc_Tr_addLike_71 (Eq.refl 74) lk_Tr_69 mi_Tr_addCharacters hk_o0 (Nat.le_of_ble_eq_true rfl) rfl rfl (Nat.le_of_ble_eq_true rfl) rfl (Nat.le_of_ble_eq_true rfl) (CV.mono h (fun σ4 h => ?_))
      refine J_aload_n dc_Tr_addLike_74 (Eq.refl 75) 1 rfl ?_
      refine J_getF (y := o0 + 2) dc_Tr_addLike_75 (Eq.refl 78) fl_Tr_15 (Nat.le_of_ble_eq_true rfl) hk_o0 (Or.inl rfl) rfl ?_
      refine J_iload dc_Tr_addLike_78 (Eq.refl 80) 0 rfl ?_
      refine J_aload_n dc_Tr_addLike_80 (Eq.refl 81) 1 rfl ?_
      refine J_getI dc_Tr_addLike_81 (Eq.refl 84) fl_Tr_50 (Nat.le_of_ble_eq_true rfl) hk_o0 (Or.inl rfl) ?_
      refine J_aload_n dc_Tr_addLike_84 (Eq.refl 85) 1 rfl ?_
      refine J_getF (y := o0 + 10) dc_Tr_addLike_85 (Eq.refl 88) fl_Tr_40 (Nat.le_of_ble_eq_true rfl) hk_o0 (Or.inl rfl) rfl ?_
      refine J_iload dc_Tr_addLike_88 (Eq.refl 90) 0 rfl ?_
      obtain ⟨hg, h⟩ := h
      refine J_iald dc_Tr_addLike_90 (Eq.refl 91) (ak_Tr_9 hk_o0).1 (ak_Tr_9 hk_o0).2 hg ?_
      refine J_isub dc_Tr_addLike_91 (Eq.refl 92) ?_
      obtain ⟨hg, h⟩ := h
      refine J_iast dc_Tr_addLike_92 (Eq.refl 93) (ak_Tr_1 hk_o0).1 (ak_Tr_1 hk_o0).2 hg ?_
      refine J_iload dc_Tr_addLike_93 (Eq.refl 95) 0 rfl ?_
      exact J_iret dc_Tr_addLike_95 rfl h
  · have h := h.2 hc
    refine J_iconst (v := (-1 : Int32)) dc_Tr_addLike_21 (Eq.refl 22) rfl ?_
    exact J_iret dc_Tr_addLike_22 rfl h
theorem dc_Tr_addNamed_0 : decode m_Tr_addNamed.2.1 0 = .ok (.aload_n 0, 1) := by decide +kernel
theorem dc_Tr_addNamed_1 : decode m_Tr_addNamed.2.1 1 = .ok (.iload_n 1, 1) := by decide +kernel
theorem dc_Tr_addNamed_2 : decode m_Tr_addNamed.2.1 2 = .ok (.iload 4, 2) := by decide +kernel
theorem dc_Tr_addNamed_4 : decode m_Tr_addNamed.2.1 4 = .ok (.invokevirtual 61, 3) := by decide +kernel
theorem dc_Tr_addNamed_7 : decode m_Tr_addNamed.2.1 7 = .ok (.istore 5, 2) := by decide +kernel
theorem dc_Tr_addNamed_9 : decode m_Tr_addNamed.2.1 9 = .ok (.iload 5, 2) := by decide +kernel
theorem dc_Tr_addNamed_11 : decode m_Tr_addNamed.2.1 11 = .ok (.iconst (-1), 1) := by decide +kernel
theorem dc_Tr_addNamed_12 : decode m_Tr_addNamed.2.1 12 = .ok (.if_icmp .eq 59, 3) := by decide +kernel
theorem dc_Tr_addNamed_15 : decode m_Tr_addNamed.2.1 15 = .ok (.aload_n 0, 1) := by decide +kernel
theorem dc_Tr_addNamed_16 : decode m_Tr_addNamed.2.1 16 = .ok (.iload 5, 2) := by decide +kernel
theorem dc_Tr_addNamed_18 : decode m_Tr_addNamed.2.1 18 = .ok (.invokevirtual 65, 3) := by decide +kernel
theorem dc_Tr_addNamed_21 : decode m_Tr_addNamed.2.1 21 = .ok (.ifCond .eq 50, 3) := by decide +kernel
theorem dc_Tr_addNamed_24 : decode m_Tr_addNamed.2.1 24 = .ok (.aload_n 0, 1) := by decide +kernel
theorem dc_Tr_addNamed_25 : decode m_Tr_addNamed.2.1 25 = .ok (.getfield 34, 3) := by decide +kernel
theorem dc_Tr_addNamed_28 : decode m_Tr_addNamed.2.1 28 = .ok (.iload 5, 2) := by decide +kernel
theorem dc_Tr_addNamed_30 : decode m_Tr_addNamed.2.1 30 = .ok (.aload_n 0, 1) := by decide +kernel
theorem dc_Tr_addNamed_31 : decode m_Tr_addNamed.2.1 31 = .ok (.getfield 50, 3) := by decide +kernel
theorem dc_Tr_addNamed_34 : decode m_Tr_addNamed.2.1 34 = .ok (.iastore, 1) := by decide +kernel
theorem dc_Tr_addNamed_35 : decode m_Tr_addNamed.2.1 35 = .ok (.aload_n 0, 1) := by decide +kernel
theorem dc_Tr_addNamed_36 : decode m_Tr_addNamed.2.1 36 = .ok (.aload_n 2, 1) := by decide +kernel
theorem dc_Tr_addNamed_37 : decode m_Tr_addNamed.2.1 37 = .ok (.aload_n 2, 1) := by decide +kernel
theorem dc_Tr_addNamed_38 : decode m_Tr_addNamed.2.1 38 = .ok (.getfield 34, 3) := by decide +kernel
theorem dc_Tr_addNamed_41 : decode m_Tr_addNamed.2.1 41 = .ok (.iload_n 3, 1) := by decide +kernel
theorem dc_Tr_addNamed_42 : decode m_Tr_addNamed.2.1 42 = .ok (.iaload, 1) := by decide +kernel
theorem dc_Tr_addNamed_43 : decode m_Tr_addNamed.2.1 43 = .ok (.aload_n 2, 1) := by decide +kernel
theorem dc_Tr_addNamed_44 : decode m_Tr_addNamed.2.1 44 = .ok (.getfield 37, 3) := by decide +kernel
theorem dc_Tr_addNamed_47 : decode m_Tr_addNamed.2.1 47 = .ok (.iload_n 3, 1) := by decide +kernel
theorem dc_Tr_addNamed_48 : decode m_Tr_addNamed.2.1 48 = .ok (.iaload, 1) := by decide +kernel
theorem dc_Tr_addNamed_49 : decode m_Tr_addNamed.2.1 49 = .ok (.invokevirtual 69, 3) := by decide +kernel
theorem dc_Tr_addNamed_52 : decode m_Tr_addNamed.2.1 52 = .ok (.aload_n 0, 1) := by decide +kernel
theorem dc_Tr_addNamed_53 : decode m_Tr_addNamed.2.1 53 = .ok (.getfield 37, 3) := by decide +kernel
theorem dc_Tr_addNamed_56 : decode m_Tr_addNamed.2.1 56 = .ok (.iload 5, 2) := by decide +kernel
theorem dc_Tr_addNamed_58 : decode m_Tr_addNamed.2.1 58 = .ok (.aload_n 0, 1) := by decide +kernel
theorem dc_Tr_addNamed_59 : decode m_Tr_addNamed.2.1 59 = .ok (.getfield 50, 3) := by decide +kernel
theorem dc_Tr_addNamed_62 : decode m_Tr_addNamed.2.1 62 = .ok (.aload_n 0, 1) := by decide +kernel
theorem dc_Tr_addNamed_63 : decode m_Tr_addNamed.2.1 63 = .ok (.getfield 34, 3) := by decide +kernel
theorem dc_Tr_addNamed_66 : decode m_Tr_addNamed.2.1 66 = .ok (.iload 5, 2) := by decide +kernel
theorem dc_Tr_addNamed_68 : decode m_Tr_addNamed.2.1 68 = .ok (.iaload, 1) := by decide +kernel
theorem dc_Tr_addNamed_69 : decode m_Tr_addNamed.2.1 69 = .ok (.isub, 1) := by decide +kernel
theorem dc_Tr_addNamed_70 : decode m_Tr_addNamed.2.1 70 = .ok (.iastore, 1) := by decide +kernel
theorem dc_Tr_addNamed_71 : decode m_Tr_addNamed.2.1 71 = .ok (.iload 5, 2) := by decide +kernel
theorem dc_Tr_addNamed_73 : decode m_Tr_addNamed.2.1 73 = .ok (.ireturn, 1) := by decide +kernel
theorem b_Tr_addNamed_0 {E : En_t} {d : Nat} {σ : S_t} {Q : Option Value → S_t → Prop} {o0 : Nat} {x1 : Int32} {o2 : Nat} {x3 : Int32} {x4 : Int32} (hk_o0 : kindP o0 = 11) (hk_o2 : kindP o2 = 11)
    (h : CI E d m_Tr_add [pv E o0, .int x1, .int x4] σ (fun r2 σ1 => (r2 = (-1 : Int32) → Q (some (.int r2)) σ1) ∧ (¬ r2 = (-1 : Int32) → CI E d m_Tr_isNamed [pv E o0, .int r2] σ1 (fun r4 σ3 => (r4 = 0 → Q (some (.int r2)) σ3) ∧ (¬ r4 = 0 → vp_in r2 500 ∧ (vp_in x3 500 ∧ (vp_in x3 500 ∧ (CV E d m_Tr_addCharacters [pv E o0, pv E o2, .int (gI (sI σ3 (o0 + 8) r2.toNatClampNeg (gI σ3 o0 11)) (o2 + 8) x3.toNatClampNeg), .int (gI (sI σ3 (o0 + 8) r2.toNatClampNeg (gI σ3 o0 11)) (o2 + 9) x3.toNatClampNeg)] (sI σ3 (o0 + 8) r2.toNatClampNeg (gI σ3 o0 11)) (fun σ5 => vp_in r2 500 ∧ (vp_in r2 500 ∧ (Q (some (.int r2)) (sI σ5 (o0 + 9) r2.toNatClampNeg ((gI σ5 o0 11) - (gI σ5 (o0 + 8) r2.toNatClampNeg)))))))))))))) :
    JE E (d + 1) m_Tr_addNamed 0 [(0, pv E o0), (1, .int x1), (2, pv E o2), (3, .int x3), (4, .int x4)] [] σ Q := by
  refine J_aload_n dc_Tr_addNamed_0 (Eq.refl 1) 0 rfl ?_
  refine J_iload_n dc_Tr_addNamed_1 (Eq.refl 2) 1 rfl ?_
  refine J_iload dc_Tr_addNamed_2 (Eq.refl 4) 4 rfl ?_
  refine J_callVI (As := [.int x1, .int x4]) (st := []) dc_Tr_addNamed_4 (Eq.refl 7) lk_Tr_61 mi_Tr_add hk_o0 (Nat.le_of_ble_eq_true rfl) rfl rfl (Nat.le_of_ble_eq_true rfl) rfl (Nat.le_of_ble_eq_true rfl) (CI.mono h (fun r2 σ1 h => ?_))
  refine J_istore (L' := [(5, .int r2), (0, pv E o0), (1, .int x1), (2, pv E o2), (3, .int x3), (4, .int x4)]) dc_Tr_addNamed_7 (Eq.refl 9) (Nat.le_of_ble_eq_true rfl) rfl ?_
  refine J_iload dc_Tr_addNamed_9 (Eq.refl 11) 0 rfl ?_
  refine J_iconst (v := (-1 : Int32)) dc_Tr_addNamed_11 (Eq.refl 12) rfl ?_
  refine J_icmp_eq dc_Tr_addNamed_12 (Eq.refl 15) rfl (fun hc => ?_) (fun hc => ?_)
  · have h := h.1 hc
    refine J_iload dc_Tr_addNamed_71 (Eq.refl 73) 0 rfl ?_
    exact J_iret dc_Tr_addNamed_73 rfl h
  · have h := h.2 hc
    refine J_aload_n dc_Tr_addNamed_15 (Eq.refl 16) 1 rfl ?_
    refine J_iload dc_Tr_addNamed_16 (Eq.refl 18) 0 rfl ?_
    refine J_callVI (As := [.int r2]) (st := []) dc_Tr_addNamed_18 (Eq.refl 21) lk_Tr_65 mi_Tr_isNamed hk_o0 (Nat.le_of_ble_eq_true rfl) rfl rfl (Nat.le_of_ble_eq_true rfl) rfl (Nat.le_of_ble_eq_true rfl) (CI.mono h (fun r4 σ3 h => ?_))
    refine J_if_eq dc_Tr_addNamed_21 (Eq.refl 24) rfl (fun hc => ?_) (fun hc => ?_)
    · have h := h.1 hc
      refine J_iload dc_Tr_addNamed_71 (Eq.refl 73) 0 rfl ?_
      exact J_iret dc_Tr_addNamed_73 rfl h
    · have h := h.2 hc
      refine J_aload_n dc_Tr_addNamed_24 (Eq.refl 25) 1 rfl ?_
      refine J_getF (y := o0 + 8) dc_Tr_addNamed_25 (Eq.refl 28) fl_Tr_34 (Nat.le_of_ble_eq_true rfl) hk_o0 (Or.inl rfl) rfl ?_
      refine J_iload dc_Tr_addNamed_28 (Eq.refl 30) 0 rfl ?_
      refine J_aload_n dc_Tr_addNamed_30 (Eq.refl 31) 1 rfl ?_
      refine J_getI dc_Tr_addNamed_31 (Eq.refl 34) fl_Tr_50 (Nat.le_of_ble_eq_true rfl) hk_o0 (Or.inl rfl) ?_
      obtain ⟨hg, h⟩ := h
      refine J_iast dc_Tr_addNamed_34 (Eq.refl 35) (ak_Tr_7 hk_o0).1 (ak_Tr_7 hk_o0).2 hg ?_
      refine J_aload_n dc_Tr_addNamed_35 (Eq.refl 36) 1 rfl ?_
      refine J_aload_n dc_Tr_addNamed_36 (Eq.refl 37) 3 rfl ?_
      refine J_aload_n dc_Tr_addNamed_37 (Eq.refl 38) 3 rfl ?_
      refine J_getF (y := o2 + 8) dc_Tr_addNamed_38 (Eq.refl 41) fl_Tr_34 (Nat.le_of_ble_eq_true rfl) hk_o2 (Or.inl rfl) rfl ?_
      refine J_iload_n dc_Tr_addNamed_41 (Eq.refl 42) 4 rfl ?_
      obtain ⟨hg, h⟩ := h
      refine J_iald dc_Tr_addNamed_42 (Eq.refl 43) (ak_Tr_7 hk_o2).1 (ak_Tr_7 hk_o2).2 hg ?_
      refine J_aload_n dc_Tr_addNamed_43 (Eq.refl 44) 3 rfl ?_
      refine J_getF (y := o2 + 9) dc_Tr_addNamed_44 (Eq.refl 47) fl_Tr_37 (Nat.le_of_ble_eq_true rfl) hk_o2 (Or.inl rfl) rfl ?_
      refine J_iload_n dc_Tr_addNamed_47 (Eq.refl 48) 4 rfl ?_
      obtain ⟨hg, h⟩ := h
      refine J_iald dc_Tr_addNamed_48 (Eq.refl 49) (ak_Tr_8 hk_o2).1 (ak_Tr_8 hk_o2).2 hg ?_
      refine J_callVV (As := [pv E o2, .int (gI (sI σ3 (o0 + 8) r2.toNatClampNeg (gI σ3 o0 11)) (o2 + 8) x3.toNatClampNeg), .int (gI (sI σ3 (o0 + 8) r2.toNatClampNeg (gI σ3 o0 11)) (o2 + 9) x3.toNatClampNeg)]) (st := []) dc_Tr_addNamed_49 (Eq.refl 52) lk_Tr_69 mi_Tr_addCharacters hk_o0 (Nat.le_of_ble_eq_true rfl) rfl rfl (Nat.le_of_ble_eq_true rfl) rfl (Nat.le_of_ble_eq_true rfl) (CV.mono h (fun σ5 h => ?_))
      refine J_aload_n dc_Tr_addNamed_52 (Eq.refl 53) 1 rfl ?_
      refine J_getF (y := o0 + 9) dc_Tr_addNamed_53 (Eq.refl 56) fl_Tr_37 (Nat.le_of_ble_eq_true rfl) hk_o0 (Or.inl rfl) rfl ?_
      refine J_iload dc_Tr_addNamed_56 (Eq.refl 58) 0 rfl ?_
      refine J_aload_n dc_Tr_addNamed_58 (Eq.refl 59) 1 rfl ?_
      refine J_getI dc_Tr_addNamed_59 (Eq.refl 62) fl_Tr_50 (Nat.le_of_ble_eq_true rfl) hk_o0 (Or.inl rfl) ?_
      refine J_aload_n dc_Tr_addNamed_62 (Eq.refl 63) 1 rfl ?_
      refine J_getF (y := o0 + 8) dc_Tr_addNamed_63 (Eq.refl 66) fl_Tr_34 (Nat.le_of_ble_eq_true rfl) hk_o0 (Or.inl rfl) rfl ?_
      refine J_iload dc_Tr_addNamed_66 (Eq.refl 68) 0 rfl ?_
      obtain ⟨hg, h⟩ := h
      refine J_iald dc_Tr_addNamed_68 (Eq.refl 69) (ak_Tr_7 hk_o0).1 (ak_Tr_7 hk_o0).2 hg ?_
      refine J_isub dc_Tr_addNamed_69 (Eq.refl 70) ?_
      obtain ⟨hg, h⟩ := h
      refine J_iast dc_Tr_addNamed_70 (Eq.refl 71) (ak_Tr_8 hk_o0).1 (ak_Tr_8 hk_o0).2 hg ?_
      refine J_iload dc_Tr_addNamed_71 (Eq.refl 73) 0 rfl ?_
      exact J_iret dc_Tr_addNamed_73 rfl h
theorem dc_Tr_isNamed_0 : decode m_Tr_isNamed.2.1 0 = .ok (.aload_n 0, 1) := by decide +kernel
theorem dc_Tr_isNamed_1 : decode m_Tr_isNamed.2.1 1 = .ok (.getfield 18, 3) := by decide +kernel
theorem dc_Tr_isNamed_4 : decode m_Tr_isNamed.2.1 4 = .ok (.iload_n 1, 1) := by decide +kernel
theorem dc_Tr_isNamed_5 : decode m_Tr_isNamed.2.1 5 = .ok (.iaload, 1) := by decide +kernel
theorem dc_Tr_isNamed_6 : decode m_Tr_isNamed.2.1 6 = .ok (.ifCond .lt 23, 3) := by decide +kernel
theorem dc_Tr_isNamed_9 : decode m_Tr_isNamed.2.1 9 = .ok (.aload_n 0, 1) := by decide +kernel
theorem dc_Tr_isNamed_10 : decode m_Tr_isNamed.2.1 10 = .ok (.getfield 9, 3) := by decide +kernel
theorem dc_Tr_isNamed_13 : decode m_Tr_isNamed.2.1 13 = .ok (.aload_n 0, 1) := by decide +kernel
theorem dc_Tr_isNamed_14 : decode m_Tr_isNamed.2.1 14 = .ok (.getfield 18, 3) := by decide +kernel
theorem dc_Tr_isNamed_17 : decode m_Tr_isNamed.2.1 17 = .ok (.iload_n 1, 1) := by decide +kernel
theorem dc_Tr_isNamed_18 : decode m_Tr_isNamed.2.1 18 = .ok (.iaload, 1) := by decide +kernel
theorem dc_Tr_isNamed_19 : decode m_Tr_isNamed.2.1 19 = .ok (.iaload, 1) := by decide +kernel
theorem dc_Tr_isNamed_20 : decode m_Tr_isNamed.2.1 20 = .ok (.bipush 6, 2) := by decide +kernel
theorem dc_Tr_isNamed_22 : decode m_Tr_isNamed.2.1 22 = .ok (.if_icmp .ne 7, 3) := by decide +kernel
theorem dc_Tr_isNamed_25 : decode m_Tr_isNamed.2.1 25 = .ok (.iconst 1, 1) := by decide +kernel
theorem dc_Tr_isNamed_26 : decode m_Tr_isNamed.2.1 26 = .ok (.goto 4, 3) := by decide +kernel
theorem dc_Tr_isNamed_29 : decode m_Tr_isNamed.2.1 29 = .ok (.iconst 0, 1) := by decide +kernel
theorem dc_Tr_isNamed_30 : decode m_Tr_isNamed.2.1 30 = .ok (.ireturn, 1) := by decide +kernel
theorem b_Tr_isNamed_0 {E : En_t} {d : Nat} {σ : S_t} {Q : Option Value → S_t → Prop} {o0 : Nat} {x1 : Int32} (hk_o0 : kindP o0 = 11)
    (h : vp_in x1 500 ∧ (((gI σ (o0 + 3) x1.toNatClampNeg) < 0 → Q (some (.int (0 : Int32))) σ) ∧ (¬ (gI σ (o0 + 3) x1.toNatClampNeg) < 0 → vp_in x1 500 ∧ (vp_in (gI σ (o0 + 3) x1.toNatClampNeg) 500 ∧ ((¬ (gI σ (o0 + 1) (gI σ (o0 + 3) x1.toNatClampNeg).toNatClampNeg) = (6 : Int32) → Q (some (.int (0 : Int32))) σ) ∧ ((gI σ (o0 + 1) (gI σ (o0 + 3) x1.toNatClampNeg).toNatClampNeg) = (6 : Int32) → Q (some (.int (1 : Int32))) σ)))))) :
    JE E d m_Tr_isNamed 0 [(0, pv E o0), (1, .int x1)] [] σ Q := by
  refine J_aload_n dc_Tr_isNamed_0 (Eq.refl 1) 0 rfl ?_
  refine J_getF (y := o0 + 3) dc_Tr_isNamed_1 (Eq.refl 4) fl_Tr_18 (Nat.le_of_ble_eq_true rfl) hk_o0 (Or.inl rfl) rfl ?_
  refine J_iload_n dc_Tr_isNamed_4 (Eq.refl 5) 1 rfl ?_
  obtain ⟨hg, h⟩ := h
  refine J_iald dc_Tr_isNamed_5 (Eq.refl 6) (ak_Tr_2 hk_o0).1 (ak_Tr_2 hk_o0).2 hg ?_
  refine J_if_lt dc_Tr_isNamed_6 (Eq.refl 9) rfl (fun hc => ?_) (fun hc => ?_)
  · have h := h.1 hc
    refine J_iconst (v := (0 : Int32)) dc_Tr_isNamed_29 (Eq.refl 30) rfl ?_
    exact J_zret dc_Tr_isNamed_30 rfl rfl h
  · have h := h.2 hc
    refine J_aload_n dc_Tr_isNamed_9 (Eq.refl 10) 0 rfl ?_
    refine J_getF (y := o0 + 1) dc_Tr_isNamed_10 (Eq.refl 13) fl_Tr_9 (Nat.le_of_ble_eq_true rfl) hk_o0 (Or.inl rfl) rfl ?_
    refine J_aload_n dc_Tr_isNamed_13 (Eq.refl 14) 0 rfl ?_
    refine J_getF (y := o0 + 3) dc_Tr_isNamed_14 (Eq.refl 17) fl_Tr_18 (Nat.le_of_ble_eq_true rfl) hk_o0 (Or.inl rfl) rfl ?_
    refine J_iload_n dc_Tr_isNamed_17 (Eq.refl 18) 1 rfl ?_
    obtain ⟨hg, h⟩ := h
    refine J_iald dc_Tr_isNamed_18 (Eq.refl 19) (ak_Tr_2 hk_o0).1 (ak_Tr_2 hk_o0).2 hg ?_
    obtain ⟨hg, h⟩ := h
    refine J_iald dc_Tr_isNamed_19 (Eq.refl 20) (ak_Tr_0 hk_o0).1 (ak_Tr_0 hk_o0).2 hg ?_
    refine J_bipush (v := (6 : Int32)) dc_Tr_isNamed_20 (Eq.refl 22) rfl ?_
    refine J_icmp_ne dc_Tr_isNamed_22 (Eq.refl 25) rfl (fun hc => ?_) (fun hc => ?_)
    · have h := h.1 hc
      refine J_iconst (v := (0 : Int32)) dc_Tr_isNamed_29 (Eq.refl 30) rfl ?_
      exact J_zret dc_Tr_isNamed_30 rfl rfl h
    · have h := h.2 hc
      refine J_iconst (v := (1 : Int32)) dc_Tr_isNamed_25 (Eq.refl 26) rfl ?_
      refine J_goto dc_Tr_isNamed_26 rfl ?_
      exact J_zret dc_Tr_isNamed_30 rfl rfl h
theorem dc_Tr_addCharacters_0 : decode m_Tr_addCharacters.2.1 0 = .ok (.iload_n 2, 1) := by decide +kernel
theorem dc_Tr_addCharacters_1 : decode m_Tr_addCharacters.2.1 1 = .ok (.iload_n 3, 1) := by decide +kernel
theorem dc_Tr_addCharacters_2 : decode m_Tr_addCharacters.2.1 2 = .ok (.iadd, 1) := by decide +kernel
theorem dc_Tr_addCharacters_3 : decode m_Tr_addCharacters.2.1 3 = .ok (.aload_n 1, 1) := by decide +kernel
theorem dc_Tr_addCharacters_4 : decode m_Tr_addCharacters.2.1 4 = .ok (.getfield 50, 3) := by decide +kernel
theorem dc_Tr_addCharacters_7 : decode m_Tr_addCharacters.2.1 7 = .ok (.invokestatic 77, 3) := by decide +kernel
theorem dc_Tr_addCharacters_10 : decode m_Tr_addCharacters.2.1 10 = .ok (.istore 4, 2) := by decide +kernel
theorem dc_Tr_addCharacters_12 : decode m_Tr_addCharacters.2.1 12 = .ok (.iload_n 2, 1) := by decide +kernel
theorem dc_Tr_addCharacters_13 : decode m_Tr_addCharacters.2.1 13 = .ok (.istore 5, 2) := by decide +kernel
theorem dc_Tr_addCharacters_15 : decode m_Tr_addCharacters.2.1 15 = .ok (.iload 5, 2) := by decide +kernel
theorem dc_Tr_addCharacters_17 : decode m_Tr_addCharacters.2.1 17 = .ok (.iload 4, 2) := by decide +kernel
theorem dc_Tr_addCharacters_19 : decode m_Tr_addCharacters.2.1 19 = .ok (.if_icmp .ge 20, 3) := by decide +kernel
theorem dc_Tr_addCharacters_22 : decode m_Tr_addCharacters.2.1 22 = .ok (.aload_n 0, 1) := by decide +kernel
theorem dc_Tr_addCharacters_23 : decode m_Tr_addCharacters.2.1 23 = .ok (.aload_n 1, 1) := by decide +kernel
theorem dc_Tr_addCharacters_24 : decode m_Tr_addCharacters.2.1 24 = .ok (.getfield 43, 3) := by decide +kernel
theorem dc_Tr_addCharacters_27 : decode m_Tr_addCharacters.2.1 27 = .ok (.iload 5, 2) := by decide +kernel
theorem dc_Tr_addCharacters_29 : decode m_Tr_addCharacters.2.1 29 = .ok (.iaload, 1) := by decide +kernel
theorem dc_Tr_addCharacters_30 : decode m_Tr_addCharacters.2.1 30 = .ok (.invokevirtual 82, 3) := by decide +kernel
theorem dc_Tr_addCharacters_33 : decode m_Tr_addCharacters.2.1 33 = .ok (.iinc 5 1, 3) := by decide +kernel
theorem dc_Tr_addCharacters_36 : decode m_Tr_addCharacters.2.1 36 = .ok (.goto (-21), 3) := by decide +kernel
theorem dc_Tr_addCharacters_39 : decode m_Tr_addCharacters.2.1 39 = .ok (.return_, 1) := by decide +kernel
theorem b_Tr_addCharacters_0 {E : En_t} {d : Nat} {σ : S_t} {Q : Option Value → S_t → Prop} {o0 : Nat} {o1 : Nat} {x2 : Int32} {x3 : Int32} (hk_o0 : kindP o0 = 11) (hk_o1 : kindP o1 = 11)
    (h : ∀ r1, r1 = mnI (x2 + x3) (gI σ o1 11) → (JE E (d + 1) m_Tr_addCharacters 15 [(0, pv E o0), (1, pv E o1), (4, .int r1), (5, .int x2)] [] σ Q)) :
    JE E (d + 1) m_Tr_addCharacters 0 [(0, pv E o0), (1, pv E o1), (2, .int x2), (3, .int x3)] [] σ Q := by
  refine J_iload_n dc_Tr_addCharacters_0 (Eq.refl 1) 2 rfl ?_
  refine J_iload_n dc_Tr_addCharacters_1 (Eq.refl 2) 3 rfl ?_
  refine J_iadd dc_Tr_addCharacters_2 (Eq.refl 3) ?_
  refine J_aload_n dc_Tr_addCharacters_3 (Eq.refl 4) 1 rfl ?_
  refine J_getI dc_Tr_addCharacters_4 (Eq.refl 7) fl_Tr_50 (Nat.le_of_ble_eq_true rfl) hk_o1 (Or.inl rfl) ?_
  refine J_mmin dc_Tr_addCharacters_7 (Eq.refl 10) lk_Tr_77 (Nat.le_of_ble_eq_true rfl) (fun r1 er1 => ?_)
  have h := h r1 er1
  refine J_istore (L' := [(4, .int r1), (0, pv E o0), (1, pv E o1), (2, .int x2), (3, .int x3)]) dc_Tr_addCharacters_10 (Eq.refl 12) (Nat.le_of_ble_eq_true rfl) rfl ?_
  refine J_iload_n dc_Tr_addCharacters_12 (Eq.refl 13) 3 rfl ?_
  refine J_istore (L' := [(5, .int x2), (4, .int r1), (0, pv E o0), (1, pv E o1), (2, .int x2), (3, .int x3)]) dc_Tr_addCharacters_13 (Eq.refl 15) (Nat.le_of_ble_eq_true rfl) rfl ?_
  refine J_sub [2, 3, 1, 0] rfl ?_
  exact h
theorem b_Tr_addCharacters_15 {E : En_t} {d : Nat} {σ : S_t} {Q : Option Value → S_t → Prop} {o0 : Nat} {o1 : Nat} {x4 : Int32} {x5 : Int32} (hk_o0 : kindP o0 = 11) (hk_o1 : kindP o1 = 11)
    (h : (x4 ≤ x5 → Q none σ) ∧ (¬ x4 ≤ x5 → vp_in x5 4000 ∧ (CV E d m_Tr_addCharacter [pv E o0, .int (gI σ (o1 + 11) x5.toNatClampNeg)] σ (fun σ1 => JE E (d + 1) m_Tr_addCharacters 15 [(0, pv E o0), (1, pv E o1), (4, .int x4), (5, .int (x5 + (1 : Int32)))] [] σ1 Q)))) :
    JE E (d + 1) m_Tr_addCharacters 15 [(0, pv E o0), (1, pv E o1), (4, .int x4), (5, .int x5)] [] σ Q := by
  refine J_iload dc_Tr_addCharacters_15 (Eq.refl 17) 3 rfl ?_
  refine J_iload dc_Tr_addCharacters_17 (Eq.refl 19) 2 rfl ?_
  refine J_icmp_ge dc_Tr_addCharacters_19 (Eq.refl 22) rfl (fun hc => ?_) (fun hc => ?_)
  · have h := h.1 hc
    exact J_vret dc_Tr_addCharacters_39 rfl h
  · have h := h.2 hc
    refine J_aload_n dc_Tr_addCharacters_22 (Eq.refl 23) 0 rfl ?_
    refine J_aload_n dc_Tr_addCharacters_23 (Eq.refl 24) 1 rfl ?_
    refine J_getF (y := o1 + 11) dc_Tr_addCharacters_24 (Eq.refl 27) fl_Tr_43 (Nat.le_of_ble_eq_true rfl) hk_o1 (Or.inl rfl) rfl ?_
    refine J_iload dc_Tr_addCharacters_27 (Eq.refl 29) 3 rfl ?_
    obtain ⟨hg, h⟩ := h
    refine J_iald dc_Tr_addCharacters_29 (Eq.refl 30) (ak_Tr_10 hk_o1).1 (ak_Tr_10 hk_o1).2 hg ?_
    refine J_callVV (As := [.int (gI σ (o1 + 11) x5.toNatClampNeg)]) (st := []) dc_Tr_addCharacters_30 (Eq.refl 33) lk_Tr_82 mi_Tr_addCharacter hk_o0 (Nat.le_of_ble_eq_true rfl) rfl rfl (Nat.le_of_ble_eq_true rfl) rfl (Nat.le_of_ble_eq_true rfl) (CV.mono h (fun σ1 h => ?_))
    refine J_iinc (v := x5 + (1 : Int32)) (L' := [(5, .int (x5 + (1 : Int32))), (0, pv E o0), (1, pv E o1), (4, .int x4)]) dc_Tr_addCharacters_33 (Eq.refl 36) 3 rfl rfl (Nat.le_of_ble_eq_true rfl) rfl ?_
    refine J_goto dc_Tr_addCharacters_36 rfl ?_
    refine J_sub [1, 2, 3, 0] rfl ?_
    exact h
theorem dc_Tr_measure_0 : decode m_Tr_measure.2.1 0 = .ok (.iconst 0, 1) := by decide +kernel
theorem dc_Tr_measure_1 : decode m_Tr_measure.2.1 1 = .ok (.istore_n 1, 1) := by decide +kernel
theorem dc_Tr_measure_2 : decode m_Tr_measure.2.1 2 = .ok (.iload_n 1, 1) := by decide +kernel
theorem dc_Tr_measure_3 : decode m_Tr_measure.2.1 3 = .ok (.aload_n 0, 1) := by decide +kernel
theorem dc_Tr_measure_4 : decode m_Tr_measure.2.1 4 = .ok (.getfield 46, 3) := by decide +kernel
theorem dc_Tr_measure_7 : decode m_Tr_measure.2.1 7 = .ok (.if_icmp .ge 16, 3) := by decide +kernel
theorem dc_Tr_measure_10 : decode m_Tr_measure.2.1 10 = .ok (.aload_n 0, 1) := by decide +kernel
theorem dc_Tr_measure_11 : decode m_Tr_measure.2.1 11 = .ok (.getfield 24, 3) := by decide +kernel
theorem dc_Tr_measure_14 : decode m_Tr_measure.2.1 14 = .ok (.iload_n 1, 1) := by decide +kernel
theorem dc_Tr_measure_15 : decode m_Tr_measure.2.1 15 = .ok (.iconst 1, 1) := by decide +kernel
theorem dc_Tr_measure_16 : decode m_Tr_measure.2.1 16 = .ok (.iastore, 1) := by decide +kernel
theorem dc_Tr_measure_17 : decode m_Tr_measure.2.1 17 = .ok (.iinc 1 1, 3) := by decide +kernel
theorem dc_Tr_measure_20 : decode m_Tr_measure.2.1 20 = .ok (.goto (-18), 3) := by decide +kernel
theorem dc_Tr_measure_23 : decode m_Tr_measure.2.1 23 = .ok (.aload_n 0, 1) := by decide +kernel
theorem dc_Tr_measure_24 : decode m_Tr_measure.2.1 24 = .ok (.getfield 46, 3) := by decide +kernel
theorem dc_Tr_measure_27 : decode m_Tr_measure.2.1 27 = .ok (.iconst 1, 1) := by decide +kernel
theorem dc_Tr_measure_28 : decode m_Tr_measure.2.1 28 = .ok (.isub, 1) := by decide +kernel
theorem dc_Tr_measure_29 : decode m_Tr_measure.2.1 29 = .ok (.istore_n 1, 1) := by decide +kernel
theorem dc_Tr_measure_30 : decode m_Tr_measure.2.1 30 = .ok (.iload_n 1, 1) := by decide +kernel
theorem dc_Tr_measure_31 : decode m_Tr_measure.2.1 31 = .ok (.ifCond .le 48, 3) := by decide +kernel
theorem dc_Tr_measure_34 : decode m_Tr_measure.2.1 34 = .ok (.aload_n 0, 1) := by decide +kernel
theorem dc_Tr_measure_35 : decode m_Tr_measure.2.1 35 = .ok (.getfield 18, 3) := by decide +kernel
theorem dc_Tr_measure_38 : decode m_Tr_measure.2.1 38 = .ok (.iload_n 1, 1) := by decide +kernel
theorem dc_Tr_measure_39 : decode m_Tr_measure.2.1 39 = .ok (.iaload, 1) := by decide +kernel
theorem dc_Tr_measure_40 : decode m_Tr_measure.2.1 40 = .ok (.ifCond .lt 33, 3) := by decide +kernel
theorem dc_Tr_measure_43 : decode m_Tr_measure.2.1 43 = .ok (.aload_n 0, 1) := by decide +kernel
theorem dc_Tr_measure_44 : decode m_Tr_measure.2.1 44 = .ok (.getfield 18, 3) := by decide +kernel
theorem dc_Tr_measure_47 : decode m_Tr_measure.2.1 47 = .ok (.iload_n 1, 1) := by decide +kernel
theorem dc_Tr_measure_48 : decode m_Tr_measure.2.1 48 = .ok (.iaload, 1) := by decide +kernel
theorem dc_Tr_measure_49 : decode m_Tr_measure.2.1 49 = .ok (.iload_n 1, 1) := by decide +kernel
theorem dc_Tr_measure_50 : decode m_Tr_measure.2.1 50 = .ok (.if_icmp .ge 23, 3) := by decide +kernel
theorem dc_Tr_measure_53 : decode m_Tr_measure.2.1 53 = .ok (.aload_n 0, 1) := by decide +kernel
theorem dc_Tr_measure_54 : decode m_Tr_measure.2.1 54 = .ok (.getfield 24, 3) := by decide +kernel
theorem dc_Tr_measure_57 : decode m_Tr_measure.2.1 57 = .ok (.aload_n 0, 1) := by decide +kernel
theorem dc_Tr_measure_58 : decode m_Tr_measure.2.1 58 = .ok (.getfield 18, 3) := by decide +kernel
theorem dc_Tr_measure_61 : decode m_Tr_measure.2.1 61 = .ok (.iload_n 1, 1) := by decide +kernel
theorem dc_Tr_measure_62 : decode m_Tr_measure.2.1 62 = .ok (.iaload, 1) := by decide +kernel
theorem dc_Tr_measure_63 : decode m_Tr_measure.2.1 63 = .ok (.dup2, 1) := by decide +kernel
theorem dc_Tr_measure_64 : decode m_Tr_measure.2.1 64 = .ok (.iaload, 1) := by decide +kernel
theorem dc_Tr_measure_65 : decode m_Tr_measure.2.1 65 = .ok (.aload_n 0, 1) := by decide +kernel
theorem dc_Tr_measure_66 : decode m_Tr_measure.2.1 66 = .ok (.getfield 24, 3) := by decide +kernel
theorem dc_Tr_measure_69 : decode m_Tr_measure.2.1 69 = .ok (.iload_n 1, 1) := by decide +kernel
theorem dc_Tr_measure_70 : decode m_Tr_measure.2.1 70 = .ok (.iaload, 1) := by decide +kernel
theorem dc_Tr_measure_71 : decode m_Tr_measure.2.1 71 = .ok (.iadd, 1) := by decide +kernel
theorem dc_Tr_measure_72 : decode m_Tr_measure.2.1 72 = .ok (.iastore, 1) := by decide +kernel
theorem dc_Tr_measure_73 : decode m_Tr_measure.2.1 73 = .ok (.iinc 1 (-1), 3) := by decide +kernel
theorem dc_Tr_measure_76 : decode m_Tr_measure.2.1 76 = .ok (.goto (-46), 3) := by decide +kernel
theorem dc_Tr_measure_79 : decode m_Tr_measure.2.1 79 = .ok (.return_, 1) := by decide +kernel
theorem b_Tr_measure_0 {E : En_t} {d : Nat} {σ : S_t} {Q : Option Value → S_t → Prop} {o0 : Nat} (hk_o0 : kindP o0 = 11)
    (h : JE E d m_Tr_measure 2 [(0, pv E o0), (1, .int (0 : Int32))] [] σ Q) :
    JE E d m_Tr_measure 0 [(0, pv E o0)] [] σ Q := by
  refine J_iconst (v := (0 : Int32)) dc_Tr_measure_0 (Eq.refl 1) rfl ?_
  refine J_istore_n (L' := [(1, .int (0 : Int32)), (0, pv E o0)]) dc_Tr_measure_1 (Eq.refl 2) (Nat.le_of_ble_eq_true rfl) rfl ?_
  refine J_sub [1, 0] rfl ?_
  exact h
theorem b_Tr_measure_2 {E : En_t} {d : Nat} {σ : S_t} {Q : Option Value → S_t → Prop} {o0 : Nat} {x1 : Int32} (hk_o0 : kindP o0 = 11)
    (h : ((gI σ o0 13) ≤ x1 → JE E d m_Tr_measure 30 [(0, pv E o0), (1, .int ((gI σ o0 13) - (1 : Int32)))] [] σ Q) ∧ (¬ (gI σ o0 13) ≤ x1 → vp_in x1 500 ∧ (JE E d m_Tr_measure 2 [(0, pv E o0), (1, .int (x1 + (1 : Int32)))] [] (sI σ (o0 + 5) x1.toNatClampNeg (1 : Int32)) Q))) :
    JE E d m_Tr_measure 2 [(0, pv E o0), (1, .int x1)] [] σ Q := by
  refine J_iload_n dc_Tr_measure_2 (Eq.refl 3) 1 rfl ?_
  refine J_aload_n dc_Tr_measure_3 (Eq.refl 4) 0 rfl ?_
  refine J_getI dc_Tr_measure_4 (Eq.refl 7) fl_Tr_46 (Nat.le_of_ble_eq_true rfl) hk_o0 (Or.inl rfl) ?_
  refine J_icmp_ge dc_Tr_measure_7 (Eq.refl 10) rfl (fun hc => ?_) (fun hc => ?_)
  · have h := h.1 hc
    refine J_aload_n dc_Tr_measure_23 (Eq.refl 24) 0 rfl ?_
    refine J_getI dc_Tr_measure_24 (Eq.refl 27) fl_Tr_46 (Nat.le_of_ble_eq_true rfl) hk_o0 (Or.inl rfl) ?_
    refine J_iconst (v := (1 : Int32)) dc_Tr_measure_27 (Eq.refl 28) rfl ?_
    refine J_isub dc_Tr_measure_28 (Eq.refl 29) ?_
    refine J_istore_n (L' := [(1, .int ((gI σ o0 13) - (1 : Int32))), (0, pv E o0)]) dc_Tr_measure_29 (Eq.refl 30) (Nat.le_of_ble_eq_true rfl) rfl ?_
    refine J_sub [1, 0] rfl ?_
    exact h
  · have h := h.2 hc
    refine J_aload_n dc_Tr_measure_10 (Eq.refl 11) 0 rfl ?_
    refine J_getF (y := o0 + 5) dc_Tr_measure_11 (Eq.refl 14) fl_Tr_24 (Nat.le_of_ble_eq_true rfl) hk_o0 (Or.inl rfl) rfl ?_
    refine J_iload_n dc_Tr_measure_14 (Eq.refl 15) 1 rfl ?_
    refine J_iconst (v := (1 : Int32)) dc_Tr_measure_15 (Eq.refl 16) rfl ?_
    obtain ⟨hg, h⟩ := h
    refine J_iast dc_Tr_measure_16 (Eq.refl 17) (ak_Tr_4 hk_o0).1 (ak_Tr_4 hk_o0).2 hg ?_
    refine J_iinc (v := x1 + (1 : Int32)) (L' := [(1, .int (x1 + (1 : Int32))), (0, pv E o0)]) dc_Tr_measure_17 (Eq.refl 20) 1 rfl rfl (Nat.le_of_ble_eq_true rfl) rfl ?_
    refine J_goto dc_Tr_measure_20 rfl ?_
    refine J_sub [1, 0] rfl ?_
    exact h
theorem b_Tr_measure_30 {E : En_t} {d : Nat} {σ : S_t} {Q : Option Value → S_t → Prop} {o0 : Nat} {x1 : Int32} (hk_o0 : kindP o0 = 11)
    (h : (x1 ≤ 0 → Q none σ) ∧ (¬ x1 ≤ 0 → vp_in x1 500 ∧ (((gI σ (o0 + 3) x1.toNatClampNeg) < 0 → JE E d m_Tr_measure 73 [(0, pv E o0), (1, .int x1)] [] σ Q) ∧ (¬ (gI σ (o0 + 3) x1.toNatClampNeg) < 0 → vp_in x1 500 ∧ ((x1 ≤ (gI σ (o0 + 3) x1.toNatClampNeg) → JE E d m_Tr_measure 73 [(0, pv E o0), (1, .int x1)] [] σ Q) ∧ (¬ x1 ≤ (gI σ (o0 + 3) x1.toNatClampNeg) → vp_in x1 500 ∧ (vp_in (gI σ (o0 + 3) x1.toNatClampNeg) 500 ∧ (vp_in x1 500 ∧ (vp_in (gI σ (o0 + 3) x1.toNatClampNeg) 500 ∧ (JE E d m_Tr_measure 73 [(0, pv E o0), (1, .int x1)] [] (sI σ (o0 + 5) (gI σ (o0 + 3) x1.toNatClampNeg).toNatClampNeg ((gI σ (o0 + 5) (gI σ (o0 + 3) x1.toNatClampNeg).toNatClampNeg) + (gI σ (o0 + 5) x1.toNatClampNeg))) Q)))))))))) :
    JE E d m_Tr_measure 30 [(0, pv E o0), (1, .int x1)] [] σ Q := by
  refine J_iload_n dc_Tr_measure_30 (Eq.refl 31) 1 rfl ?_
  refine J_if_le dc_Tr_measure_31 (Eq.refl 34) rfl (fun hc => ?_) (fun hc => ?_)
  · have h := h.1 hc
    exact J_vret dc_Tr_measure_79 rfl h
  · have h := h.2 hc
    refine J_aload_n dc_Tr_measure_34 (Eq.refl 35) 0 rfl ?_
    refine J_getF (y := o0 + 3) dc_Tr_measure_35 (Eq.refl 38) fl_Tr_18 (Nat.le_of_ble_eq_true rfl) hk_o0 (Or.inl rfl) rfl ?_
    refine J_iload_n dc_Tr_measure_38 (Eq.refl 39) 1 rfl ?_
    obtain ⟨hg, h⟩ := h
    refine J_iald dc_Tr_measure_39 (Eq.refl 40) (ak_Tr_2 hk_o0).1 (ak_Tr_2 hk_o0).2 hg ?_
    refine J_if_lt dc_Tr_measure_40 (Eq.refl 43) rfl (fun hc => ?_) (fun hc => ?_)
    · have h := h.1 hc
      exact h
    · have h := h.2 hc
      refine J_aload_n dc_Tr_measure_43 (Eq.refl 44) 0 rfl ?_
      refine J_getF (y := o0 + 3) dc_Tr_measure_44 (Eq.refl 47) fl_Tr_18 (Nat.le_of_ble_eq_true rfl) hk_o0 (Or.inl rfl) rfl ?_
      refine J_iload_n dc_Tr_measure_47 (Eq.refl 48) 1 rfl ?_
      obtain ⟨hg, h⟩ := h
      refine J_iald dc_Tr_measure_48 (Eq.refl 49) (ak_Tr_2 hk_o0).1 (ak_Tr_2 hk_o0).2 hg ?_
      refine J_iload_n dc_Tr_measure_49 (Eq.refl 50) 1 rfl ?_
      refine J_icmp_ge dc_Tr_measure_50 (Eq.refl 53) rfl (fun hc => ?_) (fun hc => ?_)
      · have h := h.1 hc
        exact h
      · have h := h.2 hc
        refine J_aload_n dc_Tr_measure_53 (Eq.refl 54) 0 rfl ?_
        refine J_getF (y := o0 + 5) dc_Tr_measure_54 (Eq.refl 57) fl_Tr_24 (Nat.le_of_ble_eq_true rfl) hk_o0 (Or.inl rfl) rfl ?_
        refine J_aload_n dc_Tr_measure_57 (Eq.refl 58) 0 rfl ?_
        refine J_getF (y := o0 + 3) dc_Tr_measure_58 (Eq.refl 61) fl_Tr_18 (Nat.le_of_ble_eq_true rfl) hk_o0 (Or.inl rfl) rfl ?_
        refine J_iload_n dc_Tr_measure_61 (Eq.refl 62) 1 rfl ?_
        obtain ⟨hg, h⟩ := h
        refine J_iald dc_Tr_measure_62 (Eq.refl 63) (ak_Tr_2 hk_o0).1 (ak_Tr_2 hk_o0).2 hg ?_
        refine J_dup2_11 dc_Tr_measure_63 (Eq.refl 64) rfl rfl ?_
        obtain ⟨hg, h⟩ := h
        refine J_iald dc_Tr_measure_64 (Eq.refl 65) (ak_Tr_4 hk_o0).1 (ak_Tr_4 hk_o0).2 hg ?_
        refine J_aload_n dc_Tr_measure_65 (Eq.refl 66) 0 rfl ?_
        refine J_getF (y := o0 + 5) dc_Tr_measure_66 (Eq.refl 69) fl_Tr_24 (Nat.le_of_ble_eq_true rfl) hk_o0 (Or.inl rfl) rfl ?_
        refine J_iload_n dc_Tr_measure_69 (Eq.refl 70) 1 rfl ?_
        obtain ⟨hg, h⟩ := h
        refine J_iald dc_Tr_measure_70 (Eq.refl 71) (ak_Tr_4 hk_o0).1 (ak_Tr_4 hk_o0).2 hg ?_
        refine J_iadd dc_Tr_measure_71 (Eq.refl 72) ?_
        obtain ⟨hg, h⟩ := h
        refine J_iast dc_Tr_measure_72 (Eq.refl 73) (ak_Tr_4 hk_o0).1 (ak_Tr_4 hk_o0).2 hg ?_
        exact h
theorem b_Tr_measure_73 {E : En_t} {d : Nat} {σ : S_t} {Q : Option Value → S_t → Prop} {o0 : Nat} {x1 : Int32} (hk_o0 : kindP o0 = 11)
    (h : JE E d m_Tr_measure 30 [(0, pv E o0), (1, .int (x1 + (-1 : Int32)))] [] σ Q) :
    JE E d m_Tr_measure 73 [(0, pv E o0), (1, .int x1)] [] σ Q := by
  refine J_iinc (v := x1 + (-1 : Int32)) (L' := [(1, .int (x1 + (-1 : Int32))), (0, pv E o0)]) dc_Tr_measure_73 (Eq.refl 76) 1 rfl rfl (Nat.le_of_ble_eq_true rfl) rfl ?_
  refine J_goto dc_Tr_measure_76 rfl ?_
  refine J_sub [1, 0] rfl ?_
  exact h
theorem dc_Tr_nameCharacter_0 : decode m_Tr_nameCharacter.2.1 0 = .ok (.aload_n 0, 1) := by decide +kernel
theorem dc_Tr_nameCharacter_1 : decode m_Tr_nameCharacter.2.1 1 = .ok (.iload_n 1, 1) := by decide +kernel
theorem dc_Tr_nameCharacter_2 : decode m_Tr_nameCharacter.2.1 2 = .ok (.invokevirtual 65, 3) := by decide +kernel
theorem dc_Tr_nameCharacter_5 : decode m_Tr_nameCharacter.2.1 5 = .ok (.ifCond .eq 21, 3) := by decide +kernel
theorem dc_Tr_nameCharacter_8 : decode m_Tr_nameCharacter.2.1 8 = .ok (.iload_n 2, 1) := by decide +kernel
theorem dc_Tr_nameCharacter_9 : decode m_Tr_nameCharacter.2.1 9 = .ok (.ifCond .lt 17, 3) := by decide +kernel
theorem dc_Tr_nameCharacter_12 : decode m_Tr_nameCharacter.2.1 12 = .ok (.iload_n 2, 1) := by decide +kernel
theorem dc_Tr_nameCharacter_13 : decode m_Tr_nameCharacter.2.1 13 = .ok (.aload_n 0, 1) := by decide +kernel
theorem dc_Tr_nameCharacter_14 : decode m_Tr_nameCharacter.2.1 14 = .ok (.getfield 37, 3) := by decide +kernel
theorem dc_Tr_nameCharacter_17 : decode m_Tr_nameCharacter.2.1 17 = .ok (.iload_n 1, 1) := by decide +kernel
theorem dc_Tr_nameCharacter_18 : decode m_Tr_nameCharacter.2.1 18 = .ok (.iaload, 1) := by decide +kernel
theorem dc_Tr_nameCharacter_19 : decode m_Tr_nameCharacter.2.1 19 = .ok (.if_icmp .ge 7, 3) := by decide +kernel
theorem dc_Tr_nameCharacter_22 : decode m_Tr_nameCharacter.2.1 22 = .ok (.iconst 1, 1) := by decide +kernel
theorem dc_Tr_nameCharacter_23 : decode m_Tr_nameCharacter.2.1 23 = .ok (.goto 4, 3) := by decide +kernel
theorem dc_Tr_nameCharacter_26 : decode m_Tr_nameCharacter.2.1 26 = .ok (.iconst 0, 1) := by decide +kernel
theorem dc_Tr_nameCharacter_27 : decode m_Tr_nameCharacter.2.1 27 = .ok (.istore_n 3, 1) := by decide +kernel
theorem dc_Tr_nameCharacter_28 : decode m_Tr_nameCharacter.2.1 28 = .ok (.iload_n 3, 1) := by decide +kernel
theorem dc_Tr_nameCharacter_29 : decode m_Tr_nameCharacter.2.1 29 = .ok (.ifCond .eq 19, 3) := by decide +kernel
theorem dc_Tr_nameCharacter_32 : decode m_Tr_nameCharacter.2.1 32 = .ok (.aload_n 0, 1) := by decide +kernel
theorem dc_Tr_nameCharacter_33 : decode m_Tr_nameCharacter.2.1 33 = .ok (.getfield 43, 3) := by decide +kernel
theorem dc_Tr_nameCharacter_36 : decode m_Tr_nameCharacter.2.1 36 = .ok (.aload_n 0, 1) := by decide +kernel
theorem dc_Tr_nameCharacter_37 : decode m_Tr_nameCharacter.2.1 37 = .ok (.getfield 34, 3) := by decide +kernel
theorem dc_Tr_nameCharacter_40 : decode m_Tr_nameCharacter.2.1 40 = .ok (.iload_n 1, 1) := by decide +kernel
theorem dc_Tr_nameCharacter_41 : decode m_Tr_nameCharacter.2.1 41 = .ok (.iaload, 1) := by decide +kernel
theorem dc_Tr_nameCharacter_42 : decode m_Tr_nameCharacter.2.1 42 = .ok (.iload_n 2, 1) := by decide +kernel
theorem dc_Tr_nameCharacter_43 : decode m_Tr_nameCharacter.2.1 43 = .ok (.iadd, 1) := by decide +kernel
theorem dc_Tr_nameCharacter_44 : decode m_Tr_nameCharacter.2.1 44 = .ok (.iaload, 1) := by decide +kernel
theorem dc_Tr_nameCharacter_45 : decode m_Tr_nameCharacter.2.1 45 = .ok (.goto 4, 3) := by decide +kernel
theorem dc_Tr_nameCharacter_48 : decode m_Tr_nameCharacter.2.1 48 = .ok (.iconst (-1), 1) := by decide +kernel
theorem dc_Tr_nameCharacter_49 : decode m_Tr_nameCharacter.2.1 49 = .ok (.ireturn, 1) := by decide +kernel
theorem b_Tr_nameCharacter_0 {E : En_t} {d : Nat} {σ : S_t} {Q : Option Value → S_t → Prop} {o0 : Nat} {x1 : Int32} {x2 : Int32} (hk_o0 : kindP o0 = 11)
    (h : CI E d m_Tr_isNamed [pv E o0, .int x1] σ (fun r2 σ1 => (r2 = 0 → JE E (d + 1) m_Tr_nameCharacter 26 [(0, pv E o0), (1, .int x1), (2, .int x2)] [] σ1 Q) ∧ (¬ r2 = 0 → (x2 < 0 → JE E (d + 1) m_Tr_nameCharacter 26 [(0, pv E o0), (1, .int x1), (2, .int x2)] [] σ1 Q) ∧ (¬ x2 < 0 → vp_in x1 500 ∧ (((gI σ1 (o0 + 9) x1.toNatClampNeg) ≤ x2 → JE E (d + 1) m_Tr_nameCharacter 26 [(0, pv E o0), (1, .int x1), (2, .int x2)] [] σ1 Q) ∧ (¬ (gI σ1 (o0 + 9) x1.toNatClampNeg) ≤ x2 → JE E (d + 1) m_Tr_nameCharacter 27 [(0, pv E o0), (1, .int x1), (2, .int x2)] [.int (1 : Int32)] σ1 Q)))))) :
    JE E (d + 1) m_Tr_nameCharacter 0 [(0, pv E o0), (1, .int x1), (2, .int x2)] [] σ Q := by
  refine J_aload_n dc_Tr_nameCharacter_0 (Eq.refl 1) 0 rfl ?_
  refine J_iload_n dc_Tr_nameCharacter_1 (Eq.refl 2) 1 rfl ?_
  refine J_callVI (As := [.int x1]) (st := []) dc_Tr_nameCharacter_2 (Eq.refl 5) lk_Tr_65 mi_Tr_isNamed hk_o0 (Nat.le_of_ble_eq_true rfl) rfl rfl (Nat.le_of_ble_eq_true rfl) rfl (Nat.le_of_ble_eq_true rfl) (CI.mono h (fun r2 σ1 h => ?_))
  refine J_if_eq dc_Tr_nameCharacter_5 (Eq.refl 8) rfl (fun hc => ?_) (fun hc => ?_)
  · have h := h.1 hc
    exact h
  · have h := h.2 hc
    refine J_iload_n dc_Tr_nameCharacter_8 (Eq.refl 9) 2 rfl ?_
    refine J_if_lt dc_Tr_nameCharacter_9 (Eq.refl 12) rfl (fun hc => ?_) (fun hc => ?_)
    · have h := h.1 hc
      exact h
    · have h := h.2 hc
      refine J_iload_n dc_Tr_nameCharacter_12 (Eq.refl 13) 2 rfl ?_
      refine J_aload_n dc_Tr_nameCharacter_13 (Eq.refl 14) 0 rfl ?_
      refine J_getF (y := o0 + 9) dc_Tr_nameCharacter_14 (Eq.refl 17) fl_Tr_37 (Nat.le_of_ble_eq_true rfl) hk_o0 (Or.inl rfl) rfl ?_
      refine J_iload_n dc_Tr_nameCharacter_17 (Eq.refl 18) 1 rfl ?_
      obtain ⟨hg, h⟩ := h
      refine J_iald dc_Tr_nameCharacter_18 (Eq.refl 19) (ak_Tr_8 hk_o0).1 (ak_Tr_8 hk_o0).2 hg ?_
      refine J_icmp_ge dc_Tr_nameCharacter_19 (Eq.refl 22) rfl (fun hc => ?_) (fun hc => ?_)
      · have h := h.1 hc
        exact h
      · have h := h.2 hc
        refine J_iconst (v := (1 : Int32)) dc_Tr_nameCharacter_22 (Eq.refl 23) rfl ?_
        refine J_goto dc_Tr_nameCharacter_23 rfl ?_
        exact h
theorem b_Tr_nameCharacter_26 {E : En_t} {d : Nat} {σ : S_t} {Q : Option Value → S_t → Prop} {o0 : Nat} {x1 : Int32} {x2 : Int32} (hk_o0 : kindP o0 = 11)
    (h : JE E (d + 1) m_Tr_nameCharacter 27 [(0, pv E o0), (1, .int x1), (2, .int x2)] [.int (0 : Int32)] σ Q) :
    JE E (d + 1) m_Tr_nameCharacter 26 [(0, pv E o0), (1, .int x1), (2, .int x2)] [] σ Q := by
  refine J_iconst (v := (0 : Int32)) dc_Tr_nameCharacter_26 (Eq.refl 27) rfl ?_
  exact h
theorem b_Tr_nameCharacter_27 {E : En_t} {d : Nat} {σ : S_t} {Q : Option Value → S_t → Prop} {o0 : Nat} {x1 : Int32} {x2 : Int32} {s0 : Int32} (hk_o0 : kindP o0 = 11)
    (h : (s0 = 0 → Q (some (.int (-1 : Int32))) σ) ∧ (¬ s0 = 0 → vp_in x1 500 ∧ (vp_in ((gI σ (o0 + 8) x1.toNatClampNeg) + x2) 4000 ∧ (Q (some (.int (gI σ (o0 + 11) ((gI σ (o0 + 8) x1.toNatClampNeg) + x2).toNatClampNeg))) σ)))) :
    JE E (d + 1) m_Tr_nameCharacter 27 [(0, pv E o0), (1, .int x1), (2, .int x2)] [.int s0] σ Q := by
  refine J_istore_n (L' := [(3, .int s0), (0, pv E o0), (1, .int x1), (2, .int x2)]) dc_Tr_nameCharacter_27 (Eq.refl 28) (Nat.le_of_ble_eq_true rfl) rfl ?_
  refine J_iload_n dc_Tr_nameCharacter_28 (Eq.refl 29) 0 rfl ?_
  refine J_if_eq dc_Tr_nameCharacter_29 (Eq.refl 32) rfl (fun hc => ?_) (fun hc => ?_)
  · have h := h.1 hc
    refine J_iconst (v := (-1 : Int32)) dc_Tr_nameCharacter_48 (Eq.refl 49) rfl ?_
    exact J_iret dc_Tr_nameCharacter_49 rfl h
  · have h := h.2 hc
    refine J_aload_n dc_Tr_nameCharacter_32 (Eq.refl 33) 1 rfl ?_
    refine J_getF (y := o0 + 11) dc_Tr_nameCharacter_33 (Eq.refl 36) fl_Tr_43 (Nat.le_of_ble_eq_true rfl) hk_o0 (Or.inl rfl) rfl ?_
    refine J_aload_n dc_Tr_nameCharacter_36 (Eq.refl 37) 1 rfl ?_
    refine J_getF (y := o0 + 8) dc_Tr_nameCharacter_37 (Eq.refl 40) fl_Tr_34 (Nat.le_of_ble_eq_true rfl) hk_o0 (Or.inl rfl) rfl ?_
    refine J_iload_n dc_Tr_nameCharacter_40 (Eq.refl 41) 2 rfl ?_
    obtain ⟨hg, h⟩ := h
    refine J_iald dc_Tr_nameCharacter_41 (Eq.refl 42) (ak_Tr_7 hk_o0).1 (ak_Tr_7 hk_o0).2 hg ?_
    refine J_iload_n dc_Tr_nameCharacter_42 (Eq.refl 43) 3 rfl ?_
    refine J_iadd dc_Tr_nameCharacter_43 (Eq.refl 44) ?_
    obtain ⟨hg, h⟩ := h
    refine J_iald dc_Tr_nameCharacter_44 (Eq.refl 45) (ak_Tr_10 hk_o0).1 (ak_Tr_10 hk_o0).2 hg ?_
    refine J_goto dc_Tr_nameCharacter_45 rfl ?_
    exact J_iret dc_Tr_nameCharacter_49 rfl h
theorem dc_Tr_textCharacter_0 : decode m_Tr_textCharacter.2.1 0 = .ok (.aload_n 0, 1) := by decide +kernel
theorem dc_Tr_textCharacter_1 : decode m_Tr_textCharacter.2.1 1 = .ok (.getfield 9, 3) := by decide +kernel
theorem dc_Tr_textCharacter_4 : decode m_Tr_textCharacter.2.1 4 = .ok (.iload_n 1, 1) := by decide +kernel
theorem dc_Tr_textCharacter_5 : decode m_Tr_textCharacter.2.1 5 = .ok (.iaload, 1) := by decide +kernel
theorem dc_Tr_textCharacter_6 : decode m_Tr_textCharacter.2.1 6 = .ok (.iconst 4, 1) := by decide +kernel
theorem dc_Tr_textCharacter_7 : decode m_Tr_textCharacter.2.1 7 = .ok (.if_icmp .ne 21, 3) := by decide +kernel
theorem dc_Tr_textCharacter_10 : decode m_Tr_textCharacter.2.1 10 = .ok (.iload_n 2, 1) := by decide +kernel
theorem dc_Tr_textCharacter_11 : decode m_Tr_textCharacter.2.1 11 = .ok (.ifCond .lt 17, 3) := by decide +kernel
theorem dc_Tr_textCharacter_14 : decode m_Tr_textCharacter.2.1 14 = .ok (.iload_n 2, 1) := by decide +kernel
theorem dc_Tr_textCharacter_15 : decode m_Tr_textCharacter.2.1 15 = .ok (.aload_n 0, 1) := by decide +kernel
theorem dc_Tr_textCharacter_16 : decode m_Tr_textCharacter.2.1 16 = .ok (.getfield 15, 3) := by decide +kernel
theorem dc_Tr_textCharacter_19 : decode m_Tr_textCharacter.2.1 19 = .ok (.iload_n 1, 1) := by decide +kernel
theorem dc_Tr_textCharacter_20 : decode m_Tr_textCharacter.2.1 20 = .ok (.iaload, 1) := by decide +kernel
theorem dc_Tr_textCharacter_21 : decode m_Tr_textCharacter.2.1 21 = .ok (.if_icmp .ge 7, 3) := by decide +kernel
theorem dc_Tr_textCharacter_24 : decode m_Tr_textCharacter.2.1 24 = .ok (.iconst 1, 1) := by decide +kernel
theorem dc_Tr_textCharacter_25 : decode m_Tr_textCharacter.2.1 25 = .ok (.goto 4, 3) := by decide +kernel
theorem dc_Tr_textCharacter_28 : decode m_Tr_textCharacter.2.1 28 = .ok (.iconst 0, 1) := by decide +kernel
theorem dc_Tr_textCharacter_29 : decode m_Tr_textCharacter.2.1 29 = .ok (.istore_n 3, 1) := by decide +kernel
theorem dc_Tr_textCharacter_30 : decode m_Tr_textCharacter.2.1 30 = .ok (.iload_n 3, 1) := by decide +kernel
theorem dc_Tr_textCharacter_31 : decode m_Tr_textCharacter.2.1 31 = .ok (.ifCond .eq 19, 3) := by decide +kernel
theorem dc_Tr_textCharacter_34 : decode m_Tr_textCharacter.2.1 34 = .ok (.aload_n 0, 1) := by decide +kernel
theorem dc_Tr_textCharacter_35 : decode m_Tr_textCharacter.2.1 35 = .ok (.getfield 43, 3) := by decide +kernel
theorem dc_Tr_textCharacter_38 : decode m_Tr_textCharacter.2.1 38 = .ok (.aload_n 0, 1) := by decide +kernel
theorem dc_Tr_textCharacter_39 : decode m_Tr_textCharacter.2.1 39 = .ok (.getfield 40, 3) := by decide +kernel
theorem dc_Tr_textCharacter_42 : decode m_Tr_textCharacter.2.1 42 = .ok (.iload_n 1, 1) := by decide +kernel
theorem dc_Tr_textCharacter_43 : decode m_Tr_textCharacter.2.1 43 = .ok (.iaload, 1) := by decide +kernel
theorem dc_Tr_textCharacter_44 : decode m_Tr_textCharacter.2.1 44 = .ok (.iload_n 2, 1) := by decide +kernel
theorem dc_Tr_textCharacter_45 : decode m_Tr_textCharacter.2.1 45 = .ok (.iadd, 1) := by decide +kernel
theorem dc_Tr_textCharacter_46 : decode m_Tr_textCharacter.2.1 46 = .ok (.iaload, 1) := by decide +kernel
theorem dc_Tr_textCharacter_47 : decode m_Tr_textCharacter.2.1 47 = .ok (.goto 4, 3) := by decide +kernel
theorem dc_Tr_textCharacter_50 : decode m_Tr_textCharacter.2.1 50 = .ok (.iconst (-1), 1) := by decide +kernel
theorem dc_Tr_textCharacter_51 : decode m_Tr_textCharacter.2.1 51 = .ok (.ireturn, 1) := by decide +kernel
theorem b_Tr_textCharacter_0 {E : En_t} {d : Nat} {σ : S_t} {Q : Option Value → S_t → Prop} {o0 : Nat} {x1 : Int32} {x2 : Int32} (hk_o0 : kindP o0 = 11)
    (h : vp_in x1 500 ∧ ((¬ (gI σ (o0 + 1) x1.toNatClampNeg) = (4 : Int32) → JE E d m_Tr_textCharacter 28 [(0, pv E o0), (1, .int x1), (2, .int x2)] [] σ Q) ∧ ((gI σ (o0 + 1) x1.toNatClampNeg) = (4 : Int32) → (x2 < 0 → JE E d m_Tr_textCharacter 28 [(0, pv E o0), (1, .int x1), (2, .int x2)] [] σ Q) ∧ (¬ x2 < 0 → vp_in x1 500 ∧ (((gI σ (o0 + 2) x1.toNatClampNeg) ≤ x2 → JE E d m_Tr_textCharacter 28 [(0, pv E o0), (1, .int x1), (2, .int x2)] [] σ Q) ∧ (¬ (gI σ (o0 + 2) x1.toNatClampNeg) ≤ x2 → JE E d m_Tr_textCharacter 29 [(0, pv E o0), (1, .int x1), (2, .int x2)] [.int (1 : Int32)] σ Q)))))) :
    JE E d m_Tr_textCharacter 0 [(0, pv E o0), (1, .int x1), (2, .int x2)] [] σ Q := by
  refine J_aload_n dc_Tr_textCharacter_0 (Eq.refl 1) 0 rfl ?_
  refine J_getF (y := o0 + 1) dc_Tr_textCharacter_1 (Eq.refl 4) fl_Tr_9 (Nat.le_of_ble_eq_true rfl) hk_o0 (Or.inl rfl) rfl ?_
  refine J_iload_n dc_Tr_textCharacter_4 (Eq.refl 5) 1 rfl ?_
  obtain ⟨hg, h⟩ := h
  refine J_iald dc_Tr_textCharacter_5 (Eq.refl 6) (ak_Tr_0 hk_o0).1 (ak_Tr_0 hk_o0).2 hg ?_
  refine J_iconst (v := (4 : Int32)) dc_Tr_textCharacter_6 (Eq.refl 7) rfl ?_
  refine J_icmp_ne dc_Tr_textCharacter_7 (Eq.refl 10) rfl (fun hc => ?_) (fun hc => ?_)
  · have h := h.1 hc
    exact h
  · have h := h.2 hc
    refine J_iload_n dc_Tr_textCharacter_10 (Eq.refl 11) 2 rfl ?_
    refine J_if_lt dc_Tr_textCharacter_11 (Eq.refl 14) rfl (fun hc => ?_) (fun hc => ?_)
    · have h := h.1 hc
      exact h
    · have h := h.2 hc
      refine J_iload_n dc_Tr_textCharacter_14 (Eq.refl 15) 2 rfl ?_
      refine J_aload_n dc_Tr_textCharacter_15 (Eq.refl 16) 0 rfl ?_
      refine J_getF (y := o0 + 2) dc_Tr_textCharacter_16 (Eq.refl 19) fl_Tr_15 (Nat.le_of_ble_eq_true rfl) hk_o0 (Or.inl rfl) rfl ?_
      refine J_iload_n dc_Tr_textCharacter_19 (Eq.refl 20) 1 rfl ?_
      obtain ⟨hg, h⟩ := h
      refine J_iald dc_Tr_textCharacter_20 (Eq.refl 21) (ak_Tr_1 hk_o0).1 (ak_Tr_1 hk_o0).2 hg ?_
      refine J_icmp_ge dc_Tr_textCharacter_21 (Eq.refl 24) rfl (fun hc => ?_) (fun hc => ?_)
      · have h := h.1 hc
        exact h
      · have h := h.2 hc
        refine J_iconst (v := (1 : Int32)) dc_Tr_textCharacter_24 (Eq.refl 25) rfl ?_
        refine J_goto dc_Tr_textCharacter_25 rfl ?_
        exact h
theorem b_Tr_textCharacter_28 {E : En_t} {d : Nat} {σ : S_t} {Q : Option Value → S_t → Prop} {o0 : Nat} {x1 : Int32} {x2 : Int32} (hk_o0 : kindP o0 = 11)
    (h : JE E d m_Tr_textCharacter 29 [(0, pv E o0), (1, .int x1), (2, .int x2)] [.int (0 : Int32)] σ Q) :
    JE E d m_Tr_textCharacter 28 [(0, pv E o0), (1, .int x1), (2, .int x2)] [] σ Q := by
  refine J_iconst (v := (0 : Int32)) dc_Tr_textCharacter_28 (Eq.refl 29) rfl ?_
  exact h
theorem b_Tr_textCharacter_29 {E : En_t} {d : Nat} {σ : S_t} {Q : Option Value → S_t → Prop} {o0 : Nat} {x1 : Int32} {x2 : Int32} {s0 : Int32} (hk_o0 : kindP o0 = 11)
    (h : (s0 = 0 → Q (some (.int (-1 : Int32))) σ) ∧ (¬ s0 = 0 → vp_in x1 500 ∧ (vp_in ((gI σ (o0 + 10) x1.toNatClampNeg) + x2) 4000 ∧ (Q (some (.int (gI σ (o0 + 11) ((gI σ (o0 + 10) x1.toNatClampNeg) + x2).toNatClampNeg))) σ)))) :
    JE E d m_Tr_textCharacter 29 [(0, pv E o0), (1, .int x1), (2, .int x2)] [.int s0] σ Q := by
  refine J_istore_n (L' := [(3, .int s0), (0, pv E o0), (1, .int x1), (2, .int x2)]) dc_Tr_textCharacter_29 (Eq.refl 30) (Nat.le_of_ble_eq_true rfl) rfl ?_
  refine J_iload_n dc_Tr_textCharacter_30 (Eq.refl 31) 0 rfl ?_
  refine J_if_eq dc_Tr_textCharacter_31 (Eq.refl 34) rfl (fun hc => ?_) (fun hc => ?_)
  · have h := h.1 hc
    refine J_iconst (v := (-1 : Int32)) dc_Tr_textCharacter_50 (Eq.refl 51) rfl ?_
    exact J_iret dc_Tr_textCharacter_51 rfl h
  · have h := h.2 hc
    refine J_aload_n dc_Tr_textCharacter_34 (Eq.refl 35) 1 rfl ?_
    refine J_getF (y := o0 + 11) dc_Tr_textCharacter_35 (Eq.refl 38) fl_Tr_43 (Nat.le_of_ble_eq_true rfl) hk_o0 (Or.inl rfl) rfl ?_
    refine J_aload_n dc_Tr_textCharacter_38 (Eq.refl 39) 1 rfl ?_
    refine J_getF (y := o0 + 10) dc_Tr_textCharacter_39 (Eq.refl 42) fl_Tr_40 (Nat.le_of_ble_eq_true rfl) hk_o0 (Or.inl rfl) rfl ?_
    refine J_iload_n dc_Tr_textCharacter_42 (Eq.refl 43) 2 rfl ?_
    obtain ⟨hg, h⟩ := h
    refine J_iald dc_Tr_textCharacter_43 (Eq.refl 44) (ak_Tr_9 hk_o0).1 (ak_Tr_9 hk_o0).2 hg ?_
    refine J_iload_n dc_Tr_textCharacter_44 (Eq.refl 45) 3 rfl ?_
    refine J_iadd dc_Tr_textCharacter_45 (Eq.refl 46) ?_
    obtain ⟨hg, h⟩ := h
    refine J_iald dc_Tr_textCharacter_46 (Eq.refl 47) (ak_Tr_10 hk_o0).1 (ak_Tr_10 hk_o0).2 hg ?_
    refine J_goto dc_Tr_textCharacter_47 rfl ?_
    exact J_iret dc_Tr_textCharacter_51 rfl h
theorem dc_Tr_isAlike_0 : decode m_Tr_isAlike.2.1 0 = .ok (.aload_n 0, 1) := by decide +kernel
theorem dc_Tr_isAlike_1 : decode m_Tr_isAlike.2.1 1 = .ok (.getfield 24, 3) := by decide +kernel
theorem dc_Tr_isAlike_4 : decode m_Tr_isAlike.2.1 4 = .ok (.iload_n 1, 1) := by decide +kernel
theorem dc_Tr_isAlike_5 : decode m_Tr_isAlike.2.1 5 = .ok (.iaload, 1) := by decide +kernel
theorem dc_Tr_isAlike_6 : decode m_Tr_isAlike.2.1 6 = .ok (.aload_n 2, 1) := by decide +kernel
theorem dc_Tr_isAlike_7 : decode m_Tr_isAlike.2.1 7 = .ok (.getfield 24, 3) := by decide +kernel
theorem dc_Tr_isAlike_10 : decode m_Tr_isAlike.2.1 10 = .ok (.iload_n 3, 1) := by decide +kernel
theorem dc_Tr_isAlike_11 : decode m_Tr_isAlike.2.1 11 = .ok (.iaload, 1) := by decide +kernel
theorem dc_Tr_isAlike_12 : decode m_Tr_isAlike.2.1 12 = .ok (.if_icmp .eq 5, 3) := by decide +kernel
theorem dc_Tr_isAlike_15 : decode m_Tr_isAlike.2.1 15 = .ok (.iconst 0, 1) := by decide +kernel
theorem dc_Tr_isAlike_16 : decode m_Tr_isAlike.2.1 16 = .ok (.ireturn, 1) := by decide +kernel
theorem dc_Tr_isAlike_17 : decode m_Tr_isAlike.2.1 17 = .ok (.aload_n 0, 1) := by decide +kernel
theorem dc_Tr_isAlike_18 : decode m_Tr_isAlike.2.1 18 = .ok (.getfield 24, 3) := by decide +kernel
theorem dc_Tr_isAlike_21 : decode m_Tr_isAlike.2.1 21 = .ok (.iload_n 1, 1) := by decide +kernel
theorem dc_Tr_isAlike_22 : decode m_Tr_isAlike.2.1 22 = .ok (.iaload, 1) := by decide +kernel
theorem dc_Tr_isAlike_23 : decode m_Tr_isAlike.2.1 23 = .ok (.aload_n 0, 1) := by decide +kernel
theorem dc_Tr_isAlike_24 : decode m_Tr_isAlike.2.1 24 = .ok (.getfield 46, 3) := by decide +kernel
theorem dc_Tr_isAlike_27 : decode m_Tr_isAlike.2.1 27 = .ok (.iload_n 1, 1) := by decide +kernel
theorem dc_Tr_isAlike_28 : decode m_Tr_isAlike.2.1 28 = .ok (.isub, 1) := by decide +kernel
theorem dc_Tr_isAlike_29 : decode m_Tr_isAlike.2.1 29 = .ok (.aload_n 2, 1) := by decide +kernel
theorem dc_Tr_isAlike_30 : decode m_Tr_isAlike.2.1 30 = .ok (.getfield 46, 3) := by decide +kernel
theorem dc_Tr_isAlike_33 : decode m_Tr_isAlike.2.1 33 = .ok (.iload_n 3, 1) := by decide +kernel
theorem dc_Tr_isAlike_34 : decode m_Tr_isAlike.2.1 34 = .ok (.isub, 1) := by decide +kernel
theorem dc_Tr_isAlike_35 : decode m_Tr_isAlike.2.1 35 = .ok (.invokestatic 77, 3) := by decide +kernel
theorem dc_Tr_isAlike_38 : decode m_Tr_isAlike.2.1 38 = .ok (.invokestatic 77, 3) := by decide +kernel
theorem dc_Tr_isAlike_41 : decode m_Tr_isAlike.2.1 41 = .ok (.istore 4, 2) := by decide +kernel
theorem dc_Tr_isAlike_43 : decode m_Tr_isAlike.2.1 43 = .ok (.iconst 0, 1) := by decide +kernel
theorem dc_Tr_isAlike_44 : decode m_Tr_isAlike.2.1 44 = .ok (.istore 5, 2) := by decide +kernel
theorem dc_Tr_isAlike_46 : decode m_Tr_isAlike.2.1 46 = .ok (.iload 5, 2) := by decide +kernel
theorem dc_Tr_isAlike_48 : decode m_Tr_isAlike.2.1 48 = .ok (.iload 4, 2) := by decide +kernel
theorem dc_Tr_isAlike_50 : decode m_Tr_isAlike.2.1 50 = .ok (.if_icmp .ge 61, 3) := by decide +kernel
theorem dc_Tr_isAlike_53 : decode m_Tr_isAlike.2.1 53 = .ok (.aload_n 0, 1) := by decide +kernel
theorem dc_Tr_isAlike_54 : decode m_Tr_isAlike.2.1 54 = .ok (.iload_n 1, 1) := by decide +kernel
theorem dc_Tr_isAlike_55 : decode m_Tr_isAlike.2.1 55 = .ok (.iload 5, 2) := by decide +kernel
theorem dc_Tr_isAlike_57 : decode m_Tr_isAlike.2.1 57 = .ok (.iadd, 1) := by decide +kernel
theorem dc_Tr_isAlike_58 : decode m_Tr_isAlike.2.1 58 = .ok (.aload_n 2, 1) := by decide +kernel
theorem dc_Tr_isAlike_59 : decode m_Tr_isAlike.2.1 59 = .ok (.iload_n 3, 1) := by decide +kernel
theorem dc_Tr_isAlike_60 : decode m_Tr_isAlike.2.1 60 = .ok (.iload 5, 2) := by decide +kernel
theorem dc_Tr_isAlike_62 : decode m_Tr_isAlike.2.1 62 = .ok (.iadd, 1) := by decide +kernel
theorem dc_Tr_isAlike_63 : decode m_Tr_isAlike.2.1 63 = .ok (.invokevirtual 105, 3) := by decide +kernel
theorem dc_Tr_isAlike_66 : decode m_Tr_isAlike.2.1 66 = .ok (.ifCond .ne 5, 3) := by decide +kernel
theorem dc_Tr_isAlike_69 : decode m_Tr_isAlike.2.1 69 = .ok (.iconst 0, 1) := by decide +kernel
theorem dc_Tr_isAlike_70 : decode m_Tr_isAlike.2.1 70 = .ok (.ireturn, 1) := by decide +kernel
theorem dc_Tr_isAlike_71 : decode m_Tr_isAlike.2.1 71 = .ok (.iload 5, 2) := by decide +kernel
theorem dc_Tr_isAlike_73 : decode m_Tr_isAlike.2.1 73 = .ok (.ifCond .le 32, 3) := by decide +kernel
theorem dc_Tr_isAlike_76 : decode m_Tr_isAlike.2.1 76 = .ok (.aload_n 0, 1) := by decide +kernel
theorem dc_Tr_isAlike_77 : decode m_Tr_isAlike.2.1 77 = .ok (.iload_n 1, 1) := by decide +kernel
theorem dc_Tr_isAlike_78 : decode m_Tr_isAlike.2.1 78 = .ok (.iload 5, 2) := by decide +kernel
theorem dc_Tr_isAlike_80 : decode m_Tr_isAlike.2.1 80 = .ok (.iadd, 1) := by decide +kernel
theorem dc_Tr_isAlike_81 : decode m_Tr_isAlike.2.1 81 = .ok (.invokevirtual 65, 3) := by decide +kernel
theorem dc_Tr_isAlike_84 : decode m_Tr_isAlike.2.1 84 = .ok (.ifCond .eq 21, 3) := by decide +kernel
theorem dc_Tr_isAlike_87 : decode m_Tr_isAlike.2.1 87 = .ok (.aload_n 0, 1) := by decide +kernel
theorem dc_Tr_isAlike_88 : decode m_Tr_isAlike.2.1 88 = .ok (.iload_n 1, 1) := by decide +kernel
theorem dc_Tr_isAlike_89 : decode m_Tr_isAlike.2.1 89 = .ok (.iload 5, 2) := by decide +kernel
theorem dc_Tr_isAlike_91 : decode m_Tr_isAlike.2.1 91 = .ok (.iadd, 1) := by decide +kernel
theorem dc_Tr_isAlike_92 : decode m_Tr_isAlike.2.1 92 = .ok (.aload_n 2, 1) := by decide +kernel
theorem dc_Tr_isAlike_93 : decode m_Tr_isAlike.2.1 93 = .ok (.iload_n 3, 1) := by decide +kernel
theorem dc_Tr_isAlike_94 : decode m_Tr_isAlike.2.1 94 = .ok (.iload 5, 2) := by decide +kernel
theorem dc_Tr_isAlike_96 : decode m_Tr_isAlike.2.1 96 = .ok (.iadd, 1) := by decide +kernel
theorem dc_Tr_isAlike_97 : decode m_Tr_isAlike.2.1 97 = .ok (.invokevirtual 109, 3) := by decide +kernel
theorem dc_Tr_isAlike_100 : decode m_Tr_isAlike.2.1 100 = .ok (.ifCond .ne 5, 3) := by decide +kernel
theorem dc_Tr_isAlike_103 : decode m_Tr_isAlike.2.1 103 = .ok (.iconst 0, 1) := by decide +kernel
theorem dc_Tr_isAlike_104 : decode m_Tr_isAlike.2.1 104 = .ok (.ireturn, 1) := by decide +kernel
theorem dc_Tr_isAlike_105 : decode m_Tr_isAlike.2.1 105 = .ok (.iinc 5 1, 3) := by decide +kernel
theorem dc_Tr_isAlike_108 : decode m_Tr_isAlike.2.1 108 = .ok (.goto (-62), 3) := by decide +kernel
theorem dc_Tr_isAlike_111 : decode m_Tr_isAlike.2.1 111 = .ok (.iconst 1, 1) := by decide +kernel
theorem dc_Tr_isAlike_112 : decode m_Tr_isAlike.2.1 112 = .ok (.ireturn, 1) := by decide +kernel
theorem b_Tr_isAlike_0 {E : En_t} {d : Nat} {σ : S_t} {Q : Option Value → S_t → Prop} {o0 : Nat} {x1 : Int32} {o2 : Nat} {x3 : Int32} (hk_o0 : kindP o0 = 11) (hk_o2 : kindP o2 = 11)
    (h : vp_in x1 500 ∧ (vp_in x3 500 ∧ (((gI σ (o0 + 5) x1.toNatClampNeg) = (gI σ (o2 + 5) x3.toNatClampNeg) → vp_in x1 500 ∧ (∀ r1, r1 = mnI ((gI σ o0 13) - x1) ((gI σ o2 13) - x3) → (∀ r2, r2 = mnI (gI σ (o0 + 5) x1.toNatClampNeg) r1 → (JE E (d + 1) m_Tr_isAlike 46 [(0, pv E o0), (1, .int x1), (2, pv E o2), (3, .int x3), (4, .int r2), (5, .int (0 : Int32))] [] σ Q)))) ∧ (¬ (gI σ (o0 + 5) x1.toNatClampNeg) = (gI σ (o2 + 5) x3.toNatClampNeg) → Q (some (.int (0 : Int32))) σ)))) :
    JE E (d + 1) m_Tr_isAlike 0 [(0, pv E o0), (1, .int x1), (2, pv E o2), (3, .int x3)] [] σ Q := by
  refine J_aload_n dc_Tr_isAlike_0 (Eq.refl 1) 0 rfl ?_
  refine J_getF (y := o0 + 5) dc_Tr_isAlike_1 (Eq.refl 4) fl_Tr_24 (Nat.le_of_ble_eq_true rfl) hk_o0 (Or.inl rfl) rfl ?_
  refine J_iload_n dc_Tr_isAlike_4 (Eq.refl 5) 1 rfl ?_
  obtain ⟨hg, h⟩ := h
  refine J_iald dc_Tr_isAlike_5 (Eq.refl 6) (ak_Tr_4 hk_o0).1 (ak_Tr_4 hk_o0).2 hg ?_
  refine J_aload_n dc_Tr_isAlike_6 (Eq.refl 7) 2 rfl ?_
  refine J_getF (y := o2 + 5) dc_Tr_isAlike_7 (Eq.refl 10) fl_Tr_24 (Nat.le_of_ble_eq_true rfl) hk_o2 (Or.inl rfl) rfl ?_
  refine J_iload_n dc_Tr_isAlike_10 (Eq.refl 11) 3 rfl ?_
  obtain ⟨hg, h⟩ := h
  refine J_iald dc_Tr_isAlike_11 (Eq.refl 12) (ak_Tr_4 hk_o2).1 (ak_Tr_4 hk_o2).2 hg ?_
  refine J_icmp_eq dc_Tr_isAlike_12 (Eq.refl 15) rfl (fun hc => ?_) (fun hc => ?_)
  · have h := h.1 hc
    refine J_aload_n dc_Tr_isAlike_17 (Eq.refl 18) 0 rfl ?_
    refine J_getF (y := o0 + 5) dc_Tr_isAlike_18 (Eq.refl 21) fl_Tr_24 (Nat.le_of_ble_eq_true rfl) hk_o0 (Or.inl rfl) rfl ?_
    refine J_iload_n dc_Tr_isAlike_21 (Eq.refl 22) 1 rfl ?_
    obtain ⟨hg, h⟩ := h
    refine J_iald dc_Tr_isAlike_22 (Eq.refl 23) (ak_Tr_4 hk_o0).1 (ak_Tr_4 hk_o0).2 hg ?_
    refine J_aload_n dc_Tr_isAlike_23 (Eq.refl 24) 0 rfl ?_
    refine J_getI dc_Tr_isAlike_24 (Eq.refl 27) fl_Tr_46 (Nat.le_of_ble_eq_true rfl) hk_o0 (Or.inl rfl) ?_
    refine J_iload_n dc_Tr_isAlike_27 (Eq.refl 28) 1 rfl ?_
    refine J_isub dc_Tr_isAlike_28 (Eq.refl 29) ?_
    refine J_aload_n dc_Tr_isAlike_29 (Eq.refl 30) 2 rfl ?_
    refine J_getI dc_Tr_isAlike_30 (Eq.refl 33) fl_Tr_46 (Nat.le_of_ble_eq_true rfl) hk_o2 (Or.inl rfl) ?_
    refine J_iload_n dc_Tr_isAlike_33 (Eq.refl 34) 3 rfl ?_
    refine J_isub dc_Tr_isAlike_34 (Eq.refl 35) ?_
    refine J_mmin dc_Tr_isAlike_35 (Eq.refl 38) lk_Tr_77 (Nat.le_of_ble_eq_true rfl) (fun r1 er1 => ?_)
    have h := h r1 er1
    refine J_mmin dc_Tr_isAlike_38 (Eq.refl 41) lk_Tr_77 (Nat.le_of_ble_eq_true rfl) (fun r2 er2 => ?_)
    have h := h r2 er2
    refine J_istore (L' := [(4, .int r2), (0, pv E o0), (1, .int x1), (2, pv E o2), (3, .int x3)]) dc_Tr_isAlike_41 (Eq.refl 43) (Nat.le_of_ble_eq_true rfl) rfl ?_
    refine J_iconst (v := (0 : Int32)) dc_Tr_isAlike_43 (Eq.refl 44) rfl ?_
    refine J_istore (L' := [(5, .int (0 : Int32)), (4, .int r2), (0, pv E o0), (1, .int x1), (2, pv E o2), (3, .int x3)]) dc_Tr_isAlike_44 (Eq.refl 46) (Nat.le_of_ble_eq_true rfl) rfl ?_
    refine J_sub [2, 3, 4, 5, 1, 0] rfl ?_
    exact h
  · have h := h.2 hc
    refine J_iconst (v := (0 : Int32)) dc_Tr_isAlike_15 (Eq.refl 16) rfl ?_
    exact J_zret dc_Tr_isAlike_16 rfl rfl h
theorem b_Tr_isAlike_46 {E : En_t} {d : Nat} {σ : S_t} {Q : Option Value → S_t → Prop} {o0 : Nat} {x1 : Int32} {o2 : Nat} {x3 : Int32} {x4 : Int32} {x5 : Int32} (hk_o0 : kindP o0 = 11) (hk_o2 : kindP o2 = 11)
    (h : (x4 ≤ x5 → Q (some (.int (1 : Int32))) σ) ∧ (¬ x4 ≤ x5 → CI E d m_Tr_isAlikeAlone [pv E o0, .int (x1 + x5), pv E o2, .int (x3 + x5)] σ (fun r2 σ1 => (¬ r2 = 0 → (x5 ≤ 0 → JE E (d + 1) m_Tr_isAlike 105 [(0, pv E o0), (1, .int x1), (2, pv E o2), (3, .int x3), (4, .int x4), (5, .int x5)] [] σ1 Q) ∧ (¬ x5 ≤ 0 → CI E d m_Tr_isNamed [pv E o0, .int (x1 + x5)] σ1 (fun r4 σ3 => (r4 = 0 → JE E (d + 1) m_Tr_isAlike 105 [(0, pv E o0), (1, .int x1), (2, pv E o2), (3, .int x3), (4, .int x4), (5, .int x5)] [] σ3 Q) ∧ (¬ r4 = 0 → CI E d m_Tr_hasSameName [pv E o0, .int (x1 + x5), pv E o2, .int (x3 + x5)] σ3 (fun r6 σ5 => (¬ r6 = 0 → JE E (d + 1) m_Tr_isAlike 105 [(0, pv E o0), (1, .int x1), (2, pv E o2), (3, .int x3), (4, .int x4), (5, .int x5)] [] σ5 Q) ∧ (r6 = 0 → Q (some (.int (0 : Int32))) σ5)))))) ∧ (r2 = 0 → Q (some (.int (0 : Int32))) σ1)))) :
    JE E (d + 1) m_Tr_isAlike 46 [(0, pv E o0), (1, .int x1), (2, pv E o2), (3, .int x3), (4, .int x4), (5, .int x5)] [] σ Q := by
  refine J_iload dc_Tr_isAlike_46 (Eq.refl 48) 5 rfl ?_
  refine J_iload dc_Tr_isAlike_48 (Eq.refl 50) 4 rfl ?_
  refine J_icmp_ge dc_Tr_isAlike_50 (Eq.refl 53) rfl (fun hc => ?_) (fun hc => ?_)
  · have h := h.1 hc
    refine J_iconst (v := (1 : Int32)) dc_Tr_isAlike_111 (Eq.refl 112) rfl ?_
    exact J_zret dc_Tr_isAlike_112 rfl rfl h
  · have h := h.2 hc
    refine J_aload_n dc_Tr_isAlike_53 (Eq.refl 54) 0 rfl ?_
    refine J_iload_n dc_Tr_isAlike_54 (Eq.refl 55) 1 rfl ?_
    refine J_iload dc_Tr_isAlike_55 (Eq.refl 57) 5 rfl ?_
    refine J_iadd dc_Tr_isAlike_57 (Eq.refl 58) ?_
    refine J_aload_n dc_Tr_isAlike_58 (Eq.refl 59) 2 rfl ?_
    refine J_iload_n dc_Tr_isAlike_59 (Eq.refl 60) 3 rfl ?_
    refine J_iload dc_Tr_isAlike_60 (Eq.refl 62) 5 rfl ?_
    refine J_iadd dc_Tr_isAlike_62 (Eq.refl 63) ?_
    refine J_callVI (As := [.int (x1 + x5), pv E o2, .int (x3 + x5)]) (st := []) dc_Tr_isAlike_63 (Eq.refl 66) lk_Tr_105 mi_Tr_isAlikeAlone hk_o0 (Nat.le_of_ble_eq_true rfl) rfl rfl (Nat.le_of_ble_eq_true rfl) rfl (Nat.le_of_ble_eq_true rfl) (CI.mono h (fun r2 σ1 h => ?_))
    refine J_if_ne dc_Tr_isAlike_66 (Eq.refl 69) rfl (fun hc => ?_) (fun hc => ?_)
    · have h := h.1 hc
      refine J_iload dc_Tr_isAlike_71 (Eq.refl 73) 5 rfl ?_
      refine J_if_le dc_Tr_isAlike_73 (Eq.refl 76) rfl (fun hc => ?_) (fun hc => ?_)
      · have h := h.1 hc
        exact h
      · have h := h.2 hc
        refine J_aload_n dc_Tr_isAlike_76 (Eq.refl 77) 0 rfl ?_
        refine J_iload_n dc_Tr_isAlike_77 (Eq.refl 78) 1 rfl ?_
        refine J_iload dc_Tr_isAlike_78 (Eq.refl 80) 5 rfl ?_
        refine J_iadd dc_Tr_isAlike_80 (Eq.refl 81) ?_
        refine J_callVI (As := [.int (x1 + x5)]) (st := []) dc_Tr_isAlike_81 (Eq.refl 84) lk_Tr_65 mi_Tr_isNamed hk_o0 (Nat.le_of_ble_eq_true rfl) rfl rfl (Nat.le_of_ble_eq_true rfl) rfl (Nat.le_of_ble_eq_true rfl) (CI.mono h (fun r4 σ3 h => ?_))
        refine J_if_eq dc_Tr_isAlike_84 (Eq.refl 87) rfl (fun hc => ?_) (fun hc => ?_)
        · have h := h.1 hc
          exact h
        · have h := h.2 hc
          refine J_aload_n dc_Tr_isAlike_87 (Eq.refl 88) 0 rfl ?_
          refine J_iload_n dc_Tr_isAlike_88 (Eq.refl 89) 1 rfl ?_
          refine J_iload dc_Tr_isAlike_89 (Eq.refl 91) 5 rfl ?_
          refine J_iadd dc_Tr_isAlike_91 (Eq.refl 92) ?_
          refine J_aload_n dc_Tr_isAlike_92 (Eq.refl 93) 2 rfl ?_
          refine J_iload_n dc_Tr_isAlike_93 (Eq.refl 94) 3 rfl ?_
          refine J_iload dc_Tr_isAlike_94 (Eq.refl 96) 5 rfl ?_
          refine J_iadd dc_Tr_isAlike_96 (Eq.refl 97) ?_
          refine J_callVI (As := [.int (x1 + x5), pv E o2, .int (x3 + x5)]) (st := []) dc_Tr_isAlike_97 (Eq.refl 100) lk_Tr_109 mi_Tr_hasSameName hk_o0 (Nat.le_of_ble_eq_true rfl) rfl rfl (Nat.le_of_ble_eq_true rfl) rfl (Nat.le_of_ble_eq_true rfl) (CI.mono h (fun r6 σ5 h => ?_))
          refine J_if_ne dc_Tr_isAlike_100 (Eq.refl 103) rfl (fun hc => ?_) (fun hc => ?_)
          · have h := h.1 hc
            exact h
          · have h := h.2 hc
            refine J_iconst (v := (0 : Int32)) dc_Tr_isAlike_103 (Eq.refl 104) rfl ?_
            exact J_zret dc_Tr_isAlike_104 rfl rfl h
    · have h := h.2 hc
      refine J_iconst (v := (0 : Int32)) dc_Tr_isAlike_69 (Eq.refl 70) rfl ?_
      exact J_zret dc_Tr_isAlike_70 rfl rfl h
theorem b_Tr_isAlike_105 {E : En_t} {d : Nat} {σ : S_t} {Q : Option Value → S_t → Prop} {o0 : Nat} {x1 : Int32} {o2 : Nat} {x3 : Int32} {x4 : Int32} {x5 : Int32} (hk_o0 : kindP o0 = 11) (hk_o2 : kindP o2 = 11)
    (h : JE E (d + 1) m_Tr_isAlike 46 [(0, pv E o0), (1, .int x1), (2, pv E o2), (3, .int x3), (4, .int x4), (5, .int (x5 + (1 : Int32)))] [] σ Q) :
    JE E (d + 1) m_Tr_isAlike 105 [(0, pv E o0), (1, .int x1), (2, pv E o2), (3, .int x3), (4, .int x4), (5, .int x5)] [] σ Q := by
  refine J_iinc (v := x5 + (1 : Int32)) (L' := [(5, .int (x5 + (1 : Int32))), (0, pv E o0), (1, .int x1), (2, pv E o2), (3, .int x3), (4, .int x4)]) dc_Tr_isAlike_105 (Eq.refl 108) 5 rfl rfl (Nat.le_of_ble_eq_true rfl) rfl ?_
  refine J_goto dc_Tr_isAlike_108 rfl ?_
  refine J_sub [1, 2, 3, 4, 5, 0] rfl ?_
  exact h
theorem dc_Tr_isAlikeAlone_0 : decode m_Tr_isAlikeAlone.2.1 0 = .ok (.aload_n 0, 1) := by decide +kernel
theorem dc_Tr_isAlikeAlone_1 : decode m_Tr_isAlikeAlone.2.1 1 = .ok (.getfield 9, 3) := by decide +kernel
theorem dc_Tr_isAlikeAlone_4 : decode m_Tr_isAlikeAlone.2.1 4 = .ok (.iload_n 1, 1) := by decide +kernel
theorem dc_Tr_isAlikeAlone_5 : decode m_Tr_isAlikeAlone.2.1 5 = .ok (.iaload, 1) := by decide +kernel
theorem dc_Tr_isAlikeAlone_6 : decode m_Tr_isAlikeAlone.2.1 6 = .ok (.aload_n 2, 1) := by decide +kernel
theorem dc_Tr_isAlikeAlone_7 : decode m_Tr_isAlikeAlone.2.1 7 = .ok (.getfield 9, 3) := by decide +kernel
theorem dc_Tr_isAlikeAlone_10 : decode m_Tr_isAlikeAlone.2.1 10 = .ok (.iload_n 3, 1) := by decide +kernel
theorem dc_Tr_isAlikeAlone_11 : decode m_Tr_isAlikeAlone.2.1 11 = .ok (.iaload, 1) := by decide +kernel
theorem dc_Tr_isAlikeAlone_12 : decode m_Tr_isAlikeAlone.2.1 12 = .ok (.if_icmp .ne 18, 3) := by decide +kernel
theorem dc_Tr_isAlikeAlone_15 : decode m_Tr_isAlikeAlone.2.1 15 = .ok (.aload_n 0, 1) := by decide +kernel
theorem dc_Tr_isAlikeAlone_16 : decode m_Tr_isAlikeAlone.2.1 16 = .ok (.getfield 15, 3) := by decide +kernel
theorem dc_Tr_isAlikeAlone_19 : decode m_Tr_isAlikeAlone.2.1 19 = .ok (.iload_n 1, 1) := by decide +kernel
theorem dc_Tr_isAlikeAlone_20 : decode m_Tr_isAlikeAlone.2.1 20 = .ok (.iaload, 1) := by decide +kernel
theorem dc_Tr_isAlikeAlone_21 : decode m_Tr_isAlikeAlone.2.1 21 = .ok (.aload_n 2, 1) := by decide +kernel
theorem dc_Tr_isAlikeAlone_22 : decode m_Tr_isAlikeAlone.2.1 22 = .ok (.getfield 15, 3) := by decide +kernel
theorem dc_Tr_isAlikeAlone_25 : decode m_Tr_isAlikeAlone.2.1 25 = .ok (.iload_n 3, 1) := by decide +kernel
theorem dc_Tr_isAlikeAlone_26 : decode m_Tr_isAlikeAlone.2.1 26 = .ok (.iaload, 1) := by decide +kernel
theorem dc_Tr_isAlikeAlone_27 : decode m_Tr_isAlikeAlone.2.1 27 = .ok (.if_icmp .eq 5, 3) := by decide +kernel
theorem dc_Tr_isAlikeAlone_30 : decode m_Tr_isAlikeAlone.2.1 30 = .ok (.iconst 0, 1) := by decide +kernel
theorem dc_Tr_isAlikeAlone_31 : decode m_Tr_isAlikeAlone.2.1 31 = .ok (.ireturn, 1) := by decide +kernel
theorem dc_Tr_isAlikeAlone_32 : decode m_Tr_isAlikeAlone.2.1 32 = .ok (.aload_n 0, 1) := by decide +kernel
theorem dc_Tr_isAlikeAlone_33 : decode m_Tr_isAlikeAlone.2.1 33 = .ok (.getfield 9, 3) := by decide +kernel
theorem dc_Tr_isAlikeAlone_36 : decode m_Tr_isAlikeAlone.2.1 36 = .ok (.iload_n 1, 1) := by decide +kernel
theorem dc_Tr_isAlikeAlone_37 : decode m_Tr_isAlikeAlone.2.1 37 = .ok (.iaload, 1) := by decide +kernel
theorem dc_Tr_isAlikeAlone_38 : decode m_Tr_isAlikeAlone.2.1 38 = .ok (.iconst 4, 1) := by decide +kernel
theorem dc_Tr_isAlikeAlone_39 : decode m_Tr_isAlikeAlone.2.1 39 = .ok (.if_icmp .ne 27, 3) := by decide +kernel
theorem dc_Tr_isAlikeAlone_42 : decode m_Tr_isAlikeAlone.2.1 42 = .ok (.aload_n 0, 1) := by decide +kernel
theorem dc_Tr_isAlikeAlone_43 : decode m_Tr_isAlikeAlone.2.1 43 = .ok (.aload_n 0, 1) := by decide +kernel
theorem dc_Tr_isAlikeAlone_44 : decode m_Tr_isAlikeAlone.2.1 44 = .ok (.getfield 40, 3) := by decide +kernel
theorem dc_Tr_isAlikeAlone_47 : decode m_Tr_isAlikeAlone.2.1 47 = .ok (.iload_n 1, 1) := by decide +kernel
theorem dc_Tr_isAlikeAlone_48 : decode m_Tr_isAlikeAlone.2.1 48 = .ok (.iaload, 1) := by decide +kernel
theorem dc_Tr_isAlikeAlone_49 : decode m_Tr_isAlikeAlone.2.1 49 = .ok (.aload_n 0, 1) := by decide +kernel
theorem dc_Tr_isAlikeAlone_50 : decode m_Tr_isAlikeAlone.2.1 50 = .ok (.getfield 15, 3) := by decide +kernel
theorem dc_Tr_isAlikeAlone_53 : decode m_Tr_isAlikeAlone.2.1 53 = .ok (.iload_n 1, 1) := by decide +kernel
theorem dc_Tr_isAlikeAlone_54 : decode m_Tr_isAlikeAlone.2.1 54 = .ok (.iaload, 1) := by decide +kernel
theorem dc_Tr_isAlikeAlone_55 : decode m_Tr_isAlikeAlone.2.1 55 = .ok (.aload_n 2, 1) := by decide +kernel
theorem dc_Tr_isAlikeAlone_56 : decode m_Tr_isAlikeAlone.2.1 56 = .ok (.aload_n 2, 1) := by decide +kernel
theorem dc_Tr_isAlikeAlone_57 : decode m_Tr_isAlikeAlone.2.1 57 = .ok (.getfield 40, 3) := by decide +kernel
theorem dc_Tr_isAlikeAlone_60 : decode m_Tr_isAlikeAlone.2.1 60 = .ok (.iload_n 3, 1) := by decide +kernel
theorem dc_Tr_isAlikeAlone_61 : decode m_Tr_isAlikeAlone.2.1 61 = .ok (.iaload, 1) := by decide +kernel
theorem dc_Tr_isAlikeAlone_62 : decode m_Tr_isAlikeAlone.2.1 62 = .ok (.invokevirtual 112, 3) := by decide +kernel
theorem dc_Tr_isAlikeAlone_65 : decode m_Tr_isAlikeAlone.2.1 65 = .ok (.ireturn, 1) := by decide +kernel
theorem dc_Tr_isAlikeAlone_66 : decode m_Tr_isAlikeAlone.2.1 66 = .ok (.aload_n 0, 1) := by decide +kernel
theorem dc_Tr_isAlikeAlone_67 : decode m_Tr_isAlikeAlone.2.1 67 = .ok (.getfield 30, 3) := by decide +kernel
theorem dc_Tr_isAlikeAlone_70 : decode m_Tr_isAlikeAlone.2.1 70 = .ok (.iload_n 1, 1) := by decide +kernel
theorem dc_Tr_isAlikeAlone_71 : decode m_Tr_isAlikeAlone.2.1 71 = .ok (.laload, 1) := by decide +kernel
theorem dc_Tr_isAlikeAlone_72 : decode m_Tr_isAlikeAlone.2.1 72 = .ok (.aload_n 2, 1) := by decide +kernel
theorem dc_Tr_isAlikeAlone_73 : decode m_Tr_isAlikeAlone.2.1 73 = .ok (.getfield 30, 3) := by decide +kernel
theorem dc_Tr_isAlikeAlone_76 : decode m_Tr_isAlikeAlone.2.1 76 = .ok (.iload_n 3, 1) := by decide +kernel
theorem dc_Tr_isAlikeAlone_77 : decode m_Tr_isAlikeAlone.2.1 77 = .ok (.laload, 1) := by decide +kernel
theorem dc_Tr_isAlikeAlone_78 : decode m_Tr_isAlikeAlone.2.1 78 = .ok (.lor, 1) := by decide +kernel
theorem dc_Tr_isAlikeAlone_79 : decode m_Tr_isAlikeAlone.2.1 79 = .ok (.ldc2_w 116, 3) := by decide +kernel
theorem dc_Tr_isAlikeAlone_82 : decode m_Tr_isAlikeAlone.2.1 82 = .ok (.land, 1) := by decide +kernel
theorem dc_Tr_isAlikeAlone_83 : decode m_Tr_isAlikeAlone.2.1 83 = .ok (.lconst 0, 1) := by decide +kernel
theorem dc_Tr_isAlikeAlone_84 : decode m_Tr_isAlikeAlone.2.1 84 = .ok (.lcmp, 1) := by decide +kernel
theorem dc_Tr_isAlikeAlone_85 : decode m_Tr_isAlikeAlone.2.1 85 = .ok (.ifCond .ne 7, 3) := by decide +kernel
theorem dc_Tr_isAlikeAlone_88 : decode m_Tr_isAlikeAlone.2.1 88 = .ok (.iconst 1, 1) := by decide +kernel
theorem dc_Tr_isAlikeAlone_89 : decode m_Tr_isAlikeAlone.2.1 89 = .ok (.goto 4, 3) := by decide +kernel
theorem dc_Tr_isAlikeAlone_92 : decode m_Tr_isAlikeAlone.2.1 92 = .ok (.iconst 0, 1) := by decide +kernel
theorem dc_Tr_isAlikeAlone_93 : decode m_Tr_isAlikeAlone.2.1 93 = .ok (.istore 4, 2) := by decide +kernel
theorem dc_Tr_isAlikeAlone_95 : decode m_Tr_isAlikeAlone.2.1 95 = .ok (.iload 4, 2) := by decide +kernel
theorem dc_Tr_isAlikeAlone_97 : decode m_Tr_isAlikeAlone.2.1 97 = .ok (.ifCond .ne 19, 3) := by decide +kernel
theorem dc_Tr_isAlikeAlone_100 : decode m_Tr_isAlikeAlone.2.1 100 = .ok (.aload_n 0, 1) := by decide +kernel
theorem dc_Tr_isAlikeAlone_101 : decode m_Tr_isAlikeAlone.2.1 101 = .ok (.getfield 30, 3) := by decide +kernel
theorem dc_Tr_isAlikeAlone_104 : decode m_Tr_isAlikeAlone.2.1 104 = .ok (.iload_n 1, 1) := by decide +kernel
theorem dc_Tr_isAlikeAlone_105 : decode m_Tr_isAlikeAlone.2.1 105 = .ok (.laload, 1) := by decide +kernel
theorem dc_Tr_isAlikeAlone_106 : decode m_Tr_isAlikeAlone.2.1 106 = .ok (.aload_n 2, 1) := by decide +kernel
theorem dc_Tr_isAlikeAlone_107 : decode m_Tr_isAlikeAlone.2.1 107 = .ok (.getfield 30, 3) := by decide +kernel
theorem dc_Tr_isAlikeAlone_110 : decode m_Tr_isAlikeAlone.2.1 110 = .ok (.iload_n 3, 1) := by decide +kernel
theorem dc_Tr_isAlikeAlone_111 : decode m_Tr_isAlikeAlone.2.1 111 = .ok (.laload, 1) := by decide +kernel
theorem dc_Tr_isAlikeAlone_112 : decode m_Tr_isAlikeAlone.2.1 112 = .ok (.lcmp, 1) := by decide +kernel
theorem dc_Tr_isAlikeAlone_113 : decode m_Tr_isAlikeAlone.2.1 113 = .ok (.ifCond .ne 7, 3) := by decide +kernel
theorem dc_Tr_isAlikeAlone_116 : decode m_Tr_isAlikeAlone.2.1 116 = .ok (.iconst 1, 1) := by decide +kernel
theorem dc_Tr_isAlikeAlone_117 : decode m_Tr_isAlikeAlone.2.1 117 = .ok (.goto 4, 3) := by decide +kernel
theorem dc_Tr_isAlikeAlone_120 : decode m_Tr_isAlikeAlone.2.1 120 = .ok (.iconst 0, 1) := by decide +kernel
theorem dc_Tr_isAlikeAlone_121 : decode m_Tr_isAlikeAlone.2.1 121 = .ok (.ireturn, 1) := by decide +kernel
theorem b_Tr_isAlikeAlone_0 {E : En_t} {d : Nat} {σ : S_t} {Q : Option Value → S_t → Prop} {o0 : Nat} {x1 : Int32} {o2 : Nat} {x3 : Int32} (hk_o0 : kindP o0 = 11) (hk_o2 : kindP o2 = 11)
    (h : vp_in x1 500 ∧ (vp_in x3 500 ∧ ((¬ (gI σ (o0 + 1) x1.toNatClampNeg) = (gI σ (o2 + 1) x3.toNatClampNeg) → Q (some (.int (0 : Int32))) σ) ∧ ((gI σ (o0 + 1) x1.toNatClampNeg) = (gI σ (o2 + 1) x3.toNatClampNeg) → vp_in x1 500 ∧ (vp_in x3 500 ∧ (((gI σ (o0 + 2) x1.toNatClampNeg) = (gI σ (o2 + 2) x3.toNatClampNeg) → vp_in x1 500 ∧ ((¬ (gI σ (o0 + 1) x1.toNatClampNeg) = (4 : Int32) → vp_in x1 500 ∧ (vp_in x3 500 ∧ (∀ v1, v1 = lg_cmp (((gL σ (o0 + 7) x1.toNatClampNeg) ||| (gL σ (o2 + 7) x3.toNatClampNeg)) &&& (9223372036854775807 : Int64)) (0 : Int64) → ((¬ v1 = 0 → JE E (d + 1) m_Tr_isAlikeAlone 93 [(0, pv E o0), (1, .int x1), (2, pv E o2), (3, .int x3)] [.int (0 : Int32)] σ Q) ∧ (v1 = 0 → JE E (d + 1) m_Tr_isAlikeAlone 93 [(0, pv E o0), (1, .int x1), (2, pv E o2), (3, .int x3)] [.int (1 : Int32)] σ Q))))) ∧ ((gI σ (o0 + 1) x1.toNatClampNeg) = (4 : Int32) → vp_in x1 500 ∧ (vp_in x1 500 ∧ (vp_in x3 500 ∧ (CI E d m_Tr_hasSameCharacters [pv E o0, .int (gI σ (o0 + 10) x1.toNatClampNeg), .int (gI σ (o0 + 2) x1.toNatClampNeg), pv E o2, .int (gI σ (o2 + 10) x3.toNatClampNeg)] σ (fun r3 σ2 => narrow .boolean (.int r3) = .int r3 ∧ Q (some (.int r3)) σ2))))))) ∧ (¬ (gI σ (o0 + 2) x1.toNatClampNeg) = (gI σ (o2 + 2) x3.toNatClampNeg) → Q (some (.int (0 : Int32))) σ))))))) :
    JE E (d + 1) m_Tr_isAlikeAlone 0 [(0, pv E o0), (1, .int x1), (2, pv E o2), (3, .int x3)] [] σ Q := by
  refine J_aload_n dc_Tr_isAlikeAlone_0 (Eq.refl 1) 0 rfl ?_
  refine J_getF (y := o0 + 1) dc_Tr_isAlikeAlone_1 (Eq.refl 4) fl_Tr_9 (Nat.le_of_ble_eq_true rfl) hk_o0 (Or.inl rfl) rfl ?_
  refine J_iload_n dc_Tr_isAlikeAlone_4 (Eq.refl 5) 1 rfl ?_
  obtain ⟨hg, h⟩ := h
  refine J_iald dc_Tr_isAlikeAlone_5 (Eq.refl 6) (ak_Tr_0 hk_o0).1 (ak_Tr_0 hk_o0).2 hg ?_
  refine J_aload_n dc_Tr_isAlikeAlone_6 (Eq.refl 7) 2 rfl ?_
  refine J_getF (y := o2 + 1) dc_Tr_isAlikeAlone_7 (Eq.refl 10) fl_Tr_9 (Nat.le_of_ble_eq_true rfl) hk_o2 (Or.inl rfl) rfl ?_
  refine J_iload_n dc_Tr_isAlikeAlone_10 (Eq.refl 11) 3 rfl ?_
  obtain ⟨hg, h⟩ := h
  refine J_iald dc_Tr_isAlikeAlone_11 (Eq.refl 12) (ak_Tr_0 hk_o2).1 (ak_Tr_0 hk_o2).2 hg ?_
  refine J_icmp_ne dc_Tr_isAlikeAlone_12 (Eq.refl 15) rfl (fun hc => ?_) (fun hc => ?_)
  · have h := h.1 hc
    refine J_iconst (v := (0 : Int32)) dc_Tr_isAlikeAlone_30 (Eq.refl 31) rfl ?_
    exact J_zret dc_Tr_isAlikeAlone_31 rfl rfl h
  · have h := h.2 hc
    refine J_aload_n dc_Tr_isAlikeAlone_15 (Eq.refl 16) 0 rfl ?_
    refine J_getF (y := o0 + 2) dc_Tr_isAlikeAlone_16 (Eq.refl 19) fl_Tr_15 (Nat.le_of_ble_eq_true rfl) hk_o0 (Or.inl rfl) rfl ?_
    refine J_iload_n dc_Tr_isAlikeAlone_19 (Eq.refl 20) 1 rfl ?_
    obtain ⟨hg, h⟩ := h
    refine J_iald dc_Tr_isAlikeAlone_20 (Eq.refl 21) (ak_Tr_1 hk_o0).1 (ak_Tr_1 hk_o0).2 hg ?_
    refine J_aload_n dc_Tr_isAlikeAlone_21 (Eq.refl 22) 2 rfl ?_
    refine J_getF (y := o2 + 2) dc_Tr_isAlikeAlone_22 (Eq.refl 25) fl_Tr_15 (Nat.le_of_ble_eq_true rfl) hk_o2 (Or.inl rfl) rfl ?_
    refine J_iload_n dc_Tr_isAlikeAlone_25 (Eq.refl 26) 3 rfl ?_
    obtain ⟨hg, h⟩ := h
    refine J_iald dc_Tr_isAlikeAlone_26 (Eq.refl 27) (ak_Tr_1 hk_o2).1 (ak_Tr_1 hk_o2).2 hg ?_
    refine J_icmp_eq dc_Tr_isAlikeAlone_27 (Eq.refl 30) rfl (fun hc => ?_) (fun hc => ?_)
    · have h := h.1 hc
      refine J_aload_n dc_Tr_isAlikeAlone_32 (Eq.refl 33) 0 rfl ?_
      refine J_getF (y := o0 + 1) dc_Tr_isAlikeAlone_33 (Eq.refl 36) fl_Tr_9 (Nat.le_of_ble_eq_true rfl) hk_o0 (Or.inl rfl) rfl ?_
      refine J_iload_n dc_Tr_isAlikeAlone_36 (Eq.refl 37) 1 rfl ?_
      obtain ⟨hg, h⟩ := h
      refine J_iald dc_Tr_isAlikeAlone_37 (Eq.refl 38) (ak_Tr_0 hk_o0).1 (ak_Tr_0 hk_o0).2 hg ?_
      refine J_iconst (v := (4 : Int32)) dc_Tr_isAlikeAlone_38 (Eq.refl 39) rfl ?_
      refine J_icmp_ne dc_Tr_isAlikeAlone_39 (Eq.refl 42) rfl (fun hc => ?_) (fun hc => ?_)
      · have h := h.1 hc
        refine J_aload_n dc_Tr_isAlikeAlone_66 (Eq.refl 67) 0 rfl ?_
        refine J_getF (y := o0 + 7) dc_Tr_isAlikeAlone_67 (Eq.refl 70) fl_Tr_30 (Nat.le_of_ble_eq_true rfl) hk_o0 (Or.inl rfl) rfl ?_
        refine J_iload_n dc_Tr_isAlikeAlone_70 (Eq.refl 71) 1 rfl ?_
        obtain ⟨hg, h⟩ := h
        refine J_lald dc_Tr_isAlikeAlone_71 (Eq.refl 72) (ak_Tr_6 hk_o0).1 (ak_Tr_6 hk_o0).2 hg ?_
        refine J_aload_n dc_Tr_isAlikeAlone_72 (Eq.refl 73) 2 rfl ?_
        refine J_getF (y := o2 + 7) dc_Tr_isAlikeAlone_73 (Eq.refl 76) fl_Tr_30 (Nat.le_of_ble_eq_true rfl) hk_o2 (Or.inl rfl) rfl ?_
        refine J_iload_n dc_Tr_isAlikeAlone_76 (Eq.refl 77) 3 rfl ?_
        obtain ⟨hg, h⟩ := h
        refine J_lald dc_Tr_isAlikeAlone_77 (Eq.refl 78) (ak_Tr_6 hk_o2).1 (ak_Tr_6 hk_o2).2 hg ?_
        refine J_lor dc_Tr_isAlikeAlone_78 (Eq.refl 79) ?_
        refine J_ldc2 dc_Tr_isAlikeAlone_79 (Eq.refl 82) kc_Tr_116 ?_
        refine J_land dc_Tr_isAlikeAlone_82 (Eq.refl 83) ?_
        refine J_lconst (v := (0 : Int64)) dc_Tr_isAlikeAlone_83 (Eq.refl 84) rfl ?_
        refine J_lcmp dc_Tr_isAlikeAlone_84 (Eq.refl 85) ?_
        refine J_topi (fun v1 ev1 => ?_)
        have h := h v1 ev1
        refine J_if_ne dc_Tr_isAlikeAlone_85 (Eq.refl 88) rfl (fun hc => ?_) (fun hc => ?_)
        · have h := h.1 hc
          refine J_iconst (v := (0 : Int32)) dc_Tr_isAlikeAlone_92 (Eq.refl 93) rfl ?_
          exact h
        · have h := h.2 hc
          refine J_iconst (v := (1 : Int32)) dc_Tr_isAlikeAlone_88 (Eq.refl 89) rfl ?_
          refine J_goto dc_Tr_isAlikeAlone_89 rfl ?_
          exact h
      · have h := h.2 hc
        refine J_aload_n dc_Tr_isAlikeAlone_42 (Eq.refl 43) 0 rfl ?_
        refine J_aload_n dc_Tr_isAlikeAlone_43 (Eq.refl 44) 0 rfl ?_
        refine J_getF (y := o0 + 10) dc_Tr_isAlikeAlone_44 (Eq.refl 47) fl_Tr_40 (Nat.le_of_ble_eq_true rfl) hk_o0 (Or.inl rfl) rfl ?_
        refine J_iload_n dc_Tr_isAlikeAlone_47 (Eq.refl 48) 1 rfl ?_
        obtain ⟨hg, h⟩ := h
        refine J_iald dc_Tr_isAlikeAlone_48 (Eq.refl 49) (ak_Tr_9 hk_o0).1 (ak_Tr_9 hk_o0).2 hg ?_
        refine J_aload_n dc_Tr_isAlikeAlone_49 (Eq.refl 50) 0 rfl ?_
        refine J_getF (y := o0 + 2) dc_Tr_isAlikeAlone_50 (Eq.refl 53) fl_Tr_15 (Nat.le_of_ble_eq_true rfl) hk_o0 (Or.inl rfl) rfl ?_
        refine J_iload_n dc_Tr_isAlikeAlone_53 (Eq.refl 54) 1 rfl ?_
        obtain ⟨hg, h⟩ := h
        refine J_iald dc_Tr_isAlikeAlone_54 (Eq.refl 55) (ak_Tr_1 hk_o0).1 (ak_Tr_1 hk_o0).2 hg ?_
        refine J_aload_n dc_Tr_isAlikeAlone_55 (Eq.refl 56) 2 rfl ?_
        refine J_aload_n dc_Tr_isAlikeAlone_56 (Eq.refl 57) 2 rfl ?_
        refine J_getF (y := o2 + 10) dc_Tr_isAlikeAlone_57 (Eq.refl 60) fl_Tr_40 (Nat.le_of_ble_eq_true rfl) hk_o2 (Or.inl rfl) rfl ?_
        refine J_iload_n dc_Tr_isAlikeAlone_60 (Eq.refl 61) 3 rfl ?_
        obtain ⟨hg, h⟩ := h
        refine J_iald dc_Tr_isAlikeAlone_61 (Eq.refl 62) (ak_Tr_9 hk_o2).1 (ak_Tr_9 hk_o2).2 hg ?_
        refine J_callVI (As := [.int (gI σ (o0 + 10) x1.toNatClampNeg), .int (gI σ (o0 + 2) x1.toNatClampNeg), pv E o2, .int (gI σ (o2 + 10) x3.toNatClampNeg)]) (st := []) dc_Tr_isAlikeAlone_62 (Eq.refl 65) lk_Tr_112 mi_Tr_hasSameCharacters hk_o0 (Nat.le_of_ble_eq_true rfl) rfl rfl (Nat.le_of_ble_eq_true rfl) rfl (Nat.le_of_ble_eq_true rfl) (CI.mono h (fun r3 σ2 h => ?_))
        exact J_zret dc_Tr_isAlikeAlone_65 rfl h.1 h.2
    · have h := h.2 hc
      refine J_iconst (v := (0 : Int32)) dc_Tr_isAlikeAlone_30 (Eq.refl 31) rfl ?_
      exact J_zret dc_Tr_isAlikeAlone_31 rfl rfl h
theorem b_Tr_isAlikeAlone_93 {E : En_t} {d : Nat} {σ : S_t} {Q : Option Value → S_t → Prop} {o0 : Nat} {x1 : Int32} {o2 : Nat} {x3 : Int32} {s0 : Int32} (hk_o0 : kindP o0 = 11) (hk_o2 : kindP o2 = 11)
    (h : (¬ s0 = 0 → JE E (d + 1) m_Tr_isAlikeAlone 116 [] [] σ Q) ∧ (s0 = 0 → vp_in x1 500 ∧ (vp_in x3 500 ∧ ((¬ (lg_cmp (gL σ (o0 + 7) x1.toNatClampNeg) (gL σ (o2 + 7) x3.toNatClampNeg)) = 0 → Q (some (.int (0 : Int32))) σ) ∧ ((lg_cmp (gL σ (o0 + 7) x1.toNatClampNeg) (gL σ (o2 + 7) x3.toNatClampNeg)) = 0 → JE E (d + 1) m_Tr_isAlikeAlone 116 [] [] σ Q))))) :
    JE E (d + 1) m_Tr_isAlikeAlone 93 [(0, pv E o0), (1, .int x1), (2, pv E o2), (3, .int x3)] [.int s0] σ Q := by
  refine J_istore (L' := [(4, .int s0), (0, pv E o0), (1, .int x1), (2, pv E o2), (3, .int x3)]) dc_Tr_isAlikeAlone_93 (Eq.refl 95) (Nat.le_of_ble_eq_true rfl) rfl ?_
  refine J_iload dc_Tr_isAlikeAlone_95 (Eq.refl 97) 0 rfl ?_
  refine J_if_ne dc_Tr_isAlikeAlone_97 (Eq.refl 100) rfl (fun hc => ?_) (fun hc => ?_)
  · have h := h.1 hc
    refine J_sub [] rfl ?_
    exact h
  · have h := h.2 hc
    refine J_aload_n dc_Tr_isAlikeAlone_100 (Eq.refl 101) 1 rfl ?_
    refine J_getF (y := o0 + 7) dc_Tr_isAlikeAlone_101 (Eq.refl 104) fl_Tr_30 (Nat.le_of_ble_eq_true rfl) hk_o0 (Or.inl rfl) rfl ?_
    refine J_iload_n dc_Tr_isAlikeAlone_104 (Eq.refl 105) 2 rfl ?_
    obtain ⟨hg, h⟩ := h
    refine J_lald dc_Tr_isAlikeAlone_105 (Eq.refl 106) (ak_Tr_6 hk_o0).1 (ak_Tr_6 hk_o0).2 hg ?_
    refine J_aload_n dc_Tr_isAlikeAlone_106 (Eq.refl 107) 3 rfl ?_
    refine J_getF (y := o2 + 7) dc_Tr_isAlikeAlone_107 (Eq.refl 110) fl_Tr_30 (Nat.le_of_ble_eq_true rfl) hk_o2 (Or.inl rfl) rfl ?_
    refine J_iload_n dc_Tr_isAlikeAlone_110 (Eq.refl 111) 4 rfl ?_
    obtain ⟨hg, h⟩ := h
    refine J_lald dc_Tr_isAlikeAlone_111 (Eq.refl 112) (ak_Tr_6 hk_o2).1 (ak_Tr_6 hk_o2).2 hg ?_
    refine J_lcmp dc_Tr_isAlikeAlone_112 (Eq.refl 113) ?_
    refine J_if_ne dc_Tr_isAlikeAlone_113 (Eq.refl 116) rfl (fun hc => ?_) (fun hc => ?_)
    · have h := h.1 hc
      refine J_iconst (v := (0 : Int32)) dc_Tr_isAlikeAlone_120 (Eq.refl 121) rfl ?_
      exact J_zret dc_Tr_isAlikeAlone_121 rfl rfl h
    · have h := h.2 hc
      refine J_sub [] rfl ?_
      exact h
theorem b_Tr_isAlikeAlone_116 {E : En_t} {d : Nat} {σ : S_t} {Q : Option Value → S_t → Prop}
    (h : Q (some (.int (1 : Int32))) σ) :
    JE E (d + 1) m_Tr_isAlikeAlone 116 [] [] σ Q := by
  refine J_iconst (v := (1 : Int32)) dc_Tr_isAlikeAlone_116 (Eq.refl 117) rfl ?_
  refine J_goto dc_Tr_isAlikeAlone_117 rfl ?_
  exact J_zret dc_Tr_isAlikeAlone_121 rfl rfl h
theorem dc_Tr_hasSameCharacters_0 : decode m_Tr_hasSameCharacters.2.1 0 = .ok (.iconst 0, 1) := by decide +kernel
theorem dc_Tr_hasSameCharacters_1 : decode m_Tr_hasSameCharacters.2.1 1 = .ok (.istore 5, 2) := by decide +kernel
theorem dc_Tr_hasSameCharacters_3 : decode m_Tr_hasSameCharacters.2.1 3 = .ok (.iload 5, 2) := by decide +kernel
theorem dc_Tr_hasSameCharacters_5 : decode m_Tr_hasSameCharacters.2.1 5 = .ok (.iload_n 2, 1) := by decide +kernel
theorem dc_Tr_hasSameCharacters_6 : decode m_Tr_hasSameCharacters.2.1 6 = .ok (.if_icmp .ge 33, 3) := by decide +kernel
theorem dc_Tr_hasSameCharacters_9 : decode m_Tr_hasSameCharacters.2.1 9 = .ok (.aload_n 0, 1) := by decide +kernel
theorem dc_Tr_hasSameCharacters_10 : decode m_Tr_hasSameCharacters.2.1 10 = .ok (.getfield 43, 3) := by decide +kernel
theorem dc_Tr_hasSameCharacters_13 : decode m_Tr_hasSameCharacters.2.1 13 = .ok (.iload_n 1, 1) := by decide +kernel
theorem dc_Tr_hasSameCharacters_14 : decode m_Tr_hasSameCharacters.2.1 14 = .ok (.iload 5, 2) := by decide +kernel
theorem dc_Tr_hasSameCharacters_16 : decode m_Tr_hasSameCharacters.2.1 16 = .ok (.iadd, 1) := by decide +kernel
theorem dc_Tr_hasSameCharacters_17 : decode m_Tr_hasSameCharacters.2.1 17 = .ok (.iaload, 1) := by decide +kernel
theorem dc_Tr_hasSameCharacters_18 : decode m_Tr_hasSameCharacters.2.1 18 = .ok (.aload_n 3, 1) := by decide +kernel
theorem dc_Tr_hasSameCharacters_19 : decode m_Tr_hasSameCharacters.2.1 19 = .ok (.getfield 43, 3) := by decide +kernel
theorem dc_Tr_hasSameCharacters_22 : decode m_Tr_hasSameCharacters.2.1 22 = .ok (.iload 4, 2) := by decide +kernel
theorem dc_Tr_hasSameCharacters_24 : decode m_Tr_hasSameCharacters.2.1 24 = .ok (.iload 5, 2) := by decide +kernel
theorem dc_Tr_hasSameCharacters_26 : decode m_Tr_hasSameCharacters.2.1 26 = .ok (.iadd, 1) := by decide +kernel
theorem dc_Tr_hasSameCharacters_27 : decode m_Tr_hasSameCharacters.2.1 27 = .ok (.iaload, 1) := by decide +kernel
theorem dc_Tr_hasSameCharacters_28 : decode m_Tr_hasSameCharacters.2.1 28 = .ok (.if_icmp .eq 5, 3) := by decide +kernel
theorem dc_Tr_hasSameCharacters_31 : decode m_Tr_hasSameCharacters.2.1 31 = .ok (.iconst 0, 1) := by decide +kernel
theorem dc_Tr_hasSameCharacters_32 : decode m_Tr_hasSameCharacters.2.1 32 = .ok (.ireturn, 1) := by decide +kernel
theorem dc_Tr_hasSameCharacters_33 : decode m_Tr_hasSameCharacters.2.1 33 = .ok (.iinc 5 1, 3) := by decide +kernel
theorem dc_Tr_hasSameCharacters_36 : decode m_Tr_hasSameCharacters.2.1 36 = .ok (.goto (-33), 3) := by decide +kernel
theorem dc_Tr_hasSameCharacters_39 : decode m_Tr_hasSameCharacters.2.1 39 = .ok (.iconst 1, 1) := by decide +kernel
theorem dc_Tr_hasSameCharacters_40 : decode m_Tr_hasSameCharacters.2.1 40 = .ok (.ireturn, 1) := by decide +kernel
theorem b_Tr_hasSameCharacters_0 {E : En_t} {d : Nat} {σ : S_t} {Q : Option Value → S_t → Prop} {o0 : Nat} {x1 : Int32} {x2 : Int32} {o3 : Nat} {x4 : Int32} (hk_o0 : kindP o0 = 11) (hk_o3 : kindP o3 = 11)
    (h : JE E d m_Tr_hasSameCharacters 3 [(0, pv E o0), (1, .int x1), (2, .int x2), (3, pv E o3), (4, .int x4), (5, .int (0 : Int32))] [] σ Q) :
    JE E d m_Tr_hasSameCharacters 0 [(0, pv E o0), (1, .int x1), (2, .int x2), (3, pv E o3), (4, .int x4)] [] σ Q := by
  refine J_iconst (v := (0 : Int32)) dc_Tr_hasSameCharacters_0 (Eq.refl 1) rfl ?_
  refine J_istore (L' := [(5, .int (0 : Int32)), (0, pv E o0), (1, .int x1), (2, .int x2), (3, pv E o3), (4, .int x4)]) dc_Tr_hasSameCharacters_1 (Eq.refl 3) (Nat.le_of_ble_eq_true rfl) rfl ?_
  refine J_sub [1, 2, 3, 4, 5, 0] rfl ?_
  exact h
theorem b_Tr_hasSameCharacters_3 {E : En_t} {d : Nat} {σ : S_t} {Q : Option Value → S_t → Prop} {o0 : Nat} {x1 : Int32} {x2 : Int32} {o3 : Nat} {x4 : Int32} {x5 : Int32} (hk_o0 : kindP o0 = 11) (hk_o3 : kindP o3 = 11)
    (h : (x2 ≤ x5 → Q (some (.int (1 : Int32))) σ) ∧ (¬ x2 ≤ x5 → vp_in (x1 + x5) 4000 ∧ (vp_in (x4 + x5) 4000 ∧ (((gI σ (o0 + 11) (x1 + x5).toNatClampNeg) = (gI σ (o3 + 11) (x4 + x5).toNatClampNeg) → JE E d m_Tr_hasSameCharacters 3 [(0, pv E o0), (1, .int x1), (2, .int x2), (3, pv E o3), (4, .int x4), (5, .int (x5 + (1 : Int32)))] [] σ Q) ∧ (¬ (gI σ (o0 + 11) (x1 + x5).toNatClampNeg) = (gI σ (o3 + 11) (x4 + x5).toNatClampNeg) → Q (some (.int (0 : Int32))) σ))))) :
    JE E d m_Tr_hasSameCharacters 3 [(0, pv E o0), (1, .int x1), (2, .int x2), (3, pv E o3), (4, .int x4), (5, .int x5)] [] σ Q := by
  refine J_iload dc_Tr_hasSameCharacters_3 (Eq.refl 5) 5 rfl ?_
  refine J_iload_n dc_Tr_hasSameCharacters_5 (Eq.refl 6) 2 rfl ?_
  refine J_icmp_ge dc_Tr_hasSameCharacters_6 (Eq.refl 9) rfl (fun hc => ?_) (fun hc => ?_)
  · have h := h.1 hc
    refine J_iconst (v := (1 : Int32)) dc_Tr_hasSameCharacters_39 (Eq.refl 40) rfl ?_
    exact J_zret dc_Tr_hasSameCharacters_40 rfl rfl h
  · have h := h.2 hc
    refine J_aload_n dc_Tr_hasSameCharacters_9 (Eq.refl 10) 0 rfl ?_
    refine J_getF (y := o0 + 11) dc_Tr_hasSameCharacters_10 (Eq.refl 13) fl_Tr_43 (Nat.le_of_ble_eq_true rfl) hk_o0 (Or.inl rfl) rfl ?_
    refine J_iload_n dc_Tr_hasSameCharacters_13 (Eq.refl 14) 1 rfl ?_
    refine J_iload dc_Tr_hasSameCharacters_14 (Eq.refl 16) 5 rfl ?_
    refine J_iadd dc_Tr_hasSameCharacters_16 (Eq.refl 17) ?_
    obtain ⟨hg, h⟩ := h
    refine J_iald dc_Tr_hasSameCharacters_17 (Eq.refl 18) (ak_Tr_10 hk_o0).1 (ak_Tr_10 hk_o0).2 hg ?_
    refine J_aload_n dc_Tr_hasSameCharacters_18 (Eq.refl 19) 3 rfl ?_
    refine J_getF (y := o3 + 11) dc_Tr_hasSameCharacters_19 (Eq.refl 22) fl_Tr_43 (Nat.le_of_ble_eq_true rfl) hk_o3 (Or.inl rfl) rfl ?_
    refine J_iload dc_Tr_hasSameCharacters_22 (Eq.refl 24) 4 rfl ?_
    refine J_iload dc_Tr_hasSameCharacters_24 (Eq.refl 26) 5 rfl ?_
    refine J_iadd dc_Tr_hasSameCharacters_26 (Eq.refl 27) ?_
    obtain ⟨hg, h⟩ := h
    refine J_iald dc_Tr_hasSameCharacters_27 (Eq.refl 28) (ak_Tr_10 hk_o3).1 (ak_Tr_10 hk_o3).2 hg ?_
    refine J_icmp_eq dc_Tr_hasSameCharacters_28 (Eq.refl 31) rfl (fun hc => ?_) (fun hc => ?_)
    · have h := h.1 hc
      refine J_iinc (v := x5 + (1 : Int32)) (L' := [(5, .int (x5 + (1 : Int32))), (0, pv E o0), (1, .int x1), (2, .int x2), (3, pv E o3), (4, .int x4)]) dc_Tr_hasSameCharacters_33 (Eq.refl 36) 5 rfl rfl (Nat.le_of_ble_eq_true rfl) rfl ?_
      refine J_goto dc_Tr_hasSameCharacters_36 rfl ?_
      refine J_sub [1, 2, 3, 4, 5, 0] rfl ?_
      exact h
    · have h := h.2 hc
      refine J_iconst (v := (0 : Int32)) dc_Tr_hasSameCharacters_31 (Eq.refl 32) rfl ?_
      exact J_zret dc_Tr_hasSameCharacters_32 rfl rfl h
theorem dc_Tr_hasSameName_0 : decode m_Tr_hasSameName.2.1 0 = .ok (.aload_n 0, 1) := by decide +kernel
theorem dc_Tr_hasSameName_1 : decode m_Tr_hasSameName.2.1 1 = .ok (.getfield 37, 3) := by decide +kernel
theorem dc_Tr_hasSameName_4 : decode m_Tr_hasSameName.2.1 4 = .ok (.iload_n 1, 1) := by decide +kernel
theorem dc_Tr_hasSameName_5 : decode m_Tr_hasSameName.2.1 5 = .ok (.iaload, 1) := by decide +kernel
theorem dc_Tr_hasSameName_6 : decode m_Tr_hasSameName.2.1 6 = .ok (.aload_n 2, 1) := by decide +kernel
theorem dc_Tr_hasSameName_7 : decode m_Tr_hasSameName.2.1 7 = .ok (.getfield 37, 3) := by decide +kernel
theorem dc_Tr_hasSameName_10 : decode m_Tr_hasSameName.2.1 10 = .ok (.iload_n 3, 1) := by decide +kernel
theorem dc_Tr_hasSameName_11 : decode m_Tr_hasSameName.2.1 11 = .ok (.iaload, 1) := by decide +kernel
theorem dc_Tr_hasSameName_12 : decode m_Tr_hasSameName.2.1 12 = .ok (.if_icmp .ne 33, 3) := by decide +kernel
theorem dc_Tr_hasSameName_15 : decode m_Tr_hasSameName.2.1 15 = .ok (.aload_n 0, 1) := by decide +kernel
theorem dc_Tr_hasSameName_16 : decode m_Tr_hasSameName.2.1 16 = .ok (.aload_n 0, 1) := by decide +kernel
theorem dc_Tr_hasSameName_17 : decode m_Tr_hasSameName.2.1 17 = .ok (.getfield 34, 3) := by decide +kernel
theorem dc_Tr_hasSameName_20 : decode m_Tr_hasSameName.2.1 20 = .ok (.iload_n 1, 1) := by decide +kernel
theorem dc_Tr_hasSameName_21 : decode m_Tr_hasSameName.2.1 21 = .ok (.iaload, 1) := by decide +kernel
theorem dc_Tr_hasSameName_22 : decode m_Tr_hasSameName.2.1 22 = .ok (.aload_n 0, 1) := by decide +kernel
theorem dc_Tr_hasSameName_23 : decode m_Tr_hasSameName.2.1 23 = .ok (.getfield 37, 3) := by decide +kernel
theorem dc_Tr_hasSameName_26 : decode m_Tr_hasSameName.2.1 26 = .ok (.iload_n 1, 1) := by decide +kernel
theorem dc_Tr_hasSameName_27 : decode m_Tr_hasSameName.2.1 27 = .ok (.iaload, 1) := by decide +kernel
theorem dc_Tr_hasSameName_28 : decode m_Tr_hasSameName.2.1 28 = .ok (.aload_n 2, 1) := by decide +kernel
theorem dc_Tr_hasSameName_29 : decode m_Tr_hasSameName.2.1 29 = .ok (.aload_n 2, 1) := by decide +kernel
theorem dc_Tr_hasSameName_30 : decode m_Tr_hasSameName.2.1 30 = .ok (.getfield 34, 3) := by decide +kernel
theorem dc_Tr_hasSameName_33 : decode m_Tr_hasSameName.2.1 33 = .ok (.iload_n 3, 1) := by decide +kernel
theorem dc_Tr_hasSameName_34 : decode m_Tr_hasSameName.2.1 34 = .ok (.iaload, 1) := by decide +kernel
theorem dc_Tr_hasSameName_35 : decode m_Tr_hasSameName.2.1 35 = .ok (.invokevirtual 112, 3) := by decide +kernel
theorem dc_Tr_hasSameName_38 : decode m_Tr_hasSameName.2.1 38 = .ok (.ifCond .eq 7, 3) := by decide +kernel
theorem dc_Tr_hasSameName_41 : decode m_Tr_hasSameName.2.1 41 = .ok (.iconst 1, 1) := by decide +kernel
theorem dc_Tr_hasSameName_42 : decode m_Tr_hasSameName.2.1 42 = .ok (.goto 4, 3) := by decide +kernel
theorem dc_Tr_hasSameName_45 : decode m_Tr_hasSameName.2.1 45 = .ok (.iconst 0, 1) := by decide +kernel
theorem dc_Tr_hasSameName_46 : decode m_Tr_hasSameName.2.1 46 = .ok (.ireturn, 1) := by decide +kernel
theorem b_Tr_hasSameName_0 {E : En_t} {d : Nat} {σ : S_t} {Q : Option Value → S_t → Prop} {o0 : Nat} {x1 : Int32} {o2 : Nat} {x3 : Int32} (hk_o0 : kindP o0 = 11) (hk_o2 : kindP o2 = 11)
    (h : vp_in x1 500 ∧ (vp_in x3 500 ∧ ((¬ (gI σ (o0 + 9) x1.toNatClampNeg) = (gI σ (o2 + 9) x3.toNatClampNeg) → Q (some (.int (0 : Int32))) σ) ∧ ((gI σ (o0 + 9) x1.toNatClampNeg) = (gI σ (o2 + 9) x3.toNatClampNeg) → vp_in x1 500 ∧ (vp_in x1 500 ∧ (vp_in x3 500 ∧ (CI E d m_Tr_hasSameCharacters [pv E o0, .int (gI σ (o0 + 8) x1.toNatClampNeg), .int (gI σ (o0 + 9) x1.toNatClampNeg), pv E o2, .int (gI σ (o2 + 8) x3.toNatClampNeg)] σ (fun r2 σ1 => (r2 = 0 → Q (some (.int (0 : Int32))) σ1) ∧ (¬ r2 = 0 → Q (some (.int (1 : Int32))) σ1))))))))) :
    JE E (d + 1) m_Tr_hasSameName 0 [(0, pv E o0), (1, .int x1), (2, pv E o2), (3, .int x3)] [] σ Q := by
  refine J_aload_n dc_Tr_hasSameName_0 (Eq.refl 1) 0 rfl ?_
  refine J_getF (y := o0 + 9) dc_Tr_hasSameName_1 (Eq.refl 4) fl_Tr_37 (Nat.le_of_ble_eq_true rfl) hk_o0 (Or.inl rfl) rfl ?_
  refine J_iload_n dc_Tr_hasSameName_4 (Eq.refl 5) 1 rfl ?_
  obtain ⟨hg, h⟩ := h
  refine J_iald dc_Tr_hasSameName_5 (Eq.refl 6) (ak_Tr_8 hk_o0).1 (ak_Tr_8 hk_o0).2 hg ?_
  refine J_aload_n dc_Tr_hasSameName_6 (Eq.refl 7) 2 rfl ?_
  refine J_getF (y := o2 + 9) dc_Tr_hasSameName_7 (Eq.refl 10) fl_Tr_37 (Nat.le_of_ble_eq_true rfl) hk_o2 (Or.inl rfl) rfl ?_
  refine J_iload_n dc_Tr_hasSameName_10 (Eq.refl 11) 3 rfl ?_
  obtain ⟨hg, h⟩ := h
  refine J_iald dc_Tr_hasSameName_11 (Eq.refl 12) (ak_Tr_8 hk_o2).1 (ak_Tr_8 hk_o2).2 hg ?_
  refine J_icmp_ne dc_Tr_hasSameName_12 (Eq.refl 15) rfl (fun hc => ?_) (fun hc => ?_)
  · have h := h.1 hc
    refine J_iconst (v := (0 : Int32)) dc_Tr_hasSameName_45 (Eq.refl 46) rfl ?_
    exact J_zret dc_Tr_hasSameName_46 rfl rfl h
  · have h := h.2 hc
    refine J_aload_n dc_Tr_hasSameName_15 (Eq.refl 16) 0 rfl ?_
    refine J_aload_n dc_Tr_hasSameName_16 (Eq.refl 17) 0 rfl ?_
    refine J_getF (y := o0 + 8) dc_Tr_hasSameName_17 (Eq.refl 20) fl_Tr_34 (Nat.le_of_ble_eq_true rfl) hk_o0 (Or.inl rfl) rfl ?_
    refine J_iload_n dc_Tr_hasSameName_20 (Eq.refl 21) 1 rfl ?_
    obtain ⟨hg, h⟩ := h
    refine J_iald dc_Tr_hasSameName_21 (Eq.refl 22) (ak_Tr_7 hk_o0).1 (ak_Tr_7 hk_o0).2 hg ?_
    refine J_aload_n dc_Tr_hasSameName_22 (Eq.refl 23) 0 rfl ?_
    refine J_getF (y := o0 + 9) dc_Tr_hasSameName_23 (Eq.refl 26) fl_Tr_37 (Nat.le_of_ble_eq_true rfl) hk_o0 (Or.inl rfl) rfl ?_
    refine J_iload_n dc_Tr_hasSameName_26 (Eq.refl 27) 1 rfl ?_
    obtain ⟨hg, h⟩ := h
    refine J_iald dc_Tr_hasSameName_27 (Eq.refl 28) (ak_Tr_8 hk_o0).1 (ak_Tr_8 hk_o0).2 hg ?_
    refine J_aload_n dc_Tr_hasSameName_28 (Eq.refl 29) 2 rfl ?_
    refine J_aload_n dc_Tr_hasSameName_29 (Eq.refl 30) 2 rfl ?_
    refine J_getF (y := o2 + 8) dc_Tr_hasSameName_30 (Eq.refl 33) fl_Tr_34 (Nat.le_of_ble_eq_true rfl) hk_o2 (Or.inl rfl) rfl ?_
    refine J_iload_n dc_Tr_hasSameName_33 (Eq.refl 34) 3 rfl ?_
    obtain ⟨hg, h⟩ := h
    refine J_iald dc_Tr_hasSameName_34 (Eq.refl 35) (ak_Tr_7 hk_o2).1 (ak_Tr_7 hk_o2).2 hg ?_
    refine J_callVI (As := [.int (gI σ (o0 + 8) x1.toNatClampNeg), .int (gI σ (o0 + 9) x1.toNatClampNeg), pv E o2, .int (gI σ (o2 + 8) x3.toNatClampNeg)]) (st := []) dc_Tr_hasSameName_35 (Eq.refl 38) lk_Tr_112 mi_Tr_hasSameCharacters hk_o0 (Nat.le_of_ble_eq_true rfl) rfl rfl (Nat.le_of_ble_eq_true rfl) rfl (Nat.le_of_ble_eq_true rfl) (CI.mono h (fun r2 σ1 h => ?_))
    refine J_if_eq dc_Tr_hasSameName_38 (Eq.refl 41) rfl (fun hc => ?_) (fun hc => ?_)
    · have h := h.1 hc
      refine J_iconst (v := (0 : Int32)) dc_Tr_hasSameName_45 (Eq.refl 46) rfl ?_
      exact J_zret dc_Tr_hasSameName_46 rfl rfl h
    · have h := h.2 hc
      refine J_iconst (v := (1 : Int32)) dc_Tr_hasSameName_41 (Eq.refl 42) rfl ?_
      refine J_goto dc_Tr_hasSameName_42 rfl ?_
      exact J_zret dc_Tr_hasSameName_46 rfl rfl h
theorem dc_Tr_addWhole_0 : decode m_Tr_addWhole.2.1 0 = .ok (.aload_n 0, 1) := by decide +kernel
theorem dc_Tr_addWhole_1 : decode m_Tr_addWhole.2.1 1 = .ok (.getfield 46, 3) := by decide +kernel
theorem dc_Tr_addWhole_4 : decode m_Tr_addWhole.2.1 4 = .ok (.istore 4, 2) := by decide +kernel
theorem dc_Tr_addWhole_6 : decode m_Tr_addWhole.2.1 6 = .ok (.aload_n 1, 1) := by decide +kernel
theorem dc_Tr_addWhole_7 : decode m_Tr_addWhole.2.1 7 = .ok (.getfield 46, 3) := by decide +kernel
theorem dc_Tr_addWhole_10 : decode m_Tr_addWhole.2.1 10 = .ok (.iload_n 2, 1) := by decide +kernel
theorem dc_Tr_addWhole_11 : decode m_Tr_addWhole.2.1 11 = .ok (.aload_n 1, 1) := by decide +kernel
theorem dc_Tr_addWhole_12 : decode m_Tr_addWhole.2.1 12 = .ok (.getfield 24, 3) := by decide +kernel
theorem dc_Tr_addWhole_15 : decode m_Tr_addWhole.2.1 15 = .ok (.iload_n 2, 1) := by decide +kernel
theorem dc_Tr_addWhole_16 : decode m_Tr_addWhole.2.1 16 = .ok (.iaload, 1) := by decide +kernel
theorem dc_Tr_addWhole_17 : decode m_Tr_addWhole.2.1 17 = .ok (.iadd, 1) := by decide +kernel
theorem dc_Tr_addWhole_18 : decode m_Tr_addWhole.2.1 18 = .ok (.invokestatic 77, 3) := by decide +kernel
theorem dc_Tr_addWhole_21 : decode m_Tr_addWhole.2.1 21 = .ok (.istore 5, 2) := by decide +kernel
theorem dc_Tr_addWhole_23 : decode m_Tr_addWhole.2.1 23 = .ok (.aload_n 0, 1) := by decide +kernel
theorem dc_Tr_addWhole_24 : decode m_Tr_addWhole.2.1 24 = .ok (.aload_n 1, 1) := by decide +kernel
theorem dc_Tr_addWhole_25 : decode m_Tr_addWhole.2.1 25 = .ok (.iload_n 2, 1) := by decide +kernel
theorem dc_Tr_addWhole_26 : decode m_Tr_addWhole.2.1 26 = .ok (.iload_n 3, 1) := by decide +kernel
theorem dc_Tr_addWhole_27 : decode m_Tr_addWhole.2.1 27 = .ok (.invokevirtual 86, 3) := by decide +kernel
theorem dc_Tr_addWhole_30 : decode m_Tr_addWhole.2.1 30 = .ok (.pop, 1) := by decide +kernel
theorem dc_Tr_addWhole_31 : decode m_Tr_addWhole.2.1 31 = .ok (.iload_n 2, 1) := by decide +kernel
theorem dc_Tr_addWhole_32 : decode m_Tr_addWhole.2.1 32 = .ok (.iconst 1, 1) := by decide +kernel
theorem dc_Tr_addWhole_33 : decode m_Tr_addWhole.2.1 33 = .ok (.iadd, 1) := by decide +kernel
theorem dc_Tr_addWhole_34 : decode m_Tr_addWhole.2.1 34 = .ok (.istore 6, 2) := by decide +kernel
theorem dc_Tr_addWhole_36 : decode m_Tr_addWhole.2.1 36 = .ok (.iload 6, 2) := by decide +kernel
theorem dc_Tr_addWhole_38 : decode m_Tr_addWhole.2.1 38 = .ok (.iload 5, 2) := by decide +kernel
theorem dc_Tr_addWhole_40 : decode m_Tr_addWhole.2.1 40 = .ok (.if_icmp .ge 36, 3) := by decide +kernel
theorem dc_Tr_addWhole_43 : decode m_Tr_addWhole.2.1 43 = .ok (.aload_n 0, 1) := by decide +kernel
theorem dc_Tr_addWhole_44 : decode m_Tr_addWhole.2.1 44 = .ok (.getfield 56, 3) := by decide +kernel
theorem dc_Tr_addWhole_47 : decode m_Tr_addWhole.2.1 47 = .ok (.ifCond .ne 29, 3) := by decide +kernel
theorem dc_Tr_addWhole_50 : decode m_Tr_addWhole.2.1 50 = .ok (.aload_n 0, 1) := by decide +kernel
theorem dc_Tr_addWhole_51 : decode m_Tr_addWhole.2.1 51 = .ok (.aload_n 1, 1) := by decide +kernel
theorem dc_Tr_addWhole_52 : decode m_Tr_addWhole.2.1 52 = .ok (.iload 6, 2) := by decide +kernel
theorem dc_Tr_addWhole_54 : decode m_Tr_addWhole.2.1 54 = .ok (.aload_n 1, 1) := by decide +kernel
theorem dc_Tr_addWhole_55 : decode m_Tr_addWhole.2.1 55 = .ok (.getfield 18, 3) := by decide +kernel
theorem dc_Tr_addWhole_58 : decode m_Tr_addWhole.2.1 58 = .ok (.iload 6, 2) := by decide +kernel
theorem dc_Tr_addWhole_60 : decode m_Tr_addWhole.2.1 60 = .ok (.iaload, 1) := by decide +kernel
theorem dc_Tr_addWhole_61 : decode m_Tr_addWhole.2.1 61 = .ok (.iload_n 2, 1) := by decide +kernel
theorem dc_Tr_addWhole_62 : decode m_Tr_addWhole.2.1 62 = .ok (.isub, 1) := by decide +kernel
theorem dc_Tr_addWhole_63 : decode m_Tr_addWhole.2.1 63 = .ok (.iload 4, 2) := by decide +kernel
theorem dc_Tr_addWhole_65 : decode m_Tr_addWhole.2.1 65 = .ok (.iadd, 1) := by decide +kernel
theorem dc_Tr_addWhole_66 : decode m_Tr_addWhole.2.1 66 = .ok (.invokevirtual 86, 3) := by decide +kernel
theorem dc_Tr_addWhole_69 : decode m_Tr_addWhole.2.1 69 = .ok (.pop, 1) := by decide +kernel
theorem dc_Tr_addWhole_70 : decode m_Tr_addWhole.2.1 70 = .ok (.iinc 6 1, 3) := by decide +kernel
theorem dc_Tr_addWhole_73 : decode m_Tr_addWhole.2.1 73 = .ok (.goto (-37), 3) := by decide +kernel
theorem dc_Tr_addWhole_76 : decode m_Tr_addWhole.2.1 76 = .ok (.return_, 1) := by decide +kernel
theorem b_Tr_addWhole_0 {E : En_t} {d : Nat} {σ : S_t} {Q : Option Value → S_t → Prop} {o0 : Nat} {o1 : Nat} {x2 : Int32} {x3 : Int32} (hk_o0 : kindP o0 = 11) (hk_o1 : kindP o1 = 11)
    (h : vp_in x2 500 ∧ (∀ r1, r1 = mnI (gI σ o1 13) (x2 + (gI σ (o1 + 5) x2.toNatClampNeg)) → (CI E d m_Tr_addLike [pv E o0, pv E o1, .int x2, .int x3] σ (fun r3 σ2 => JE E (d + 1) m_Tr_addWhole 36 [(0, pv E o0), (1, pv E o1), (2, .int x2), (4, .int (gI σ o0 13)), (5, .int r1), (6, .int (x2 + (1 : Int32)))] [] σ2 Q)))) :
    JE E (d + 1) m_Tr_addWhole 0 [(0, pv E o0), (1, pv E o1), (2, .int x2), (3, .int x3)] [] σ Q := by
  refine J_aload_n dc_Tr_addWhole_0 (Eq.refl 1) 0 rfl ?_
  refine J_getI dc_Tr_addWhole_1 (Eq.refl 4) fl_Tr_46 (Nat.le_of_ble_eq_true rfl) hk_o0 (Or.inl rfl) ?_
  refine J_istore (L' := [(4, .int (gI σ o0 13)), (0, pv E o0), (1, pv E o1), (2, .int x2), (3, .int x3)]) dc_Tr_addWhole_4 (Eq.refl 6) (Nat.le_of_ble_eq_true rfl) rfl ?_
  refine J_aload_n dc_Tr_addWhole_6 (Eq.refl 7) 2 rfl ?_
  refine J_getI dc_Tr_addWhole_7 (Eq.refl 10) fl_Tr_46 (Nat.le_of_ble_eq_true rfl) hk_o1 (Or.inl rfl) ?_
  refine J_iload_n dc_Tr_addWhole_10 (Eq.refl 11) 3 rfl ?_
  refine J_aload_n dc_Tr_addWhole_11 (Eq.refl 12) 2 rfl ?_
  refine J_getF (y := o1 + 5) dc_Tr_addWhole_12 (Eq.refl 15) fl_Tr_24 (Nat.le_of_ble_eq_true rfl) hk_o1 (Or.inl rfl) rfl ?_
  refine J_iload_n dc_Tr_addWhole_15 (Eq.refl 16) 3 rfl ?_
  obtain ⟨hg, h⟩ := h
  refine J_iald dc_Tr_addWhole_16 (Eq.refl 17) (ak_Tr_4 hk_o1).1 (ak_Tr_4 hk_o1).2 hg ?_
  refine J_iadd dc_Tr_addWhole_17 (Eq.refl 18) ?_
  refine J_mmin dc_Tr_addWhole_18 (Eq.refl 21) lk_Tr_77 (Nat.le_of_ble_eq_true rfl) (fun r1 er1 => ?_)
  have h := h r1 er1
  refine J_istore (L' := [(5, .int r1), (4, .int (gI σ o0 13)), (0, pv E o0), (1, pv E o1), (2, .int x2), (3, .int x3)]) dc_Tr_addWhole_21 (Eq.refl 23) (Nat.le_of_ble_eq_true rfl) rfl ?_
  refine J_aload_n dc_Tr_addWhole_23 (Eq.refl 24) 2 rfl ?_
  refine J_aload_n dc_Tr_addWhole_24 (Eq.refl 25) 3 rfl ?_
  refine J_iload_n dc_Tr_addWhole_25 (Eq.refl 26) 4 rfl ?_
  refine J_iload_n dc_Tr_addWhole_26 (Eq.refl 27) 5 rfl ?_
  refine J_callVI (As := [pv E o1, .int x2, .int x3]) (st := []) dc_Tr_addWhole_27 (Eq.refl 30) lk_Tr_86 mi_Tr_addLike hk_o0 (Nat.le_of_ble_eq_true rfl) rfl rfl (Nat.le_of_ble_eq_true rfl) rfl (Nat.le_of_ble_eq_true rfl) (CI.mono h (fun r3 σ2 h => ?_))
  refine J_pop dc_Tr_addWhole_30 (Eq.refl 31) rfl ?_
  refine J_iload_n dc_Tr_addWhole_31 (Eq.refl 32) 4 rfl ?_
  refine J_iconst (v := (1 : Int32)) dc_Tr_addWhole_32 (Eq.refl 33) rfl ?_
  refine J_iadd dc_Tr_addWhole_33 (Eq.refl 34) ?_
  refine J_istore (L' := [(6, .int (x2 + (1 : Int32))), (5, .int r1), (4, .int (gI σ o0 13)), (0, pv E o0), (1, pv E o1), (2, .int x2), (3, .int x3)]) dc_Tr_addWhole_34 (Eq.refl 36) (Nat.le_of_ble_eq_true rfl) rfl ?_
  refine J_sub [3, 4, 5, 2, 1, 0] rfl ?_
  exact h
theorem b_Tr_addWhole_36 {E : En_t} {d : Nat} {σ : S_t} {Q : Option Value → S_t → Prop} {o0 : Nat} {o1 : Nat} {x2 : Int32} {x4 : Int32} {x5 : Int32} {x6 : Int32} (hk_o0 : kindP o0 = 11) (hk_o1 : kindP o1 = 11)
    (h : (x5 ≤ x6 → Q none σ) ∧ (¬ x5 ≤ x6 → (¬ (gI σ o0 14) = 0 → Q none σ) ∧ ((gI σ o0 14) = 0 → vp_in x6 500 ∧ (CI E d m_Tr_addLike [pv E o0, pv E o1, .int x6, .int (((gI σ (o1 + 3) x6.toNatClampNeg) - x2) + x4)] σ (fun r2 σ1 => JE E (d + 1) m_Tr_addWhole 36 [(0, pv E o0), (1, pv E o1), (2, .int x2), (4, .int x4), (5, .int x5), (6, .int (x6 + (1 : Int32)))] [] σ1 Q))))) :
    JE E (d + 1) m_Tr_addWhole 36 [(0, pv E o0), (1, pv E o1), (2, .int x2), (4, .int x4), (5, .int x5), (6, .int x6)] [] σ Q := by
  refine J_iload dc_Tr_addWhole_36 (Eq.refl 38) 5 rfl ?_
  refine J_iload dc_Tr_addWhole_38 (Eq.refl 40) 4 rfl ?_
  refine J_icmp_ge dc_Tr_addWhole_40 (Eq.refl 43) rfl (fun hc => ?_) (fun hc => ?_)
  · have h := h.1 hc
    exact J_vret dc_Tr_addWhole_76 rfl h
  · have h := h.2 hc
    refine J_aload_n dc_Tr_addWhole_43 (Eq.refl 44) 0 rfl ?_
    refine J_getI dc_Tr_addWhole_44 (Eq.refl 47) fl_Tr_56 (Nat.le_of_ble_eq_true rfl) hk_o0 (Or.inr rfl) ?_
    refine J_if_ne dc_Tr_addWhole_47 (Eq.refl 50) rfl (fun hc => ?_) (fun hc => ?_)
    · have h := h.1 hc
      exact J_vret dc_Tr_addWhole_76 rfl h
    · have h := h.2 hc
      refine J_aload_n dc_Tr_addWhole_50 (Eq.refl 51) 0 rfl ?_
      refine J_aload_n dc_Tr_addWhole_51 (Eq.refl 52) 1 rfl ?_
      refine J_iload dc_Tr_addWhole_52 (Eq.refl 54) 5 rfl ?_
      refine J_aload_n dc_Tr_addWhole_54 (Eq.refl 55) 1 rfl ?_
      refine J_getF (y := o1 + 3) dc_Tr_addWhole_55 (Eq.refl 58) fl_Tr_18 (Nat.le_of_ble_eq_true rfl) hk_o1 (Or.inl rfl) rfl ?_
      refine J_iload dc_Tr_addWhole_58 (Eq.refl 60) 5 rfl ?_
      obtain ⟨hg, h⟩ := h
      refine J_iald dc_Tr_addWhole_60 (Eq.refl 61) (ak_Tr_2 hk_o1).1 (ak_Tr_2 hk_o1).2 hg ?_
      refine J_iload_n dc_Tr_addWhole_61 (Eq.refl 62) 2 rfl ?_
      refine J_isub dc_Tr_addWhole_62 (Eq.refl 63) ?_
      refine J_iload dc_Tr_addWhole_63 (Eq.refl 65) 3 rfl ?_
      refine J_iadd dc_Tr_addWhole_65 (Eq.refl 66) ?_
      refine J_callVI (As := [pv E o1, .int x6, .int (((gI σ (o1 + 3) x6.toNatClampNeg) - x2) + x4)]) (st := []) dc_Tr_addWhole_66 (Eq.refl 69) lk_Tr_86 mi_Tr_addLike hk_o0 (Nat.le_of_ble_eq_true rfl) rfl rfl (Nat.le_of_ble_eq_true rfl) rfl (Nat.le_of_ble_eq_true rfl) (CI.mono h (fun r2 σ1 h => ?_))
      refine J_pop dc_Tr_addWhole_69 (Eq.refl 70) rfl ?_
      refine J_iinc (v := x6 + (1 : Int32)) (L' := [(6, .int (x6 + (1 : Int32))), (0, pv E o0), (1, pv E o1), (2, .int x2), (4, .int x4), (5, .int x5)]) dc_Tr_addWhole_70 (Eq.refl 73) 5 rfl rfl (Nat.le_of_ble_eq_true rfl) rfl ?_
      refine J_goto dc_Tr_addWhole_73 rfl ?_
      refine J_sub [1, 2, 3, 4, 5, 0] rfl ?_
      exact h
theorem dc_Tr_compareNames_0 : decode m_Tr_compareNames.2.1 0 = .ok (.aload_n 0, 1) := by decide +kernel
theorem dc_Tr_compareNames_1 : decode m_Tr_compareNames.2.1 1 = .ok (.aload_n 0, 1) := by decide +kernel
theorem dc_Tr_compareNames_2 : decode m_Tr_compareNames.2.1 2 = .ok (.getfield 34, 3) := by decide +kernel
theorem dc_Tr_compareNames_5 : decode m_Tr_compareNames.2.1 5 = .ok (.iload_n 1, 1) := by decide +kernel
theorem dc_Tr_compareNames_6 : decode m_Tr_compareNames.2.1 6 = .ok (.iaload, 1) := by decide +kernel
theorem dc_Tr_compareNames_7 : decode m_Tr_compareNames.2.1 7 = .ok (.aload_n 0, 1) := by decide +kernel
theorem dc_Tr_compareNames_8 : decode m_Tr_compareNames.2.1 8 = .ok (.getfield 37, 3) := by decide +kernel
theorem dc_Tr_compareNames_11 : decode m_Tr_compareNames.2.1 11 = .ok (.iload_n 1, 1) := by decide +kernel
theorem dc_Tr_compareNames_12 : decode m_Tr_compareNames.2.1 12 = .ok (.iaload, 1) := by decide +kernel
theorem dc_Tr_compareNames_13 : decode m_Tr_compareNames.2.1 13 = .ok (.aload_n 2, 1) := by decide +kernel
theorem dc_Tr_compareNames_14 : decode m_Tr_compareNames.2.1 14 = .ok (.iload_n 3, 1) := by decide +kernel
theorem dc_Tr_compareNames_15 : decode m_Tr_compareNames.2.1 15 = .ok (.invokevirtual 99, 3) := by decide +kernel
theorem dc_Tr_compareNames_18 : decode m_Tr_compareNames.2.1 18 = .ok (.ireturn, 1) := by decide +kernel
theorem b_Tr_compareNames_0 {E : En_t} {d : Nat} {σ : S_t} {Q : Option Value → S_t → Prop} {o0 : Nat} {x1 : Int32} {o2 : Nat} {x3 : Int32} (hk_o0 : kindP o0 = 11) (hk_o2 : kindP o2 = 11)
    (h : vp_in x1 500 ∧ (vp_in x1 500 ∧ (CI E d m_Tr_compareWithName [pv E o0, .int (gI σ (o0 + 8) x1.toNatClampNeg), .int (gI σ (o0 + 9) x1.toNatClampNeg), pv E o2, .int x3] σ (fun r2 σ1 => Q (some (.int r2)) σ1)))) :
    JE E (d + 1) m_Tr_compareNames 0 [(0, pv E o0), (1, .int x1), (2, pv E o2), (3, .int x3)] [] σ Q := by
  refine J_aload_n dc_Tr_compareNames_0 (Eq.refl 1) 0 rfl ?_
  refine J_aload_n dc_Tr_compareNames_1 (Eq.refl 2) 0 rfl ?_
  refine J_getF (y := o0 + 8) dc_Tr_compareNames_2 (Eq.refl 5) fl_Tr_34 (Nat.le_of_ble_eq_true rfl) hk_o0 (Or.inl rfl) rfl ?_
  refine J_iload_n dc_Tr_compareNames_5 (Eq.refl 6) 1 rfl ?_
  obtain ⟨hg, h⟩ := h
  refine J_iald dc_Tr_compareNames_6 (Eq.refl 7) (ak_Tr_7 hk_o0).1 (ak_Tr_7 hk_o0).2 hg ?_
  refine J_aload_n dc_Tr_compareNames_7 (Eq.refl 8) 0 rfl ?_
  refine J_getF (y := o0 + 9) dc_Tr_compareNames_8 (Eq.refl 11) fl_Tr_37 (Nat.le_of_ble_eq_true rfl) hk_o0 (Or.inl rfl) rfl ?_
  refine J_iload_n dc_Tr_compareNames_11 (Eq.refl 12) 1 rfl ?_
  obtain ⟨hg, h⟩ := h
  refine J_iald dc_Tr_compareNames_12 (Eq.refl 13) (ak_Tr_8 hk_o0).1 (ak_Tr_8 hk_o0).2 hg ?_
  refine J_aload_n dc_Tr_compareNames_13 (Eq.refl 14) 2 rfl ?_
  refine J_iload_n dc_Tr_compareNames_14 (Eq.refl 15) 3 rfl ?_
  refine J_callVI (As := [.int (gI σ (o0 + 8) x1.toNatClampNeg), .int (gI σ (o0 + 9) x1.toNatClampNeg), pv E o2, .int x3]) (st := []) dc_Tr_compareNames_15 (Eq.refl 18) lk_Tr_99 mi_Tr_compareWithName hk_o0 (Nat.le_of_ble_eq_true rfl) rfl rfl (Nat.le_of_ble_eq_true rfl) rfl (Nat.le_of_ble_eq_true rfl) (CI.mono h (fun r2 σ1 h => ?_))
  exact J_iret dc_Tr_compareNames_18 rfl h
