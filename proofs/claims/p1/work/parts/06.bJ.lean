theorem dc_JMa_min_0 : decode m_JMa_min.2.1 0 = .ok (.iload_n 0, 1) := by decide +kernel
theorem dc_JMa_min_1 : decode m_JMa_min.2.1 1 = .ok (.iload_n 1, 1) := by decide +kernel
theorem dc_JMa_min_2 : decode m_JMa_min.2.1 2 = .ok (.if_icmp .gt 7, 3) := by decide +kernel
theorem dc_JMa_min_5 : decode m_JMa_min.2.1 5 = .ok (.iload_n 0, 1) := by decide +kernel
theorem dc_JMa_min_6 : decode m_JMa_min.2.1 6 = .ok (.goto 4, 3) := by decide +kernel
theorem dc_JMa_min_9 : decode m_JMa_min.2.1 9 = .ok (.iload_n 1, 1) := by decide +kernel
theorem dc_JMa_min_10 : decode m_JMa_min.2.1 10 = .ok (.ireturn, 1) := by decide +kernel
theorem b_JMa_min_0 {E : En_t} {d : Nat} {σ : S_t} {Q : Option Value → S_t → Prop} {x0 : Int32} {x1 : Int32}
    (h : (x1 < x0 → Q (some (.int x1)) σ) ∧ (¬ x1 < x0 → Q (some (.int x0)) σ)) :
    JE E d m_JMa_min 0 [(0, .int x0), (1, .int x1)] [] σ Q := by
  refine J_iload_n dc_JMa_min_0 (Eq.refl 1) 0 rfl ?_
  refine J_iload_n dc_JMa_min_1 (Eq.refl 2) 1 rfl ?_
  refine J_icmp_gt dc_JMa_min_2 (Eq.refl 5) rfl (fun hc => ?_) (fun hc => ?_)
  · have h := h.1 hc
    refine J_iload_n dc_JMa_min_9 (Eq.refl 10) 1 rfl ?_
    exact J_iret dc_JMa_min_10 rfl h
  · have h := h.2 hc
    refine J_iload_n dc_JMa_min_5 (Eq.refl 6) 0 rfl ?_
    refine J_goto dc_JMa_min_6 rfl ?_
    exact J_iret dc_JMa_min_10 rfl h
theorem dc_JMa_max_0 : decode m_JMa_max.2.1 0 = .ok (.iload_n 0, 1) := by decide +kernel
theorem dc_JMa_max_1 : decode m_JMa_max.2.1 1 = .ok (.iload_n 1, 1) := by decide +kernel
theorem dc_JMa_max_2 : decode m_JMa_max.2.1 2 = .ok (.if_icmp .lt 7, 3) := by decide +kernel
theorem dc_JMa_max_5 : decode m_JMa_max.2.1 5 = .ok (.iload_n 0, 1) := by decide +kernel
theorem dc_JMa_max_6 : decode m_JMa_max.2.1 6 = .ok (.goto 4, 3) := by decide +kernel
theorem dc_JMa_max_9 : decode m_JMa_max.2.1 9 = .ok (.iload_n 1, 1) := by decide +kernel
theorem dc_JMa_max_10 : decode m_JMa_max.2.1 10 = .ok (.ireturn, 1) := by decide +kernel
theorem b_JMa_max_0 {E : En_t} {d : Nat} {σ : S_t} {Q : Option Value → S_t → Prop} {x0 : Int32} {x1 : Int32}
    (h : (x0 < x1 → Q (some (.int x1)) σ) ∧ (¬ x0 < x1 → Q (some (.int x0)) σ)) :
    JE E d m_JMa_max 0 [(0, .int x0), (1, .int x1)] [] σ Q := by
  refine J_iload_n dc_JMa_max_0 (Eq.refl 1) 0 rfl ?_
  refine J_iload_n dc_JMa_max_1 (Eq.refl 2) 1 rfl ?_
  refine J_icmp_lt dc_JMa_max_2 (Eq.refl 5) rfl (fun hc => ?_) (fun hc => ?_)
  · have h := h.1 hc
    refine J_iload_n dc_JMa_max_9 (Eq.refl 10) 1 rfl ?_
    exact J_iret dc_JMa_max_10 rfl h
  · have h := h.2 hc
    refine J_iload_n dc_JMa_max_5 (Eq.refl 6) 0 rfl ?_
    refine J_goto dc_JMa_max_6 rfl ?_
    exact J_iret dc_JMa_max_10 rfl h
theorem dc_JMa_abs_0 : decode m_JMa_abs.2.1 0 = .ok (.iload_n 0, 1) := by decide +kernel
theorem dc_JMa_abs_1 : decode m_JMa_abs.2.1 1 = .ok (.ifCond .ge 8, 3) := by decide +kernel
theorem dc_JMa_abs_4 : decode m_JMa_abs.2.1 4 = .ok (.iload_n 0, 1) := by decide +kernel
theorem dc_JMa_abs_5 : decode m_JMa_abs.2.1 5 = .ok (.ineg, 1) := by decide +kernel
theorem dc_JMa_abs_6 : decode m_JMa_abs.2.1 6 = .ok (.goto 4, 3) := by decide +kernel
theorem dc_JMa_abs_9 : decode m_JMa_abs.2.1 9 = .ok (.iload_n 0, 1) := by decide +kernel
theorem dc_JMa_abs_10 : decode m_JMa_abs.2.1 10 = .ok (.ireturn, 1) := by decide +kernel
theorem b_JMa_abs_0 {E : En_t} {d : Nat} {σ : S_t} {Q : Option Value → S_t → Prop} {x0 : Int32}
    (h : (0 ≤ x0 → Q (some (.int x0)) σ) ∧ (¬ 0 ≤ x0 → Q (some (.int (-x0))) σ)) :
    JE E d m_JMa_abs 0 [(0, .int x0)] [] σ Q := by
  refine J_iload_n dc_JMa_abs_0 (Eq.refl 1) 0 rfl ?_
  refine J_if_ge dc_JMa_abs_1 (Eq.refl 4) rfl (fun hc => ?_) (fun hc => ?_)
  · have h := h.1 hc
    refine J_iload_n dc_JMa_abs_9 (Eq.refl 10) 0 rfl ?_
    exact J_iret dc_JMa_abs_10 rfl h
  · have h := h.2 hc
    refine J_iload_n dc_JMa_abs_4 (Eq.refl 5) 0 rfl ?_
    refine J_ineg dc_JMa_abs_5 (Eq.refl 6) ?_
    refine J_goto dc_JMa_abs_6 rfl ?_
    exact J_iret dc_JMa_abs_10 rfl h
theorem dc_JIn_numberOfLeadingZeros_0 : decode m_JIn_numberOfLeadingZeros.2.1 0 = .ok (.iload_n 0, 1) := by decide +kernel
theorem dc_JIn_numberOfLeadingZeros_1 : decode m_JIn_numberOfLeadingZeros.2.1 1 = .ok (.ifCond .gt 14, 3) := by decide +kernel
theorem dc_JIn_numberOfLeadingZeros_4 : decode m_JIn_numberOfLeadingZeros.2.1 4 = .ok (.iload_n 0, 1) := by decide +kernel
theorem dc_JIn_numberOfLeadingZeros_5 : decode m_JIn_numberOfLeadingZeros.2.1 5 = .ok (.ifCond .ne 8, 3) := by decide +kernel
theorem dc_JIn_numberOfLeadingZeros_8 : decode m_JIn_numberOfLeadingZeros.2.1 8 = .ok (.bipush 32, 2) := by decide +kernel
theorem dc_JIn_numberOfLeadingZeros_10 : decode m_JIn_numberOfLeadingZeros.2.1 10 = .ok (.goto 4, 3) := by decide +kernel
theorem dc_JIn_numberOfLeadingZeros_13 : decode m_JIn_numberOfLeadingZeros.2.1 13 = .ok (.iconst 0, 1) := by decide +kernel
theorem dc_JIn_numberOfLeadingZeros_14 : decode m_JIn_numberOfLeadingZeros.2.1 14 = .ok (.ireturn, 1) := by decide +kernel
theorem dc_JIn_numberOfLeadingZeros_15 : decode m_JIn_numberOfLeadingZeros.2.1 15 = .ok (.bipush 31, 2) := by decide +kernel
theorem dc_JIn_numberOfLeadingZeros_17 : decode m_JIn_numberOfLeadingZeros.2.1 17 = .ok (.istore_n 1, 1) := by decide +kernel
theorem dc_JIn_numberOfLeadingZeros_18 : decode m_JIn_numberOfLeadingZeros.2.1 18 = .ok (.iload_n 0, 1) := by decide +kernel
theorem dc_JIn_numberOfLeadingZeros_19 : decode m_JIn_numberOfLeadingZeros.2.1 19 = .ok (.ldc_w 264, 3) := by decide +kernel
theorem dc_JIn_numberOfLeadingZeros_22 : decode m_JIn_numberOfLeadingZeros.2.1 22 = .ok (.if_icmp .lt 11, 3) := by decide +kernel
theorem dc_JIn_numberOfLeadingZeros_25 : decode m_JIn_numberOfLeadingZeros.2.1 25 = .ok (.iinc 1 (-16), 3) := by decide +kernel
theorem dc_JIn_numberOfLeadingZeros_28 : decode m_JIn_numberOfLeadingZeros.2.1 28 = .ok (.iload_n 0, 1) := by decide +kernel
theorem dc_JIn_numberOfLeadingZeros_29 : decode m_JIn_numberOfLeadingZeros.2.1 29 = .ok (.bipush 16, 2) := by decide +kernel
theorem dc_JIn_numberOfLeadingZeros_31 : decode m_JIn_numberOfLeadingZeros.2.1 31 = .ok (.iushr, 1) := by decide +kernel
theorem dc_JIn_numberOfLeadingZeros_32 : decode m_JIn_numberOfLeadingZeros.2.1 32 = .ok (.istore_n 0, 1) := by decide +kernel
theorem dc_JIn_numberOfLeadingZeros_33 : decode m_JIn_numberOfLeadingZeros.2.1 33 = .ok (.iload_n 0, 1) := by decide +kernel
theorem dc_JIn_numberOfLeadingZeros_34 : decode m_JIn_numberOfLeadingZeros.2.1 34 = .ok (.sipush 256, 3) := by decide +kernel
theorem dc_JIn_numberOfLeadingZeros_37 : decode m_JIn_numberOfLeadingZeros.2.1 37 = .ok (.if_icmp .lt 11, 3) := by decide +kernel
theorem dc_JIn_numberOfLeadingZeros_40 : decode m_JIn_numberOfLeadingZeros.2.1 40 = .ok (.iinc 1 (-8), 3) := by decide +kernel
theorem dc_JIn_numberOfLeadingZeros_43 : decode m_JIn_numberOfLeadingZeros.2.1 43 = .ok (.iload_n 0, 1) := by decide +kernel
theorem dc_JIn_numberOfLeadingZeros_44 : decode m_JIn_numberOfLeadingZeros.2.1 44 = .ok (.bipush 8, 2) := by decide +kernel
theorem dc_JIn_numberOfLeadingZeros_46 : decode m_JIn_numberOfLeadingZeros.2.1 46 = .ok (.iushr, 1) := by decide +kernel
theorem dc_JIn_numberOfLeadingZeros_47 : decode m_JIn_numberOfLeadingZeros.2.1 47 = .ok (.istore_n 0, 1) := by decide +kernel
theorem dc_JIn_numberOfLeadingZeros_48 : decode m_JIn_numberOfLeadingZeros.2.1 48 = .ok (.iload_n 0, 1) := by decide +kernel
theorem dc_JIn_numberOfLeadingZeros_49 : decode m_JIn_numberOfLeadingZeros.2.1 49 = .ok (.bipush 16, 2) := by decide +kernel
theorem dc_JIn_numberOfLeadingZeros_51 : decode m_JIn_numberOfLeadingZeros.2.1 51 = .ok (.if_icmp .lt 10, 3) := by decide +kernel
theorem dc_JIn_numberOfLeadingZeros_54 : decode m_JIn_numberOfLeadingZeros.2.1 54 = .ok (.iinc 1 (-4), 3) := by decide +kernel
theorem dc_JIn_numberOfLeadingZeros_57 : decode m_JIn_numberOfLeadingZeros.2.1 57 = .ok (.iload_n 0, 1) := by decide +kernel
theorem dc_JIn_numberOfLeadingZeros_58 : decode m_JIn_numberOfLeadingZeros.2.1 58 = .ok (.iconst 4, 1) := by decide +kernel
theorem dc_JIn_numberOfLeadingZeros_59 : decode m_JIn_numberOfLeadingZeros.2.1 59 = .ok (.iushr, 1) := by decide +kernel
theorem dc_JIn_numberOfLeadingZeros_60 : decode m_JIn_numberOfLeadingZeros.2.1 60 = .ok (.istore_n 0, 1) := by decide +kernel
theorem dc_JIn_numberOfLeadingZeros_61 : decode m_JIn_numberOfLeadingZeros.2.1 61 = .ok (.iload_n 0, 1) := by decide +kernel
theorem dc_JIn_numberOfLeadingZeros_62 : decode m_JIn_numberOfLeadingZeros.2.1 62 = .ok (.iconst 4, 1) := by decide +kernel
theorem dc_JIn_numberOfLeadingZeros_63 : decode m_JIn_numberOfLeadingZeros.2.1 63 = .ok (.if_icmp .lt 10, 3) := by decide +kernel
theorem dc_JIn_numberOfLeadingZeros_66 : decode m_JIn_numberOfLeadingZeros.2.1 66 = .ok (.iinc 1 (-2), 3) := by decide +kernel
theorem dc_JIn_numberOfLeadingZeros_69 : decode m_JIn_numberOfLeadingZeros.2.1 69 = .ok (.iload_n 0, 1) := by decide +kernel
theorem dc_JIn_numberOfLeadingZeros_70 : decode m_JIn_numberOfLeadingZeros.2.1 70 = .ok (.iconst 2, 1) := by decide +kernel
theorem dc_JIn_numberOfLeadingZeros_71 : decode m_JIn_numberOfLeadingZeros.2.1 71 = .ok (.iushr, 1) := by decide +kernel
theorem dc_JIn_numberOfLeadingZeros_72 : decode m_JIn_numberOfLeadingZeros.2.1 72 = .ok (.istore_n 0, 1) := by decide +kernel
theorem dc_JIn_numberOfLeadingZeros_73 : decode m_JIn_numberOfLeadingZeros.2.1 73 = .ok (.iload_n 1, 1) := by decide +kernel
theorem dc_JIn_numberOfLeadingZeros_74 : decode m_JIn_numberOfLeadingZeros.2.1 74 = .ok (.iload_n 0, 1) := by decide +kernel
theorem dc_JIn_numberOfLeadingZeros_75 : decode m_JIn_numberOfLeadingZeros.2.1 75 = .ok (.iconst 1, 1) := by decide +kernel
theorem dc_JIn_numberOfLeadingZeros_76 : decode m_JIn_numberOfLeadingZeros.2.1 76 = .ok (.iushr, 1) := by decide +kernel
theorem dc_JIn_numberOfLeadingZeros_77 : decode m_JIn_numberOfLeadingZeros.2.1 77 = .ok (.isub, 1) := by decide +kernel
theorem dc_JIn_numberOfLeadingZeros_78 : decode m_JIn_numberOfLeadingZeros.2.1 78 = .ok (.ireturn, 1) := by decide +kernel
theorem b_JIn_numberOfLeadingZeros_0 {E : En_t} {d : Nat} {σ : S_t} {Q : Option Value → S_t → Prop} {x0 : Int32}
    (h : (0 < x0 → (x0 < (65536 : Int32) → JE E d m_JIn_numberOfLeadingZeros 33 [(0, .int x0), (1, .int (31 : Int32))] [] σ Q) ∧ (¬ x0 < (65536 : Int32) → JE E d m_JIn_numberOfLeadingZeros 33 [(0, .int ((x0.toUInt32 >>> ((16 : Int32).toUInt32 &&& Int32.toUInt32 31)).toInt32)), (1, .int ((31 : Int32) + (-16 : Int32)))] [] σ Q)) ∧ (¬ 0 < x0 → (¬ x0 = 0 → Q (some (.int (0 : Int32))) σ) ∧ (x0 = 0 → Q (some (.int (32 : Int32))) σ))) :
    JE E d m_JIn_numberOfLeadingZeros 0 [(0, .int x0)] [] σ Q := by
  refine J_iload_n dc_JIn_numberOfLeadingZeros_0 (Eq.refl 1) 0 rfl ?_
  refine J_if_gt dc_JIn_numberOfLeadingZeros_1 (Eq.refl 4) rfl (fun hc => ?_) (fun hc => ?_)
  · have h := h.1 hc
    refine J_bipush (v := (31 : Int32)) dc_JIn_numberOfLeadingZeros_15 (Eq.refl 17) rfl ?_
    refine J_istore_n (L' := [(1, .int (31 : Int32)), (0, .int x0)]) dc_JIn_numberOfLeadingZeros_17 (Eq.refl 18) (Nat.le_of_ble_eq_true rfl) rfl ?_
    refine J_iload_n dc_JIn_numberOfLeadingZeros_18 (Eq.refl 19) 1 rfl ?_
    refine J_ldcw dc_JIn_numberOfLeadingZeros_19 (Eq.refl 22) kc_JIn_264 ?_
    refine J_icmp_lt dc_JIn_numberOfLeadingZeros_22 (Eq.refl 25) rfl (fun hc => ?_) (fun hc => ?_)
    · have h := h.1 hc
      refine J_sub [1, 0] rfl ?_
      exact h
    · have h := h.2 hc
      refine J_iinc (v := (31 : Int32) + (-16 : Int32)) (L' := [(1, .int ((31 : Int32) + (-16 : Int32))), (0, .int x0)]) dc_JIn_numberOfLeadingZeros_25 (Eq.refl 28) 0 rfl rfl (Nat.le_of_ble_eq_true rfl) rfl ?_
      refine J_iload_n dc_JIn_numberOfLeadingZeros_28 (Eq.refl 29) 1 rfl ?_
      refine J_bipush (v := (16 : Int32)) dc_JIn_numberOfLeadingZeros_29 (Eq.refl 31) rfl ?_
      refine J_iushr dc_JIn_numberOfLeadingZeros_31 (Eq.refl 32) ?_
      refine J_istore_n (L' := [(0, .int ((x0.toUInt32 >>> ((16 : Int32).toUInt32 &&& Int32.toUInt32 31)).toInt32)), (1, .int ((31 : Int32) + (-16 : Int32)))]) dc_JIn_numberOfLeadingZeros_32 (Eq.refl 33) (Nat.le_of_ble_eq_true rfl) rfl ?_
      exact h
  · have h := h.2 hc
    refine J_iload_n dc_JIn_numberOfLeadingZeros_4 (Eq.refl 5) 0 rfl ?_
    refine J_if_ne dc_JIn_numberOfLeadingZeros_5 (Eq.refl 8) rfl (fun hc => ?_) (fun hc => ?_)
    · have h := h.1 hc
      refine J_iconst (v := (0 : Int32)) dc_JIn_numberOfLeadingZeros_13 (Eq.refl 14) rfl ?_
      exact J_iret dc_JIn_numberOfLeadingZeros_14 rfl h
    · have h := h.2 hc
      refine J_bipush (v := (32 : Int32)) dc_JIn_numberOfLeadingZeros_8 (Eq.refl 10) rfl ?_
      refine J_goto dc_JIn_numberOfLeadingZeros_10 rfl ?_
      exact J_iret dc_JIn_numberOfLeadingZeros_14 rfl h
theorem b_JIn_numberOfLeadingZeros_33 {E : En_t} {d : Nat} {σ : S_t} {Q : Option Value → S_t → Prop} {x0 : Int32} {x1 : Int32}
    (h : (x0 < (256 : Int32) → JE E d m_JIn_numberOfLeadingZeros 48 [(0, .int x0), (1, .int x1)] [] σ Q) ∧ (¬ x0 < (256 : Int32) → JE E d m_JIn_numberOfLeadingZeros 48 [(0, .int ((x0.toUInt32 >>> ((8 : Int32).toUInt32 &&& Int32.toUInt32 31)).toInt32)), (1, .int (x1 + (-8 : Int32)))] [] σ Q)) :
    JE E d m_JIn_numberOfLeadingZeros 33 [(0, .int x0), (1, .int x1)] [] σ Q := by
  refine J_iload_n dc_JIn_numberOfLeadingZeros_33 (Eq.refl 34) 0 rfl ?_
  refine J_sipush (v := (256 : Int32)) dc_JIn_numberOfLeadingZeros_34 (Eq.refl 37) rfl ?_
  refine J_icmp_lt dc_JIn_numberOfLeadingZeros_37 (Eq.refl 40) rfl (fun hc => ?_) (fun hc => ?_)
  · have h := h.1 hc
    exact h
  · have h := h.2 hc
    refine J_iinc (v := x1 + (-8 : Int32)) (L' := [(1, .int (x1 + (-8 : Int32))), (0, .int x0)]) dc_JIn_numberOfLeadingZeros_40 (Eq.refl 43) 1 rfl rfl (Nat.le_of_ble_eq_true rfl) rfl ?_
    refine J_iload_n dc_JIn_numberOfLeadingZeros_43 (Eq.refl 44) 1 rfl ?_
    refine J_bipush (v := (8 : Int32)) dc_JIn_numberOfLeadingZeros_44 (Eq.refl 46) rfl ?_
    refine J_iushr dc_JIn_numberOfLeadingZeros_46 (Eq.refl 47) ?_
    refine J_istore_n (L' := [(0, .int ((x0.toUInt32 >>> ((8 : Int32).toUInt32 &&& Int32.toUInt32 31)).toInt32)), (1, .int (x1 + (-8 : Int32)))]) dc_JIn_numberOfLeadingZeros_47 (Eq.refl 48) (Nat.le_of_ble_eq_true rfl) rfl ?_
    exact h
theorem b_JIn_numberOfLeadingZeros_48 {E : En_t} {d : Nat} {σ : S_t} {Q : Option Value → S_t → Prop} {x0 : Int32} {x1 : Int32}
    (h : (x0 < (16 : Int32) → JE E d m_JIn_numberOfLeadingZeros 61 [(0, .int x0), (1, .int x1)] [] σ Q) ∧ (¬ x0 < (16 : Int32) → JE E d m_JIn_numberOfLeadingZeros 61 [(0, .int ((x0.toUInt32 >>> ((4 : Int32).toUInt32 &&& Int32.toUInt32 31)).toInt32)), (1, .int (x1 + (-4 : Int32)))] [] σ Q)) :
    JE E d m_JIn_numberOfLeadingZeros 48 [(0, .int x0), (1, .int x1)] [] σ Q := by
  refine J_iload_n dc_JIn_numberOfLeadingZeros_48 (Eq.refl 49) 0 rfl ?_
  refine J_bipush (v := (16 : Int32)) dc_JIn_numberOfLeadingZeros_49 (Eq.refl 51) rfl ?_
  refine J_icmp_lt dc_JIn_numberOfLeadingZeros_51 (Eq.refl 54) rfl (fun hc => ?_) (fun hc => ?_)
  · have h := h.1 hc
    exact h
  · have h := h.2 hc
    refine J_iinc (v := x1 + (-4 : Int32)) (L' := [(1, .int (x1 + (-4 : Int32))), (0, .int x0)]) dc_JIn_numberOfLeadingZeros_54 (Eq.refl 57) 1 rfl rfl (Nat.le_of_ble_eq_true rfl) rfl ?_
    refine J_iload_n dc_JIn_numberOfLeadingZeros_57 (Eq.refl 58) 1 rfl ?_
    refine J_iconst (v := (4 : Int32)) dc_JIn_numberOfLeadingZeros_58 (Eq.refl 59) rfl ?_
    refine J_iushr dc_JIn_numberOfLeadingZeros_59 (Eq.refl 60) ?_
    refine J_istore_n (L' := [(0, .int ((x0.toUInt32 >>> ((4 : Int32).toUInt32 &&& Int32.toUInt32 31)).toInt32)), (1, .int (x1 + (-4 : Int32)))]) dc_JIn_numberOfLeadingZeros_60 (Eq.refl 61) (Nat.le_of_ble_eq_true rfl) rfl ?_
    exact h
theorem b_JIn_numberOfLeadingZeros_61 {E : En_t} {d : Nat} {σ : S_t} {Q : Option Value → S_t → Prop} {x0 : Int32} {x1 : Int32}
    (h : (x0 < (4 : Int32) → Q (some (.int (x1 - ((x0.toUInt32 >>> ((1 : Int32).toUInt32 &&& Int32.toUInt32 31)).toInt32)))) σ) ∧ (¬ x0 < (4 : Int32) → ∀ v1, v1 = (((x0.toUInt32 >>> ((2 : Int32).toUInt32 &&& Int32.toUInt32 31)).toInt32).toUInt32 >>> ((1 : Int32).toUInt32 &&& Int32.toUInt32 31)).toInt32 → (Q (some (.int ((x1 + (-2 : Int32)) - v1))) σ))) :
    JE E d m_JIn_numberOfLeadingZeros 61 [(0, .int x0), (1, .int x1)] [] σ Q := by
  refine J_iload_n dc_JIn_numberOfLeadingZeros_61 (Eq.refl 62) 0 rfl ?_
  refine J_iconst (v := (4 : Int32)) dc_JIn_numberOfLeadingZeros_62 (Eq.refl 63) rfl ?_
  refine J_icmp_lt dc_JIn_numberOfLeadingZeros_63 (Eq.refl 66) rfl (fun hc => ?_) (fun hc => ?_)
  · have h := h.1 hc
    refine J_iload_n dc_JIn_numberOfLeadingZeros_73 (Eq.refl 74) 1 rfl ?_
    refine J_iload_n dc_JIn_numberOfLeadingZeros_74 (Eq.refl 75) 0 rfl ?_
    refine J_iconst (v := (1 : Int32)) dc_JIn_numberOfLeadingZeros_75 (Eq.refl 76) rfl ?_
    refine J_iushr dc_JIn_numberOfLeadingZeros_76 (Eq.refl 77) ?_
    refine J_isub dc_JIn_numberOfLeadingZeros_77 (Eq.refl 78) ?_
    exact J_iret dc_JIn_numberOfLeadingZeros_78 rfl h
  · have h := h.2 hc
    refine J_iinc (v := x1 + (-2 : Int32)) (L' := [(1, .int (x1 + (-2 : Int32))), (0, .int x0)]) dc_JIn_numberOfLeadingZeros_66 (Eq.refl 69) 1 rfl rfl (Nat.le_of_ble_eq_true rfl) rfl ?_
    refine J_iload_n dc_JIn_numberOfLeadingZeros_69 (Eq.refl 70) 1 rfl ?_
    refine J_iconst (v := (2 : Int32)) dc_JIn_numberOfLeadingZeros_70 (Eq.refl 71) rfl ?_
    refine J_iushr dc_JIn_numberOfLeadingZeros_71 (Eq.refl 72) ?_
    refine J_istore_n (L' := [(0, .int ((x0.toUInt32 >>> ((2 : Int32).toUInt32 &&& Int32.toUInt32 31)).toInt32)), (1, .int (x1 + (-2 : Int32)))]) dc_JIn_numberOfLeadingZeros_72 (Eq.refl 73) (Nat.le_of_ble_eq_true rfl) rfl ?_
    refine J_iload_n dc_JIn_numberOfLeadingZeros_73 (Eq.refl 74) 1 rfl ?_
    refine J_iload_n dc_JIn_numberOfLeadingZeros_74 (Eq.refl 75) 0 rfl ?_
    refine J_iconst (v := (1 : Int32)) dc_JIn_numberOfLeadingZeros_75 (Eq.refl 76) rfl ?_
    refine J_iushr dc_JIn_numberOfLeadingZeros_76 (Eq.refl 77) ?_
    refine J_topi (fun v1 ev1 => ?_)
    have h := h v1 ev1
    refine J_isub dc_JIn_numberOfLeadingZeros_77 (Eq.refl 78) ?_
    exact J_iret dc_JIn_numberOfLeadingZeros_78 rfl h
theorem dc_JIn_numberOfTrailingZeros_0 : decode m_JIn_numberOfTrailingZeros.2.1 0 = .ok (.iload_n 0, 1) := by decide +kernel
theorem dc_JIn_numberOfTrailingZeros_1 : decode m_JIn_numberOfTrailingZeros.2.1 1 = .ok (.iconst (-1), 1) := by decide +kernel
theorem dc_JIn_numberOfTrailingZeros_2 : decode m_JIn_numberOfTrailingZeros.2.1 2 = .ok (.ixor, 1) := by decide +kernel
theorem dc_JIn_numberOfTrailingZeros_3 : decode m_JIn_numberOfTrailingZeros.2.1 3 = .ok (.iload_n 0, 1) := by decide +kernel
theorem dc_JIn_numberOfTrailingZeros_4 : decode m_JIn_numberOfTrailingZeros.2.1 4 = .ok (.iconst 1, 1) := by decide +kernel
theorem dc_JIn_numberOfTrailingZeros_5 : decode m_JIn_numberOfTrailingZeros.2.1 5 = .ok (.isub, 1) := by decide +kernel
theorem dc_JIn_numberOfTrailingZeros_6 : decode m_JIn_numberOfTrailingZeros.2.1 6 = .ok (.iand, 1) := by decide +kernel
theorem dc_JIn_numberOfTrailingZeros_7 : decode m_JIn_numberOfTrailingZeros.2.1 7 = .ok (.istore_n 0, 1) := by decide +kernel
theorem dc_JIn_numberOfTrailingZeros_8 : decode m_JIn_numberOfTrailingZeros.2.1 8 = .ok (.iload_n 0, 1) := by decide +kernel
theorem dc_JIn_numberOfTrailingZeros_9 : decode m_JIn_numberOfTrailingZeros.2.1 9 = .ok (.ifCond .gt 8, 3) := by decide +kernel
theorem dc_JIn_numberOfTrailingZeros_12 : decode m_JIn_numberOfTrailingZeros.2.1 12 = .ok (.iload_n 0, 1) := by decide +kernel
theorem dc_JIn_numberOfTrailingZeros_13 : decode m_JIn_numberOfTrailingZeros.2.1 13 = .ok (.bipush 32, 2) := by decide +kernel
theorem dc_JIn_numberOfTrailingZeros_15 : decode m_JIn_numberOfTrailingZeros.2.1 15 = .ok (.iand, 1) := by decide +kernel
theorem dc_JIn_numberOfTrailingZeros_16 : decode m_JIn_numberOfTrailingZeros.2.1 16 = .ok (.ireturn, 1) := by decide +kernel
theorem dc_JIn_numberOfTrailingZeros_17 : decode m_JIn_numberOfTrailingZeros.2.1 17 = .ok (.iconst 1, 1) := by decide +kernel
theorem dc_JIn_numberOfTrailingZeros_18 : decode m_JIn_numberOfTrailingZeros.2.1 18 = .ok (.istore_n 1, 1) := by decide +kernel
theorem dc_JIn_numberOfTrailingZeros_19 : decode m_JIn_numberOfTrailingZeros.2.1 19 = .ok (.iload_n 0, 1) := by decide +kernel
theorem dc_JIn_numberOfTrailingZeros_20 : decode m_JIn_numberOfTrailingZeros.2.1 20 = .ok (.ldc_w 264, 3) := by decide +kernel
theorem dc_JIn_numberOfTrailingZeros_23 : decode m_JIn_numberOfTrailingZeros.2.1 23 = .ok (.if_icmp .le 11, 3) := by decide +kernel
theorem dc_JIn_numberOfTrailingZeros_26 : decode m_JIn_numberOfTrailingZeros.2.1 26 = .ok (.iinc 1 16, 3) := by decide +kernel
theorem dc_JIn_numberOfTrailingZeros_29 : decode m_JIn_numberOfTrailingZeros.2.1 29 = .ok (.iload_n 0, 1) := by decide +kernel
theorem dc_JIn_numberOfTrailingZeros_30 : decode m_JIn_numberOfTrailingZeros.2.1 30 = .ok (.bipush 16, 2) := by decide +kernel
theorem dc_JIn_numberOfTrailingZeros_32 : decode m_JIn_numberOfTrailingZeros.2.1 32 = .ok (.iushr, 1) := by decide +kernel
theorem dc_JIn_numberOfTrailingZeros_33 : decode m_JIn_numberOfTrailingZeros.2.1 33 = .ok (.istore_n 0, 1) := by decide +kernel
theorem dc_JIn_numberOfTrailingZeros_34 : decode m_JIn_numberOfTrailingZeros.2.1 34 = .ok (.iload_n 0, 1) := by decide +kernel
theorem dc_JIn_numberOfTrailingZeros_35 : decode m_JIn_numberOfTrailingZeros.2.1 35 = .ok (.sipush 256, 3) := by decide +kernel
theorem dc_JIn_numberOfTrailingZeros_38 : decode m_JIn_numberOfTrailingZeros.2.1 38 = .ok (.if_icmp .le 11, 3) := by decide +kernel
theorem dc_JIn_numberOfTrailingZeros_41 : decode m_JIn_numberOfTrailingZeros.2.1 41 = .ok (.iinc 1 8, 3) := by decide +kernel
theorem dc_JIn_numberOfTrailingZeros_44 : decode m_JIn_numberOfTrailingZeros.2.1 44 = .ok (.iload_n 0, 1) := by decide +kernel
theorem dc_JIn_numberOfTrailingZeros_45 : decode m_JIn_numberOfTrailingZeros.2.1 45 = .ok (.bipush 8, 2) := by decide +kernel
theorem dc_JIn_numberOfTrailingZeros_47 : decode m_JIn_numberOfTrailingZeros.2.1 47 = .ok (.iushr, 1) := by decide +kernel
theorem dc_JIn_numberOfTrailingZeros_48 : decode m_JIn_numberOfTrailingZeros.2.1 48 = .ok (.istore_n 0, 1) := by decide +kernel
theorem dc_JIn_numberOfTrailingZeros_49 : decode m_JIn_numberOfTrailingZeros.2.1 49 = .ok (.iload_n 0, 1) := by decide +kernel
theorem dc_JIn_numberOfTrailingZeros_50 : decode m_JIn_numberOfTrailingZeros.2.1 50 = .ok (.bipush 16, 2) := by decide +kernel
theorem dc_JIn_numberOfTrailingZeros_52 : decode m_JIn_numberOfTrailingZeros.2.1 52 = .ok (.if_icmp .le 10, 3) := by decide +kernel
theorem dc_JIn_numberOfTrailingZeros_55 : decode m_JIn_numberOfTrailingZeros.2.1 55 = .ok (.iinc 1 4, 3) := by decide +kernel
theorem dc_JIn_numberOfTrailingZeros_58 : decode m_JIn_numberOfTrailingZeros.2.1 58 = .ok (.iload_n 0, 1) := by decide +kernel
theorem dc_JIn_numberOfTrailingZeros_59 : decode m_JIn_numberOfTrailingZeros.2.1 59 = .ok (.iconst 4, 1) := by decide +kernel
theorem dc_JIn_numberOfTrailingZeros_60 : decode m_JIn_numberOfTrailingZeros.2.1 60 = .ok (.iushr, 1) := by decide +kernel
theorem dc_JIn_numberOfTrailingZeros_61 : decode m_JIn_numberOfTrailingZeros.2.1 61 = .ok (.istore_n 0, 1) := by decide +kernel
theorem dc_JIn_numberOfTrailingZeros_62 : decode m_JIn_numberOfTrailingZeros.2.1 62 = .ok (.iload_n 0, 1) := by decide +kernel
theorem dc_JIn_numberOfTrailingZeros_63 : decode m_JIn_numberOfTrailingZeros.2.1 63 = .ok (.iconst 4, 1) := by decide +kernel
theorem dc_JIn_numberOfTrailingZeros_64 : decode m_JIn_numberOfTrailingZeros.2.1 64 = .ok (.if_icmp .le 10, 3) := by decide +kernel
theorem dc_JIn_numberOfTrailingZeros_67 : decode m_JIn_numberOfTrailingZeros.2.1 67 = .ok (.iinc 1 2, 3) := by decide +kernel
theorem dc_JIn_numberOfTrailingZeros_70 : decode m_JIn_numberOfTrailingZeros.2.1 70 = .ok (.iload_n 0, 1) := by decide +kernel
theorem dc_JIn_numberOfTrailingZeros_71 : decode m_JIn_numberOfTrailingZeros.2.1 71 = .ok (.iconst 2, 1) := by decide +kernel
theorem dc_JIn_numberOfTrailingZeros_72 : decode m_JIn_numberOfTrailingZeros.2.1 72 = .ok (.iushr, 1) := by decide +kernel
theorem dc_JIn_numberOfTrailingZeros_73 : decode m_JIn_numberOfTrailingZeros.2.1 73 = .ok (.istore_n 0, 1) := by decide +kernel
theorem dc_JIn_numberOfTrailingZeros_74 : decode m_JIn_numberOfTrailingZeros.2.1 74 = .ok (.iload_n 1, 1) := by decide +kernel
theorem dc_JIn_numberOfTrailingZeros_75 : decode m_JIn_numberOfTrailingZeros.2.1 75 = .ok (.iload_n 0, 1) := by decide +kernel
theorem dc_JIn_numberOfTrailingZeros_76 : decode m_JIn_numberOfTrailingZeros.2.1 76 = .ok (.iconst 1, 1) := by decide +kernel
theorem dc_JIn_numberOfTrailingZeros_77 : decode m_JIn_numberOfTrailingZeros.2.1 77 = .ok (.iushr, 1) := by decide +kernel
theorem dc_JIn_numberOfTrailingZeros_78 : decode m_JIn_numberOfTrailingZeros.2.1 78 = .ok (.iadd, 1) := by decide +kernel
theorem dc_JIn_numberOfTrailingZeros_79 : decode m_JIn_numberOfTrailingZeros.2.1 79 = .ok (.ireturn, 1) := by decide +kernel
theorem b_JIn_numberOfTrailingZeros_0 {E : En_t} {d : Nat} {σ : S_t} {Q : Option Value → S_t → Prop} {x0 : Int32}
    (h : (0 < ((x0 ^^^ (-1 : Int32)) &&& (x0 - (1 : Int32))) → (((x0 ^^^ (-1 : Int32)) &&& (x0 - (1 : Int32))) ≤ (65536 : Int32) → JE E d m_JIn_numberOfTrailingZeros 34 [(0, .int ((x0 ^^^ (-1 : Int32)) &&& (x0 - (1 : Int32)))), (1, .int (1 : Int32))] [] σ Q) ∧ (¬ ((x0 ^^^ (-1 : Int32)) &&& (x0 - (1 : Int32))) ≤ (65536 : Int32) → ∀ v1, v1 = (((x0 ^^^ (-1 : Int32)) &&& (x0 - (1 : Int32))).toUInt32 >>> ((16 : Int32).toUInt32 &&& Int32.toUInt32 31)).toInt32 → (JE E d m_JIn_numberOfTrailingZeros 34 [(0, .int v1), (1, .int ((1 : Int32) + (16 : Int32)))] [] σ Q))) ∧ (¬ 0 < ((x0 ^^^ (-1 : Int32)) &&& (x0 - (1 : Int32))) → Q (some (.int (((x0 ^^^ (-1 : Int32)) &&& (x0 - (1 : Int32))) &&& (32 : Int32)))) σ)) :
    JE E d m_JIn_numberOfTrailingZeros 0 [(0, .int x0)] [] σ Q := by
  refine J_iload_n dc_JIn_numberOfTrailingZeros_0 (Eq.refl 1) 0 rfl ?_
  refine J_iconst (v := (-1 : Int32)) dc_JIn_numberOfTrailingZeros_1 (Eq.refl 2) rfl ?_
  refine J_ixor dc_JIn_numberOfTrailingZeros_2 (Eq.refl 3) ?_
  refine J_iload_n dc_JIn_numberOfTrailingZeros_3 (Eq.refl 4) 0 rfl ?_
  refine J_iconst (v := (1 : Int32)) dc_JIn_numberOfTrailingZeros_4 (Eq.refl 5) rfl ?_
  refine J_isub dc_JIn_numberOfTrailingZeros_5 (Eq.refl 6) ?_
  refine J_iand dc_JIn_numberOfTrailingZeros_6 (Eq.refl 7) ?_
  refine J_istore_n (L' := [(0, .int ((x0 ^^^ (-1 : Int32)) &&& (x0 - (1 : Int32))))]) dc_JIn_numberOfTrailingZeros_7 (Eq.refl 8) (Nat.le_of_ble_eq_true rfl) rfl ?_
  refine J_iload_n dc_JIn_numberOfTrailingZeros_8 (Eq.refl 9) 0 rfl ?_
  refine J_if_gt dc_JIn_numberOfTrailingZeros_9 (Eq.refl 12) rfl (fun hc => ?_) (fun hc => ?_)
  · have h := h.1 hc
    refine J_iconst (v := (1 : Int32)) dc_JIn_numberOfTrailingZeros_17 (Eq.refl 18) rfl ?_
    refine J_istore_n (L' := [(1, .int (1 : Int32)), (0, .int ((x0 ^^^ (-1 : Int32)) &&& (x0 - (1 : Int32))))]) dc_JIn_numberOfTrailingZeros_18 (Eq.refl 19) (Nat.le_of_ble_eq_true rfl) rfl ?_
    refine J_iload_n dc_JIn_numberOfTrailingZeros_19 (Eq.refl 20) 1 rfl ?_
    refine J_ldcw dc_JIn_numberOfTrailingZeros_20 (Eq.refl 23) kc_JIn_264 ?_
    refine J_icmp_le dc_JIn_numberOfTrailingZeros_23 (Eq.refl 26) rfl (fun hc => ?_) (fun hc => ?_)
    · have h := h.1 hc
      refine J_sub [1, 0] rfl ?_
      exact h
    · have h := h.2 hc
      refine J_iinc (v := (1 : Int32) + (16 : Int32)) (L' := [(1, .int ((1 : Int32) + (16 : Int32))), (0, .int ((x0 ^^^ (-1 : Int32)) &&& (x0 - (1 : Int32))))]) dc_JIn_numberOfTrailingZeros_26 (Eq.refl 29) 0 rfl rfl (Nat.le_of_ble_eq_true rfl) rfl ?_
      refine J_iload_n dc_JIn_numberOfTrailingZeros_29 (Eq.refl 30) 1 rfl ?_
      refine J_bipush (v := (16 : Int32)) dc_JIn_numberOfTrailingZeros_30 (Eq.refl 32) rfl ?_
      refine J_iushr dc_JIn_numberOfTrailingZeros_32 (Eq.refl 33) ?_
      refine J_topi (fun v1 ev1 => ?_)
      have h := h v1 ev1
      refine J_istore_n (L' := [(0, .int v1), (1, .int ((1 : Int32) + (16 : Int32)))]) dc_JIn_numberOfTrailingZeros_33 (Eq.refl 34) (Nat.le_of_ble_eq_true rfl) rfl ?_
      exact h
  · have h := h.2 hc
    refine J_iload_n dc_JIn_numberOfTrailingZeros_12 (Eq.refl 13) 0 rfl ?_
    refine J_bipush (v := (32 : Int32)) dc_JIn_numberOfTrailingZeros_13 (Eq.refl 15) rfl ?_
    refine J_iand dc_JIn_numberOfTrailingZeros_15 (Eq.refl 16) ?_
    exact J_iret dc_JIn_numberOfTrailingZeros_16 rfl h
theorem b_JIn_numberOfTrailingZeros_34 {E : En_t} {d : Nat} {σ : S_t} {Q : Option Value → S_t → Prop} {x0 : Int32} {x1 : Int32}
    (h : (x0 ≤ (256 : Int32) → JE E d m_JIn_numberOfTrailingZeros 49 [(0, .int x0), (1, .int x1)] [] σ Q) ∧ (¬ x0 ≤ (256 : Int32) → JE E d m_JIn_numberOfTrailingZeros 49 [(0, .int ((x0.toUInt32 >>> ((8 : Int32).toUInt32 &&& Int32.toUInt32 31)).toInt32)), (1, .int (x1 + (8 : Int32)))] [] σ Q)) :
    JE E d m_JIn_numberOfTrailingZeros 34 [(0, .int x0), (1, .int x1)] [] σ Q := by
  refine J_iload_n dc_JIn_numberOfTrailingZeros_34 (Eq.refl 35) 0 rfl ?_
  refine J_sipush (v := (256 : Int32)) dc_JIn_numberOfTrailingZeros_35 (Eq.refl 38) rfl ?_
  refine J_icmp_le dc_JIn_numberOfTrailingZeros_38 (Eq.refl 41) rfl (fun hc => ?_) (fun hc => ?_)
  · have h := h.1 hc
    exact h
  · have h := h.2 hc
    refine J_iinc (v := x1 + (8 : Int32)) (L' := [(1, .int (x1 + (8 : Int32))), (0, .int x0)]) dc_JIn_numberOfTrailingZeros_41 (Eq.refl 44) 1 rfl rfl (Nat.le_of_ble_eq_true rfl) rfl ?_
    refine J_iload_n dc_JIn_numberOfTrailingZeros_44 (Eq.refl 45) 1 rfl ?_
    refine J_bipush (v := (8 : Int32)) dc_JIn_numberOfTrailingZeros_45 (Eq.refl 47) rfl ?_
    refine J_iushr dc_JIn_numberOfTrailingZeros_47 (Eq.refl 48) ?_
    refine J_istore_n (L' := [(0, .int ((x0.toUInt32 >>> ((8 : Int32).toUInt32 &&& Int32.toUInt32 31)).toInt32)), (1, .int (x1 + (8 : Int32)))]) dc_JIn_numberOfTrailingZeros_48 (Eq.refl 49) (Nat.le_of_ble_eq_true rfl) rfl ?_
    exact h
theorem b_JIn_numberOfTrailingZeros_49 {E : En_t} {d : Nat} {σ : S_t} {Q : Option Value → S_t → Prop} {x0 : Int32} {x1 : Int32}
    (h : (x0 ≤ (16 : Int32) → JE E d m_JIn_numberOfTrailingZeros 62 [(0, .int x0), (1, .int x1)] [] σ Q) ∧ (¬ x0 ≤ (16 : Int32) → JE E d m_JIn_numberOfTrailingZeros 62 [(0, .int ((x0.toUInt32 >>> ((4 : Int32).toUInt32 &&& Int32.toUInt32 31)).toInt32)), (1, .int (x1 + (4 : Int32)))] [] σ Q)) :
    JE E d m_JIn_numberOfTrailingZeros 49 [(0, .int x0), (1, .int x1)] [] σ Q := by
  refine J_iload_n dc_JIn_numberOfTrailingZeros_49 (Eq.refl 50) 0 rfl ?_
  refine J_bipush (v := (16 : Int32)) dc_JIn_numberOfTrailingZeros_50 (Eq.refl 52) rfl ?_
  refine J_icmp_le dc_JIn_numberOfTrailingZeros_52 (Eq.refl 55) rfl (fun hc => ?_) (fun hc => ?_)
  · have h := h.1 hc
    exact h
  · have h := h.2 hc
    refine J_iinc (v := x1 + (4 : Int32)) (L' := [(1, .int (x1 + (4 : Int32))), (0, .int x0)]) dc_JIn_numberOfTrailingZeros_55 (Eq.refl 58) 1 rfl rfl (Nat.le_of_ble_eq_true rfl) rfl ?_
    refine J_iload_n dc_JIn_numberOfTrailingZeros_58 (Eq.refl 59) 1 rfl ?_
    refine J_iconst (v := (4 : Int32)) dc_JIn_numberOfTrailingZeros_59 (Eq.refl 60) rfl ?_
    refine J_iushr dc_JIn_numberOfTrailingZeros_60 (Eq.refl 61) ?_
    refine J_istore_n (L' := [(0, .int ((x0.toUInt32 >>> ((4 : Int32).toUInt32 &&& Int32.toUInt32 31)).toInt32)), (1, .int (x1 + (4 : Int32)))]) dc_JIn_numberOfTrailingZeros_61 (Eq.refl 62) (Nat.le_of_ble_eq_true rfl) rfl ?_
    exact h
theorem b_JIn_numberOfTrailingZeros_62 {E : En_t} {d : Nat} {σ : S_t} {Q : Option Value → S_t → Prop} {x0 : Int32} {x1 : Int32}
    (h : (x0 ≤ (4 : Int32) → Q (some (.int (x1 + ((x0.toUInt32 >>> ((1 : Int32).toUInt32 &&& Int32.toUInt32 31)).toInt32)))) σ) ∧ (¬ x0 ≤ (4 : Int32) → ∀ v1, v1 = (((x0.toUInt32 >>> ((2 : Int32).toUInt32 &&& Int32.toUInt32 31)).toInt32).toUInt32 >>> ((1 : Int32).toUInt32 &&& Int32.toUInt32 31)).toInt32 → (Q (some (.int ((x1 + (2 : Int32)) + v1))) σ))) :
    JE E d m_JIn_numberOfTrailingZeros 62 [(0, .int x0), (1, .int x1)] [] σ Q := by
  refine J_iload_n dc_JIn_numberOfTrailingZeros_62 (Eq.refl 63) 0 rfl ?_
  refine J_iconst (v := (4 : Int32)) dc_JIn_numberOfTrailingZeros_63 (Eq.refl 64) rfl ?_
  refine J_icmp_le dc_JIn_numberOfTrailingZeros_64 (Eq.refl 67) rfl (fun hc => ?_) (fun hc => ?_)
  · have h := h.1 hc
    refine J_iload_n dc_JIn_numberOfTrailingZeros_74 (Eq.refl 75) 1 rfl ?_
    refine J_iload_n dc_JIn_numberOfTrailingZeros_75 (Eq.refl 76) 0 rfl ?_
    refine J_iconst (v := (1 : Int32)) dc_JIn_numberOfTrailingZeros_76 (Eq.refl 77) rfl ?_
    refine J_iushr dc_JIn_numberOfTrailingZeros_77 (Eq.refl 78) ?_
    refine J_iadd dc_JIn_numberOfTrailingZeros_78 (Eq.refl 79) ?_
    exact J_iret dc_JIn_numberOfTrailingZeros_79 rfl h
  · have h := h.2 hc
    refine J_iinc (v := x1 + (2 : Int32)) (L' := [(1, .int (x1 + (2 : Int32))), (0, .int x0)]) dc_JIn_numberOfTrailingZeros_67 (Eq.refl 70) 1 rfl rfl (Nat.le_of_ble_eq_true rfl) rfl ?_
    refine J_iload_n dc_JIn_numberOfTrailingZeros_70 (Eq.refl 71) 1 rfl ?_
    refine J_iconst (v := (2 : Int32)) dc_JIn_numberOfTrailingZeros_71 (Eq.refl 72) rfl ?_
    refine J_iushr dc_JIn_numberOfTrailingZeros_72 (Eq.refl 73) ?_
    refine J_istore_n (L' := [(0, .int ((x0.toUInt32 >>> ((2 : Int32).toUInt32 &&& Int32.toUInt32 31)).toInt32)), (1, .int (x1 + (2 : Int32)))]) dc_JIn_numberOfTrailingZeros_73 (Eq.refl 74) (Nat.le_of_ble_eq_true rfl) rfl ?_
    refine J_iload_n dc_JIn_numberOfTrailingZeros_74 (Eq.refl 75) 1 rfl ?_
    refine J_iload_n dc_JIn_numberOfTrailingZeros_75 (Eq.refl 76) 0 rfl ?_
    refine J_iconst (v := (1 : Int32)) dc_JIn_numberOfTrailingZeros_76 (Eq.refl 77) rfl ?_
    refine J_iushr dc_JIn_numberOfTrailingZeros_77 (Eq.refl 78) ?_
    refine J_topi (fun v1 ev1 => ?_)
    have h := h v1 ev1
    refine J_iadd dc_JIn_numberOfTrailingZeros_78 (Eq.refl 79) ?_
    exact J_iret dc_JIn_numberOfTrailingZeros_79 rfl h
theorem dc_JIn_compare_0 : decode m_JIn_compare.2.1 0 = .ok (.iload_n 0, 1) := by decide +kernel
theorem dc_JIn_compare_1 : decode m_JIn_compare.2.1 1 = .ok (.iload_n 1, 1) := by decide +kernel
theorem dc_JIn_compare_2 : decode m_JIn_compare.2.1 2 = .ok (.if_icmp .ge 7, 3) := by decide +kernel
theorem dc_JIn_compare_5 : decode m_JIn_compare.2.1 5 = .ok (.iconst (-1), 1) := by decide +kernel
theorem dc_JIn_compare_6 : decode m_JIn_compare.2.1 6 = .ok (.goto 13, 3) := by decide +kernel
theorem dc_JIn_compare_9 : decode m_JIn_compare.2.1 9 = .ok (.iload_n 0, 1) := by decide +kernel
theorem dc_JIn_compare_10 : decode m_JIn_compare.2.1 10 = .ok (.iload_n 1, 1) := by decide +kernel
theorem dc_JIn_compare_11 : decode m_JIn_compare.2.1 11 = .ok (.if_icmp .ne 7, 3) := by decide +kernel
theorem dc_JIn_compare_14 : decode m_JIn_compare.2.1 14 = .ok (.iconst 0, 1) := by decide +kernel
theorem dc_JIn_compare_15 : decode m_JIn_compare.2.1 15 = .ok (.goto 4, 3) := by decide +kernel
theorem dc_JIn_compare_18 : decode m_JIn_compare.2.1 18 = .ok (.iconst 1, 1) := by decide +kernel
theorem dc_JIn_compare_19 : decode m_JIn_compare.2.1 19 = .ok (.ireturn, 1) := by decide +kernel
theorem b_JIn_compare_0 {E : En_t} {d : Nat} {σ : S_t} {Q : Option Value → S_t → Prop} {x0 : Int32} {x1 : Int32}
    (h : (x1 ≤ x0 → (¬ x0 = x1 → Q (some (.int (1 : Int32))) σ) ∧ (x0 = x1 → Q (some (.int (0 : Int32))) σ)) ∧ (¬ x1 ≤ x0 → Q (some (.int (-1 : Int32))) σ)) :
    JE E d m_JIn_compare 0 [(0, .int x0), (1, .int x1)] [] σ Q := by
  refine J_iload_n dc_JIn_compare_0 (Eq.refl 1) 0 rfl ?_
  refine J_iload_n dc_JIn_compare_1 (Eq.refl 2) 1 rfl ?_
  refine J_icmp_ge dc_JIn_compare_2 (Eq.refl 5) rfl (fun hc => ?_) (fun hc => ?_)
  · have h := h.1 hc
    refine J_iload_n dc_JIn_compare_9 (Eq.refl 10) 0 rfl ?_
    refine J_iload_n dc_JIn_compare_10 (Eq.refl 11) 1 rfl ?_
    refine J_icmp_ne dc_JIn_compare_11 (Eq.refl 14) rfl (fun hc => ?_) (fun hc => ?_)
    · have h := h.1 hc
      refine J_iconst (v := (1 : Int32)) dc_JIn_compare_18 (Eq.refl 19) rfl ?_
      exact J_iret dc_JIn_compare_19 rfl h
    · have h := h.2 hc
      refine J_iconst (v := (0 : Int32)) dc_JIn_compare_14 (Eq.refl 15) rfl ?_
      refine J_goto dc_JIn_compare_15 rfl ?_
      exact J_iret dc_JIn_compare_19 rfl h
  · have h := h.2 hc
    refine J_iconst (v := (-1 : Int32)) dc_JIn_compare_5 (Eq.refl 6) rfl ?_
    refine J_goto dc_JIn_compare_6 rfl ?_
    exact J_iret dc_JIn_compare_19 rfl h
theorem dc_JLo_numberOfLeadingZeros_0 : decode m_JLo_numberOfLeadingZeros.2.1 0 = .ok (.lload_n 0, 1) := by decide +kernel
theorem dc_JLo_numberOfLeadingZeros_1 : decode m_JLo_numberOfLeadingZeros.2.1 1 = .ok (.bipush 32, 2) := by decide +kernel
theorem dc_JLo_numberOfLeadingZeros_3 : decode m_JLo_numberOfLeadingZeros.2.1 3 = .ok (.lushr, 1) := by decide +kernel
theorem dc_JLo_numberOfLeadingZeros_4 : decode m_JLo_numberOfLeadingZeros.2.1 4 = .ok (.l2i, 1) := by decide +kernel
theorem dc_JLo_numberOfLeadingZeros_5 : decode m_JLo_numberOfLeadingZeros.2.1 5 = .ok (.istore_n 2, 1) := by decide +kernel
theorem dc_JLo_numberOfLeadingZeros_6 : decode m_JLo_numberOfLeadingZeros.2.1 6 = .ok (.iload_n 2, 1) := by decide +kernel
theorem dc_JLo_numberOfLeadingZeros_7 : decode m_JLo_numberOfLeadingZeros.2.1 7 = .ok (.ifCond .ne 14, 3) := by decide +kernel
theorem dc_JLo_numberOfLeadingZeros_10 : decode m_JLo_numberOfLeadingZeros.2.1 10 = .ok (.bipush 32, 2) := by decide +kernel
theorem dc_JLo_numberOfLeadingZeros_12 : decode m_JLo_numberOfLeadingZeros.2.1 12 = .ok (.lload_n 0, 1) := by decide +kernel
theorem dc_JLo_numberOfLeadingZeros_13 : decode m_JLo_numberOfLeadingZeros.2.1 13 = .ok (.l2i, 1) := by decide +kernel
theorem dc_JLo_numberOfLeadingZeros_14 : decode m_JLo_numberOfLeadingZeros.2.1 14 = .ok (.invokestatic 308, 3) := by decide +kernel
theorem dc_JLo_numberOfLeadingZeros_17 : decode m_JLo_numberOfLeadingZeros.2.1 17 = .ok (.iadd, 1) := by decide +kernel
theorem dc_JLo_numberOfLeadingZeros_18 : decode m_JLo_numberOfLeadingZeros.2.1 18 = .ok (.goto 7, 3) := by decide +kernel
theorem dc_JLo_numberOfLeadingZeros_21 : decode m_JLo_numberOfLeadingZeros.2.1 21 = .ok (.iload_n 2, 1) := by decide +kernel
theorem dc_JLo_numberOfLeadingZeros_22 : decode m_JLo_numberOfLeadingZeros.2.1 22 = .ok (.invokestatic 308, 3) := by decide +kernel
theorem dc_JLo_numberOfLeadingZeros_25 : decode m_JLo_numberOfLeadingZeros.2.1 25 = .ok (.ireturn, 1) := by decide +kernel
theorem b_JLo_numberOfLeadingZeros_0 {E : En_t} {d : Nat} {σ : S_t} {Q : Option Value → S_t → Prop} {x0 : Int64}
    (h : (¬ (((x0.toUInt64 >>> ((32 : Int32).toInt64.toUInt64 &&& Int64.toUInt64 63)).toInt64).toInt32) = 0 → CI E d m_JIn_numberOfLeadingZeros [.int (((x0.toUInt64 >>> ((32 : Int32).toInt64.toUInt64 &&& Int64.toUInt64 63)).toInt64).toInt32)] σ (fun r2 σ1 => Q (some (.int r2)) σ1)) ∧ ((((x0.toUInt64 >>> ((32 : Int32).toInt64.toUInt64 &&& Int64.toUInt64 63)).toInt64).toInt32) = 0 → CI E d m_JIn_numberOfLeadingZeros [.int x0.toInt32] σ (fun r4 σ3 => Q (some (.int ((32 : Int32) + r4))) σ3))) :
    JE E (d + 1) m_JLo_numberOfLeadingZeros 0 [(0, .long x0)] [] σ Q := by
  refine J_lload_n dc_JLo_numberOfLeadingZeros_0 (Eq.refl 1) 0 rfl ?_
  refine J_bipush (v := (32 : Int32)) dc_JLo_numberOfLeadingZeros_1 (Eq.refl 3) rfl ?_
  refine J_lushr dc_JLo_numberOfLeadingZeros_3 (Eq.refl 4) ?_
  refine J_l2i dc_JLo_numberOfLeadingZeros_4 (Eq.refl 5) ?_
  refine J_istore_n (L' := [(2, .int (((x0.toUInt64 >>> ((32 : Int32).toInt64.toUInt64 &&& Int64.toUInt64 63)).toInt64).toInt32)), (0, .long x0)]) dc_JLo_numberOfLeadingZeros_5 (Eq.refl 6) (Nat.le_of_ble_eq_true rfl) rfl ?_
  refine J_iload_n dc_JLo_numberOfLeadingZeros_6 (Eq.refl 7) 0 rfl ?_
  refine J_if_ne dc_JLo_numberOfLeadingZeros_7 (Eq.refl 10) rfl (fun hc => ?_) (fun hc => ?_)
  · have h := h.1 hc
    refine J_iload_n dc_JLo_numberOfLeadingZeros_21 (Eq.refl 22) 0 rfl ?_
    refine J_callSI (As := [.int (((x0.toUInt64 >>> ((32 : Int32).toInt64.toUInt64 &&& Int64.toUInt64 63)).toInt64).toInt32)]) (st := []) dc_JLo_numberOfLeadingZeros_22 (Eq.refl 25) lk_JLo_308 mi_JIn_numberOfLeadingZeros (Nat.le_of_ble_eq_true rfl) rfl (Nat.le_of_ble_eq_true rfl) (CI.mono h (fun r2 σ1 h => ?_))
    exact J_iret dc_JLo_numberOfLeadingZeros_25 rfl h
  · have h := h.2 hc
    refine J_bipush (v := (32 : Int32)) dc_JLo_numberOfLeadingZeros_10 (Eq.refl 12) rfl ?_
    refine J_lload_n dc_JLo_numberOfLeadingZeros_12 (Eq.refl 13) 1 rfl ?_
    refine J_l2i dc_JLo_numberOfLeadingZeros_13 (Eq.refl 14) ?_
    refine J_callSI (As := [.int x0.toInt32]) (st := [.int (32 : Int32)]) dc_JLo_numberOfLeadingZeros_14 (Eq.refl 17) lk_JLo_308 mi_JIn_numberOfLeadingZeros (Nat.le_of_ble_eq_true rfl) rfl (Nat.le_of_ble_eq_true rfl) (CI.mono h (fun r4 σ3 h => ?_))
    refine J_iadd dc_JLo_numberOfLeadingZeros_17 (Eq.refl 18) ?_
    refine J_goto dc_JLo_numberOfLeadingZeros_18 rfl ?_
    exact J_iret dc_JLo_numberOfLeadingZeros_25 rfl h
theorem dc_JLo_numberOfTrailingZeros_0 : decode m_JLo_numberOfTrailingZeros.2.1 0 = .ok (.lload_n 0, 1) := by decide +kernel
theorem dc_JLo_numberOfTrailingZeros_1 : decode m_JLo_numberOfTrailingZeros.2.1 1 = .ok (.l2i, 1) := by decide +kernel
theorem dc_JLo_numberOfTrailingZeros_2 : decode m_JLo_numberOfTrailingZeros.2.1 2 = .ok (.istore_n 2, 1) := by decide +kernel
theorem dc_JLo_numberOfTrailingZeros_3 : decode m_JLo_numberOfTrailingZeros.2.1 3 = .ok (.iload_n 2, 1) := by decide +kernel
theorem dc_JLo_numberOfTrailingZeros_4 : decode m_JLo_numberOfTrailingZeros.2.1 4 = .ok (.ifCond .ne 17, 3) := by decide +kernel
theorem dc_JLo_numberOfTrailingZeros_7 : decode m_JLo_numberOfTrailingZeros.2.1 7 = .ok (.bipush 32, 2) := by decide +kernel
theorem dc_JLo_numberOfTrailingZeros_9 : decode m_JLo_numberOfTrailingZeros.2.1 9 = .ok (.lload_n 0, 1) := by decide +kernel
theorem dc_JLo_numberOfTrailingZeros_10 : decode m_JLo_numberOfTrailingZeros.2.1 10 = .ok (.bipush 32, 2) := by decide +kernel
theorem dc_JLo_numberOfTrailingZeros_12 : decode m_JLo_numberOfTrailingZeros.2.1 12 = .ok (.lushr, 1) := by decide +kernel
theorem dc_JLo_numberOfTrailingZeros_13 : decode m_JLo_numberOfTrailingZeros.2.1 13 = .ok (.l2i, 1) := by decide +kernel
theorem dc_JLo_numberOfTrailingZeros_14 : decode m_JLo_numberOfTrailingZeros.2.1 14 = .ok (.invokestatic 311, 3) := by decide +kernel
theorem dc_JLo_numberOfTrailingZeros_17 : decode m_JLo_numberOfTrailingZeros.2.1 17 = .ok (.iadd, 1) := by decide +kernel
theorem dc_JLo_numberOfTrailingZeros_18 : decode m_JLo_numberOfTrailingZeros.2.1 18 = .ok (.goto 7, 3) := by decide +kernel
theorem dc_JLo_numberOfTrailingZeros_21 : decode m_JLo_numberOfTrailingZeros.2.1 21 = .ok (.iload_n 2, 1) := by decide +kernel
theorem dc_JLo_numberOfTrailingZeros_22 : decode m_JLo_numberOfTrailingZeros.2.1 22 = .ok (.invokestatic 311, 3) := by decide +kernel
theorem dc_JLo_numberOfTrailingZeros_25 : decode m_JLo_numberOfTrailingZeros.2.1 25 = .ok (.ireturn, 1) := by decide +kernel
theorem b_JLo_numberOfTrailingZeros_0 {E : En_t} {d : Nat} {σ : S_t} {Q : Option Value → S_t → Prop} {x0 : Int64}
    (h : (¬ x0.toInt32 = 0 → CI E d m_JIn_numberOfTrailingZeros [.int x0.toInt32] σ (fun r2 σ1 => Q (some (.int r2)) σ1)) ∧ (x0.toInt32 = 0 → CI E d m_JIn_numberOfTrailingZeros [.int (((x0.toUInt64 >>> ((32 : Int32).toInt64.toUInt64 &&& Int64.toUInt64 63)).toInt64).toInt32)] σ (fun r4 σ3 => Q (some (.int ((32 : Int32) + r4))) σ3))) :
    JE E (d + 1) m_JLo_numberOfTrailingZeros 0 [(0, .long x0)] [] σ Q := by
  refine J_lload_n dc_JLo_numberOfTrailingZeros_0 (Eq.refl 1) 0 rfl ?_
  refine J_l2i dc_JLo_numberOfTrailingZeros_1 (Eq.refl 2) ?_
  refine J_istore_n (L' := [(2, .int x0.toInt32), (0, .long x0)]) dc_JLo_numberOfTrailingZeros_2 (Eq.refl 3) (Nat.le_of_ble_eq_true rfl) rfl ?_
  refine J_iload_n dc_JLo_numberOfTrailingZeros_3 (Eq.refl 4) 0 rfl ?_
  refine J_if_ne dc_JLo_numberOfTrailingZeros_4 (Eq.refl 7) rfl (fun hc => ?_) (fun hc => ?_)
  · have h := h.1 hc
    refine J_iload_n dc_JLo_numberOfTrailingZeros_21 (Eq.refl 22) 0 rfl ?_
    refine J_callSI (As := [.int x0.toInt32]) (st := []) dc_JLo_numberOfTrailingZeros_22 (Eq.refl 25) lk_JLo_311 mi_JIn_numberOfTrailingZeros (Nat.le_of_ble_eq_true rfl) rfl (Nat.le_of_ble_eq_true rfl) (CI.mono h (fun r2 σ1 h => ?_))
    exact J_iret dc_JLo_numberOfTrailingZeros_25 rfl h
  · have h := h.2 hc
    refine J_bipush (v := (32 : Int32)) dc_JLo_numberOfTrailingZeros_7 (Eq.refl 9) rfl ?_
    refine J_lload_n dc_JLo_numberOfTrailingZeros_9 (Eq.refl 10) 1 rfl ?_
    refine J_bipush (v := (32 : Int32)) dc_JLo_numberOfTrailingZeros_10 (Eq.refl 12) rfl ?_
    refine J_lushr dc_JLo_numberOfTrailingZeros_12 (Eq.refl 13) ?_
    refine J_l2i dc_JLo_numberOfTrailingZeros_13 (Eq.refl 14) ?_
    refine J_callSI (As := [.int (((x0.toUInt64 >>> ((32 : Int32).toInt64.toUInt64 &&& Int64.toUInt64 63)).toInt64).toInt32)]) (st := [.int (32 : Int32)]) dc_JLo_numberOfTrailingZeros_14 (Eq.refl 17) lk_JLo_311 mi_JIn_numberOfTrailingZeros (Nat.le_of_ble_eq_true rfl) rfl (Nat.le_of_ble_eq_true rfl) (CI.mono h (fun r4 σ3 h => ?_))
    refine J_iadd dc_JLo_numberOfTrailingZeros_17 (Eq.refl 18) ?_
    refine J_goto dc_JLo_numberOfTrailingZeros_18 rfl ?_
    exact J_iret dc_JLo_numberOfTrailingZeros_25 rfl h
theorem dc_JCh_isValidCodePoint_0 : decode m_JCh_isValidCodePoint.2.1 0 = .ok (.iload_n 0, 1) := by decide +kernel
theorem dc_JCh_isValidCodePoint_1 : decode m_JCh_isValidCodePoint.2.1 1 = .ok (.bipush 16, 2) := by decide +kernel
theorem dc_JCh_isValidCodePoint_3 : decode m_JCh_isValidCodePoint.2.1 3 = .ok (.iushr, 1) := by decide +kernel
theorem dc_JCh_isValidCodePoint_4 : decode m_JCh_isValidCodePoint.2.1 4 = .ok (.istore_n 1, 1) := by decide +kernel
theorem dc_JCh_isValidCodePoint_5 : decode m_JCh_isValidCodePoint.2.1 5 = .ok (.iload_n 1, 1) := by decide +kernel
theorem dc_JCh_isValidCodePoint_6 : decode m_JCh_isValidCodePoint.2.1 6 = .ok (.bipush 17, 2) := by decide +kernel
theorem dc_JCh_isValidCodePoint_8 : decode m_JCh_isValidCodePoint.2.1 8 = .ok (.if_icmp .ge 7, 3) := by decide +kernel
theorem dc_JCh_isValidCodePoint_11 : decode m_JCh_isValidCodePoint.2.1 11 = .ok (.iconst 1, 1) := by decide +kernel
theorem dc_JCh_isValidCodePoint_12 : decode m_JCh_isValidCodePoint.2.1 12 = .ok (.goto 4, 3) := by decide +kernel
theorem dc_JCh_isValidCodePoint_15 : decode m_JCh_isValidCodePoint.2.1 15 = .ok (.iconst 0, 1) := by decide +kernel
theorem dc_JCh_isValidCodePoint_16 : decode m_JCh_isValidCodePoint.2.1 16 = .ok (.ireturn, 1) := by decide +kernel
theorem b_JCh_isValidCodePoint_0 {E : En_t} {d : Nat} {σ : S_t} {Q : Option Value → S_t → Prop} {x0 : Int32}
    (h : ((17 : Int32) ≤ ((x0.toUInt32 >>> ((16 : Int32).toUInt32 &&& Int32.toUInt32 31)).toInt32) → Q (some (.int (0 : Int32))) σ) ∧ (¬ (17 : Int32) ≤ ((x0.toUInt32 >>> ((16 : Int32).toUInt32 &&& Int32.toUInt32 31)).toInt32) → Q (some (.int (1 : Int32))) σ)) :
    JE E d m_JCh_isValidCodePoint 0 [(0, .int x0)] [] σ Q := by
  refine J_iload_n dc_JCh_isValidCodePoint_0 (Eq.refl 1) 0 rfl ?_
  refine J_bipush (v := (16 : Int32)) dc_JCh_isValidCodePoint_1 (Eq.refl 3) rfl ?_
  refine J_iushr dc_JCh_isValidCodePoint_3 (Eq.refl 4) ?_
  refine J_istore_n (L' := [(1, .int ((x0.toUInt32 >>> ((16 : Int32).toUInt32 &&& Int32.toUInt32 31)).toInt32)), (0, .int x0)]) dc_JCh_isValidCodePoint_4 (Eq.refl 5) (Nat.le_of_ble_eq_true rfl) rfl ?_
  refine J_iload_n dc_JCh_isValidCodePoint_5 (Eq.refl 6) 0 rfl ?_
  refine J_bipush (v := (17 : Int32)) dc_JCh_isValidCodePoint_6 (Eq.refl 8) rfl ?_
  refine J_icmp_ge dc_JCh_isValidCodePoint_8 (Eq.refl 11) rfl (fun hc => ?_) (fun hc => ?_)
  · have h := h.1 hc
    refine J_iconst (v := (0 : Int32)) dc_JCh_isValidCodePoint_15 (Eq.refl 16) rfl ?_
    exact J_zret dc_JCh_isValidCodePoint_16 rfl rfl h
  · have h := h.2 hc
    refine J_iconst (v := (1 : Int32)) dc_JCh_isValidCodePoint_11 (Eq.refl 12) rfl ?_
    refine J_goto dc_JCh_isValidCodePoint_12 rfl ?_
    exact J_zret dc_JCh_isValidCodePoint_16 rfl rfl h
theorem dc_JCh_highSurrogate_0 : decode m_JCh_highSurrogate.2.1 0 = .ok (.iload_n 0, 1) := by decide +kernel
theorem dc_JCh_highSurrogate_1 : decode m_JCh_highSurrogate.2.1 1 = .ok (.bipush 10, 2) := by decide +kernel
theorem dc_JCh_highSurrogate_3 : decode m_JCh_highSurrogate.2.1 3 = .ok (.iushr, 1) := by decide +kernel
theorem dc_JCh_highSurrogate_4 : decode m_JCh_highSurrogate.2.1 4 = .ok (.ldc 110, 2) := by decide +kernel
theorem dc_JCh_highSurrogate_6 : decode m_JCh_highSurrogate.2.1 6 = .ok (.iadd, 1) := by decide +kernel
theorem dc_JCh_highSurrogate_7 : decode m_JCh_highSurrogate.2.1 7 = .ok (.i2c, 1) := by decide +kernel
theorem dc_JCh_highSurrogate_8 : decode m_JCh_highSurrogate.2.1 8 = .ok (.ireturn, 1) := by decide +kernel
theorem b_JCh_highSurrogate_0 {E : En_t} {d : Nat} {σ : S_t} {Q : Option Value → S_t → Prop} {x0 : Int32}
    (h : ∀ v1, v1 = ((((x0.toUInt32 >>> ((10 : Int32).toUInt32 &&& Int32.toUInt32 31)).toInt32) + (55232 : Int32)).toUInt32 % 65536).toInt32 → (narrow .char (.int v1) = .int v1 ∧ Q (some (.int v1)) σ)) :
    JE E d m_JCh_highSurrogate 0 [(0, .int x0)] [] σ Q := by
  refine J_iload_n dc_JCh_highSurrogate_0 (Eq.refl 1) 0 rfl ?_
  refine J_bipush (v := (10 : Int32)) dc_JCh_highSurrogate_1 (Eq.refl 3) rfl ?_
  refine J_iushr dc_JCh_highSurrogate_3 (Eq.refl 4) ?_
  refine J_ldc dc_JCh_highSurrogate_4 (Eq.refl 6) kc_JCh_110 ?_
  refine J_iadd dc_JCh_highSurrogate_6 (Eq.refl 7) ?_
  refine J_i2c dc_JCh_highSurrogate_7 (Eq.refl 8) ?_
  refine J_topi (fun v1 ev1 => ?_)
  have h := h v1 ev1
  exact J_zret dc_JCh_highSurrogate_8 rfl h.1 h.2
theorem dc_JCh_lowSurrogate_0 : decode m_JCh_lowSurrogate.2.1 0 = .ok (.iload_n 0, 1) := by decide +kernel
theorem dc_JCh_lowSurrogate_1 : decode m_JCh_lowSurrogate.2.1 1 = .ok (.sipush 1023, 3) := by decide +kernel
theorem dc_JCh_lowSurrogate_4 : decode m_JCh_lowSurrogate.2.1 4 = .ok (.iand, 1) := by decide +kernel
theorem dc_JCh_lowSurrogate_5 : decode m_JCh_lowSurrogate.2.1 5 = .ok (.ldc 76, 2) := by decide +kernel
theorem dc_JCh_lowSurrogate_7 : decode m_JCh_lowSurrogate.2.1 7 = .ok (.iadd, 1) := by decide +kernel
theorem dc_JCh_lowSurrogate_8 : decode m_JCh_lowSurrogate.2.1 8 = .ok (.i2c, 1) := by decide +kernel
theorem dc_JCh_lowSurrogate_9 : decode m_JCh_lowSurrogate.2.1 9 = .ok (.ireturn, 1) := by decide +kernel
theorem b_JCh_lowSurrogate_0 {E : En_t} {d : Nat} {σ : S_t} {Q : Option Value → S_t → Prop} {x0 : Int32}
    (h : narrow .char (.int ((((x0 &&& (1023 : Int32)) + (56320 : Int32)).toUInt32 % 65536).toInt32)) = .int ((((x0 &&& (1023 : Int32)) + (56320 : Int32)).toUInt32 % 65536).toInt32) ∧ Q (some (.int ((((x0 &&& (1023 : Int32)) + (56320 : Int32)).toUInt32 % 65536).toInt32))) σ) :
    JE E d m_JCh_lowSurrogate 0 [(0, .int x0)] [] σ Q := by
  refine J_iload_n dc_JCh_lowSurrogate_0 (Eq.refl 1) 0 rfl ?_
  refine J_sipush (v := (1023 : Int32)) dc_JCh_lowSurrogate_1 (Eq.refl 4) rfl ?_
  refine J_iand dc_JCh_lowSurrogate_4 (Eq.refl 5) ?_
  refine J_ldc dc_JCh_lowSurrogate_5 (Eq.refl 7) kc_JCh_76 ?_
  refine J_iadd dc_JCh_lowSurrogate_7 (Eq.refl 8) ?_
  refine J_i2c dc_JCh_lowSurrogate_8 (Eq.refl 9) ?_
  exact J_zret dc_JCh_lowSurrogate_9 rfl h.1 h.2
