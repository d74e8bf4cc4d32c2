theorem dc_Ou_keptBytes_0 : decode m_Ou_keptBytes.2.1 0 = .ok (.aload_n 0, 1) := by decide +kernel
theorem dc_Ou_keptBytes_1 : decode m_Ou_keptBytes.2.1 1 = .ok (.getfield 15, 3) := by decide +kernel
theorem dc_Ou_keptBytes_4 : decode m_Ou_keptBytes.2.1 4 = .ok (.sipush 12000, 3) := by decide +kernel
theorem dc_Ou_keptBytes_7 : decode m_Ou_keptBytes.2.1 7 = .ok (.invokestatic 19, 3) := by decide +kernel
theorem dc_Ou_keptBytes_10 : decode m_Ou_keptBytes.2.1 10 = .ok (.ireturn, 1) := by decide +kernel
theorem b_Ou_keptBytes_0 {E : En_t} {d : Nat} {σ : S_t} {Q : Option Value → S_t → Prop}
    (h : ∀ r1, r1 = mnI (gI σ 53 1) (12000 : Int32) → (Q (some (.int r1)) σ)) :
    JE E (d + 1) m_Ou_keptBytes 0 [(0, pv E 53)] [] σ Q := by
  refine J_aload_n dc_Ou_keptBytes_0 (Eq.refl 1) 0 rfl ?_
  refine J_getI dc_Ou_keptBytes_1 (Eq.refl 4) fl_Ou_15 (Nat.le_of_ble_eq_true rfl) rfl (Or.inl rfl) ?_
  refine J_sipush (v := (12000 : Int32)) dc_Ou_keptBytes_4 (Eq.refl 7) rfl ?_
  refine J_mmin dc_Ou_keptBytes_7 (Eq.refl 10) lk_Ou_19 (Nat.le_of_ble_eq_true rfl) (fun r1 er1 => ?_)
  have h := h r1 er1
  exact J_iret dc_Ou_keptBytes_10 rfl h
theorem dc_Ou_clear_0 : decode m_Ou_clear.2.1 0 = .ok (.aload_n 0, 1) := by decide +kernel
theorem dc_Ou_clear_1 : decode m_Ou_clear.2.1 1 = .ok (.iconst 0, 1) := by decide +kernel
theorem dc_Ou_clear_2 : decode m_Ou_clear.2.1 2 = .ok (.putfield 15, 3) := by decide +kernel
theorem dc_Ou_clear_5 : decode m_Ou_clear.2.1 5 = .ok (.return_, 1) := by decide +kernel
theorem b_Ou_clear_0 {E : En_t} {d : Nat} {σ : S_t} {Q : Option Value → S_t → Prop}
    (h : Q none (sI σ 53 1 (0 : Int32))) :
    JE E d m_Ou_clear 0 [(0, pv E 53)] [] σ Q := by
  refine J_aload_n dc_Ou_clear_0 (Eq.refl 1) 0 rfl ?_
  refine J_iconst (v := (0 : Int32)) dc_Ou_clear_1 (Eq.refl 2) rfl ?_
  refine J_putI dc_Ou_clear_2 (Eq.refl 5) pl_Ou_15 (Nat.le_of_ble_eq_true rfl) rfl rfl ?_
  exact J_vret dc_Ou_clear_5 rfl h
theorem dc_Ou_put_0 : decode m_Ou_put.2.1 0 = .ok (.aload_n 0, 1) := by decide +kernel
theorem dc_Ou_put_1 : decode m_Ou_put.2.1 1 = .ok (.getfield 15, 3) := by decide +kernel
theorem dc_Ou_put_4 : decode m_Ou_put.2.1 4 = .ok (.ifCond .lt 24, 3) := by decide +kernel
theorem dc_Ou_put_7 : decode m_Ou_put.2.1 7 = .ok (.aload_n 0, 1) := by decide +kernel
theorem dc_Ou_put_8 : decode m_Ou_put.2.1 8 = .ok (.getfield 15, 3) := by decide +kernel
theorem dc_Ou_put_11 : decode m_Ou_put.2.1 11 = .ok (.sipush 12000, 3) := by decide +kernel
theorem dc_Ou_put_14 : decode m_Ou_put.2.1 14 = .ok (.if_icmp .ge 14, 3) := by decide +kernel
theorem dc_Ou_put_17 : decode m_Ou_put.2.1 17 = .ok (.aload_n 0, 1) := by decide +kernel
theorem dc_Ou_put_18 : decode m_Ou_put.2.1 18 = .ok (.getfield 9, 3) := by decide +kernel
theorem dc_Ou_put_21 : decode m_Ou_put.2.1 21 = .ok (.aload_n 0, 1) := by decide +kernel
theorem dc_Ou_put_22 : decode m_Ou_put.2.1 22 = .ok (.getfield 15, 3) := by decide +kernel
theorem dc_Ou_put_25 : decode m_Ou_put.2.1 25 = .ok (.iload_n 1, 1) := by decide +kernel
theorem dc_Ou_put_26 : decode m_Ou_put.2.1 26 = .ok (.i2b, 1) := by decide +kernel
theorem dc_Ou_put_27 : decode m_Ou_put.2.1 27 = .ok (.bastore, 1) := by decide +kernel
theorem dc_Ou_put_28 : decode m_Ou_put.2.1 28 = .ok (.aload_n 0, 1) := by decide +kernel
theorem dc_Ou_put_29 : decode m_Ou_put.2.1 29 = .ok (.dup, 1) := by decide +kernel
theorem dc_Ou_put_30 : decode m_Ou_put.2.1 30 = .ok (.getfield 15, 3) := by decide +kernel
theorem dc_Ou_put_33 : decode m_Ou_put.2.1 33 = .ok (.iconst 1, 1) := by decide +kernel
theorem dc_Ou_put_34 : decode m_Ou_put.2.1 34 = .ok (.iadd, 1) := by decide +kernel
theorem dc_Ou_put_35 : decode m_Ou_put.2.1 35 = .ok (.putfield 15, 3) := by decide +kernel
theorem dc_Ou_put_38 : decode m_Ou_put.2.1 38 = .ok (.return_, 1) := by decide +kernel
theorem b_Ou_put_0 {E : En_t} {d : Nat} {σ : S_t} {Q : Option Value → S_t → Prop} {x1 : Int32}
    (h : ((gI σ 53 1) < 0 → JE E d m_Ou_put 28 [(0, pv E 53)] [] σ Q) ∧ (¬ (gI σ 53 1) < 0 → ((12000 : Int32) ≤ (gI σ 53 1) → JE E d m_Ou_put 28 [(0, pv E 53)] [] σ Q) ∧ (¬ (12000 : Int32) ≤ (gI σ 53 1) → vp_in (gI σ 53 1) 12000 ∧ (JE E d m_Ou_put 28 [(0, pv E 53)] [] (sI σ 54 (gI σ 53 1).toNatClampNeg (vp_nar .byte x1.toInt8.toInt32)) Q)))) :
    JE E d m_Ou_put 0 [(0, pv E 53), (1, .int x1)] [] σ Q := by
  refine J_aload_n dc_Ou_put_0 (Eq.refl 1) 0 rfl ?_
  refine J_getI dc_Ou_put_1 (Eq.refl 4) fl_Ou_15 (Nat.le_of_ble_eq_true rfl) rfl (Or.inl rfl) ?_
  refine J_if_lt dc_Ou_put_4 (Eq.refl 7) rfl (fun hc => ?_) (fun hc => ?_)
  · have h := h.1 hc
    refine J_sub [0] rfl ?_
    exact h
  · have h := h.2 hc
    refine J_aload_n dc_Ou_put_7 (Eq.refl 8) 0 rfl ?_
    refine J_getI dc_Ou_put_8 (Eq.refl 11) fl_Ou_15 (Nat.le_of_ble_eq_true rfl) rfl (Or.inl rfl) ?_
    refine J_sipush (v := (12000 : Int32)) dc_Ou_put_11 (Eq.refl 14) rfl ?_
    refine J_icmp_ge dc_Ou_put_14 (Eq.refl 17) rfl (fun hc => ?_) (fun hc => ?_)
    · have h := h.1 hc
      refine J_sub [0] rfl ?_
      exact h
    · have h := h.2 hc
      refine J_aload_n dc_Ou_put_17 (Eq.refl 18) 0 rfl ?_
      refine J_getF (y := 54) dc_Ou_put_18 (Eq.refl 21) fl_Ou_9 (Nat.le_of_ble_eq_true rfl) rfl (Or.inl rfl) rfl ?_
      refine J_aload_n dc_Ou_put_21 (Eq.refl 22) 0 rfl ?_
      refine J_getI dc_Ou_put_22 (Eq.refl 25) fl_Ou_15 (Nat.le_of_ble_eq_true rfl) rfl (Or.inl rfl) ?_
      refine J_iload_n dc_Ou_put_25 (Eq.refl 26) 1 rfl ?_
      refine J_i2b dc_Ou_put_26 (Eq.refl 27) ?_
      obtain ⟨hg, h⟩ := h
      refine J_bast dc_Ou_put_27 (Eq.refl 28) rfl rfl hg ?_
      refine J_sub [0] rfl ?_
      exact h
theorem b_Ou_put_28 {E : En_t} {d : Nat} {σ : S_t} {Q : Option Value → S_t → Prop}
    (h : Q none (sI σ 53 1 ((gI σ 53 1) + (1 : Int32)))) :
    JE E d m_Ou_put 28 [(0, pv E 53)] [] σ Q := by
  refine J_aload_n dc_Ou_put_28 (Eq.refl 29) 0 rfl ?_
  refine J_dup dc_Ou_put_29 (Eq.refl 30) rfl ?_
  refine J_getI dc_Ou_put_30 (Eq.refl 33) fl_Ou_15 (Nat.le_of_ble_eq_true rfl) rfl (Or.inl rfl) ?_
  refine J_iconst (v := (1 : Int32)) dc_Ou_put_33 (Eq.refl 34) rfl ?_
  refine J_iadd dc_Ou_put_34 (Eq.refl 35) ?_
  refine J_putI dc_Ou_put_35 (Eq.refl 38) pl_Ou_15 (Nat.le_of_ble_eq_true rfl) rfl rfl ?_
  exact J_vret dc_Ou_put_38 rfl h
theorem dc_Ou_putCharacter_0 : decode m_Ou_putCharacter.2.1 0 = .ok (.iload_n 1, 1) := by decide +kernel
theorem dc_Ou_putCharacter_1 : decode m_Ou_putCharacter.2.1 1 = .ok (.sipush 128, 3) := by decide +kernel
theorem dc_Ou_putCharacter_4 : decode m_Ou_putCharacter.2.1 4 = .ok (.if_icmp .ge 11, 3) := by decide +kernel
theorem dc_Ou_putCharacter_7 : decode m_Ou_putCharacter.2.1 7 = .ok (.aload_n 0, 1) := by decide +kernel
theorem dc_Ou_putCharacter_8 : decode m_Ou_putCharacter.2.1 8 = .ok (.iload_n 1, 1) := by decide +kernel
theorem dc_Ou_putCharacter_9 : decode m_Ou_putCharacter.2.1 9 = .ok (.invokevirtual 35, 3) := by decide +kernel
theorem dc_Ou_putCharacter_12 : decode m_Ou_putCharacter.2.1 12 = .ok (.goto 139, 3) := by decide +kernel
theorem dc_Ou_putCharacter_15 : decode m_Ou_putCharacter.2.1 15 = .ok (.iload_n 1, 1) := by decide +kernel
theorem dc_Ou_putCharacter_16 : decode m_Ou_putCharacter.2.1 16 = .ok (.sipush 2048, 3) := by decide +kernel
theorem dc_Ou_putCharacter_19 : decode m_Ou_putCharacter.2.1 19 = .ok (.if_icmp .ge 30, 3) := by decide +kernel
theorem dc_Ou_putCharacter_22 : decode m_Ou_putCharacter.2.1 22 = .ok (.aload_n 0, 1) := by decide +kernel
theorem dc_Ou_putCharacter_23 : decode m_Ou_putCharacter.2.1 23 = .ok (.sipush 192, 3) := by decide +kernel
theorem dc_Ou_putCharacter_26 : decode m_Ou_putCharacter.2.1 26 = .ok (.iload_n 1, 1) := by decide +kernel
theorem dc_Ou_putCharacter_27 : decode m_Ou_putCharacter.2.1 27 = .ok (.bipush 6, 2) := by decide +kernel
theorem dc_Ou_putCharacter_29 : decode m_Ou_putCharacter.2.1 29 = .ok (.ishr, 1) := by decide +kernel
theorem dc_Ou_putCharacter_30 : decode m_Ou_putCharacter.2.1 30 = .ok (.ior, 1) := by decide +kernel
theorem dc_Ou_putCharacter_31 : decode m_Ou_putCharacter.2.1 31 = .ok (.invokevirtual 35, 3) := by decide +kernel
theorem dc_Ou_putCharacter_34 : decode m_Ou_putCharacter.2.1 34 = .ok (.aload_n 0, 1) := by decide +kernel
theorem dc_Ou_putCharacter_35 : decode m_Ou_putCharacter.2.1 35 = .ok (.sipush 128, 3) := by decide +kernel
theorem dc_Ou_putCharacter_38 : decode m_Ou_putCharacter.2.1 38 = .ok (.iload_n 1, 1) := by decide +kernel
theorem dc_Ou_putCharacter_39 : decode m_Ou_putCharacter.2.1 39 = .ok (.bipush 63, 2) := by decide +kernel
theorem dc_Ou_putCharacter_41 : decode m_Ou_putCharacter.2.1 41 = .ok (.iand, 1) := by decide +kernel
theorem dc_Ou_putCharacter_42 : decode m_Ou_putCharacter.2.1 42 = .ok (.ior, 1) := by decide +kernel
theorem dc_Ou_putCharacter_43 : decode m_Ou_putCharacter.2.1 43 = .ok (.invokevirtual 35, 3) := by decide +kernel
theorem dc_Ou_putCharacter_46 : decode m_Ou_putCharacter.2.1 46 = .ok (.goto 105, 3) := by decide +kernel
theorem dc_Ou_putCharacter_49 : decode m_Ou_putCharacter.2.1 49 = .ok (.iload_n 1, 1) := by decide +kernel
theorem dc_Ou_putCharacter_50 : decode m_Ou_putCharacter.2.1 50 = .ok (.ldc 39, 2) := by decide +kernel
theorem dc_Ou_putCharacter_52 : decode m_Ou_putCharacter.2.1 52 = .ok (.if_icmp .ge 45, 3) := by decide +kernel
theorem dc_Ou_putCharacter_55 : decode m_Ou_putCharacter.2.1 55 = .ok (.aload_n 0, 1) := by decide +kernel
theorem dc_Ou_putCharacter_56 : decode m_Ou_putCharacter.2.1 56 = .ok (.sipush 224, 3) := by decide +kernel
theorem dc_Ou_putCharacter_59 : decode m_Ou_putCharacter.2.1 59 = .ok (.iload_n 1, 1) := by decide +kernel
theorem dc_Ou_putCharacter_60 : decode m_Ou_putCharacter.2.1 60 = .ok (.bipush 12, 2) := by decide +kernel
theorem dc_Ou_putCharacter_62 : decode m_Ou_putCharacter.2.1 62 = .ok (.ishr, 1) := by decide +kernel
theorem dc_Ou_putCharacter_63 : decode m_Ou_putCharacter.2.1 63 = .ok (.ior, 1) := by decide +kernel
theorem dc_Ou_putCharacter_64 : decode m_Ou_putCharacter.2.1 64 = .ok (.invokevirtual 35, 3) := by decide +kernel
theorem dc_Ou_putCharacter_67 : decode m_Ou_putCharacter.2.1 67 = .ok (.aload_n 0, 1) := by decide +kernel
theorem dc_Ou_putCharacter_68 : decode m_Ou_putCharacter.2.1 68 = .ok (.sipush 128, 3) := by decide +kernel
theorem dc_Ou_putCharacter_71 : decode m_Ou_putCharacter.2.1 71 = .ok (.iload_n 1, 1) := by decide +kernel
theorem dc_Ou_putCharacter_72 : decode m_Ou_putCharacter.2.1 72 = .ok (.bipush 6, 2) := by decide +kernel
theorem dc_Ou_putCharacter_74 : decode m_Ou_putCharacter.2.1 74 = .ok (.ishr, 1) := by decide +kernel
theorem dc_Ou_putCharacter_75 : decode m_Ou_putCharacter.2.1 75 = .ok (.bipush 63, 2) := by decide +kernel
theorem dc_Ou_putCharacter_77 : decode m_Ou_putCharacter.2.1 77 = .ok (.iand, 1) := by decide +kernel
theorem dc_Ou_putCharacter_78 : decode m_Ou_putCharacter.2.1 78 = .ok (.ior, 1) := by decide +kernel
theorem dc_Ou_putCharacter_79 : decode m_Ou_putCharacter.2.1 79 = .ok (.invokevirtual 35, 3) := by decide +kernel
theorem dc_Ou_putCharacter_82 : decode m_Ou_putCharacter.2.1 82 = .ok (.aload_n 0, 1) := by decide +kernel
theorem dc_Ou_putCharacter_83 : decode m_Ou_putCharacter.2.1 83 = .ok (.sipush 128, 3) := by decide +kernel
theorem dc_Ou_putCharacter_86 : decode m_Ou_putCharacter.2.1 86 = .ok (.iload_n 1, 1) := by decide +kernel
theorem dc_Ou_putCharacter_87 : decode m_Ou_putCharacter.2.1 87 = .ok (.bipush 63, 2) := by decide +kernel
theorem dc_Ou_putCharacter_89 : decode m_Ou_putCharacter.2.1 89 = .ok (.iand, 1) := by decide +kernel
theorem dc_Ou_putCharacter_90 : decode m_Ou_putCharacter.2.1 90 = .ok (.ior, 1) := by decide +kernel
theorem dc_Ou_putCharacter_91 : decode m_Ou_putCharacter.2.1 91 = .ok (.invokevirtual 35, 3) := by decide +kernel
theorem dc_Ou_putCharacter_94 : decode m_Ou_putCharacter.2.1 94 = .ok (.goto 57, 3) := by decide +kernel
theorem dc_Ou_putCharacter_97 : decode m_Ou_putCharacter.2.1 97 = .ok (.aload_n 0, 1) := by decide +kernel
theorem dc_Ou_putCharacter_98 : decode m_Ou_putCharacter.2.1 98 = .ok (.sipush 240, 3) := by decide +kernel
theorem dc_Ou_putCharacter_101 : decode m_Ou_putCharacter.2.1 101 = .ok (.iload_n 1, 1) := by decide +kernel
theorem dc_Ou_putCharacter_102 : decode m_Ou_putCharacter.2.1 102 = .ok (.bipush 18, 2) := by decide +kernel
theorem dc_Ou_putCharacter_104 : decode m_Ou_putCharacter.2.1 104 = .ok (.ishr, 1) := by decide +kernel
theorem dc_Ou_putCharacter_105 : decode m_Ou_putCharacter.2.1 105 = .ok (.ior, 1) := by decide +kernel
theorem dc_Ou_putCharacter_106 : decode m_Ou_putCharacter.2.1 106 = .ok (.invokevirtual 35, 3) := by decide +kernel
theorem dc_Ou_putCharacter_109 : decode m_Ou_putCharacter.2.1 109 = .ok (.aload_n 0, 1) := by decide +kernel
theorem dc_Ou_putCharacter_110 : decode m_Ou_putCharacter.2.1 110 = .ok (.sipush 128, 3) := by decide +kernel
theorem dc_Ou_putCharacter_113 : decode m_Ou_putCharacter.2.1 113 = .ok (.iload_n 1, 1) := by decide +kernel
theorem dc_Ou_putCharacter_114 : decode m_Ou_putCharacter.2.1 114 = .ok (.bipush 12, 2) := by decide +kernel
theorem dc_Ou_putCharacter_116 : decode m_Ou_putCharacter.2.1 116 = .ok (.ishr, 1) := by decide +kernel
theorem dc_Ou_putCharacter_117 : decode m_Ou_putCharacter.2.1 117 = .ok (.bipush 63, 2) := by decide +kernel
theorem dc_Ou_putCharacter_119 : decode m_Ou_putCharacter.2.1 119 = .ok (.iand, 1) := by decide +kernel
theorem dc_Ou_putCharacter_120 : decode m_Ou_putCharacter.2.1 120 = .ok (.ior, 1) := by decide +kernel
theorem dc_Ou_putCharacter_121 : decode m_Ou_putCharacter.2.1 121 = .ok (.invokevirtual 35, 3) := by decide +kernel
theorem dc_Ou_putCharacter_124 : decode m_Ou_putCharacter.2.1 124 = .ok (.aload_n 0, 1) := by decide +kernel
theorem dc_Ou_putCharacter_125 : decode m_Ou_putCharacter.2.1 125 = .ok (.sipush 128, 3) := by decide +kernel
theorem dc_Ou_putCharacter_128 : decode m_Ou_putCharacter.2.1 128 = .ok (.iload_n 1, 1) := by decide +kernel
theorem dc_Ou_putCharacter_129 : decode m_Ou_putCharacter.2.1 129 = .ok (.bipush 6, 2) := by decide +kernel
theorem dc_Ou_putCharacter_131 : decode m_Ou_putCharacter.2.1 131 = .ok (.ishr, 1) := by decide +kernel
theorem dc_Ou_putCharacter_132 : decode m_Ou_putCharacter.2.1 132 = .ok (.bipush 63, 2) := by decide +kernel
theorem dc_Ou_putCharacter_134 : decode m_Ou_putCharacter.2.1 134 = .ok (.iand, 1) := by decide +kernel
theorem dc_Ou_putCharacter_135 : decode m_Ou_putCharacter.2.1 135 = .ok (.ior, 1) := by decide +kernel
theorem dc_Ou_putCharacter_136 : decode m_Ou_putCharacter.2.1 136 = .ok (.invokevirtual 35, 3) := by decide +kernel
theorem dc_Ou_putCharacter_139 : decode m_Ou_putCharacter.2.1 139 = .ok (.aload_n 0, 1) := by decide +kernel
theorem dc_Ou_putCharacter_140 : decode m_Ou_putCharacter.2.1 140 = .ok (.sipush 128, 3) := by decide +kernel
theorem dc_Ou_putCharacter_143 : decode m_Ou_putCharacter.2.1 143 = .ok (.iload_n 1, 1) := by decide +kernel
theorem dc_Ou_putCharacter_144 : decode m_Ou_putCharacter.2.1 144 = .ok (.bipush 63, 2) := by decide +kernel
theorem dc_Ou_putCharacter_146 : decode m_Ou_putCharacter.2.1 146 = .ok (.iand, 1) := by decide +kernel
theorem dc_Ou_putCharacter_147 : decode m_Ou_putCharacter.2.1 147 = .ok (.ior, 1) := by decide +kernel
theorem dc_Ou_putCharacter_148 : decode m_Ou_putCharacter.2.1 148 = .ok (.invokevirtual 35, 3) := by decide +kernel
theorem dc_Ou_putCharacter_151 : decode m_Ou_putCharacter.2.1 151 = .ok (.return_, 1) := by decide +kernel
theorem b_Ou_putCharacter_0 {E : En_t} {d : Nat} {σ : S_t} {Q : Option Value → S_t → Prop} {x1 : Int32}
    (h : ((128 : Int32) ≤ x1 → ((2048 : Int32) ≤ x1 → ((65536 : Int32) ≤ x1 → CV E d m_Ou_put [pv E 53, .int ((240 : Int32) ||| (x1 >>> ((18 : Int32) &&& 31)))] σ (fun σ1 => CV E d m_Ou_put [pv E 53, .int ((128 : Int32) ||| ((x1 >>> ((12 : Int32) &&& 31)) &&& (63 : Int32)))] σ1 (fun σ2 => CV E d m_Ou_put [pv E 53, .int ((128 : Int32) ||| ((x1 >>> ((6 : Int32) &&& 31)) &&& (63 : Int32)))] σ2 (fun σ3 => CV E d m_Ou_put [pv E 53, .int ((128 : Int32) ||| (x1 &&& (63 : Int32)))] σ3 (fun σ4 => Q none σ4))))) ∧ (¬ (65536 : Int32) ≤ x1 → CV E d m_Ou_put [pv E 53, .int ((224 : Int32) ||| (x1 >>> ((12 : Int32) &&& 31)))] σ (fun σ5 => CV E d m_Ou_put [pv E 53, .int ((128 : Int32) ||| ((x1 >>> ((6 : Int32) &&& 31)) &&& (63 : Int32)))] σ5 (fun σ6 => CV E d m_Ou_put [pv E 53, .int ((128 : Int32) ||| (x1 &&& (63 : Int32)))] σ6 (fun σ7 => Q none σ7))))) ∧ (¬ (2048 : Int32) ≤ x1 → CV E d m_Ou_put [pv E 53, .int ((192 : Int32) ||| (x1 >>> ((6 : Int32) &&& 31)))] σ (fun σ8 => CV E d m_Ou_put [pv E 53, .int ((128 : Int32) ||| (x1 &&& (63 : Int32)))] σ8 (fun σ9 => Q none σ9)))) ∧ (¬ (128 : Int32) ≤ x1 → CV E d m_Ou_put [pv E 53, .int x1] σ (fun σ10 => Q none σ10))) :
    JE E (d + 1) m_Ou_putCharacter 0 [(0, pv E 53), (1, .int x1)] [] σ Q := by
  refine J_iload_n dc_Ou_putCharacter_0 (Eq.refl 1) 1 rfl ?_
  refine J_sipush (v := (128 : Int32)) dc_Ou_putCharacter_1 (Eq.refl 4) rfl ?_
  refine J_icmp_ge dc_Ou_putCharacter_4 (Eq.refl 7) rfl (fun hc => ?_) (fun hc => ?_)
  · have h := h.1 hc
    refine J_iload_n dc_Ou_putCharacter_15 (Eq.refl 16) 1 rfl ?_
    refine J_sipush (v := (2048 : Int32)) dc_Ou_putCharacter_16 (Eq.refl 19) rfl ?_
    refine J_icmp_ge dc_Ou_putCharacter_19 (Eq.refl 22) rfl (fun hc => ?_) (fun hc => ?_)
    · have h := h.1 hc
      refine J_iload_n dc_Ou_putCharacter_49 (Eq.refl 50) 1 rfl ?_
      refine J_ldc dc_Ou_putCharacter_50 (Eq.refl 52) kc_Ou_39 ?_
      refine J_icmp_ge dc_Ou_putCharacter_52 (Eq.refl 55) rfl (fun hc => ?_) (fun hc => ?_)
      · have h := h.1 hc
        refine J_aload_n dc_Ou_putCharacter_97 (Eq.refl 98) 0 rfl ?_
        refine J_sipush (v := (240 : Int32)) dc_Ou_putCharacter_98 (Eq.refl 101) rfl ?_
        refine J_iload_n dc_Ou_putCharacter_101 (Eq.refl 102) 1 rfl ?_
        refine J_bipush (v := (18 : Int32)) dc_Ou_putCharacter_102 (Eq.refl 104) rfl ?_
        refine J_ishr dc_Ou_putCharacter_104 (Eq.refl 105) ?_
        refine J_ior dc_Ou_putCharacter_105 (Eq.refl 106) ?_
        refine J_callVV (As := [.int ((240 : Int32) ||| (x1 >>> ((18 : Int32) &&& 31)))]) (st := []) dc_Ou_putCharacter_106 (Eq.refl 109) lk_Ou_35 mi_Ou_put rfl (Nat.le_of_ble_eq_true rfl) rfl rfl (Nat.le_of_ble_eq_true rfl) rfl (Nat.le_of_ble_eq_true rfl) (CV.mono h (fun σ1 h => ?_))
        refine J_aload_n dc_Ou_putCharacter_109 (Eq.refl 110) 0 rfl ?_
        refine J_sipush (v := (128 : Int32)) dc_Ou_putCharacter_110 (Eq.refl 113) rfl ?_
        refine J_iload_n dc_Ou_putCharacter_113 (Eq.refl 114) 1 rfl ?_
        refine J_bipush (v := (12 : Int32)) dc_Ou_putCharacter_114 (Eq.refl 116) rfl ?_
        refine J_ishr dc_Ou_putCharacter_116 (Eq.refl 117) ?_
        refine J_bipush (v := (63 : Int32)) dc_Ou_putCharacter_117 (Eq.refl 119) rfl ?_
        refine J_iand dc_Ou_putCharacter_119 (Eq.refl 120) ?_
        refine J_ior dc_Ou_putCharacter_120 (Eq.refl 121) ?_
        refine J_callVV (As := [.int ((128 : Int32) ||| ((x1 >>> ((12 : Int32) &&& 31)) &&& (63 : Int32)))]) (st := []) dc_Ou_putCharacter_121 (Eq.refl 124) lk_Ou_35 mi_Ou_put rfl (Nat.le_of_ble_eq_true rfl) rfl rfl (Nat.le_of_ble_eq_true rfl) rfl (Nat.le_of_ble_eq_true rfl) (CV.mono h (fun σ2 h => ?_))
        refine J_aload_n dc_Ou_putCharacter_124 (Eq.refl 125) 0 rfl ?_
        refine J_sipush (v := (128 : Int32)) dc_Ou_putCharacter_125 (Eq.refl 128) rfl ?_
        refine J_iload_n dc_Ou_putCharacter_128 (Eq.refl 129) 1 rfl ?_
        refine J_bipush (v := (6 : Int32)) dc_Ou_putCharacter_129 (Eq.refl 131) rfl ?_
        refine J_ishr dc_Ou_putCharacter_131 (Eq.refl 132) ?_
        refine J_bipush (v := (63 : Int32)) dc_Ou_putCharacter_132 (Eq.refl 134) rfl ?_
        refine J_iand dc_Ou_putCharacter_134 (Eq.refl 135) ?_
        refine J_ior dc_Ou_putCharacter_135 (Eq.refl 136) ?_
        refine J_callVV (As := [.int ((128 : Int32) ||| ((x1 >>> ((6 : Int32) &&& 31)) &&& (63 : Int32)))]) (st := []) dc_Ou_putCharacter_136 (Eq.refl 139) lk_Ou_35 mi_Ou_put rfl (Nat.le_of_ble_eq_true rfl) rfl rfl (Nat.le_of_ble_eq_true rfl) rfl (Nat.le_of_ble_eq_true rfl) (CV.mono h (fun σ3 h => ?_))
        refine J_aload_n dc_Ou_putCharacter_139 (Eq.refl 140) 0 rfl ?_
        refine J_sipush (v := (128 : Int32)) dc_Ou_putCharacter_140 (Eq.refl 143) rfl ?_
        refine J_iload_n dc_Ou_putCharacter_143 (Eq.refl 144) 1 rfl ?_
        refine J_bipush (v := (63 : Int32)) dc_Ou_putCharacter_144 (Eq.refl 146) rfl ?_
        refine J_iand dc_Ou_putCharacter_146 (Eq.refl 147) ?_
        refine J_ior dc_Ou_putCharacter_147 (Eq.refl 148) ?_
        refine J_callVV (As := [.int ((128 : Int32) ||| (x1 &&& (63 : Int32)))]) (st := []) dc_Ou_putCharacter_148 (Eq.refl 151) lk_Ou_35 mi_Ou_put rfl (Nat.le_of_ble_eq_true rfl) rfl rfl (Nat.le_of_ble_eq_true rfl) rfl (Nat.le_of_ble_eq_true rfl) (CV.mono h (fun σ4 h => ?_))
        exact J_vret dc_Ou_putCharacter_151 rfl h
      · have h := h.2 hc
        refine J_aload_n dc_Ou_putCharacter_55 (Eq.refl 56) 0 rfl ?_
        refine J_sipush (v := (224 : Int32)) dc_Ou_putCharacter_56 (Eq.refl 59) rfl ?_
        refine J_iload_n dc_Ou_putCharacter_59 (Eq.refl 60) 1 rfl ?_
        refine J_bipush (v := (12 : Int32)) dc_Ou_putCharacter_60 (Eq.refl 62) rfl ?_
        refine J_ishr dc_Ou_putCharacter_62 (Eq.refl 63) ?_
        refine J_ior dc_Ou_putCharacter_63 (Eq.refl 64) ?_
        refine J_callVV (As := [.int ((224 : Int32) ||| (x1 >>> ((12 : Int32) &&& 31)))]) (st := []) dc_Ou_putCharacter_64 (Eq.refl 67) lk_Ou_35 mi_Ou_put rfl (Nat.le_of_ble_eq_true rfl) rfl rfl (Nat.le_of_ble_eq_true rfl) rfl (Nat.le_of_ble_eq_true rfl) (CV.mono h (fun σ5 h => ?_))
        refine J_aload_n dc_Ou_putCharacter_67 (Eq.refl 68) 0 rfl ?_
        refine J_sipush (v := (128 : Int32)) dc_Ou_putCharacter_68 (Eq.refl 71) rfl ?_
        refine J_iload_n dc_Ou_putCharacter_71 (Eq.refl 72) 1 rfl ?_
        refine J_bipush (v := (6 : Int32)) dc_Ou_putCharacter_72 (Eq.refl 74) rfl ?_
        refine J_ishr dc_Ou_putCharacter_74 (Eq.refl 75) ?_
        refine J_bipush (v := (63 : Int32)) dc_Ou_putCharacter_75 (Eq.refl 77) rfl ?_
        refine J_iand dc_Ou_putCharacter_77 (Eq.refl 78) ?_
        refine J_ior dc_Ou_putCharacter_78 (Eq.refl 79) ?_
        refine J_callVV (As := [.int ((128 : Int32) ||| ((x1 >>> ((6 : Int32) &&& 31)) &&& (63 : Int32)))]) (st := []) dc_Ou_putCharacter_79 (Eq.refl 82) lk_Ou_35 mi_Ou_put rfl (Nat.le_of_ble_eq_true rfl) rfl rfl (Nat.le_of_ble_eq_true rfl) rfl (Nat.le_of_ble_eq_true rfl) (CV.mono h (fun σ6 h => ?_))
        refine J_aload_n dc_Ou_putCharacter_82 (Eq.refl 83) 0 rfl ?_
        refine J_sipush (v := (128 : Int32)) dc_Ou_putCharacter_83 (Eq.refl 86) rfl ?_
        refine J_iload_n dc_Ou_putCharacter_86 (Eq.refl 87) 1 rfl ?_
        refine J_bipush (v := (63 : Int32)) dc_Ou_putCharacter_87 (Eq.refl 89) rfl ?_
        refine J_iand dc_Ou_putCharacter_89 (Eq.refl 90) ?_
        refine J_ior dc_Ou_putCharacter_90 (Eq.refl 91) ?_
        refine J_callVV (As := [.int ((128 : Int32) ||| (x1 &&& (63 : Int32)))]) (st := []) dc_Ou_putCharacter_91 (Eq.refl 94) lk_Ou_35 mi_Ou_put rfl (Nat.le_of_ble_eq_true rfl) rfl rfl (Nat.le_of_ble_eq_true rfl) rfl (Nat.le_of_ble_eq_true rfl) (CV.mono h (fun σ7 h => ?_))
        refine J_goto dc_Ou_putCharacter_94 rfl ?_
        exact J_vret dc_Ou_putCharacter_151 rfl h
    · have h := h.2 hc
      refine J_aload_n dc_Ou_putCharacter_22 (Eq.refl 23) 0 rfl ?_
      refine J_sipush (v := (192 : Int32)) dc_Ou_putCharacter_23 (Eq.refl 26) rfl ?_
      refine J_iload_n dc_Ou_putCharacter_26 (Eq.refl 27) 1 rfl ?_
      refine J_bipush (v := (6 : Int32)) dc_Ou_putCharacter_27 (Eq.refl 29) rfl ?_
      refine J_ishr dc_Ou_putCharacter_29 (Eq.refl 30) ?_
      refine J_ior dc_Ou_putCharacter_30 (Eq.refl 31) ?_
      refine J_callVV (As := [.int ((192 : Int32) ||| (x1 >>> ((6 : Int32) &&& 31)))]) (st := []) dc_Ou_putCharacter_31 (Eq.refl 34) lk_Ou_35 mi_Ou_put rfl (Nat.le_of_ble_eq_true rfl) rfl rfl (Nat.le_of_ble_eq_true rfl) rfl (Nat.le_of_ble_eq_true rfl) (CV.mono h (fun σ8 h => ?_))
      refine J_aload_n dc_Ou_putCharacter_34 (Eq.refl 35) 0 rfl ?_
      refine J_sipush (v := (128 : Int32)) dc_Ou_putCharacter_35 (Eq.refl 38) rfl ?_
      refine J_iload_n dc_Ou_putCharacter_38 (Eq.refl 39) 1 rfl ?_
      refine J_bipush (v := (63 : Int32)) dc_Ou_putCharacter_39 (Eq.refl 41) rfl ?_
      refine J_iand dc_Ou_putCharacter_41 (Eq.refl 42) ?_
      refine J_ior dc_Ou_putCharacter_42 (Eq.refl 43) ?_
      refine J_callVV (As := [.int ((128 : Int32) ||| (x1 &&& (63 : Int32)))]) (st := []) dc_Ou_putCharacter_43 (Eq.refl 46) lk_Ou_35 mi_Ou_put rfl (Nat.le_of_ble_eq_true rfl) rfl rfl (Nat.le_of_ble_eq_true rfl) rfl (Nat.le_of_ble_eq_true rfl) (CV.mono h (fun σ9 h => ?_))
      refine J_goto dc_Ou_putCharacter_46 rfl ?_
      exact J_vret dc_Ou_putCharacter_151 rfl h
  · have h := h.2 hc
    refine J_aload_n dc_Ou_putCharacter_7 (Eq.refl 8) 0 rfl ?_
    refine J_iload_n dc_Ou_putCharacter_8 (Eq.refl 9) 1 rfl ?_
    refine J_callVV (As := [.int x1]) (st := []) dc_Ou_putCharacter_9 (Eq.refl 12) lk_Ou_35 mi_Ou_put rfl (Nat.le_of_ble_eq_true rfl) rfl rfl (Nat.le_of_ble_eq_true rfl) rfl (Nat.le_of_ble_eq_true rfl) (CV.mono h (fun σ10 h => ?_))
    refine J_goto dc_Ou_putCharacter_12 rfl ?_
    exact J_vret dc_Ou_putCharacter_151 rfl h
