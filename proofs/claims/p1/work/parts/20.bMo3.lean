theorem dc_Mo_exactly_0 : decode m_Mo_exactly.2.1 0 = .ok (.lload_n 1, 1) := by decide +kernel
theorem dc_Mo_exactly_1 : decode m_Mo_exactly.2.1 1 = .ok (.bipush 52, 2) := by decide +kernel
theorem dc_Mo_exactly_3 : decode m_Mo_exactly.2.1 3 = .ok (.lushr, 1) := by decide +kernel
theorem dc_Mo_exactly_4 : decode m_Mo_exactly.2.1 4 = .ok (.ldc2_w 206, 3) := by decide +kernel
theorem dc_Mo_exactly_7 : decode m_Mo_exactly.2.1 7 = .ok (.land, 1) := by decide +kernel
theorem dc_Mo_exactly_8 : decode m_Mo_exactly.2.1 8 = .ok (.l2i, 1) := by decide +kernel
theorem dc_Mo_exactly_9 : decode m_Mo_exactly.2.1 9 = .ok (.istore_n 3, 1) := by decide +kernel
theorem dc_Mo_exactly_10 : decode m_Mo_exactly.2.1 10 = .ok (.lload_n 1, 1) := by decide +kernel
theorem dc_Mo_exactly_11 : decode m_Mo_exactly.2.1 11 = .ok (.ldc2_w 204, 3) := by decide +kernel
theorem dc_Mo_exactly_14 : decode m_Mo_exactly.2.1 14 = .ok (.land, 1) := by decide +kernel
theorem dc_Mo_exactly_15 : decode m_Mo_exactly.2.1 15 = .ok (.lstore 4, 2) := by decide +kernel
theorem dc_Mo_exactly_17 : decode m_Mo_exactly.2.1 17 = .ok (.iload_n 3, 1) := by decide +kernel
theorem dc_Mo_exactly_18 : decode m_Mo_exactly.2.1 18 = .ok (.ifCond .le 11, 3) := by decide +kernel
theorem dc_Mo_exactly_21 : decode m_Mo_exactly.2.1 21 = .ok (.lload 4, 2) := by decide +kernel
theorem dc_Mo_exactly_23 : decode m_Mo_exactly.2.1 23 = .ok (.ldc2_w 202, 3) := by decide +kernel
theorem dc_Mo_exactly_26 : decode m_Mo_exactly.2.1 26 = .ok (.lor, 1) := by decide +kernel
theorem dc_Mo_exactly_27 : decode m_Mo_exactly.2.1 27 = .ok (.lstore 4, 2) := by decide +kernel
theorem dc_Mo_exactly_29 : decode m_Mo_exactly.2.1 29 = .ok (.aload_n 0, 1) := by decide +kernel
theorem dc_Mo_exactly_30 : decode m_Mo_exactly.2.1 30 = .ok (.iconst 0, 1) := by decide +kernel
theorem dc_Mo_exactly_31 : decode m_Mo_exactly.2.1 31 = .ok (.putfield 175, 3) := by decide +kernel
theorem dc_Mo_exactly_34 : decode m_Mo_exactly.2.1 34 = .ok (.ldc2_w 208, 3) := by decide +kernel
theorem dc_Mo_exactly_37 : decode m_Mo_exactly.2.1 37 = .ok (.lstore 6, 2) := by decide +kernel
theorem dc_Mo_exactly_39 : decode m_Mo_exactly.2.1 39 = .ok (.iconst 1, 1) := by decide +kernel
theorem dc_Mo_exactly_40 : decode m_Mo_exactly.2.1 40 = .ok (.istore 8, 2) := by decide +kernel
theorem dc_Mo_exactly_42 : decode m_Mo_exactly.2.1 42 = .ok (.lload 6, 2) := by decide +kernel
theorem dc_Mo_exactly_44 : decode m_Mo_exactly.2.1 44 = .ok (.lconst 0, 1) := by decide +kernel
theorem dc_Mo_exactly_45 : decode m_Mo_exactly.2.1 45 = .ok (.lcmp, 1) := by decide +kernel
theorem dc_Mo_exactly_46 : decode m_Mo_exactly.2.1 46 = .ok (.ifCond .le 60, 3) := by decide +kernel
theorem dc_Mo_exactly_49 : decode m_Mo_exactly.2.1 49 = .ok (.lload 4, 2) := by decide +kernel
theorem dc_Mo_exactly_51 : decode m_Mo_exactly.2.1 51 = .ok (.lload 6, 2) := by decide +kernel
theorem dc_Mo_exactly_53 : decode m_Mo_exactly.2.1 53 = .ok (.ldiv, 1) := by decide +kernel
theorem dc_Mo_exactly_54 : decode m_Mo_exactly.2.1 54 = .ok (.ldc2_w 181, 3) := by decide +kernel
theorem dc_Mo_exactly_57 : decode m_Mo_exactly.2.1 57 = .ok (.lrem, 1) := by decide +kernel
theorem dc_Mo_exactly_58 : decode m_Mo_exactly.2.1 58 = .ok (.l2i, 1) := by decide +kernel
theorem dc_Mo_exactly_59 : decode m_Mo_exactly.2.1 59 = .ok (.istore 9, 2) := by decide +kernel
theorem dc_Mo_exactly_61 : decode m_Mo_exactly.2.1 61 = .ok (.iload 8, 2) := by decide +kernel
theorem dc_Mo_exactly_63 : decode m_Mo_exactly.2.1 63 = .ok (.ifCond .eq 8, 3) := by decide +kernel
theorem dc_Mo_exactly_66 : decode m_Mo_exactly.2.1 66 = .ok (.iload 9, 2) := by decide +kernel
theorem dc_Mo_exactly_68 : decode m_Mo_exactly.2.1 68 = .ok (.ifCond .le 27, 3) := by decide +kernel
theorem dc_Mo_exactly_71 : decode m_Mo_exactly.2.1 71 = .ok (.aload_n 0, 1) := by decide +kernel
theorem dc_Mo_exactly_72 : decode m_Mo_exactly.2.1 72 = .ok (.getfield 16, 3) := by decide +kernel
theorem dc_Mo_exactly_75 : decode m_Mo_exactly.2.1 75 = .ok (.aload_n 0, 1) := by decide +kernel
theorem dc_Mo_exactly_76 : decode m_Mo_exactly.2.1 76 = .ok (.getfield 175, 3) := by decide +kernel
theorem dc_Mo_exactly_79 : decode m_Mo_exactly.2.1 79 = .ok (.iload 9, 2) := by decide +kernel
theorem dc_Mo_exactly_81 : decode m_Mo_exactly.2.1 81 = .ok (.iastore, 1) := by decide +kernel
theorem dc_Mo_exactly_82 : decode m_Mo_exactly.2.1 82 = .ok (.aload_n 0, 1) := by decide +kernel
theorem dc_Mo_exactly_83 : decode m_Mo_exactly.2.1 83 = .ok (.dup, 1) := by decide +kernel
theorem dc_Mo_exactly_84 : decode m_Mo_exactly.2.1 84 = .ok (.getfield 175, 3) := by decide +kernel
theorem dc_Mo_exactly_87 : decode m_Mo_exactly.2.1 87 = .ok (.iconst 1, 1) := by decide +kernel
theorem dc_Mo_exactly_88 : decode m_Mo_exactly.2.1 88 = .ok (.iadd, 1) := by decide +kernel
theorem dc_Mo_exactly_89 : decode m_Mo_exactly.2.1 89 = .ok (.putfield 175, 3) := by decide +kernel
theorem dc_Mo_exactly_92 : decode m_Mo_exactly.2.1 92 = .ok (.iconst 0, 1) := by decide +kernel
theorem dc_Mo_exactly_93 : decode m_Mo_exactly.2.1 93 = .ok (.istore 8, 2) := by decide +kernel
theorem dc_Mo_exactly_95 : decode m_Mo_exactly.2.1 95 = .ok (.lload 6, 2) := by decide +kernel
theorem dc_Mo_exactly_97 : decode m_Mo_exactly.2.1 97 = .ok (.ldc2_w 181, 3) := by decide +kernel
theorem dc_Mo_exactly_100 : decode m_Mo_exactly.2.1 100 = .ok (.ldiv, 1) := by decide +kernel
theorem dc_Mo_exactly_101 : decode m_Mo_exactly.2.1 101 = .ok (.lstore 6, 2) := by decide +kernel
theorem dc_Mo_exactly_103 : decode m_Mo_exactly.2.1 103 = .ok (.goto (-61), 3) := by decide +kernel
theorem dc_Mo_exactly_106 : decode m_Mo_exactly.2.1 106 = .ok (.aload_n 0, 1) := by decide +kernel
theorem dc_Mo_exactly_107 : decode m_Mo_exactly.2.1 107 = .ok (.aload_n 0, 1) := by decide +kernel
theorem dc_Mo_exactly_108 : decode m_Mo_exactly.2.1 108 = .ok (.getfield 175, 3) := by decide +kernel
theorem dc_Mo_exactly_111 : decode m_Mo_exactly.2.1 111 = .ok (.putfield 178, 3) := by decide +kernel
theorem dc_Mo_exactly_114 : decode m_Mo_exactly.2.1 114 = .ok (.aload_n 0, 1) := by decide +kernel
theorem dc_Mo_exactly_115 : decode m_Mo_exactly.2.1 115 = .ok (.invokevirtual 183, 3) := by decide +kernel
theorem dc_Mo_exactly_118 : decode m_Mo_exactly.2.1 118 = .ok (.iload_n 3, 1) := by decide +kernel
theorem dc_Mo_exactly_119 : decode m_Mo_exactly.2.1 119 = .ok (.ifCond .ne 7, 3) := by decide +kernel
theorem dc_Mo_exactly_122 : decode m_Mo_exactly.2.1 122 = .ok (.iconst 1, 1) := by decide +kernel
theorem dc_Mo_exactly_123 : decode m_Mo_exactly.2.1 123 = .ok (.goto 4, 3) := by decide +kernel
theorem dc_Mo_exactly_126 : decode m_Mo_exactly.2.1 126 = .ok (.iload_n 3, 1) := by decide +kernel
theorem dc_Mo_exactly_127 : decode m_Mo_exactly.2.1 127 = .ok (.sipush 1075, 3) := by decide +kernel
theorem dc_Mo_exactly_130 : decode m_Mo_exactly.2.1 130 = .ok (.isub, 1) := by decide +kernel
theorem dc_Mo_exactly_131 : decode m_Mo_exactly.2.1 131 = .ok (.istore 9, 2) := by decide +kernel
theorem dc_Mo_exactly_133 : decode m_Mo_exactly.2.1 133 = .ok (.iload 9, 2) := by decide +kernel
theorem dc_Mo_exactly_135 : decode m_Mo_exactly.2.1 135 = .ok (.ifCond .le 12, 3) := by decide +kernel
theorem dc_Mo_exactly_138 : decode m_Mo_exactly.2.1 138 = .ok (.aload_n 0, 1) := by decide +kernel
theorem dc_Mo_exactly_139 : decode m_Mo_exactly.2.1 139 = .ok (.iload 9, 2) := by decide +kernel
theorem dc_Mo_exactly_141 : decode m_Mo_exactly.2.1 141 = .ok (.invokevirtual 197, 3) := by decide +kernel
theorem dc_Mo_exactly_144 : decode m_Mo_exactly.2.1 144 = .ok (.goto 10, 3) := by decide +kernel
theorem dc_Mo_exactly_147 : decode m_Mo_exactly.2.1 147 = .ok (.aload_n 0, 1) := by decide +kernel
theorem dc_Mo_exactly_148 : decode m_Mo_exactly.2.1 148 = .ok (.iload 9, 2) := by decide +kernel
theorem dc_Mo_exactly_150 : decode m_Mo_exactly.2.1 150 = .ok (.ineg, 1) := by decide +kernel
theorem dc_Mo_exactly_151 : decode m_Mo_exactly.2.1 151 = .ok (.invokevirtual 194, 3) := by decide +kernel
theorem dc_Mo_exactly_154 : decode m_Mo_exactly.2.1 154 = .ok (.return_, 1) := by decide +kernel
theorem b_Mo_exactly_0 {E : En_t} {d : Nat} {σ : S_t} {Q : Option Value → S_t → Prop} {x1 : Int64}
    (h : (((((x1.toUInt64 >>> ((52 : Int32).toInt64.toUInt64 &&& Int64.toUInt64 63)).toInt64) &&& (2047 : Int64)).toInt32) ≤ 0 → JE E (d + 1) m_Mo_exactly 29 [(0, pv E 0), (3, .int ((((x1.toUInt64 >>> ((52 : Int32).toInt64.toUInt64 &&& Int64.toUInt64 63)).toInt64) &&& (2047 : Int64)).toInt32)), (4, .long (x1 &&& (4503599627370495 : Int64)))] [] σ Q) ∧ (¬ ((((x1.toUInt64 >>> ((52 : Int32).toInt64.toUInt64 &&& Int64.toUInt64 63)).toInt64) &&& (2047 : Int64)).toInt32) ≤ 0 → JE E (d + 1) m_Mo_exactly 29 [(0, pv E 0), (3, .int ((((x1.toUInt64 >>> ((52 : Int32).toInt64.toUInt64 &&& Int64.toUInt64 63)).toInt64) &&& (2047 : Int64)).toInt32)), (4, .long ((x1 &&& (4503599627370495 : Int64)) ||| (4503599627370496 : Int64)))] [] σ Q)) :
    JE E (d + 1) m_Mo_exactly 0 [(0, pv E 0), (1, .long x1)] [] σ Q := by
  refine J_lload_n dc_Mo_exactly_0 (Eq.refl 1) 1 rfl ?_
  refine J_bipush (v := (52 : Int32)) dc_Mo_exactly_1 (Eq.refl 3) rfl ?_
  refine J_lushr dc_Mo_exactly_3 (Eq.refl 4) ?_
  refine J_ldc2 dc_Mo_exactly_4 (Eq.refl 7) kc_Mo_206 ?_
  refine J_land dc_Mo_exactly_7 (Eq.refl 8) ?_
  refine J_l2i dc_Mo_exactly_8 (Eq.refl 9) ?_
  refine J_istore_n (L' := [(3, .int ((((x1.toUInt64 >>> ((52 : Int32).toInt64.toUInt64 &&& Int64.toUInt64 63)).toInt64) &&& (2047 : Int64)).toInt32)), (0, pv E 0), (1, .long x1)]) dc_Mo_exactly_9 (Eq.refl 10) (Nat.le_of_ble_eq_true rfl) rfl ?_
  refine J_lload_n dc_Mo_exactly_10 (Eq.refl 11) 2 rfl ?_
  refine J_ldc2 dc_Mo_exactly_11 (Eq.refl 14) kc_Mo_204 ?_
  refine J_land dc_Mo_exactly_14 (Eq.refl 15) ?_
  refine J_lstore (L' := [(4, .long (x1 &&& (4503599627370495 : Int64))), (3, .int ((((x1.toUInt64 >>> ((52 : Int32).toInt64.toUInt64 &&& Int64.toUInt64 63)).toInt64) &&& (2047 : Int64)).toInt32)), (0, pv E 0), (1, .long x1)]) dc_Mo_exactly_15 (Eq.refl 17) (Nat.le_of_ble_eq_true rfl) rfl ?_
  refine J_iload_n dc_Mo_exactly_17 (Eq.refl 18) 1 rfl ?_
  refine J_if_le dc_Mo_exactly_18 (Eq.refl 21) rfl (fun hc => ?_) (fun hc => ?_)
  · have h := h.1 hc
    refine J_sub [2, 1, 0] rfl ?_
    exact h
  · have h := h.2 hc
    refine J_lload dc_Mo_exactly_21 (Eq.refl 23) 0 rfl ?_
    refine J_ldc2 dc_Mo_exactly_23 (Eq.refl 26) kc_Mo_202 ?_
    refine J_lor dc_Mo_exactly_26 (Eq.refl 27) ?_
    refine J_lstore (L' := [(4, .long ((x1 &&& (4503599627370495 : Int64)) ||| (4503599627370496 : Int64))), (3, .int ((((x1.toUInt64 >>> ((52 : Int32).toInt64.toUInt64 &&& Int64.toUInt64 63)).toInt64) &&& (2047 : Int64)).toInt32)), (0, pv E 0), (1, .long x1)]) dc_Mo_exactly_27 (Eq.refl 29) (Nat.le_of_ble_eq_true rfl) rfl ?_
    refine J_sub [2, 1, 0] rfl ?_
    exact h
theorem b_Mo_exactly_29 {E : En_t} {d : Nat} {σ : S_t} {Q : Option Value → S_t → Prop} {x3 : Int32} {x4 : Int64}
    (h : JE E (d + 1) m_Mo_exactly 42 [(0, pv E 0), (3, .int x3), (4, .long x4), (6, .long (1000000000000000 : Int64)), (8, .int (1 : Int32))] [] (sI σ 0 6 (0 : Int32)) Q) :
    JE E (d + 1) m_Mo_exactly 29 [(0, pv E 0), (3, .int x3), (4, .long x4)] [] σ Q := by
  refine J_aload_n dc_Mo_exactly_29 (Eq.refl 30) 0 rfl ?_
  refine J_iconst (v := (0 : Int32)) dc_Mo_exactly_30 (Eq.refl 31) rfl ?_
  refine J_putI dc_Mo_exactly_31 (Eq.refl 34) pl_Mo_175 (Nat.le_of_ble_eq_true rfl) rfl rfl ?_
  refine J_ldc2 dc_Mo_exactly_34 (Eq.refl 37) kc_Mo_208 ?_
  refine J_lstore (L' := [(6, .long (1000000000000000 : Int64)), (0, pv E 0), (3, .int x3), (4, .long x4)]) dc_Mo_exactly_37 (Eq.refl 39) (Nat.le_of_ble_eq_true rfl) rfl ?_
  refine J_iconst (v := (1 : Int32)) dc_Mo_exactly_39 (Eq.refl 40) rfl ?_
  refine J_istore (L' := [(8, .int (1 : Int32)), (6, .long (1000000000000000 : Int64)), (0, pv E 0), (3, .int x3), (4, .long x4)]) dc_Mo_exactly_40 (Eq.refl 42) (Nat.le_of_ble_eq_true rfl) rfl ?_
  refine J_sub [2, 3, 4, 1, 0] rfl ?_
  exact h
theorem b_Mo_exactly_42 {E : En_t} {d : Nat} {σ : S_t} {Q : Option Value → S_t → Prop} {x3 : Int32} {x4 : Int64} {x6 : Int64} {x8 : Int32}
    (h : ((lg_cmp x6 (0 : Int64)) ≤ 0 → CV E d m_Mo_trim [pv E 0] (sI σ 0 7 (gI σ 0 6)) (fun σ1 => (¬ x3 = 0 → JE E (d + 1) m_Mo_exactly 127 [(0, pv E 0)] [.int x3] σ1 Q) ∧ (x3 = 0 → JE E (d + 1) m_Mo_exactly 127 [(0, pv E 0)] [.int (1 : Int32)] σ1 Q))) ∧ (¬ (lg_cmp x6 (0 : Int64)) ≤ 0 → ¬ x6 = 0 ∧ ((x8 = 0 → JE E (d + 1) m_Mo_exactly 71 [(0, pv E 0), (3, .int x3), (4, .long x4), (6, .long x6), (9, .int (((x4 / x6) - (x4 / x6) / (10 : Int64) * (10 : Int64)).toInt32))] [] σ Q) ∧ (¬ x8 = 0 → ((((x4 / x6) - (x4 / x6) / (10 : Int64) * (10 : Int64)).toInt32) ≤ 0 → JE E (d + 1) m_Mo_exactly 95 [(0, pv E 0), (3, .int x3), (4, .long x4), (6, .long x6), (8, .int x8)] [] σ Q) ∧ (¬ (((x4 / x6) - (x4 / x6) / (10 : Int64) * (10 : Int64)).toInt32) ≤ 0 → JE E (d + 1) m_Mo_exactly 71 [(0, pv E 0), (3, .int x3), (4, .long x4), (6, .long x6), (9, .int (((x4 / x6) - (x4 / x6) / (10 : Int64) * (10 : Int64)).toInt32))] [] σ Q))))) :
    JE E (d + 1) m_Mo_exactly 42 [(0, pv E 0), (3, .int x3), (4, .long x4), (6, .long x6), (8, .int x8)] [] σ Q := by
  refine J_lload dc_Mo_exactly_42 (Eq.refl 44) 3 rfl ?_
  refine J_lconst (v := (0 : Int64)) dc_Mo_exactly_44 (Eq.refl 45) rfl ?_
  refine J_lcmp dc_Mo_exactly_45 (Eq.refl 46) ?_
  refine J_if_le dc_Mo_exactly_46 (Eq.refl 49) rfl (fun hc => ?_) (fun hc => ?_)
  · have h := h.1 hc
    refine J_aload_n dc_Mo_exactly_106 (Eq.refl 107) 0 rfl ?_
    refine J_aload_n dc_Mo_exactly_107 (Eq.refl 108) 0 rfl ?_
    refine J_getI dc_Mo_exactly_108 (Eq.refl 111) fl_Mo_175 (Nat.le_of_ble_eq_true rfl) rfl (Or.inl rfl) ?_
    refine J_putI dc_Mo_exactly_111 (Eq.refl 114) pl_Mo_178 (Nat.le_of_ble_eq_true rfl) rfl rfl ?_
    refine J_aload_n dc_Mo_exactly_114 (Eq.refl 115) 0 rfl ?_
    refine J_callVV (As := []) (st := []) dc_Mo_exactly_115 (Eq.refl 118) lk_Mo_183 mi_Mo_trim rfl (Nat.le_of_ble_eq_true rfl) rfl rfl (Nat.le_of_ble_eq_true rfl) rfl (Nat.le_of_ble_eq_true rfl) (CV.mono h (fun σ1 h => ?_))
    refine J_iload_n dc_Mo_exactly_118 (Eq.refl 119) 1 rfl ?_
    refine J_if_ne dc_Mo_exactly_119 (Eq.refl 122) rfl (fun hc => ?_) (fun hc => ?_)
    · have h := h.1 hc
      refine J_iload_n dc_Mo_exactly_126 (Eq.refl 127) 1 rfl ?_
      refine J_sub [0] rfl ?_
      exact h
    · have h := h.2 hc
      refine J_iconst (v := (1 : Int32)) dc_Mo_exactly_122 (Eq.refl 123) rfl ?_
      refine J_goto dc_Mo_exactly_123 rfl ?_
      refine J_sub [0] rfl ?_
      exact h
  · have h := h.2 hc
    refine J_lload dc_Mo_exactly_49 (Eq.refl 51) 2 rfl ?_
    refine J_lload dc_Mo_exactly_51 (Eq.refl 53) 3 rfl ?_
    obtain ⟨hg, h⟩ := h
    refine J_ldiv dc_Mo_exactly_53 (Eq.refl 54) hg ?_
    refine J_ldc2 dc_Mo_exactly_54 (Eq.refl 57) kc_Mo_181 ?_
    refine J_lrem dc_Mo_exactly_57 (Eq.refl 58) (by decide) ?_
    refine J_l2i dc_Mo_exactly_58 (Eq.refl 59) ?_
    refine J_istore (L' := [(9, .int (((x4 / x6) - (x4 / x6) / (10 : Int64) * (10 : Int64)).toInt32)), (0, pv E 0), (3, .int x3), (4, .long x4), (6, .long x6), (8, .int x8)]) dc_Mo_exactly_59 (Eq.refl 61) (Nat.le_of_ble_eq_true rfl) rfl ?_
    refine J_iload dc_Mo_exactly_61 (Eq.refl 63) 5 rfl ?_
    refine J_if_eq dc_Mo_exactly_63 (Eq.refl 66) rfl (fun hc => ?_) (fun hc => ?_)
    · have h := h.1 hc
      refine J_sub [1, 2, 3, 4, 0] rfl ?_
      exact h
    · have h := h.2 hc
      refine J_iload dc_Mo_exactly_66 (Eq.refl 68) 0 rfl ?_
      refine J_if_le dc_Mo_exactly_68 (Eq.refl 71) rfl (fun hc => ?_) (fun hc => ?_)
      · have h := h.1 hc
        refine J_sub [1, 2, 3, 4, 5] rfl ?_
        exact h
      · have h := h.2 hc
        refine J_sub [1, 2, 3, 4, 0] rfl ?_
        exact h
theorem b_Mo_exactly_71 {E : En_t} {d : Nat} {σ : S_t} {Q : Option Value → S_t → Prop} {x3 : Int32} {x4 : Int64} {x6 : Int64} {x9 : Int32}
    (h : vp_in (gI σ 0 6) 6000 ∧ (JE E (d + 1) m_Mo_exactly 95 [(0, pv E 0), (3, .int x3), (4, .long x4), (6, .long x6), (8, .int (0 : Int32))] [] (sI (sI σ 3 (gI σ 0 6).toNatClampNeg x9) 0 6 ((gI (sI σ 3 (gI σ 0 6).toNatClampNeg x9) 0 6) + (1 : Int32))) Q)) :
    JE E (d + 1) m_Mo_exactly 71 [(0, pv E 0), (3, .int x3), (4, .long x4), (6, .long x6), (9, .int x9)] [] σ Q := by
  refine J_aload_n dc_Mo_exactly_71 (Eq.refl 72) 0 rfl ?_
  refine J_getF (y := 3) dc_Mo_exactly_72 (Eq.refl 75) fl_Mo_16 (Nat.le_of_ble_eq_true rfl) rfl (Or.inl rfl) rfl ?_
  refine J_aload_n dc_Mo_exactly_75 (Eq.refl 76) 0 rfl ?_
  refine J_getI dc_Mo_exactly_76 (Eq.refl 79) fl_Mo_175 (Nat.le_of_ble_eq_true rfl) rfl (Or.inl rfl) ?_
  refine J_iload dc_Mo_exactly_79 (Eq.refl 81) 4 rfl ?_
  obtain ⟨hg, h⟩ := h
  refine J_iast dc_Mo_exactly_81 (Eq.refl 82) rfl rfl hg ?_
  refine J_aload_n dc_Mo_exactly_82 (Eq.refl 83) 0 rfl ?_
  refine J_dup dc_Mo_exactly_83 (Eq.refl 84) rfl ?_
  refine J_getI dc_Mo_exactly_84 (Eq.refl 87) fl_Mo_175 (Nat.le_of_ble_eq_true rfl) rfl (Or.inl rfl) ?_
  refine J_iconst (v := (1 : Int32)) dc_Mo_exactly_87 (Eq.refl 88) rfl ?_
  refine J_iadd dc_Mo_exactly_88 (Eq.refl 89) ?_
  refine J_putI dc_Mo_exactly_89 (Eq.refl 92) pl_Mo_175 (Nat.le_of_ble_eq_true rfl) rfl rfl ?_
  refine J_iconst (v := (0 : Int32)) dc_Mo_exactly_92 (Eq.refl 93) rfl ?_
  refine J_istore (L' := [(8, .int (0 : Int32)), (0, pv E 0), (3, .int x3), (4, .long x4), (6, .long x6), (9, .int x9)]) dc_Mo_exactly_93 (Eq.refl 95) (Nat.le_of_ble_eq_true rfl) rfl ?_
  refine J_sub [1, 2, 3, 4, 0] rfl ?_
  exact h
theorem b_Mo_exactly_95 {E : En_t} {d : Nat} {σ : S_t} {Q : Option Value → S_t → Prop} {x3 : Int32} {x4 : Int64} {x6 : Int64} {x8 : Int32}
    (h : JE E (d + 1) m_Mo_exactly 42 [(0, pv E 0), (3, .int x3), (4, .long x4), (6, .long (x6 / (10 : Int64))), (8, .int x8)] [] σ Q) :
    JE E (d + 1) m_Mo_exactly 95 [(0, pv E 0), (3, .int x3), (4, .long x4), (6, .long x6), (8, .int x8)] [] σ Q := by
  refine J_lload dc_Mo_exactly_95 (Eq.refl 97) 3 rfl ?_
  refine J_ldc2 dc_Mo_exactly_97 (Eq.refl 100) kc_Mo_181 ?_
  refine J_ldiv dc_Mo_exactly_100 (Eq.refl 101) (by decide) ?_
  refine J_lstore (L' := [(6, .long (x6 / (10 : Int64))), (0, pv E 0), (3, .int x3), (4, .long x4), (8, .int x8)]) dc_Mo_exactly_101 (Eq.refl 103) (Nat.le_of_ble_eq_true rfl) rfl ?_
  refine J_goto dc_Mo_exactly_103 rfl ?_
  refine J_sub [1, 2, 3, 0, 4] rfl ?_
  exact h
theorem b_Mo_exactly_127 {E : En_t} {d : Nat} {σ : S_t} {Q : Option Value → S_t → Prop} {s0 : Int32}
    (h : ((s0 - (1075 : Int32)) ≤ 0 → CV E d m_Mo_halvedBy [pv E 0, .int (-(s0 - (1075 : Int32)))] σ (fun σ1 => Q none σ1)) ∧ (¬ (s0 - (1075 : Int32)) ≤ 0 → CV E d m_Mo_doubledBy [pv E 0, .int (s0 - (1075 : Int32))] σ (fun σ2 => Q none σ2))) :
    JE E (d + 1) m_Mo_exactly 127 [(0, pv E 0)] [.int s0] σ Q := by
  refine J_sipush (v := (1075 : Int32)) dc_Mo_exactly_127 (Eq.refl 130) rfl ?_
  refine J_isub dc_Mo_exactly_130 (Eq.refl 131) ?_
  refine J_istore (L' := [(9, .int (s0 - (1075 : Int32))), (0, pv E 0)]) dc_Mo_exactly_131 (Eq.refl 133) (Nat.le_of_ble_eq_true rfl) rfl ?_
  refine J_iload dc_Mo_exactly_133 (Eq.refl 135) 0 rfl ?_
  refine J_if_le dc_Mo_exactly_135 (Eq.refl 138) rfl (fun hc => ?_) (fun hc => ?_)
  · have h := h.1 hc
    refine J_aload_n dc_Mo_exactly_147 (Eq.refl 148) 1 rfl ?_
    refine J_iload dc_Mo_exactly_148 (Eq.refl 150) 0 rfl ?_
    refine J_ineg dc_Mo_exactly_150 (Eq.refl 151) ?_
    refine J_callVV (As := [.int (-(s0 - (1075 : Int32)))]) (st := []) dc_Mo_exactly_151 (Eq.refl 154) lk_Mo_194 mi_Mo_halvedBy rfl (Nat.le_of_ble_eq_true rfl) rfl rfl (Nat.le_of_ble_eq_true rfl) rfl (Nat.le_of_ble_eq_true rfl) (CV.mono h (fun σ1 h => ?_))
    exact J_vret dc_Mo_exactly_154 rfl h
  · have h := h.2 hc
    refine J_aload_n dc_Mo_exactly_138 (Eq.refl 139) 1 rfl ?_
    refine J_iload dc_Mo_exactly_139 (Eq.refl 141) 0 rfl ?_
    refine J_callVV (As := [.int (s0 - (1075 : Int32))]) (st := []) dc_Mo_exactly_141 (Eq.refl 144) lk_Mo_197 mi_Mo_doubledBy rfl (Nat.le_of_ble_eq_true rfl) rfl rfl (Nat.le_of_ble_eq_true rfl) rfl (Nat.le_of_ble_eq_true rfl) (CV.mono h (fun σ2 h => ?_))
    refine J_goto dc_Mo_exactly_144 rfl ?_
    exact J_vret dc_Mo_exactly_154 rfl h
theorem dc_Mo_reads_0 : decode m_Mo_reads.2.1 0 = .ok (.aload_n 0, 1) := by decide +kernel
theorem dc_Mo_reads_1 : decode m_Mo_reads.2.1 1 = .ok (.iload_n 1, 1) := by decide +kernel
theorem dc_Mo_reads_2 : decode m_Mo_reads.2.1 2 = .ok (.iload_n 2, 1) := by decide +kernel
theorem dc_Mo_reads_3 : decode m_Mo_reads.2.1 3 = .ok (.invokevirtual 253, 3) := by decide +kernel
theorem dc_Mo_reads_6 : decode m_Mo_reads.2.1 6 = .ok (.aload_n 0, 1) := by decide +kernel
theorem dc_Mo_reads_7 : decode m_Mo_reads.2.1 7 = .ok (.aload_n 0, 1) := by decide +kernel
theorem dc_Mo_reads_8 : decode m_Mo_reads.2.1 8 = .ok (.getfield 247, 3) := by decide +kernel
theorem dc_Mo_reads_11 : decode m_Mo_reads.2.1 11 = .ok (.putfield 175, 3) := by decide +kernel
theorem dc_Mo_reads_14 : decode m_Mo_reads.2.1 14 = .ok (.aload_n 0, 1) := by decide +kernel
theorem dc_Mo_reads_15 : decode m_Mo_reads.2.1 15 = .ok (.aload_n 0, 1) := by decide +kernel
theorem dc_Mo_reads_16 : decode m_Mo_reads.2.1 16 = .ok (.getfield 250, 3) := by decide +kernel
theorem dc_Mo_reads_19 : decode m_Mo_reads.2.1 19 = .ok (.putfield 178, 3) := by decide +kernel
theorem dc_Mo_reads_22 : decode m_Mo_reads.2.1 22 = .ok (.iconst 0, 1) := by decide +kernel
theorem dc_Mo_reads_23 : decode m_Mo_reads.2.1 23 = .ok (.istore 5, 2) := by decide +kernel
theorem dc_Mo_reads_25 : decode m_Mo_reads.2.1 25 = .ok (.iload 5, 2) := by decide +kernel
theorem dc_Mo_reads_27 : decode m_Mo_reads.2.1 27 = .ok (.aload_n 0, 1) := by decide +kernel
theorem dc_Mo_reads_28 : decode m_Mo_reads.2.1 28 = .ok (.getfield 175, 3) := by decide +kernel
theorem dc_Mo_reads_31 : decode m_Mo_reads.2.1 31 = .ok (.if_icmp .ge 23, 3) := by decide +kernel
theorem dc_Mo_reads_34 : decode m_Mo_reads.2.1 34 = .ok (.aload_n 0, 1) := by decide +kernel
theorem dc_Mo_reads_35 : decode m_Mo_reads.2.1 35 = .ok (.getfield 16, 3) := by decide +kernel
theorem dc_Mo_reads_38 : decode m_Mo_reads.2.1 38 = .ok (.iload 5, 2) := by decide +kernel
theorem dc_Mo_reads_40 : decode m_Mo_reads.2.1 40 = .ok (.aload_n 0, 1) := by decide +kernel
theorem dc_Mo_reads_41 : decode m_Mo_reads.2.1 41 = .ok (.getfield 25, 3) := by decide +kernel
theorem dc_Mo_reads_44 : decode m_Mo_reads.2.1 44 = .ok (.iload 5, 2) := by decide +kernel
theorem dc_Mo_reads_46 : decode m_Mo_reads.2.1 46 = .ok (.iaload, 1) := by decide +kernel
theorem dc_Mo_reads_47 : decode m_Mo_reads.2.1 47 = .ok (.iastore, 1) := by decide +kernel
theorem dc_Mo_reads_48 : decode m_Mo_reads.2.1 48 = .ok (.iinc 5 1, 3) := by decide +kernel
theorem dc_Mo_reads_51 : decode m_Mo_reads.2.1 51 = .ok (.goto (-26), 3) := by decide +kernel
theorem dc_Mo_reads_54 : decode m_Mo_reads.2.1 54 = .ok (.aload_n 0, 1) := by decide +kernel
theorem dc_Mo_reads_55 : decode m_Mo_reads.2.1 55 = .ok (.invokevirtual 222, 3) := by decide +kernel
theorem dc_Mo_reads_58 : decode m_Mo_reads.2.1 58 = .ok (.lload_n 3, 1) := by decide +kernel
theorem dc_Mo_reads_59 : decode m_Mo_reads.2.1 59 = .ok (.lcmp, 1) := by decide +kernel
theorem dc_Mo_reads_60 : decode m_Mo_reads.2.1 60 = .ok (.ifCond .ne 7, 3) := by decide +kernel
theorem dc_Mo_reads_63 : decode m_Mo_reads.2.1 63 = .ok (.iconst 1, 1) := by decide +kernel
theorem dc_Mo_reads_64 : decode m_Mo_reads.2.1 64 = .ok (.goto 4, 3) := by decide +kernel
theorem dc_Mo_reads_67 : decode m_Mo_reads.2.1 67 = .ok (.iconst 0, 1) := by decide +kernel
theorem dc_Mo_reads_68 : decode m_Mo_reads.2.1 68 = .ok (.ireturn, 1) := by decide +kernel
theorem b_Mo_reads_0 {E : En_t} {d : Nat} {σ : S_t} {Q : Option Value → S_t → Prop} {x1 : Int32} {x2 : Int32} {x3 : Int64}
    (h : CV E d m_Mo_take_IZ [pv E 0, .int x1, .int x2] σ (fun σ1 => JE E (d + 1) m_Mo_reads 25 [(0, pv E 0), (3, .long x3), (5, .int (0 : Int32))] [] (sI (sI σ1 0 6 (gI σ1 0 15)) 0 7 (gI (sI σ1 0 6 (gI σ1 0 15)) 0 16)) Q)) :
    JE E (d + 1) m_Mo_reads 0 [(0, pv E 0), (1, .int x1), (2, .int x2), (3, .long x3)] [] σ Q := by
  refine J_aload_n dc_Mo_reads_0 (Eq.refl 1) 0 rfl ?_
  refine J_iload_n dc_Mo_reads_1 (Eq.refl 2) 1 rfl ?_
  refine J_iload_n dc_Mo_reads_2 (Eq.refl 3) 2 rfl ?_
  refine J_callVV (As := [.int x1, .int x2]) (st := []) dc_Mo_reads_3 (Eq.refl 6) lk_Mo_253 mi_Mo_take_IZ rfl (Nat.le_of_ble_eq_true rfl) rfl rfl (Nat.le_of_ble_eq_true rfl) rfl (Nat.le_of_ble_eq_true rfl) (CV.mono h (fun σ1 h => ?_))
  refine J_aload_n dc_Mo_reads_6 (Eq.refl 7) 0 rfl ?_
  refine J_aload_n dc_Mo_reads_7 (Eq.refl 8) 0 rfl ?_
  refine J_getI dc_Mo_reads_8 (Eq.refl 11) fl_Mo_247 (Nat.le_of_ble_eq_true rfl) rfl (Or.inl rfl) ?_
  refine J_putI dc_Mo_reads_11 (Eq.refl 14) pl_Mo_175 (Nat.le_of_ble_eq_true rfl) rfl rfl ?_
  refine J_aload_n dc_Mo_reads_14 (Eq.refl 15) 0 rfl ?_
  refine J_aload_n dc_Mo_reads_15 (Eq.refl 16) 0 rfl ?_
  refine J_getI dc_Mo_reads_16 (Eq.refl 19) fl_Mo_250 (Nat.le_of_ble_eq_true rfl) rfl (Or.inl rfl) ?_
  refine J_putI dc_Mo_reads_19 (Eq.refl 22) pl_Mo_178 (Nat.le_of_ble_eq_true rfl) rfl rfl ?_
  refine J_iconst (v := (0 : Int32)) dc_Mo_reads_22 (Eq.refl 23) rfl ?_
  refine J_istore (L' := [(5, .int (0 : Int32)), (0, pv E 0), (1, .int x1), (2, .int x2), (3, .long x3)]) dc_Mo_reads_23 (Eq.refl 25) (Nat.le_of_ble_eq_true rfl) rfl ?_
  refine J_sub [1, 4, 0] rfl ?_
  exact h
theorem b_Mo_reads_25 {E : En_t} {d : Nat} {σ : S_t} {Q : Option Value → S_t → Prop} {x3 : Int64} {x5 : Int32}
    (h : ((gI σ 0 6) ≤ x5 → CL E d m_Mo_nearest [pv E 0] σ (fun r2 σ1 => (¬ (lg_cmp r2 x3) = 0 → Q (some (.int (0 : Int32))) σ1) ∧ ((lg_cmp r2 x3) = 0 → Q (some (.int (1 : Int32))) σ1))) ∧ (¬ (gI σ 0 6) ≤ x5 → vp_in x5 20 ∧ (vp_in x5 6000 ∧ (JE E (d + 1) m_Mo_reads 25 [(0, pv E 0), (3, .long x3), (5, .int (x5 + (1 : Int32)))] [] (sI σ 3 x5.toNatClampNeg (gI σ 6 x5.toNatClampNeg)) Q)))) :
    JE E (d + 1) m_Mo_reads 25 [(0, pv E 0), (3, .long x3), (5, .int x5)] [] σ Q := by
  refine J_iload dc_Mo_reads_25 (Eq.refl 27) 2 rfl ?_
  refine J_aload_n dc_Mo_reads_27 (Eq.refl 28) 0 rfl ?_
  refine J_getI dc_Mo_reads_28 (Eq.refl 31) fl_Mo_175 (Nat.le_of_ble_eq_true rfl) rfl (Or.inl rfl) ?_
  refine J_icmp_ge dc_Mo_reads_31 (Eq.refl 34) rfl (fun hc => ?_) (fun hc => ?_)
  · have h := h.1 hc
    refine J_aload_n dc_Mo_reads_54 (Eq.refl 55) 0 rfl ?_
    refine J_callVL (As := []) (st := []) dc_Mo_reads_55 (Eq.refl 58) lk_Mo_222 mi_Mo_nearest rfl (Nat.le_of_ble_eq_true rfl) rfl rfl (Nat.le_of_ble_eq_true rfl) rfl (Nat.le_of_ble_eq_true rfl) (CL.mono h (fun r2 σ1 h => ?_))
    refine J_lload_n dc_Mo_reads_58 (Eq.refl 59) 1 rfl ?_
    refine J_lcmp dc_Mo_reads_59 (Eq.refl 60) ?_
    refine J_if_ne dc_Mo_reads_60 (Eq.refl 63) rfl (fun hc => ?_) (fun hc => ?_)
    · have h := h.1 hc
      refine J_iconst (v := (0 : Int32)) dc_Mo_reads_67 (Eq.refl 68) rfl ?_
      exact J_zret dc_Mo_reads_68 rfl rfl h
    · have h := h.2 hc
      refine J_iconst (v := (1 : Int32)) dc_Mo_reads_63 (Eq.refl 64) rfl ?_
      refine J_goto dc_Mo_reads_64 rfl ?_
      exact J_zret dc_Mo_reads_68 rfl rfl h
  · have h := h.2 hc
    refine J_aload_n dc_Mo_reads_34 (Eq.refl 35) 0 rfl ?_
    refine J_getF (y := 3) dc_Mo_reads_35 (Eq.refl 38) fl_Mo_16 (Nat.le_of_ble_eq_true rfl) rfl (Or.inl rfl) rfl ?_
    refine J_iload dc_Mo_reads_38 (Eq.refl 40) 2 rfl ?_
    refine J_aload_n dc_Mo_reads_40 (Eq.refl 41) 0 rfl ?_
    refine J_getF (y := 6) dc_Mo_reads_41 (Eq.refl 44) fl_Mo_25 (Nat.le_of_ble_eq_true rfl) rfl (Or.inl rfl) rfl ?_
    refine J_iload dc_Mo_reads_44 (Eq.refl 46) 2 rfl ?_
    obtain ⟨hg, h⟩ := h
    refine J_iald dc_Mo_reads_46 (Eq.refl 47) rfl rfl hg ?_
    obtain ⟨hg, h⟩ := h
    refine J_iast dc_Mo_reads_47 (Eq.refl 48) rfl rfl hg ?_
    refine J_iinc (v := x5 + (1 : Int32)) (L' := [(5, .int (x5 + (1 : Int32))), (0, pv E 0), (3, .long x3)]) dc_Mo_reads_48 (Eq.refl 51) 2 rfl rfl (Nat.le_of_ble_eq_true rfl) rfl ?_
    refine J_goto dc_Mo_reads_51 rfl ?_
    refine J_sub [1, 2, 0] rfl ?_
    exact h
theorem dc_Mo_take_IZ_0 : decode m_Mo_take_IZ.2.1 0 = .ok (.aload_n 0, 1) := by decide +kernel
theorem dc_Mo_take_IZ_1 : decode m_Mo_take_IZ.2.1 1 = .ok (.iload_n 1, 1) := by decide +kernel
theorem dc_Mo_take_IZ_2 : decode m_Mo_take_IZ.2.1 2 = .ok (.putfield 247, 3) := by decide +kernel
theorem dc_Mo_take_IZ_5 : decode m_Mo_take_IZ.2.1 5 = .ok (.aload_n 0, 1) := by decide +kernel
theorem dc_Mo_take_IZ_6 : decode m_Mo_take_IZ.2.1 6 = .ok (.aload_n 0, 1) := by decide +kernel
theorem dc_Mo_take_IZ_7 : decode m_Mo_take_IZ.2.1 7 = .ok (.getfield 244, 3) := by decide +kernel
theorem dc_Mo_take_IZ_10 : decode m_Mo_take_IZ.2.1 10 = .ok (.putfield 250, 3) := by decide +kernel
theorem dc_Mo_take_IZ_13 : decode m_Mo_take_IZ.2.1 13 = .ok (.iconst 0, 1) := by decide +kernel
theorem dc_Mo_take_IZ_14 : decode m_Mo_take_IZ.2.1 14 = .ok (.istore_n 3, 1) := by decide +kernel
theorem dc_Mo_take_IZ_15 : decode m_Mo_take_IZ.2.1 15 = .ok (.iload_n 3, 1) := by decide +kernel
theorem dc_Mo_take_IZ_16 : decode m_Mo_take_IZ.2.1 16 = .ok (.iload_n 1, 1) := by decide +kernel
theorem dc_Mo_take_IZ_17 : decode m_Mo_take_IZ.2.1 17 = .ok (.if_icmp .ge 33, 3) := by decide +kernel
theorem dc_Mo_take_IZ_20 : decode m_Mo_take_IZ.2.1 20 = .ok (.aload_n 0, 1) := by decide +kernel
theorem dc_Mo_take_IZ_21 : decode m_Mo_take_IZ.2.1 21 = .ok (.getfield 25, 3) := by decide +kernel
theorem dc_Mo_take_IZ_24 : decode m_Mo_take_IZ.2.1 24 = .ok (.iload_n 3, 1) := by decide +kernel
theorem dc_Mo_take_IZ_25 : decode m_Mo_take_IZ.2.1 25 = .ok (.iload_n 3, 1) := by decide +kernel
theorem dc_Mo_take_IZ_26 : decode m_Mo_take_IZ.2.1 26 = .ok (.aload_n 0, 1) := by decide +kernel
theorem dc_Mo_take_IZ_27 : decode m_Mo_take_IZ.2.1 27 = .ok (.getfield 241, 3) := by decide +kernel
theorem dc_Mo_take_IZ_30 : decode m_Mo_take_IZ.2.1 30 = .ok (.if_icmp .ge 12, 3) := by decide +kernel
theorem dc_Mo_take_IZ_33 : decode m_Mo_take_IZ.2.1 33 = .ok (.aload_n 0, 1) := by decide +kernel
theorem dc_Mo_take_IZ_34 : decode m_Mo_take_IZ.2.1 34 = .ok (.getfield 22, 3) := by decide +kernel
theorem dc_Mo_take_IZ_37 : decode m_Mo_take_IZ.2.1 37 = .ok (.iload_n 3, 1) := by decide +kernel
theorem dc_Mo_take_IZ_38 : decode m_Mo_take_IZ.2.1 38 = .ok (.iaload, 1) := by decide +kernel
theorem dc_Mo_take_IZ_39 : decode m_Mo_take_IZ.2.1 39 = .ok (.goto 4, 3) := by decide +kernel
theorem dc_Mo_take_IZ_42 : decode m_Mo_take_IZ.2.1 42 = .ok (.iconst 0, 1) := by decide +kernel
theorem dc_Mo_take_IZ_43 : decode m_Mo_take_IZ.2.1 43 = .ok (.iastore, 1) := by decide +kernel
theorem dc_Mo_take_IZ_44 : decode m_Mo_take_IZ.2.1 44 = .ok (.iinc 3 1, 3) := by decide +kernel
theorem dc_Mo_take_IZ_47 : decode m_Mo_take_IZ.2.1 47 = .ok (.goto (-32), 3) := by decide +kernel
theorem dc_Mo_take_IZ_50 : decode m_Mo_take_IZ.2.1 50 = .ok (.iload_n 2, 1) := by decide +kernel
theorem dc_Mo_take_IZ_51 : decode m_Mo_take_IZ.2.1 51 = .ok (.ifCond .ne 4, 3) := by decide +kernel
theorem dc_Mo_take_IZ_54 : decode m_Mo_take_IZ.2.1 54 = .ok (.return_, 1) := by decide +kernel
theorem dc_Mo_take_IZ_55 : decode m_Mo_take_IZ.2.1 55 = .ok (.iload_n 1, 1) := by decide +kernel
theorem dc_Mo_take_IZ_56 : decode m_Mo_take_IZ.2.1 56 = .ok (.iconst 1, 1) := by decide +kernel
theorem dc_Mo_take_IZ_57 : decode m_Mo_take_IZ.2.1 57 = .ok (.isub, 1) := by decide +kernel
theorem dc_Mo_take_IZ_58 : decode m_Mo_take_IZ.2.1 58 = .ok (.istore_n 3, 1) := by decide +kernel
theorem dc_Mo_take_IZ_59 : decode m_Mo_take_IZ.2.1 59 = .ok (.iload_n 3, 1) := by decide +kernel
theorem dc_Mo_take_IZ_60 : decode m_Mo_take_IZ.2.1 60 = .ok (.ifCond .lt 27, 3) := by decide +kernel
theorem dc_Mo_take_IZ_63 : decode m_Mo_take_IZ.2.1 63 = .ok (.aload_n 0, 1) := by decide +kernel
theorem dc_Mo_take_IZ_64 : decode m_Mo_take_IZ.2.1 64 = .ok (.getfield 25, 3) := by decide +kernel
theorem dc_Mo_take_IZ_67 : decode m_Mo_take_IZ.2.1 67 = .ok (.iload_n 3, 1) := by decide +kernel
theorem dc_Mo_take_IZ_68 : decode m_Mo_take_IZ.2.1 68 = .ok (.iaload, 1) := by decide +kernel
theorem dc_Mo_take_IZ_69 : decode m_Mo_take_IZ.2.1 69 = .ok (.bipush 9, 2) := by decide +kernel
theorem dc_Mo_take_IZ_71 : decode m_Mo_take_IZ.2.1 71 = .ok (.if_icmp .ne 16, 3) := by decide +kernel
theorem dc_Mo_take_IZ_74 : decode m_Mo_take_IZ.2.1 74 = .ok (.aload_n 0, 1) := by decide +kernel
theorem dc_Mo_take_IZ_75 : decode m_Mo_take_IZ.2.1 75 = .ok (.getfield 25, 3) := by decide +kernel
theorem dc_Mo_take_IZ_78 : decode m_Mo_take_IZ.2.1 78 = .ok (.iload_n 3, 1) := by decide +kernel
theorem dc_Mo_take_IZ_79 : decode m_Mo_take_IZ.2.1 79 = .ok (.iconst 0, 1) := by decide +kernel
theorem dc_Mo_take_IZ_80 : decode m_Mo_take_IZ.2.1 80 = .ok (.iastore, 1) := by decide +kernel
theorem dc_Mo_take_IZ_81 : decode m_Mo_take_IZ.2.1 81 = .ok (.iinc 3 (-1), 3) := by decide +kernel
theorem dc_Mo_take_IZ_84 : decode m_Mo_take_IZ.2.1 84 = .ok (.goto (-25), 3) := by decide +kernel
theorem dc_Mo_take_IZ_87 : decode m_Mo_take_IZ.2.1 87 = .ok (.iload_n 3, 1) := by decide +kernel
theorem dc_Mo_take_IZ_88 : decode m_Mo_take_IZ.2.1 88 = .ok (.ifCond .lt 16, 3) := by decide +kernel
theorem dc_Mo_take_IZ_91 : decode m_Mo_take_IZ.2.1 91 = .ok (.aload_n 0, 1) := by decide +kernel
theorem dc_Mo_take_IZ_92 : decode m_Mo_take_IZ.2.1 92 = .ok (.getfield 25, 3) := by decide +kernel
theorem dc_Mo_take_IZ_95 : decode m_Mo_take_IZ.2.1 95 = .ok (.iload_n 3, 1) := by decide +kernel
theorem dc_Mo_take_IZ_96 : decode m_Mo_take_IZ.2.1 96 = .ok (.dup2, 1) := by decide +kernel
theorem dc_Mo_take_IZ_97 : decode m_Mo_take_IZ.2.1 97 = .ok (.iaload, 1) := by decide +kernel
theorem dc_Mo_take_IZ_98 : decode m_Mo_take_IZ.2.1 98 = .ok (.iconst 1, 1) := by decide +kernel
theorem dc_Mo_take_IZ_99 : decode m_Mo_take_IZ.2.1 99 = .ok (.iadd, 1) := by decide +kernel
theorem dc_Mo_take_IZ_100 : decode m_Mo_take_IZ.2.1 100 = .ok (.iastore, 1) := by decide +kernel
theorem dc_Mo_take_IZ_101 : decode m_Mo_take_IZ.2.1 101 = .ok (.goto 20, 3) := by decide +kernel
theorem dc_Mo_take_IZ_104 : decode m_Mo_take_IZ.2.1 104 = .ok (.aload_n 0, 1) := by decide +kernel
theorem dc_Mo_take_IZ_105 : decode m_Mo_take_IZ.2.1 105 = .ok (.getfield 25, 3) := by decide +kernel
theorem dc_Mo_take_IZ_108 : decode m_Mo_take_IZ.2.1 108 = .ok (.iconst 0, 1) := by decide +kernel
theorem dc_Mo_take_IZ_109 : decode m_Mo_take_IZ.2.1 109 = .ok (.iconst 1, 1) := by decide +kernel
theorem dc_Mo_take_IZ_110 : decode m_Mo_take_IZ.2.1 110 = .ok (.iastore, 1) := by decide +kernel
theorem dc_Mo_take_IZ_111 : decode m_Mo_take_IZ.2.1 111 = .ok (.aload_n 0, 1) := by decide +kernel
theorem dc_Mo_take_IZ_112 : decode m_Mo_take_IZ.2.1 112 = .ok (.dup, 1) := by decide +kernel
theorem dc_Mo_take_IZ_113 : decode m_Mo_take_IZ.2.1 113 = .ok (.getfield 250, 3) := by decide +kernel
theorem dc_Mo_take_IZ_116 : decode m_Mo_take_IZ.2.1 116 = .ok (.iconst 1, 1) := by decide +kernel
theorem dc_Mo_take_IZ_117 : decode m_Mo_take_IZ.2.1 117 = .ok (.iadd, 1) := by decide +kernel
theorem dc_Mo_take_IZ_118 : decode m_Mo_take_IZ.2.1 118 = .ok (.putfield 250, 3) := by decide +kernel
theorem dc_Mo_take_IZ_121 : decode m_Mo_take_IZ.2.1 121 = .ok (.return_, 1) := by decide +kernel
theorem b_Mo_take_IZ_0 {E : En_t} {d : Nat} {σ : S_t} {Q : Option Value → S_t → Prop} {x1 : Int32} {x2 : Int32}
    (h : JE E d m_Mo_take_IZ 15 [(0, pv E 0), (1, .int x1), (2, .int x2), (3, .int (0 : Int32))] [] (sI (sI σ 0 15 x1) 0 16 (gI (sI σ 0 15 x1) 0 14)) Q) :
    JE E d m_Mo_take_IZ 0 [(0, pv E 0), (1, .int x1), (2, .int x2)] [] σ Q := by
  refine J_aload_n dc_Mo_take_IZ_0 (Eq.refl 1) 0 rfl ?_
  refine J_iload_n dc_Mo_take_IZ_1 (Eq.refl 2) 1 rfl ?_
  refine J_putI dc_Mo_take_IZ_2 (Eq.refl 5) pl_Mo_247 (Nat.le_of_ble_eq_true rfl) rfl rfl ?_
  refine J_aload_n dc_Mo_take_IZ_5 (Eq.refl 6) 0 rfl ?_
  refine J_aload_n dc_Mo_take_IZ_6 (Eq.refl 7) 0 rfl ?_
  refine J_getI dc_Mo_take_IZ_7 (Eq.refl 10) fl_Mo_244 (Nat.le_of_ble_eq_true rfl) rfl (Or.inl rfl) ?_
  refine J_putI dc_Mo_take_IZ_10 (Eq.refl 13) pl_Mo_250 (Nat.le_of_ble_eq_true rfl) rfl rfl ?_
  refine J_iconst (v := (0 : Int32)) dc_Mo_take_IZ_13 (Eq.refl 14) rfl ?_
  refine J_istore_n (L' := [(3, .int (0 : Int32)), (0, pv E 0), (1, .int x1), (2, .int x2)]) dc_Mo_take_IZ_14 (Eq.refl 15) (Nat.le_of_ble_eq_true rfl) rfl ?_
  refine J_sub [1, 2, 3, 0] rfl ?_
  exact h
theorem b_Mo_take_IZ_15 {E : En_t} {d : Nat} {σ : S_t} {Q : Option Value → S_t → Prop} {x1 : Int32} {x2 : Int32} {x3 : Int32}
    (h : (x1 ≤ x3 → (¬ x2 = 0 → JE E d m_Mo_take_IZ 59 [(0, pv E 0), (3, .int (x1 - (1 : Int32)))] [] σ Q) ∧ (x2 = 0 → Q none σ)) ∧ (¬ x1 ≤ x3 → ((gI σ 0 13) ≤ x3 → JE E d m_Mo_take_IZ 43 [(0, pv E 0), (1, .int x1), (2, .int x2), (3, .int x3)] [.int (0 : Int32), .int x3, pv E 6] σ Q) ∧ (¬ (gI σ 0 13) ≤ x3 → vp_in x3 1200 ∧ (JE E d m_Mo_take_IZ 43 [(0, pv E 0), (1, .int x1), (2, .int x2), (3, .int x3)] [.int (gI σ 5 x3.toNatClampNeg), .int x3, pv E 6] σ Q)))) :
    JE E d m_Mo_take_IZ 15 [(0, pv E 0), (1, .int x1), (2, .int x2), (3, .int x3)] [] σ Q := by
  refine J_iload_n dc_Mo_take_IZ_15 (Eq.refl 16) 3 rfl ?_
  refine J_iload_n dc_Mo_take_IZ_16 (Eq.refl 17) 1 rfl ?_
  refine J_icmp_ge dc_Mo_take_IZ_17 (Eq.refl 20) rfl (fun hc => ?_) (fun hc => ?_)
  · have h := h.1 hc
    refine J_iload_n dc_Mo_take_IZ_50 (Eq.refl 51) 2 rfl ?_
    refine J_if_ne dc_Mo_take_IZ_51 (Eq.refl 54) rfl (fun hc => ?_) (fun hc => ?_)
    · have h := h.1 hc
      refine J_iload_n dc_Mo_take_IZ_55 (Eq.refl 56) 1 rfl ?_
      refine J_iconst (v := (1 : Int32)) dc_Mo_take_IZ_56 (Eq.refl 57) rfl ?_
      refine J_isub dc_Mo_take_IZ_57 (Eq.refl 58) ?_
      refine J_istore_n (L' := [(3, .int (x1 - (1 : Int32))), (0, pv E 0), (1, .int x1), (2, .int x2)]) dc_Mo_take_IZ_58 (Eq.refl 59) (Nat.le_of_ble_eq_true rfl) rfl ?_
      refine J_sub [1, 0] rfl ?_
      exact h
    · have h := h.2 hc
      exact J_vret dc_Mo_take_IZ_54 rfl h
  · have h := h.2 hc
    refine J_aload_n dc_Mo_take_IZ_20 (Eq.refl 21) 0 rfl ?_
    refine J_getF (y := 6) dc_Mo_take_IZ_21 (Eq.refl 24) fl_Mo_25 (Nat.le_of_ble_eq_true rfl) rfl (Or.inl rfl) rfl ?_
    refine J_iload_n dc_Mo_take_IZ_24 (Eq.refl 25) 3 rfl ?_
    refine J_iload_n dc_Mo_take_IZ_25 (Eq.refl 26) 3 rfl ?_
    refine J_aload_n dc_Mo_take_IZ_26 (Eq.refl 27) 0 rfl ?_
    refine J_getI dc_Mo_take_IZ_27 (Eq.refl 30) fl_Mo_241 (Nat.le_of_ble_eq_true rfl) rfl (Or.inl rfl) ?_
    refine J_icmp_ge dc_Mo_take_IZ_30 (Eq.refl 33) rfl (fun hc => ?_) (fun hc => ?_)
    · have h := h.1 hc
      refine J_iconst (v := (0 : Int32)) dc_Mo_take_IZ_42 (Eq.refl 43) rfl ?_
      exact h
    · have h := h.2 hc
      refine J_aload_n dc_Mo_take_IZ_33 (Eq.refl 34) 0 rfl ?_
      refine J_getF (y := 5) dc_Mo_take_IZ_34 (Eq.refl 37) fl_Mo_22 (Nat.le_of_ble_eq_true rfl) rfl (Or.inl rfl) rfl ?_
      refine J_iload_n dc_Mo_take_IZ_37 (Eq.refl 38) 3 rfl ?_
      obtain ⟨hg, h⟩ := h
      refine J_iald dc_Mo_take_IZ_38 (Eq.refl 39) rfl rfl hg ?_
      refine J_goto dc_Mo_take_IZ_39 rfl ?_
      exact h
theorem b_Mo_take_IZ_43 {E : En_t} {d : Nat} {σ : S_t} {Q : Option Value → S_t → Prop} {x1 : Int32} {x2 : Int32} {x3 : Int32} {s0 : Int32} {s1 : Int32} {q2 : Nat} (hk_q2 : kindP q2 = 20)
    (h : vp_in s1 (lenP q2) ∧ (JE E d m_Mo_take_IZ 15 [(0, pv E 0), (1, .int x1), (2, .int x2), (3, .int (x3 + (1 : Int32)))] [] (sI σ q2 s1.toNatClampNeg s0) Q)) :
    JE E d m_Mo_take_IZ 43 [(0, pv E 0), (1, .int x1), (2, .int x2), (3, .int x3)] [.int s0, .int s1, pv E q2] σ Q := by
  obtain ⟨hg, h⟩ := h
  refine J_iast dc_Mo_take_IZ_43 (Eq.refl 44) hk_q2 rfl hg ?_
  refine J_iinc (v := x3 + (1 : Int32)) (L' := [(3, .int (x3 + (1 : Int32))), (0, pv E 0), (1, .int x1), (2, .int x2)]) dc_Mo_take_IZ_44 (Eq.refl 47) 3 rfl rfl (Nat.le_of_ble_eq_true rfl) rfl ?_
  refine J_goto dc_Mo_take_IZ_47 rfl ?_
  refine J_sub [1, 2, 3, 0] rfl ?_
  exact h
theorem b_Mo_take_IZ_59 {E : En_t} {d : Nat} {σ : S_t} {Q : Option Value → S_t → Prop} {x3 : Int32}
    (h : (x3 < 0 → JE E d m_Mo_take_IZ 87 [(0, pv E 0), (3, .int x3)] [] σ Q) ∧ (¬ x3 < 0 → vp_in x3 20 ∧ ((¬ (gI σ 6 x3.toNatClampNeg) = (9 : Int32) → JE E d m_Mo_take_IZ 87 [(0, pv E 0), (3, .int x3)] [] σ Q) ∧ ((gI σ 6 x3.toNatClampNeg) = (9 : Int32) → vp_in x3 20 ∧ (JE E d m_Mo_take_IZ 59 [(0, pv E 0), (3, .int (x3 + (-1 : Int32)))] [] (sI σ 6 x3.toNatClampNeg (0 : Int32)) Q))))) :
    JE E d m_Mo_take_IZ 59 [(0, pv E 0), (3, .int x3)] [] σ Q := by
  refine J_iload_n dc_Mo_take_IZ_59 (Eq.refl 60) 1 rfl ?_
  refine J_if_lt dc_Mo_take_IZ_60 (Eq.refl 63) rfl (fun hc => ?_) (fun hc => ?_)
  · have h := h.1 hc
    exact h
  · have h := h.2 hc
    refine J_aload_n dc_Mo_take_IZ_63 (Eq.refl 64) 0 rfl ?_
    refine J_getF (y := 6) dc_Mo_take_IZ_64 (Eq.refl 67) fl_Mo_25 (Nat.le_of_ble_eq_true rfl) rfl (Or.inl rfl) rfl ?_
    refine J_iload_n dc_Mo_take_IZ_67 (Eq.refl 68) 1 rfl ?_
    obtain ⟨hg, h⟩ := h
    refine J_iald dc_Mo_take_IZ_68 (Eq.refl 69) rfl rfl hg ?_
    refine J_bipush (v := (9 : Int32)) dc_Mo_take_IZ_69 (Eq.refl 71) rfl ?_
    refine J_icmp_ne dc_Mo_take_IZ_71 (Eq.refl 74) rfl (fun hc => ?_) (fun hc => ?_)
    · have h := h.1 hc
      exact h
    · have h := h.2 hc
      refine J_aload_n dc_Mo_take_IZ_74 (Eq.refl 75) 0 rfl ?_
      refine J_getF (y := 6) dc_Mo_take_IZ_75 (Eq.refl 78) fl_Mo_25 (Nat.le_of_ble_eq_true rfl) rfl (Or.inl rfl) rfl ?_
      refine J_iload_n dc_Mo_take_IZ_78 (Eq.refl 79) 1 rfl ?_
      refine J_iconst (v := (0 : Int32)) dc_Mo_take_IZ_79 (Eq.refl 80) rfl ?_
      obtain ⟨hg, h⟩ := h
      refine J_iast dc_Mo_take_IZ_80 (Eq.refl 81) rfl rfl hg ?_
      refine J_iinc (v := x3 + (-1 : Int32)) (L' := [(3, .int (x3 + (-1 : Int32))), (0, pv E 0)]) dc_Mo_take_IZ_81 (Eq.refl 84) 1 rfl rfl (Nat.le_of_ble_eq_true rfl) rfl ?_
      refine J_goto dc_Mo_take_IZ_84 rfl ?_
      refine J_sub [1, 0] rfl ?_
      exact h
theorem b_Mo_take_IZ_87 {E : En_t} {d : Nat} {σ : S_t} {Q : Option Value → S_t → Prop} {x3 : Int32}
    (h : (x3 < 0 → vp_in (0 : Int32) 20 ∧ (Q none (sI (sI σ 6 (0 : Int32).toNatClampNeg (1 : Int32)) 0 16 ((gI (sI σ 6 (0 : Int32).toNatClampNeg (1 : Int32)) 0 16) + (1 : Int32))))) ∧ (¬ x3 < 0 → vp_in x3 20 ∧ (vp_in x3 20 ∧ (Q none (sI σ 6 x3.toNatClampNeg ((gI σ 6 x3.toNatClampNeg) + (1 : Int32))))))) :
    JE E d m_Mo_take_IZ 87 [(0, pv E 0), (3, .int x3)] [] σ Q := by
  refine J_iload_n dc_Mo_take_IZ_87 (Eq.refl 88) 1 rfl ?_
  refine J_if_lt dc_Mo_take_IZ_88 (Eq.refl 91) rfl (fun hc => ?_) (fun hc => ?_)
  · have h := h.1 hc
    refine J_aload_n dc_Mo_take_IZ_104 (Eq.refl 105) 0 rfl ?_
    refine J_getF (y := 6) dc_Mo_take_IZ_105 (Eq.refl 108) fl_Mo_25 (Nat.le_of_ble_eq_true rfl) rfl (Or.inl rfl) rfl ?_
    refine J_iconst (v := (0 : Int32)) dc_Mo_take_IZ_108 (Eq.refl 109) rfl ?_
    refine J_iconst (v := (1 : Int32)) dc_Mo_take_IZ_109 (Eq.refl 110) rfl ?_
    obtain ⟨hg, h⟩ := h
    refine J_iast dc_Mo_take_IZ_110 (Eq.refl 111) rfl rfl hg ?_
    refine J_aload_n dc_Mo_take_IZ_111 (Eq.refl 112) 0 rfl ?_
    refine J_dup dc_Mo_take_IZ_112 (Eq.refl 113) rfl ?_
    refine J_getI dc_Mo_take_IZ_113 (Eq.refl 116) fl_Mo_250 (Nat.le_of_ble_eq_true rfl) rfl (Or.inl rfl) ?_
    refine J_iconst (v := (1 : Int32)) dc_Mo_take_IZ_116 (Eq.refl 117) rfl ?_
    refine J_iadd dc_Mo_take_IZ_117 (Eq.refl 118) ?_
    refine J_putI dc_Mo_take_IZ_118 (Eq.refl 121) pl_Mo_250 (Nat.le_of_ble_eq_true rfl) rfl rfl ?_
    exact J_vret dc_Mo_take_IZ_121 rfl h
  · have h := h.2 hc
    refine J_aload_n dc_Mo_take_IZ_91 (Eq.refl 92) 0 rfl ?_
    refine J_getF (y := 6) dc_Mo_take_IZ_92 (Eq.refl 95) fl_Mo_25 (Nat.le_of_ble_eq_true rfl) rfl (Or.inl rfl) rfl ?_
    refine J_iload_n dc_Mo_take_IZ_95 (Eq.refl 96) 1 rfl ?_
    refine J_dup2_11 dc_Mo_take_IZ_96 (Eq.refl 97) rfl rfl ?_
    obtain ⟨hg, h⟩ := h
    refine J_iald dc_Mo_take_IZ_97 (Eq.refl 98) rfl rfl hg ?_
    refine J_iconst (v := (1 : Int32)) dc_Mo_take_IZ_98 (Eq.refl 99) rfl ?_
    refine J_iadd dc_Mo_take_IZ_99 (Eq.refl 100) ?_
    obtain ⟨hg, h⟩ := h
    refine J_iast dc_Mo_take_IZ_100 (Eq.refl 101) rfl rfl hg ?_
    refine J_goto dc_Mo_take_IZ_101 rfl ?_
    exact J_vret dc_Mo_take_IZ_121 rfl h
theorem dc_Mo_printNumber_0 : decode m_Mo_printNumber.2.1 0 = .ok (.iload_n 1, 1) := by decide +kernel
theorem dc_Mo_printNumber_1 : decode m_Mo_printNumber.2.1 1 = .ok (.bipush 99, 2) := by decide +kernel
theorem dc_Mo_printNumber_3 : decode m_Mo_printNumber.2.1 3 = .ok (.if_icmp .le 14, 3) := by decide +kernel
theorem dc_Mo_printNumber_6 : decode m_Mo_printNumber.2.1 6 = .ok (.aload_n 0, 1) := by decide +kernel
theorem dc_Mo_printNumber_7 : decode m_Mo_printNumber.2.1 7 = .ok (.bipush 48, 2) := by decide +kernel
theorem dc_Mo_printNumber_9 : decode m_Mo_printNumber.2.1 9 = .ok (.iload_n 1, 1) := by decide +kernel
theorem dc_Mo_printNumber_10 : decode m_Mo_printNumber.2.1 10 = .ok (.bipush 100, 2) := by decide +kernel
theorem dc_Mo_printNumber_12 : decode m_Mo_printNumber.2.1 12 = .ok (.idiv, 1) := by decide +kernel
theorem dc_Mo_printNumber_13 : decode m_Mo_printNumber.2.1 13 = .ok (.iadd, 1) := by decide +kernel
theorem dc_Mo_printNumber_14 : decode m_Mo_printNumber.2.1 14 = .ok (.invokevirtual 267, 3) := by decide +kernel
theorem dc_Mo_printNumber_17 : decode m_Mo_printNumber.2.1 17 = .ok (.iload_n 1, 1) := by decide +kernel
theorem dc_Mo_printNumber_18 : decode m_Mo_printNumber.2.1 18 = .ok (.bipush 9, 2) := by decide +kernel
theorem dc_Mo_printNumber_20 : decode m_Mo_printNumber.2.1 20 = .ok (.if_icmp .le 17, 3) := by decide +kernel
theorem dc_Mo_printNumber_23 : decode m_Mo_printNumber.2.1 23 = .ok (.aload_n 0, 1) := by decide +kernel
theorem dc_Mo_printNumber_24 : decode m_Mo_printNumber.2.1 24 = .ok (.bipush 48, 2) := by decide +kernel
theorem dc_Mo_printNumber_26 : decode m_Mo_printNumber.2.1 26 = .ok (.iload_n 1, 1) := by decide +kernel
theorem dc_Mo_printNumber_27 : decode m_Mo_printNumber.2.1 27 = .ok (.bipush 10, 2) := by decide +kernel
theorem dc_Mo_printNumber_29 : decode m_Mo_printNumber.2.1 29 = .ok (.idiv, 1) := by decide +kernel
theorem dc_Mo_printNumber_30 : decode m_Mo_printNumber.2.1 30 = .ok (.bipush 10, 2) := by decide +kernel
theorem dc_Mo_printNumber_32 : decode m_Mo_printNumber.2.1 32 = .ok (.irem, 1) := by decide +kernel
theorem dc_Mo_printNumber_33 : decode m_Mo_printNumber.2.1 33 = .ok (.iadd, 1) := by decide +kernel
theorem dc_Mo_printNumber_34 : decode m_Mo_printNumber.2.1 34 = .ok (.invokevirtual 267, 3) := by decide +kernel
theorem dc_Mo_printNumber_37 : decode m_Mo_printNumber.2.1 37 = .ok (.aload_n 0, 1) := by decide +kernel
theorem dc_Mo_printNumber_38 : decode m_Mo_printNumber.2.1 38 = .ok (.bipush 48, 2) := by decide +kernel
theorem dc_Mo_printNumber_40 : decode m_Mo_printNumber.2.1 40 = .ok (.iload_n 1, 1) := by decide +kernel
theorem dc_Mo_printNumber_41 : decode m_Mo_printNumber.2.1 41 = .ok (.bipush 10, 2) := by decide +kernel
theorem dc_Mo_printNumber_43 : decode m_Mo_printNumber.2.1 43 = .ok (.irem, 1) := by decide +kernel
theorem dc_Mo_printNumber_44 : decode m_Mo_printNumber.2.1 44 = .ok (.iadd, 1) := by decide +kernel
theorem dc_Mo_printNumber_45 : decode m_Mo_printNumber.2.1 45 = .ok (.invokevirtual 267, 3) := by decide +kernel
theorem dc_Mo_printNumber_48 : decode m_Mo_printNumber.2.1 48 = .ok (.return_, 1) := by decide +kernel
theorem b_Mo_printNumber_0 {E : En_t} {d : Nat} {σ : S_t} {Q : Option Value → S_t → Prop} {x1 : Int32}
    (h : (x1 ≤ (99 : Int32) → JE E (d + 1) m_Mo_printNumber 17 [(0, pv E 0), (1, .int x1)] [] σ Q) ∧ (¬ x1 ≤ (99 : Int32) → CV E d m_Mo_printing [pv E 0, .int ((48 : Int32) + (x1 / (100 : Int32)))] σ (fun σ1 => JE E (d + 1) m_Mo_printNumber 17 [(0, pv E 0), (1, .int x1)] [] σ1 Q))) :
    JE E (d + 1) m_Mo_printNumber 0 [(0, pv E 0), (1, .int x1)] [] σ Q := by
  refine J_iload_n dc_Mo_printNumber_0 (Eq.refl 1) 1 rfl ?_
  refine J_bipush (v := (99 : Int32)) dc_Mo_printNumber_1 (Eq.refl 3) rfl ?_
  refine J_icmp_le dc_Mo_printNumber_3 (Eq.refl 6) rfl (fun hc => ?_) (fun hc => ?_)
  · have h := h.1 hc
    exact h
  · have h := h.2 hc
    refine J_aload_n dc_Mo_printNumber_6 (Eq.refl 7) 0 rfl ?_
    refine J_bipush (v := (48 : Int32)) dc_Mo_printNumber_7 (Eq.refl 9) rfl ?_
    refine J_iload_n dc_Mo_printNumber_9 (Eq.refl 10) 1 rfl ?_
    refine J_bipush (v := (100 : Int32)) dc_Mo_printNumber_10 (Eq.refl 12) rfl ?_
    refine J_idiv dc_Mo_printNumber_12 (Eq.refl 13) (by decide) ?_
    refine J_iadd dc_Mo_printNumber_13 (Eq.refl 14) ?_
    refine J_callVV (As := [.int ((48 : Int32) + (x1 / (100 : Int32)))]) (st := []) dc_Mo_printNumber_14 (Eq.refl 17) lk_Mo_267 mi_Mo_printing rfl (Nat.le_of_ble_eq_true rfl) rfl rfl (Nat.le_of_ble_eq_true rfl) rfl (Nat.le_of_ble_eq_true rfl) (CV.mono h (fun σ1 h => ?_))
    exact h
theorem b_Mo_printNumber_17 {E : En_t} {d : Nat} {σ : S_t} {Q : Option Value → S_t → Prop} {x1 : Int32}
    (h : (x1 ≤ (9 : Int32) → JE E (d + 1) m_Mo_printNumber 37 [(0, pv E 0), (1, .int x1)] [] σ Q) ∧ (¬ x1 ≤ (9 : Int32) → CV E d m_Mo_printing [pv E 0, .int ((48 : Int32) + ((x1 / (10 : Int32)) - (x1 / (10 : Int32)) / (10 : Int32) * (10 : Int32)))] σ (fun σ1 => JE E (d + 1) m_Mo_printNumber 37 [(0, pv E 0), (1, .int x1)] [] σ1 Q))) :
    JE E (d + 1) m_Mo_printNumber 17 [(0, pv E 0), (1, .int x1)] [] σ Q := by
  refine J_iload_n dc_Mo_printNumber_17 (Eq.refl 18) 1 rfl ?_
  refine J_bipush (v := (9 : Int32)) dc_Mo_printNumber_18 (Eq.refl 20) rfl ?_
  refine J_icmp_le dc_Mo_printNumber_20 (Eq.refl 23) rfl (fun hc => ?_) (fun hc => ?_)
  · have h := h.1 hc
    exact h
  · have h := h.2 hc
    refine J_aload_n dc_Mo_printNumber_23 (Eq.refl 24) 0 rfl ?_
    refine J_bipush (v := (48 : Int32)) dc_Mo_printNumber_24 (Eq.refl 26) rfl ?_
    refine J_iload_n dc_Mo_printNumber_26 (Eq.refl 27) 1 rfl ?_
    refine J_bipush (v := (10 : Int32)) dc_Mo_printNumber_27 (Eq.refl 29) rfl ?_
    refine J_idiv dc_Mo_printNumber_29 (Eq.refl 30) (by decide) ?_
    refine J_bipush (v := (10 : Int32)) dc_Mo_printNumber_30 (Eq.refl 32) rfl ?_
    refine J_irem dc_Mo_printNumber_32 (Eq.refl 33) (by decide) ?_
    refine J_iadd dc_Mo_printNumber_33 (Eq.refl 34) ?_
    refine J_callVV (As := [.int ((48 : Int32) + ((x1 / (10 : Int32)) - (x1 / (10 : Int32)) / (10 : Int32) * (10 : Int32)))]) (st := []) dc_Mo_printNumber_34 (Eq.refl 37) lk_Mo_267 mi_Mo_printing rfl (Nat.le_of_ble_eq_true rfl) rfl rfl (Nat.le_of_ble_eq_true rfl) rfl (Nat.le_of_ble_eq_true rfl) (CV.mono h (fun σ1 h => ?_))
    exact h
theorem b_Mo_printNumber_37 {E : En_t} {d : Nat} {σ : S_t} {Q : Option Value → S_t → Prop} {x1 : Int32}
    (h : CV E d m_Mo_printing [pv E 0, .int ((48 : Int32) + (x1 - x1 / (10 : Int32) * (10 : Int32)))] σ (fun σ1 => Q none σ1)) :
    JE E (d + 1) m_Mo_printNumber 37 [(0, pv E 0), (1, .int x1)] [] σ Q := by
  refine J_aload_n dc_Mo_printNumber_37 (Eq.refl 38) 0 rfl ?_
  refine J_bipush (v := (48 : Int32)) dc_Mo_printNumber_38 (Eq.refl 40) rfl ?_
  refine J_iload_n dc_Mo_printNumber_40 (Eq.refl 41) 1 rfl ?_
  refine J_bipush (v := (10 : Int32)) dc_Mo_printNumber_41 (Eq.refl 43) rfl ?_
  refine J_irem dc_Mo_printNumber_43 (Eq.refl 44) (by decide) ?_
  refine J_iadd dc_Mo_printNumber_44 (Eq.refl 45) ?_
  refine J_callVV (As := [.int ((48 : Int32) + (x1 - x1 / (10 : Int32) * (10 : Int32)))]) (st := []) dc_Mo_printNumber_45 (Eq.refl 48) lk_Mo_267 mi_Mo_printing rfl (Nat.le_of_ble_eq_true rfl) rfl rfl (Nat.le_of_ble_eq_true rfl) rfl (Nat.le_of_ble_eq_true rfl) (CV.mono h (fun σ1 h => ?_))
  exact J_vret dc_Mo_printNumber_48 rfl h
theorem dc_Mo_clearOut_0 : decode m_Mo_clearOut.2.1 0 = .ok (.aload_n 0, 1) := by decide +kernel
theorem dc_Mo_clearOut_1 : decode m_Mo_clearOut.2.1 1 = .ok (.iconst 0, 1) := by decide +kernel
theorem dc_Mo_clearOut_2 : decode m_Mo_clearOut.2.1 2 = .ok (.putfield 172, 3) := by decide +kernel
theorem dc_Mo_clearOut_5 : decode m_Mo_clearOut.2.1 5 = .ok (.aload_n 0, 1) := by decide +kernel
theorem dc_Mo_clearOut_6 : decode m_Mo_clearOut.2.1 6 = .ok (.iconst 0, 1) := by decide +kernel
theorem dc_Mo_clearOut_7 : decode m_Mo_clearOut.2.1 7 = .ok (.putfield 169, 3) := by decide +kernel
theorem dc_Mo_clearOut_10 : decode m_Mo_clearOut.2.1 10 = .ok (.return_, 1) := by decide +kernel
theorem b_Mo_clearOut_0 {E : En_t} {d : Nat} {σ : S_t} {Q : Option Value → S_t → Prop}
    (h : Q none (sI (sI σ 0 3 (0 : Int32)) 0 4 (0 : Int32))) :
    JE E d m_Mo_clearOut 0 [(0, pv E 0)] [] σ Q := by
  refine J_aload_n dc_Mo_clearOut_0 (Eq.refl 1) 0 rfl ?_
  refine J_iconst (v := (0 : Int32)) dc_Mo_clearOut_1 (Eq.refl 2) rfl ?_
  refine J_putI dc_Mo_clearOut_2 (Eq.refl 5) pl_Mo_172 (Nat.le_of_ble_eq_true rfl) rfl rfl ?_
  refine J_aload_n dc_Mo_clearOut_5 (Eq.refl 6) 0 rfl ?_
  refine J_iconst (v := (0 : Int32)) dc_Mo_clearOut_6 (Eq.refl 7) rfl ?_
  refine J_putI dc_Mo_clearOut_7 (Eq.refl 10) pl_Mo_169 (Nat.le_of_ble_eq_true rfl) rfl rfl ?_
  exact J_vret dc_Mo_clearOut_10 rfl h
theorem dc_Mo_put_0 : decode m_Mo_put.2.1 0 = .ok (.aload_n 0, 1) := by decide +kernel
theorem dc_Mo_put_1 : decode m_Mo_put.2.1 1 = .ok (.getfield 172, 3) := by decide +kernel
theorem dc_Mo_put_4 : decode m_Mo_put.2.1 4 = .ok (.sipush 12000, 3) := by decide +kernel
theorem dc_Mo_put_7 : decode m_Mo_put.2.1 7 = .ok (.if_icmp .ge 23, 3) := by decide +kernel
theorem dc_Mo_put_10 : decode m_Mo_put.2.1 10 = .ok (.aload_n 0, 1) := by decide +kernel
theorem dc_Mo_put_11 : decode m_Mo_put.2.1 11 = .ok (.getfield 13, 3) := by decide +kernel
theorem dc_Mo_put_14 : decode m_Mo_put.2.1 14 = .ok (.aload_n 0, 1) := by decide +kernel
theorem dc_Mo_put_15 : decode m_Mo_put.2.1 15 = .ok (.getfield 172, 3) := by decide +kernel
theorem dc_Mo_put_18 : decode m_Mo_put.2.1 18 = .ok (.iload_n 1, 1) := by decide +kernel
theorem dc_Mo_put_19 : decode m_Mo_put.2.1 19 = .ok (.iastore, 1) := by decide +kernel
theorem dc_Mo_put_20 : decode m_Mo_put.2.1 20 = .ok (.aload_n 0, 1) := by decide +kernel
theorem dc_Mo_put_21 : decode m_Mo_put.2.1 21 = .ok (.dup, 1) := by decide +kernel
theorem dc_Mo_put_22 : decode m_Mo_put.2.1 22 = .ok (.getfield 172, 3) := by decide +kernel
theorem dc_Mo_put_25 : decode m_Mo_put.2.1 25 = .ok (.iconst 1, 1) := by decide +kernel
theorem dc_Mo_put_26 : decode m_Mo_put.2.1 26 = .ok (.iadd, 1) := by decide +kernel
theorem dc_Mo_put_27 : decode m_Mo_put.2.1 27 = .ok (.putfield 172, 3) := by decide +kernel
theorem dc_Mo_put_30 : decode m_Mo_put.2.1 30 = .ok (.aload_n 0, 1) := by decide +kernel
theorem dc_Mo_put_31 : decode m_Mo_put.2.1 31 = .ok (.dup, 1) := by decide +kernel
theorem dc_Mo_put_32 : decode m_Mo_put.2.1 32 = .ok (.getfield 169, 3) := by decide +kernel
theorem dc_Mo_put_35 : decode m_Mo_put.2.1 35 = .ok (.iconst 1, 1) := by decide +kernel
theorem dc_Mo_put_36 : decode m_Mo_put.2.1 36 = .ok (.iadd, 1) := by decide +kernel
theorem dc_Mo_put_37 : decode m_Mo_put.2.1 37 = .ok (.putfield 169, 3) := by decide +kernel
theorem dc_Mo_put_40 : decode m_Mo_put.2.1 40 = .ok (.return_, 1) := by decide +kernel
theorem b_Mo_put_0 {E : En_t} {d : Nat} {σ : S_t} {Q : Option Value → S_t → Prop} {x1 : Int32}
    (h : ((12000 : Int32) ≤ (gI σ 0 3) → JE E d m_Mo_put 30 [(0, pv E 0)] [] σ Q) ∧ (¬ (12000 : Int32) ≤ (gI σ 0 3) → vp_in (gI σ 0 3) 12000 ∧ (JE E d m_Mo_put 30 [(0, pv E 0)] [] (sI (sI σ 2 (gI σ 0 3).toNatClampNeg x1) 0 3 ((gI (sI σ 2 (gI σ 0 3).toNatClampNeg x1) 0 3) + (1 : Int32))) Q))) :
    JE E d m_Mo_put 0 [(0, pv E 0), (1, .int x1)] [] σ Q := by
  refine J_aload_n dc_Mo_put_0 (Eq.refl 1) 0 rfl ?_
  refine J_getI dc_Mo_put_1 (Eq.refl 4) fl_Mo_172 (Nat.le_of_ble_eq_true rfl) rfl (Or.inl rfl) ?_
  refine J_sipush (v := (12000 : Int32)) dc_Mo_put_4 (Eq.refl 7) rfl ?_
  refine J_icmp_ge dc_Mo_put_7 (Eq.refl 10) rfl (fun hc => ?_) (fun hc => ?_)
  · have h := h.1 hc
    refine J_sub [0] rfl ?_
    exact h
  · have h := h.2 hc
    refine J_aload_n dc_Mo_put_10 (Eq.refl 11) 0 rfl ?_
    refine J_getF (y := 2) dc_Mo_put_11 (Eq.refl 14) fl_Mo_13 (Nat.le_of_ble_eq_true rfl) rfl (Or.inl rfl) rfl ?_
    refine J_aload_n dc_Mo_put_14 (Eq.refl 15) 0 rfl ?_
    refine J_getI dc_Mo_put_15 (Eq.refl 18) fl_Mo_172 (Nat.le_of_ble_eq_true rfl) rfl (Or.inl rfl) ?_
    refine J_iload_n dc_Mo_put_18 (Eq.refl 19) 1 rfl ?_
    obtain ⟨hg, h⟩ := h
    refine J_iast dc_Mo_put_19 (Eq.refl 20) rfl rfl hg ?_
    refine J_aload_n dc_Mo_put_20 (Eq.refl 21) 0 rfl ?_
    refine J_dup dc_Mo_put_21 (Eq.refl 22) rfl ?_
    refine J_getI dc_Mo_put_22 (Eq.refl 25) fl_Mo_172 (Nat.le_of_ble_eq_true rfl) rfl (Or.inl rfl) ?_
    refine J_iconst (v := (1 : Int32)) dc_Mo_put_25 (Eq.refl 26) rfl ?_
    refine J_iadd dc_Mo_put_26 (Eq.refl 27) ?_
    refine J_putI dc_Mo_put_27 (Eq.refl 30) pl_Mo_172 (Nat.le_of_ble_eq_true rfl) rfl rfl ?_
    refine J_sub [0] rfl ?_
    exact h
theorem b_Mo_put_30 {E : En_t} {d : Nat} {σ : S_t} {Q : Option Value → S_t → Prop}
    (h : Q none (sI σ 0 4 ((gI σ 0 4) + (1 : Int32)))) :
    JE E d m_Mo_put 30 [(0, pv E 0)] [] σ Q := by
  refine J_aload_n dc_Mo_put_30 (Eq.refl 31) 0 rfl ?_
  refine J_dup dc_Mo_put_31 (Eq.refl 32) rfl ?_
  refine J_getI dc_Mo_put_32 (Eq.refl 35) fl_Mo_169 (Nat.le_of_ble_eq_true rfl) rfl (Or.inl rfl) ?_
  refine J_iconst (v := (1 : Int32)) dc_Mo_put_35 (Eq.refl 36) rfl ?_
  refine J_iadd dc_Mo_put_36 (Eq.refl 37) ?_
  refine J_putI dc_Mo_put_37 (Eq.refl 40) pl_Mo_169 (Nat.le_of_ble_eq_true rfl) rfl rfl ?_
  exact J_vret dc_Mo_put_40 rfl h
theorem dc_Mo_round_0 : decode m_Mo_round.2.1 0 = .ok (.lload_n 1, 1) := by decide +kernel
theorem dc_Mo_round_1 : decode m_Mo_round.2.1 1 = .ok (.invokestatic 278, 3) := by decide +kernel
theorem dc_Mo_round_4 : decode m_Mo_round.2.1 4 = .ok (.ifCond .eq 15, 3) := by decide +kernel
theorem dc_Mo_round_7 : decode m_Mo_round.2.1 7 = .ok (.iload_n 3, 1) := by decide +kernel
theorem dc_Mo_round_8 : decode m_Mo_round.2.1 8 = .ok (.iconst 1, 1) := by decide +kernel
theorem dc_Mo_round_9 : decode m_Mo_round.2.1 9 = .ok (.if_icmp .lt 10, 3) := by decide +kernel
theorem dc_Mo_round_12 : decode m_Mo_round.2.1 12 = .ok (.iload_n 3, 1) := by decide +kernel
theorem dc_Mo_round_13 : decode m_Mo_round.2.1 13 = .ok (.sipush 800, 3) := by decide +kernel
theorem dc_Mo_round_16 : decode m_Mo_round.2.1 16 = .ok (.if_icmp .le 5, 3) := by decide +kernel
theorem dc_Mo_round_19 : decode m_Mo_round.2.1 19 = .ok (.iconst (-1), 1) := by decide +kernel
theorem dc_Mo_round_20 : decode m_Mo_round.2.1 20 = .ok (.ireturn, 1) := by decide +kernel
theorem dc_Mo_round_21 : decode m_Mo_round.2.1 21 = .ok (.aload_n 0, 1) := by decide +kernel
theorem dc_Mo_round_22 : decode m_Mo_round.2.1 22 = .ok (.lload_n 1, 1) := by decide +kernel
theorem dc_Mo_round_23 : decode m_Mo_round.2.1 23 = .ok (.invokevirtual 257, 3) := by decide +kernel
theorem dc_Mo_round_26 : decode m_Mo_round.2.1 26 = .ok (.aload_n 0, 1) := by decide +kernel
theorem dc_Mo_round_27 : decode m_Mo_round.2.1 27 = .ok (.getfield 241, 3) := by decide +kernel
theorem dc_Mo_round_30 : decode m_Mo_round.2.1 30 = .ok (.ifCond .ne 7, 3) := by decide +kernel
theorem dc_Mo_round_33 : decode m_Mo_round.2.1 33 = .ok (.iconst 1, 1) := by decide +kernel
theorem dc_Mo_round_34 : decode m_Mo_round.2.1 34 = .ok (.goto 4, 3) := by decide +kernel
theorem dc_Mo_round_37 : decode m_Mo_round.2.1 37 = .ok (.iconst 0, 1) := by decide +kernel
theorem dc_Mo_round_38 : decode m_Mo_round.2.1 38 = .ok (.istore 4, 2) := by decide +kernel
theorem dc_Mo_round_40 : decode m_Mo_round.2.1 40 = .ok (.iload 4, 2) := by decide +kernel
theorem dc_Mo_round_42 : decode m_Mo_round.2.1 42 = .ok (.ifCond .eq 8, 3) := by decide +kernel
theorem dc_Mo_round_45 : decode m_Mo_round.2.1 45 = .ok (.aload_n 0, 1) := by decide +kernel
theorem dc_Mo_round_46 : decode m_Mo_round.2.1 46 = .ok (.iconst 1, 1) := by decide +kernel
theorem dc_Mo_round_47 : decode m_Mo_round.2.1 47 = .ok (.putfield 244, 3) := by decide +kernel
theorem dc_Mo_round_50 : decode m_Mo_round.2.1 50 = .ok (.aload_n 0, 1) := by decide +kernel
theorem dc_Mo_round_51 : decode m_Mo_round.2.1 51 = .ok (.getfield 241, 3) := by decide +kernel
theorem dc_Mo_round_54 : decode m_Mo_round.2.1 54 = .ok (.istore 5, 2) := by decide +kernel
theorem dc_Mo_round_56 : decode m_Mo_round.2.1 56 = .ok (.iload 5, 2) := by decide +kernel
theorem dc_Mo_round_58 : decode m_Mo_round.2.1 58 = .ok (.iload_n 3, 1) := by decide +kernel
theorem dc_Mo_round_59 : decode m_Mo_round.2.1 59 = .ok (.if_icmp .ge 17, 3) := by decide +kernel
theorem dc_Mo_round_62 : decode m_Mo_round.2.1 62 = .ok (.aload_n 0, 1) := by decide +kernel
theorem dc_Mo_round_63 : decode m_Mo_round.2.1 63 = .ok (.getfield 22, 3) := by decide +kernel
theorem dc_Mo_round_66 : decode m_Mo_round.2.1 66 = .ok (.iload 5, 2) := by decide +kernel
theorem dc_Mo_round_68 : decode m_Mo_round.2.1 68 = .ok (.iconst 0, 1) := by decide +kernel
theorem dc_Mo_round_69 : decode m_Mo_round.2.1 69 = .ok (.iastore, 1) := by decide +kernel
theorem dc_Mo_round_70 : decode m_Mo_round.2.1 70 = .ok (.iinc 5 1, 3) := by decide +kernel
theorem dc_Mo_round_73 : decode m_Mo_round.2.1 73 = .ok (.goto (-17), 3) := by decide +kernel
theorem dc_Mo_round_76 : decode m_Mo_round.2.1 76 = .ok (.aload_n 0, 1) := by decide +kernel
theorem dc_Mo_round_77 : decode m_Mo_round.2.1 77 = .ok (.getfield 241, 3) := by decide +kernel
theorem dc_Mo_round_80 : decode m_Mo_round.2.1 80 = .ok (.iload_n 3, 1) := by decide +kernel
theorem dc_Mo_round_81 : decode m_Mo_round.2.1 81 = .ok (.if_icmp .le 161, 3) := by decide +kernel
theorem dc_Mo_round_84 : decode m_Mo_round.2.1 84 = .ok (.aload_n 0, 1) := by decide +kernel
theorem dc_Mo_round_85 : decode m_Mo_round.2.1 85 = .ok (.getfield 22, 3) := by decide +kernel
theorem dc_Mo_round_88 : decode m_Mo_round.2.1 88 = .ok (.iload_n 3, 1) := by decide +kernel
theorem dc_Mo_round_89 : decode m_Mo_round.2.1 89 = .ok (.iaload, 1) := by decide +kernel
theorem dc_Mo_round_90 : decode m_Mo_round.2.1 90 = .ok (.iconst 5, 1) := by decide +kernel
theorem dc_Mo_round_91 : decode m_Mo_round.2.1 91 = .ok (.if_icmp .ne 17, 3) := by decide +kernel
theorem dc_Mo_round_94 : decode m_Mo_round.2.1 94 = .ok (.aload_n 0, 1) := by decide +kernel
theorem dc_Mo_round_95 : decode m_Mo_round.2.1 95 = .ok (.getfield 241, 3) := by decide +kernel
theorem dc_Mo_round_98 : decode m_Mo_round.2.1 98 = .ok (.iload_n 3, 1) := by decide +kernel
theorem dc_Mo_round_99 : decode m_Mo_round.2.1 99 = .ok (.iconst 1, 1) := by decide +kernel
theorem dc_Mo_round_100 : decode m_Mo_round.2.1 100 = .ok (.iadd, 1) := by decide +kernel
theorem dc_Mo_round_101 : decode m_Mo_round.2.1 101 = .ok (.if_icmp .ne 7, 3) := by decide +kernel
theorem dc_Mo_round_104 : decode m_Mo_round.2.1 104 = .ok (.iconst 1, 1) := by decide +kernel
theorem dc_Mo_round_105 : decode m_Mo_round.2.1 105 = .ok (.goto 4, 3) := by decide +kernel
theorem dc_Mo_round_108 : decode m_Mo_round.2.1 108 = .ok (.iconst 0, 1) := by decide +kernel
theorem dc_Mo_round_109 : decode m_Mo_round.2.1 109 = .ok (.istore 5, 2) := by decide +kernel
theorem dc_Mo_round_111 : decode m_Mo_round.2.1 111 = .ok (.iload 5, 2) := by decide +kernel
theorem dc_Mo_round_113 : decode m_Mo_round.2.1 113 = .ok (.ifCond .eq 25, 3) := by decide +kernel
theorem dc_Mo_round_116 : decode m_Mo_round.2.1 116 = .ok (.aload_n 0, 1) := by decide +kernel
theorem dc_Mo_round_117 : decode m_Mo_round.2.1 117 = .ok (.getfield 22, 3) := by decide +kernel
theorem dc_Mo_round_120 : decode m_Mo_round.2.1 120 = .ok (.iload_n 3, 1) := by decide +kernel
theorem dc_Mo_round_121 : decode m_Mo_round.2.1 121 = .ok (.iconst 1, 1) := by decide +kernel
theorem dc_Mo_round_122 : decode m_Mo_round.2.1 122 = .ok (.isub, 1) := by decide +kernel
theorem dc_Mo_round_123 : decode m_Mo_round.2.1 123 = .ok (.iaload, 1) := by decide +kernel
theorem dc_Mo_round_124 : decode m_Mo_round.2.1 124 = .ok (.iconst 2, 1) := by decide +kernel
theorem dc_Mo_round_125 : decode m_Mo_round.2.1 125 = .ok (.irem, 1) := by decide +kernel
theorem dc_Mo_round_126 : decode m_Mo_round.2.1 126 = .ok (.iconst 1, 1) := by decide +kernel
theorem dc_Mo_round_127 : decode m_Mo_round.2.1 127 = .ok (.if_icmp .ne 7, 3) := by decide +kernel
theorem dc_Mo_round_130 : decode m_Mo_round.2.1 130 = .ok (.iconst 1, 1) := by decide +kernel
theorem dc_Mo_round_131 : decode m_Mo_round.2.1 131 = .ok (.goto 22, 3) := by decide +kernel
theorem dc_Mo_round_134 : decode m_Mo_round.2.1 134 = .ok (.iconst 0, 1) := by decide +kernel
theorem dc_Mo_round_135 : decode m_Mo_round.2.1 135 = .ok (.goto 18, 3) := by decide +kernel
theorem dc_Mo_round_138 : decode m_Mo_round.2.1 138 = .ok (.aload_n 0, 1) := by decide +kernel
theorem dc_Mo_round_139 : decode m_Mo_round.2.1 139 = .ok (.getfield 22, 3) := by decide +kernel
theorem dc_Mo_round_142 : decode m_Mo_round.2.1 142 = .ok (.iload_n 3, 1) := by decide +kernel
theorem dc_Mo_round_143 : decode m_Mo_round.2.1 143 = .ok (.iaload, 1) := by decide +kernel
theorem dc_Mo_round_144 : decode m_Mo_round.2.1 144 = .ok (.iconst 5, 1) := by decide +kernel
theorem dc_Mo_round_145 : decode m_Mo_round.2.1 145 = .ok (.if_icmp .lt 7, 3) := by decide +kernel
theorem dc_Mo_round_148 : decode m_Mo_round.2.1 148 = .ok (.iconst 1, 1) := by decide +kernel
theorem dc_Mo_round_149 : decode m_Mo_round.2.1 149 = .ok (.goto 4, 3) := by decide +kernel
theorem dc_Mo_round_152 : decode m_Mo_round.2.1 152 = .ok (.iconst 0, 1) := by decide +kernel
theorem dc_Mo_round_153 : decode m_Mo_round.2.1 153 = .ok (.istore 6, 2) := by decide +kernel
theorem dc_Mo_round_155 : decode m_Mo_round.2.1 155 = .ok (.iload_n 3, 1) := by decide +kernel
theorem dc_Mo_round_156 : decode m_Mo_round.2.1 156 = .ok (.iconst 1, 1) := by decide +kernel
theorem dc_Mo_round_157 : decode m_Mo_round.2.1 157 = .ok (.isub, 1) := by decide +kernel
theorem dc_Mo_round_158 : decode m_Mo_round.2.1 158 = .ok (.istore 7, 2) := by decide +kernel
theorem dc_Mo_round_160 : decode m_Mo_round.2.1 160 = .ok (.iload 6, 2) := by decide +kernel
theorem dc_Mo_round_162 : decode m_Mo_round.2.1 162 = .ok (.ifCond .eq 58, 3) := by decide +kernel
theorem dc_Mo_round_165 : decode m_Mo_round.2.1 165 = .ok (.iload 7, 2) := by decide +kernel
theorem dc_Mo_round_167 : decode m_Mo_round.2.1 167 = .ok (.ifCond .lt 53, 3) := by decide +kernel
theorem dc_Mo_round_170 : decode m_Mo_round.2.1 170 = .ok (.aload_n 0, 1) := by decide +kernel
theorem dc_Mo_round_171 : decode m_Mo_round.2.1 171 = .ok (.getfield 22, 3) := by decide +kernel
theorem dc_Mo_round_174 : decode m_Mo_round.2.1 174 = .ok (.iload 7, 2) := by decide +kernel
theorem dc_Mo_round_176 : decode m_Mo_round.2.1 176 = .ok (.iaload, 1) := by decide +kernel
theorem dc_Mo_round_177 : decode m_Mo_round.2.1 177 = .ok (.bipush 9, 2) := by decide +kernel
theorem dc_Mo_round_179 : decode m_Mo_round.2.1 179 = .ok (.if_icmp .ne 7, 3) := by decide +kernel
theorem dc_Mo_round_182 : decode m_Mo_round.2.1 182 = .ok (.iconst 1, 1) := by decide +kernel
theorem dc_Mo_round_183 : decode m_Mo_round.2.1 183 = .ok (.goto 4, 3) := by decide +kernel
theorem dc_Mo_round_186 : decode m_Mo_round.2.1 186 = .ok (.iconst 0, 1) := by decide +kernel
theorem dc_Mo_round_187 : decode m_Mo_round.2.1 187 = .ok (.istore 6, 2) := by decide +kernel
theorem dc_Mo_round_189 : decode m_Mo_round.2.1 189 = .ok (.aload_n 0, 1) := by decide +kernel
theorem dc_Mo_round_190 : decode m_Mo_round.2.1 190 = .ok (.getfield 22, 3) := by decide +kernel
theorem dc_Mo_round_193 : decode m_Mo_round.2.1 193 = .ok (.iload 7, 2) := by decide +kernel
theorem dc_Mo_round_195 : decode m_Mo_round.2.1 195 = .ok (.iload 6, 2) := by decide +kernel
theorem dc_Mo_round_197 : decode m_Mo_round.2.1 197 = .ok (.ifCond .eq 7, 3) := by decide +kernel
theorem dc_Mo_round_200 : decode m_Mo_round.2.1 200 = .ok (.iconst 0, 1) := by decide +kernel
theorem dc_Mo_round_201 : decode m_Mo_round.2.1 201 = .ok (.goto 12, 3) := by decide +kernel
theorem dc_Mo_round_204 : decode m_Mo_round.2.1 204 = .ok (.aload_n 0, 1) := by decide +kernel
theorem dc_Mo_round_205 : decode m_Mo_round.2.1 205 = .ok (.getfield 22, 3) := by decide +kernel
theorem dc_Mo_round_208 : decode m_Mo_round.2.1 208 = .ok (.iload 7, 2) := by decide +kernel
theorem dc_Mo_round_210 : decode m_Mo_round.2.1 210 = .ok (.iaload, 1) := by decide +kernel
theorem dc_Mo_round_211 : decode m_Mo_round.2.1 211 = .ok (.iconst 1, 1) := by decide +kernel
theorem dc_Mo_round_212 : decode m_Mo_round.2.1 212 = .ok (.iadd, 1) := by decide +kernel
theorem dc_Mo_round_213 : decode m_Mo_round.2.1 213 = .ok (.iastore, 1) := by decide +kernel
theorem dc_Mo_round_214 : decode m_Mo_round.2.1 214 = .ok (.iinc 7 (-1), 3) := by decide +kernel
theorem dc_Mo_round_217 : decode m_Mo_round.2.1 217 = .ok (.goto (-57), 3) := by decide +kernel
theorem dc_Mo_round_220 : decode m_Mo_round.2.1 220 = .ok (.iload 6, 2) := by decide +kernel
theorem dc_Mo_round_222 : decode m_Mo_round.2.1 222 = .ok (.ifCond .eq 20, 3) := by decide +kernel
theorem dc_Mo_round_225 : decode m_Mo_round.2.1 225 = .ok (.aload_n 0, 1) := by decide +kernel
theorem dc_Mo_round_226 : decode m_Mo_round.2.1 226 = .ok (.getfield 22, 3) := by decide +kernel
theorem dc_Mo_round_229 : decode m_Mo_round.2.1 229 = .ok (.iconst 0, 1) := by decide +kernel
theorem dc_Mo_round_230 : decode m_Mo_round.2.1 230 = .ok (.iconst 1, 1) := by decide +kernel
theorem dc_Mo_round_231 : decode m_Mo_round.2.1 231 = .ok (.iastore, 1) := by decide +kernel
theorem dc_Mo_round_232 : decode m_Mo_round.2.1 232 = .ok (.aload_n 0, 1) := by decide +kernel
theorem dc_Mo_round_233 : decode m_Mo_round.2.1 233 = .ok (.dup, 1) := by decide +kernel
theorem dc_Mo_round_234 : decode m_Mo_round.2.1 234 = .ok (.getfield 244, 3) := by decide +kernel
theorem dc_Mo_round_237 : decode m_Mo_round.2.1 237 = .ok (.iconst 1, 1) := by decide +kernel
theorem dc_Mo_round_238 : decode m_Mo_round.2.1 238 = .ok (.iadd, 1) := by decide +kernel
theorem dc_Mo_round_239 : decode m_Mo_round.2.1 239 = .ok (.putfield 244, 3) := by decide +kernel
theorem dc_Mo_round_242 : decode m_Mo_round.2.1 242 = .ok (.aload_n 0, 1) := by decide +kernel
theorem dc_Mo_round_243 : decode m_Mo_round.2.1 243 = .ok (.invokevirtual 285, 3) := by decide +kernel
theorem dc_Mo_round_246 : decode m_Mo_round.2.1 246 = .ok (.lload_n 1, 1) := by decide +kernel
theorem dc_Mo_round_247 : decode m_Mo_round.2.1 247 = .ok (.lconst 0, 1) := by decide +kernel
theorem dc_Mo_round_248 : decode m_Mo_round.2.1 248 = .ok (.lcmp, 1) := by decide +kernel
theorem dc_Mo_round_249 : decode m_Mo_round.2.1 249 = .ok (.ifCond .ge 9, 3) := by decide +kernel
theorem dc_Mo_round_252 : decode m_Mo_round.2.1 252 = .ok (.aload_n 0, 1) := by decide +kernel
theorem dc_Mo_round_253 : decode m_Mo_round.2.1 253 = .ok (.bipush 45, 2) := by decide +kernel
theorem dc_Mo_round_255 : decode m_Mo_round.2.1 255 = .ok (.invokevirtual 288, 3) := by decide +kernel
theorem dc_Mo_round_258 : decode m_Mo_round.2.1 258 = .ok (.iconst 0, 1) := by decide +kernel
theorem dc_Mo_round_259 : decode m_Mo_round.2.1 259 = .ok (.istore 5, 2) := by decide +kernel
theorem dc_Mo_round_261 : decode m_Mo_round.2.1 261 = .ok (.iload 5, 2) := by decide +kernel
theorem dc_Mo_round_263 : decode m_Mo_round.2.1 263 = .ok (.iload_n 3, 1) := by decide +kernel
theorem dc_Mo_round_264 : decode m_Mo_round.2.1 264 = .ok (.if_icmp .ge 44, 3) := by decide +kernel
theorem dc_Mo_round_267 : decode m_Mo_round.2.1 267 = .ok (.iload 5, 2) := by decide +kernel
theorem dc_Mo_round_269 : decode m_Mo_round.2.1 269 = .ok (.iconst 1, 1) := by decide +kernel
theorem dc_Mo_round_270 : decode m_Mo_round.2.1 270 = .ok (.if_icmp .ne 9, 3) := by decide +kernel
theorem dc_Mo_round_273 : decode m_Mo_round.2.1 273 = .ok (.aload_n 0, 1) := by decide +kernel
theorem dc_Mo_round_274 : decode m_Mo_round.2.1 274 = .ok (.bipush 46, 2) := by decide +kernel
theorem dc_Mo_round_276 : decode m_Mo_round.2.1 276 = .ok (.invokevirtual 288, 3) := by decide +kernel
theorem dc_Mo_round_279 : decode m_Mo_round.2.1 279 = .ok (.aload_n 0, 1) := by decide +kernel
theorem dc_Mo_round_280 : decode m_Mo_round.2.1 280 = .ok (.bipush 48, 2) := by decide +kernel
theorem dc_Mo_round_282 : decode m_Mo_round.2.1 282 = .ok (.iload 4, 2) := by decide +kernel
theorem dc_Mo_round_284 : decode m_Mo_round.2.1 284 = .ok (.ifCond .eq 7, 3) := by decide +kernel
theorem dc_Mo_round_287 : decode m_Mo_round.2.1 287 = .ok (.iconst 0, 1) := by decide +kernel
theorem dc_Mo_round_288 : decode m_Mo_round.2.1 288 = .ok (.goto 10, 3) := by decide +kernel
theorem dc_Mo_round_291 : decode m_Mo_round.2.1 291 = .ok (.aload_n 0, 1) := by decide +kernel
theorem dc_Mo_round_292 : decode m_Mo_round.2.1 292 = .ok (.getfield 22, 3) := by decide +kernel
theorem dc_Mo_round_295 : decode m_Mo_round.2.1 295 = .ok (.iload 5, 2) := by decide +kernel
theorem dc_Mo_round_297 : decode m_Mo_round.2.1 297 = .ok (.iaload, 1) := by decide +kernel
theorem dc_Mo_round_298 : decode m_Mo_round.2.1 298 = .ok (.iadd, 1) := by decide +kernel
theorem dc_Mo_round_299 : decode m_Mo_round.2.1 299 = .ok (.invokevirtual 288, 3) := by decide +kernel
theorem dc_Mo_round_302 : decode m_Mo_round.2.1 302 = .ok (.iinc 5 1, 3) := by decide +kernel
theorem dc_Mo_round_305 : decode m_Mo_round.2.1 305 = .ok (.goto (-44), 3) := by decide +kernel
theorem dc_Mo_round_308 : decode m_Mo_round.2.1 308 = .ok (.aload_n 0, 1) := by decide +kernel
theorem dc_Mo_round_309 : decode m_Mo_round.2.1 309 = .ok (.getfield 244, 3) := by decide +kernel
theorem dc_Mo_round_312 : decode m_Mo_round.2.1 312 = .ok (.iconst 1, 1) := by decide +kernel
theorem dc_Mo_round_313 : decode m_Mo_round.2.1 313 = .ok (.isub, 1) := by decide +kernel
theorem dc_Mo_round_314 : decode m_Mo_round.2.1 314 = .ok (.istore 5, 2) := by decide +kernel
theorem dc_Mo_round_316 : decode m_Mo_round.2.1 316 = .ok (.aload_n 0, 1) := by decide +kernel
theorem dc_Mo_round_317 : decode m_Mo_round.2.1 317 = .ok (.bipush 101, 2) := by decide +kernel
theorem dc_Mo_round_319 : decode m_Mo_round.2.1 319 = .ok (.invokevirtual 288, 3) := by decide +kernel
theorem dc_Mo_round_322 : decode m_Mo_round.2.1 322 = .ok (.aload_n 0, 1) := by decide +kernel
theorem dc_Mo_round_323 : decode m_Mo_round.2.1 323 = .ok (.iload 5, 2) := by decide +kernel
theorem dc_Mo_round_325 : decode m_Mo_round.2.1 325 = .ok (.ifCond .ge 8, 3) := by decide +kernel
theorem dc_Mo_round_328 : decode m_Mo_round.2.1 328 = .ok (.bipush 45, 2) := by decide +kernel
theorem dc_Mo_round_330 : decode m_Mo_round.2.1 330 = .ok (.goto 5, 3) := by decide +kernel
theorem dc_Mo_round_333 : decode m_Mo_round.2.1 333 = .ok (.bipush 43, 2) := by decide +kernel
theorem dc_Mo_round_335 : decode m_Mo_round.2.1 335 = .ok (.invokevirtual 288, 3) := by decide +kernel
theorem dc_Mo_round_338 : decode m_Mo_round.2.1 338 = .ok (.aload_n 0, 1) := by decide +kernel
theorem dc_Mo_round_339 : decode m_Mo_round.2.1 339 = .ok (.iconst 0, 1) := by decide +kernel
theorem dc_Mo_round_340 : decode m_Mo_round.2.1 340 = .ok (.putfield 264, 3) := by decide +kernel
theorem dc_Mo_round_343 : decode m_Mo_round.2.1 343 = .ok (.aload_n 0, 1) := by decide +kernel
theorem dc_Mo_round_344 : decode m_Mo_round.2.1 344 = .ok (.iload 5, 2) := by decide +kernel
theorem dc_Mo_round_346 : decode m_Mo_round.2.1 346 = .ok (.ifCond .ge 9, 3) := by decide +kernel
theorem dc_Mo_round_349 : decode m_Mo_round.2.1 349 = .ok (.iload 5, 2) := by decide +kernel
theorem dc_Mo_round_351 : decode m_Mo_round.2.1 351 = .ok (.ineg, 1) := by decide +kernel
theorem dc_Mo_round_352 : decode m_Mo_round.2.1 352 = .ok (.goto 5, 3) := by decide +kernel
theorem dc_Mo_round_355 : decode m_Mo_round.2.1 355 = .ok (.iload 5, 2) := by decide +kernel
theorem dc_Mo_round_357 : decode m_Mo_round.2.1 357 = .ok (.invokevirtual 275, 3) := by decide +kernel
theorem dc_Mo_round_360 : decode m_Mo_round.2.1 360 = .ok (.iconst 0, 1) := by decide +kernel
theorem dc_Mo_round_361 : decode m_Mo_round.2.1 361 = .ok (.istore 6, 2) := by decide +kernel
theorem dc_Mo_round_363 : decode m_Mo_round.2.1 363 = .ok (.iload 6, 2) := by decide +kernel
theorem dc_Mo_round_365 : decode m_Mo_round.2.1 365 = .ok (.aload_n 0, 1) := by decide +kernel
theorem dc_Mo_round_366 : decode m_Mo_round.2.1 366 = .ok (.getfield 264, 3) := by decide +kernel
theorem dc_Mo_round_369 : decode m_Mo_round.2.1 369 = .ok (.if_icmp .ge 20, 3) := by decide +kernel
theorem dc_Mo_round_372 : decode m_Mo_round.2.1 372 = .ok (.aload_n 0, 1) := by decide +kernel
theorem dc_Mo_round_373 : decode m_Mo_round.2.1 373 = .ok (.aload_n 0, 1) := by decide +kernel
theorem dc_Mo_round_374 : decode m_Mo_round.2.1 374 = .ok (.getfield 28, 3) := by decide +kernel
theorem dc_Mo_round_377 : decode m_Mo_round.2.1 377 = .ok (.iload 6, 2) := by decide +kernel
theorem dc_Mo_round_379 : decode m_Mo_round.2.1 379 = .ok (.iaload, 1) := by decide +kernel
theorem dc_Mo_round_380 : decode m_Mo_round.2.1 380 = .ok (.invokevirtual 288, 3) := by decide +kernel
theorem dc_Mo_round_383 : decode m_Mo_round.2.1 383 = .ok (.iinc 6 1, 3) := by decide +kernel
theorem dc_Mo_round_386 : decode m_Mo_round.2.1 386 = .ok (.goto (-23), 3) := by decide +kernel
theorem dc_Mo_round_389 : decode m_Mo_round.2.1 389 = .ok (.aload_n 0, 1) := by decide +kernel
theorem dc_Mo_round_390 : decode m_Mo_round.2.1 390 = .ok (.getfield 169, 3) := by decide +kernel
theorem dc_Mo_round_393 : decode m_Mo_round.2.1 393 = .ok (.ireturn, 1) := by decide +kernel
theorem b_Mo_round_0 {E : En_t} {d : Nat} {σ : S_t} {Q : Option Value → S_t → Prop} {x1 : Int64} {x3 : Int32}
    (h : CI E d m_Mo_isNumber [.long x1] σ (fun r2 σ1 => (r2 = 0 → Q (some (.int (-1 : Int32))) σ1) ∧ (¬ r2 = 0 → (x3 < (1 : Int32) → Q (some (.int (-1 : Int32))) σ1) ∧ (¬ x3 < (1 : Int32) → (x3 ≤ (800 : Int32) → CV E d m_Mo_keepExact [pv E 0, .long x1] σ1 (fun σ3 => (¬ (gI σ3 0 13) = 0 → JE E (d + 1) m_Mo_round 38 [(0, pv E 0), (1, .long x1), (3, .int x3)] [.int (0 : Int32)] σ3 Q) ∧ ((gI σ3 0 13) = 0 → JE E (d + 1) m_Mo_round 38 [(0, pv E 0), (1, .long x1), (3, .int x3)] [.int (1 : Int32)] σ3 Q))) ∧ (¬ x3 ≤ (800 : Int32) → Q (some (.int (-1 : Int32))) σ1))))) :
    JE E (d + 1) m_Mo_round 0 [(0, pv E 0), (1, .long x1), (3, .int x3)] [] σ Q := by
  refine J_lload_n dc_Mo_round_0 (Eq.refl 1) 1 rfl ?_
  refine J_callSI (As := [.long x1]) (st := []) dc_Mo_round_1 (Eq.refl 4) lk_Mo_278 mi_Mo_isNumber (Nat.le_of_ble_eq_true rfl) rfl (Nat.le_of_ble_eq_true rfl) (CI.mono h (fun r2 σ1 h => ?_))
  refine J_if_eq dc_Mo_round_4 (Eq.refl 7) rfl (fun hc => ?_) (fun hc => ?_)
  · have h := h.1 hc
    refine J_iconst (v := (-1 : Int32)) dc_Mo_round_19 (Eq.refl 20) rfl ?_
    exact J_iret dc_Mo_round_20 rfl h
  · have h := h.2 hc
    refine J_iload_n dc_Mo_round_7 (Eq.refl 8) 2 rfl ?_
    refine J_iconst (v := (1 : Int32)) dc_Mo_round_8 (Eq.refl 9) rfl ?_
    refine J_icmp_lt dc_Mo_round_9 (Eq.refl 12) rfl (fun hc => ?_) (fun hc => ?_)
    · have h := h.1 hc
      refine J_iconst (v := (-1 : Int32)) dc_Mo_round_19 (Eq.refl 20) rfl ?_
      exact J_iret dc_Mo_round_20 rfl h
    · have h := h.2 hc
      refine J_iload_n dc_Mo_round_12 (Eq.refl 13) 2 rfl ?_
      refine J_sipush (v := (800 : Int32)) dc_Mo_round_13 (Eq.refl 16) rfl ?_
      refine J_icmp_le dc_Mo_round_16 (Eq.refl 19) rfl (fun hc => ?_) (fun hc => ?_)
      · have h := h.1 hc
        refine J_aload_n dc_Mo_round_21 (Eq.refl 22) 0 rfl ?_
        refine J_lload_n dc_Mo_round_22 (Eq.refl 23) 1 rfl ?_
        refine J_callVV (As := [.long x1]) (st := []) dc_Mo_round_23 (Eq.refl 26) lk_Mo_257 mi_Mo_keepExact rfl (Nat.le_of_ble_eq_true rfl) rfl rfl (Nat.le_of_ble_eq_true rfl) rfl (Nat.le_of_ble_eq_true rfl) (CV.mono h (fun σ3 h => ?_))
        refine J_aload_n dc_Mo_round_26 (Eq.refl 27) 0 rfl ?_
        refine J_getI dc_Mo_round_27 (Eq.refl 30) fl_Mo_241 (Nat.le_of_ble_eq_true rfl) rfl (Or.inl rfl) ?_
        refine J_if_ne dc_Mo_round_30 (Eq.refl 33) rfl (fun hc => ?_) (fun hc => ?_)
        · have h := h.1 hc
          refine J_iconst (v := (0 : Int32)) dc_Mo_round_37 (Eq.refl 38) rfl ?_
          exact h
        · have h := h.2 hc
          refine J_iconst (v := (1 : Int32)) dc_Mo_round_33 (Eq.refl 34) rfl ?_
          refine J_goto dc_Mo_round_34 rfl ?_
          exact h
      · have h := h.2 hc
        refine J_iconst (v := (-1 : Int32)) dc_Mo_round_19 (Eq.refl 20) rfl ?_
        exact J_iret dc_Mo_round_20 rfl h
theorem b_Mo_round_38 {E : En_t} {d : Nat} {σ : S_t} {Q : Option Value → S_t → Prop} {x1 : Int64} {x3 : Int32} {s0 : Int32}
    (h : (s0 = 0 → JE E (d + 1) m_Mo_round 50 [(0, pv E 0), (1, .long x1), (3, .int x3), (4, .int s0)] [] σ Q) ∧ (¬ s0 = 0 → JE E (d + 1) m_Mo_round 50 [(0, pv E 0), (1, .long x1), (3, .int x3), (4, .int s0)] [] (sI σ 0 14 (1 : Int32)) Q)) :
    JE E (d + 1) m_Mo_round 38 [(0, pv E 0), (1, .long x1), (3, .int x3)] [.int s0] σ Q := by
  refine J_istore (L' := [(4, .int s0), (0, pv E 0), (1, .long x1), (3, .int x3)]) dc_Mo_round_38 (Eq.refl 40) (Nat.le_of_ble_eq_true rfl) rfl ?_
  refine J_iload dc_Mo_round_40 (Eq.refl 42) 0 rfl ?_
  refine J_if_eq dc_Mo_round_42 (Eq.refl 45) rfl (fun hc => ?_) (fun hc => ?_)
  · have h := h.1 hc
    refine J_sub [1, 2, 3, 0] rfl ?_
    exact h
  · have h := h.2 hc
    refine J_aload_n dc_Mo_round_45 (Eq.refl 46) 1 rfl ?_
    refine J_iconst (v := (1 : Int32)) dc_Mo_round_46 (Eq.refl 47) rfl ?_
    refine J_putI dc_Mo_round_47 (Eq.refl 50) pl_Mo_244 (Nat.le_of_ble_eq_true rfl) rfl rfl ?_
    refine J_sub [1, 2, 3, 0] rfl ?_
    exact h
theorem b_Mo_round_50 {E : En_t} {d : Nat} {σ : S_t} {Q : Option Value → S_t → Prop} {x1 : Int64} {x3 : Int32} {x4 : Int32}
    (h : JE E (d + 1) m_Mo_round 56 [(0, pv E 0), (1, .long x1), (3, .int x3), (4, .int x4), (5, .int (gI σ 0 13))] [] σ Q) :
    JE E (d + 1) m_Mo_round 50 [(0, pv E 0), (1, .long x1), (3, .int x3), (4, .int x4)] [] σ Q := by
  refine J_aload_n dc_Mo_round_50 (Eq.refl 51) 0 rfl ?_
  refine J_getI dc_Mo_round_51 (Eq.refl 54) fl_Mo_241 (Nat.le_of_ble_eq_true rfl) rfl (Or.inl rfl) ?_
  refine J_istore (L' := [(5, .int (gI σ 0 13)), (0, pv E 0), (1, .long x1), (3, .int x3), (4, .int x4)]) dc_Mo_round_54 (Eq.refl 56) (Nat.le_of_ble_eq_true rfl) rfl ?_
  refine J_sub [1, 2, 3, 4, 0] rfl ?_
  exact h
theorem b_Mo_round_56 {E : En_t} {d : Nat} {σ : S_t} {Q : Option Value → S_t → Prop} {x1 : Int64} {x3 : Int32} {x4 : Int32} {x5 : Int32}
    (h : (x3 ≤ x5 → ((gI σ 0 13) ≤ x3 → JE E (d + 1) m_Mo_round 242 [(0, pv E 0), (1, .long x1), (3, .int x3), (4, .int x4)] [] σ Q) ∧ (¬ (gI σ 0 13) ≤ x3 → vp_in x3 1200 ∧ ((¬ (gI σ 5 x3.toNatClampNeg) = (5 : Int32) → JE E (d + 1) m_Mo_round 108 [(0, pv E 0), (1, .long x1), (3, .int x3), (4, .int x4)] [] σ Q) ∧ ((gI σ 5 x3.toNatClampNeg) = (5 : Int32) → (¬ (gI σ 0 13) = (x3 + (1 : Int32)) → JE E (d + 1) m_Mo_round 108 [(0, pv E 0), (1, .long x1), (3, .int x3), (4, .int x4)] [] σ Q) ∧ ((gI σ 0 13) = (x3 + (1 : Int32)) → JE E (d + 1) m_Mo_round 109 [(0, pv E 0), (1, .long x1), (3, .int x3), (4, .int x4)] [.int (1 : Int32)] σ Q))))) ∧ (¬ x3 ≤ x5 → vp_in x5 1200 ∧ (JE E (d + 1) m_Mo_round 56 [(0, pv E 0), (1, .long x1), (3, .int x3), (4, .int x4), (5, .int (x5 + (1 : Int32)))] [] (sI σ 5 x5.toNatClampNeg (0 : Int32)) Q))) :
    JE E (d + 1) m_Mo_round 56 [(0, pv E 0), (1, .long x1), (3, .int x3), (4, .int x4), (5, .int x5)] [] σ Q := by
  refine J_iload dc_Mo_round_56 (Eq.refl 58) 4 rfl ?_
  refine J_iload_n dc_Mo_round_58 (Eq.refl 59) 2 rfl ?_
  refine J_icmp_ge dc_Mo_round_59 (Eq.refl 62) rfl (fun hc => ?_) (fun hc => ?_)
  · have h := h.1 hc
    refine J_aload_n dc_Mo_round_76 (Eq.refl 77) 0 rfl ?_
    refine J_getI dc_Mo_round_77 (Eq.refl 80) fl_Mo_241 (Nat.le_of_ble_eq_true rfl) rfl (Or.inl rfl) ?_
    refine J_iload_n dc_Mo_round_80 (Eq.refl 81) 2 rfl ?_
    refine J_icmp_le dc_Mo_round_81 (Eq.refl 84) rfl (fun hc => ?_) (fun hc => ?_)
    · have h := h.1 hc
      refine J_sub [0, 1, 2, 3] rfl ?_
      exact h
    · have h := h.2 hc
      refine J_aload_n dc_Mo_round_84 (Eq.refl 85) 0 rfl ?_
      refine J_getF (y := 5) dc_Mo_round_85 (Eq.refl 88) fl_Mo_22 (Nat.le_of_ble_eq_true rfl) rfl (Or.inl rfl) rfl ?_
      refine J_iload_n dc_Mo_round_88 (Eq.refl 89) 2 rfl ?_
      obtain ⟨hg, h⟩ := h
      refine J_iald dc_Mo_round_89 (Eq.refl 90) rfl rfl hg ?_
      refine J_iconst (v := (5 : Int32)) dc_Mo_round_90 (Eq.refl 91) rfl ?_
      refine J_icmp_ne dc_Mo_round_91 (Eq.refl 94) rfl (fun hc => ?_) (fun hc => ?_)
      · have h := h.1 hc
        refine J_sub [0, 1, 2, 3] rfl ?_
        exact h
      · have h := h.2 hc
        refine J_aload_n dc_Mo_round_94 (Eq.refl 95) 0 rfl ?_
        refine J_getI dc_Mo_round_95 (Eq.refl 98) fl_Mo_241 (Nat.le_of_ble_eq_true rfl) rfl (Or.inl rfl) ?_
        refine J_iload_n dc_Mo_round_98 (Eq.refl 99) 2 rfl ?_
        refine J_iconst (v := (1 : Int32)) dc_Mo_round_99 (Eq.refl 100) rfl ?_
        refine J_iadd dc_Mo_round_100 (Eq.refl 101) ?_
        refine J_icmp_ne dc_Mo_round_101 (Eq.refl 104) rfl (fun hc => ?_) (fun hc => ?_)
        · have h := h.1 hc
          refine J_sub [0, 1, 2, 3] rfl ?_
          exact h
        · have h := h.2 hc
          refine J_iconst (v := (1 : Int32)) dc_Mo_round_104 (Eq.refl 105) rfl ?_
          refine J_goto dc_Mo_round_105 rfl ?_
          refine J_sub [0, 1, 2, 3] rfl ?_
          exact h
  · have h := h.2 hc
    refine J_aload_n dc_Mo_round_62 (Eq.refl 63) 0 rfl ?_
    refine J_getF (y := 5) dc_Mo_round_63 (Eq.refl 66) fl_Mo_22 (Nat.le_of_ble_eq_true rfl) rfl (Or.inl rfl) rfl ?_
    refine J_iload dc_Mo_round_66 (Eq.refl 68) 4 rfl ?_
    refine J_iconst (v := (0 : Int32)) dc_Mo_round_68 (Eq.refl 69) rfl ?_
    obtain ⟨hg, h⟩ := h
    refine J_iast dc_Mo_round_69 (Eq.refl 70) rfl rfl hg ?_
    refine J_iinc (v := x5 + (1 : Int32)) (L' := [(5, .int (x5 + (1 : Int32))), (0, pv E 0), (1, .long x1), (3, .int x3), (4, .int x4)]) dc_Mo_round_70 (Eq.refl 73) 4 rfl rfl (Nat.le_of_ble_eq_true rfl) rfl ?_
    refine J_goto dc_Mo_round_73 rfl ?_
    refine J_sub [1, 2, 3, 4, 0] rfl ?_
    exact h
theorem b_Mo_round_108 {E : En_t} {d : Nat} {σ : S_t} {Q : Option Value → S_t → Prop} {x1 : Int64} {x3 : Int32} {x4 : Int32}
    (h : JE E (d + 1) m_Mo_round 109 [(0, pv E 0), (1, .long x1), (3, .int x3), (4, .int x4)] [.int (0 : Int32)] σ Q) :
    JE E (d + 1) m_Mo_round 108 [(0, pv E 0), (1, .long x1), (3, .int x3), (4, .int x4)] [] σ Q := by
  refine J_iconst (v := (0 : Int32)) dc_Mo_round_108 (Eq.refl 109) rfl ?_
  exact h
theorem b_Mo_round_109 {E : En_t} {d : Nat} {σ : S_t} {Q : Option Value → S_t → Prop} {x1 : Int64} {x3 : Int32} {x4 : Int32} {s0 : Int32}
    (h : (s0 = 0 → vp_in x3 1200 ∧ (((gI σ 5 x3.toNatClampNeg) < (5 : Int32) → JE E (d + 1) m_Mo_round 153 [(0, pv E 0), (1, .long x1), (3, .int x3), (4, .int x4)] [.int (0 : Int32)] σ Q) ∧ (¬ (gI σ 5 x3.toNatClampNeg) < (5 : Int32) → JE E (d + 1) m_Mo_round 153 [(0, pv E 0), (1, .long x1), (3, .int x3), (4, .int x4)] [.int (1 : Int32)] σ Q))) ∧ (¬ s0 = 0 → vp_in (x3 - (1 : Int32)) 1200 ∧ (∀ v1, v1 = (gI σ 5 (x3 - (1 : Int32)).toNatClampNeg) - (gI σ 5 (x3 - (1 : Int32)).toNatClampNeg) / (2 : Int32) * (2 : Int32) → ((¬ v1 = (1 : Int32) → JE E (d + 1) m_Mo_round 153 [(0, pv E 0), (1, .long x1), (3, .int x3), (4, .int x4)] [.int (0 : Int32)] σ Q) ∧ (v1 = (1 : Int32) → JE E (d + 1) m_Mo_round 153 [(0, pv E 0), (1, .long x1), (3, .int x3), (4, .int x4)] [.int (1 : Int32)] σ Q))))) :
    JE E (d + 1) m_Mo_round 109 [(0, pv E 0), (1, .long x1), (3, .int x3), (4, .int x4)] [.int s0] σ Q := by
  refine J_istore (L' := [(5, .int s0), (0, pv E 0), (1, .long x1), (3, .int x3), (4, .int x4)]) dc_Mo_round_109 (Eq.refl 111) (Nat.le_of_ble_eq_true rfl) rfl ?_
  refine J_iload dc_Mo_round_111 (Eq.refl 113) 0 rfl ?_
  refine J_if_eq dc_Mo_round_113 (Eq.refl 116) rfl (fun hc => ?_) (fun hc => ?_)
  · have h := h.1 hc
    refine J_aload_n dc_Mo_round_138 (Eq.refl 139) 1 rfl ?_
    refine J_getF (y := 5) dc_Mo_round_139 (Eq.refl 142) fl_Mo_22 (Nat.le_of_ble_eq_true rfl) rfl (Or.inl rfl) rfl ?_
    refine J_iload_n dc_Mo_round_142 (Eq.refl 143) 3 rfl ?_
    obtain ⟨hg, h⟩ := h
    refine J_iald dc_Mo_round_143 (Eq.refl 144) rfl rfl hg ?_
    refine J_iconst (v := (5 : Int32)) dc_Mo_round_144 (Eq.refl 145) rfl ?_
    refine J_icmp_lt dc_Mo_round_145 (Eq.refl 148) rfl (fun hc => ?_) (fun hc => ?_)
    · have h := h.1 hc
      refine J_iconst (v := (0 : Int32)) dc_Mo_round_152 (Eq.refl 153) rfl ?_
      refine J_sub [1, 2, 3, 4] rfl ?_
      exact h
    · have h := h.2 hc
      refine J_iconst (v := (1 : Int32)) dc_Mo_round_148 (Eq.refl 149) rfl ?_
      refine J_goto dc_Mo_round_149 rfl ?_
      refine J_sub [1, 2, 3, 4] rfl ?_
      exact h
  · have h := h.2 hc
    refine J_aload_n dc_Mo_round_116 (Eq.refl 117) 1 rfl ?_
    refine J_getF (y := 5) dc_Mo_round_117 (Eq.refl 120) fl_Mo_22 (Nat.le_of_ble_eq_true rfl) rfl (Or.inl rfl) rfl ?_
    refine J_iload_n dc_Mo_round_120 (Eq.refl 121) 3 rfl ?_
    refine J_iconst (v := (1 : Int32)) dc_Mo_round_121 (Eq.refl 122) rfl ?_
    refine J_isub dc_Mo_round_122 (Eq.refl 123) ?_
    obtain ⟨hg, h⟩ := h
    refine J_iald dc_Mo_round_123 (Eq.refl 124) rfl rfl hg ?_
    refine J_iconst (v := (2 : Int32)) dc_Mo_round_124 (Eq.refl 125) rfl ?_
    refine J_irem dc_Mo_round_125 (Eq.refl 126) (by decide) ?_
    refine J_topi (fun v1 ev1 => ?_)
    have h := h v1 ev1
    refine J_iconst (v := (1 : Int32)) dc_Mo_round_126 (Eq.refl 127) rfl ?_
    refine J_icmp_ne dc_Mo_round_127 (Eq.refl 130) rfl (fun hc => ?_) (fun hc => ?_)
    · have h := h.1 hc
      refine J_iconst (v := (0 : Int32)) dc_Mo_round_134 (Eq.refl 135) rfl ?_
      refine J_goto dc_Mo_round_135 rfl ?_
      refine J_sub [1, 2, 3, 4] rfl ?_
      exact h
    · have h := h.2 hc
      refine J_iconst (v := (1 : Int32)) dc_Mo_round_130 (Eq.refl 131) rfl ?_
      refine J_goto dc_Mo_round_131 rfl ?_
      refine J_sub [1, 2, 3, 4] rfl ?_
      exact h
theorem b_Mo_round_153 {E : En_t} {d : Nat} {σ : S_t} {Q : Option Value → S_t → Prop} {x1 : Int64} {x3 : Int32} {x4 : Int32} {s0 : Int32}
    (h : JE E (d + 1) m_Mo_round 160 [(0, pv E 0), (1, .long x1), (3, .int x3), (4, .int x4), (6, .int s0), (7, .int (x3 - (1 : Int32)))] [] σ Q) :
    JE E (d + 1) m_Mo_round 153 [(0, pv E 0), (1, .long x1), (3, .int x3), (4, .int x4)] [.int s0] σ Q := by
  refine J_istore (L' := [(6, .int s0), (0, pv E 0), (1, .long x1), (3, .int x3), (4, .int x4)]) dc_Mo_round_153 (Eq.refl 155) (Nat.le_of_ble_eq_true rfl) rfl ?_
  refine J_iload_n dc_Mo_round_155 (Eq.refl 156) 3 rfl ?_
  refine J_iconst (v := (1 : Int32)) dc_Mo_round_156 (Eq.refl 157) rfl ?_
  refine J_isub dc_Mo_round_157 (Eq.refl 158) ?_
  refine J_istore (L' := [(7, .int (x3 - (1 : Int32))), (6, .int s0), (0, pv E 0), (1, .long x1), (3, .int x3), (4, .int x4)]) dc_Mo_round_158 (Eq.refl 160) (Nat.le_of_ble_eq_true rfl) rfl ?_
  refine J_sub [2, 3, 4, 5, 1, 0] rfl ?_
  exact h
theorem b_Mo_round_160 {E : En_t} {d : Nat} {σ : S_t} {Q : Option Value → S_t → Prop} {x1 : Int64} {x3 : Int32} {x4 : Int32} {x6 : Int32} {x7 : Int32}
    (h : (x6 = 0 → JE E (d + 1) m_Mo_round 220 [(0, pv E 0), (1, .long x1), (3, .int x3), (4, .int x4), (6, .int x6)] [] σ Q) ∧ (¬ x6 = 0 → (x7 < 0 → JE E (d + 1) m_Mo_round 220 [(0, pv E 0), (1, .long x1), (3, .int x3), (4, .int x4), (6, .int x6)] [] σ Q) ∧ (¬ x7 < 0 → vp_in x7 1200 ∧ ((¬ (gI σ 5 x7.toNatClampNeg) = (9 : Int32) → JE E (d + 1) m_Mo_round 187 [(0, pv E 0), (1, .long x1), (3, .int x3), (4, .int x4), (7, .int x7)] [.int (0 : Int32)] σ Q) ∧ ((gI σ 5 x7.toNatClampNeg) = (9 : Int32) → JE E (d + 1) m_Mo_round 187 [(0, pv E 0), (1, .long x1), (3, .int x3), (4, .int x4), (7, .int x7)] [.int (1 : Int32)] σ Q))))) :
    JE E (d + 1) m_Mo_round 160 [(0, pv E 0), (1, .long x1), (3, .int x3), (4, .int x4), (6, .int x6), (7, .int x7)] [] σ Q := by
  refine J_iload dc_Mo_round_160 (Eq.refl 162) 4 rfl ?_
  refine J_if_eq dc_Mo_round_162 (Eq.refl 165) rfl (fun hc => ?_) (fun hc => ?_)
  · have h := h.1 hc
    refine J_sub [0, 1, 2, 3, 4] rfl ?_
    exact h
  · have h := h.2 hc
    refine J_iload dc_Mo_round_165 (Eq.refl 167) 5 rfl ?_
    refine J_if_lt dc_Mo_round_167 (Eq.refl 170) rfl (fun hc => ?_) (fun hc => ?_)
    · have h := h.1 hc
      refine J_sub [0, 1, 2, 3, 4] rfl ?_
      exact h
    · have h := h.2 hc
      refine J_aload_n dc_Mo_round_170 (Eq.refl 171) 0 rfl ?_
      refine J_getF (y := 5) dc_Mo_round_171 (Eq.refl 174) fl_Mo_22 (Nat.le_of_ble_eq_true rfl) rfl (Or.inl rfl) rfl ?_
      refine J_iload dc_Mo_round_174 (Eq.refl 176) 5 rfl ?_
      obtain ⟨hg, h⟩ := h
      refine J_iald dc_Mo_round_176 (Eq.refl 177) rfl rfl hg ?_
      refine J_bipush (v := (9 : Int32)) dc_Mo_round_177 (Eq.refl 179) rfl ?_
      refine J_icmp_ne dc_Mo_round_179 (Eq.refl 182) rfl (fun hc => ?_) (fun hc => ?_)
      · have h := h.1 hc
        refine J_iconst (v := (0 : Int32)) dc_Mo_round_186 (Eq.refl 187) rfl ?_
        refine J_sub [0, 1, 2, 3, 5] rfl ?_
        exact h
      · have h := h.2 hc
        refine J_iconst (v := (1 : Int32)) dc_Mo_round_182 (Eq.refl 183) rfl ?_
        refine J_goto dc_Mo_round_183 rfl ?_
        refine J_sub [0, 1, 2, 3, 5] rfl ?_
        exact h
theorem b_Mo_round_187 {E : En_t} {d : Nat} {σ : S_t} {Q : Option Value → S_t → Prop} {x1 : Int64} {x3 : Int32} {x4 : Int32} {x7 : Int32} {s0 : Int32}
    (h : (s0 = 0 → vp_in x7 1200 ∧ (JE E (d + 1) m_Mo_round 213 [(0, pv E 0), (1, .long x1), (3, .int x3), (4, .int x4), (6, .int s0), (7, .int x7)] [.int ((gI σ 5 x7.toNatClampNeg) + (1 : Int32)), .int x7, pv E 5] σ Q)) ∧ (¬ s0 = 0 → JE E (d + 1) m_Mo_round 213 [(0, pv E 0), (1, .long x1), (3, .int x3), (4, .int x4), (6, .int s0), (7, .int x7)] [.int (0 : Int32), .int x7, pv E 5] σ Q)) :
    JE E (d + 1) m_Mo_round 187 [(0, pv E 0), (1, .long x1), (3, .int x3), (4, .int x4), (7, .int x7)] [.int s0] σ Q := by
  refine J_istore (L' := [(6, .int s0), (0, pv E 0), (1, .long x1), (3, .int x3), (4, .int x4), (7, .int x7)]) dc_Mo_round_187 (Eq.refl 189) (Nat.le_of_ble_eq_true rfl) rfl ?_
  refine J_aload_n dc_Mo_round_189 (Eq.refl 190) 1 rfl ?_
  refine J_getF (y := 5) dc_Mo_round_190 (Eq.refl 193) fl_Mo_22 (Nat.le_of_ble_eq_true rfl) rfl (Or.inl rfl) rfl ?_
  refine J_iload dc_Mo_round_193 (Eq.refl 195) 5 rfl ?_
  refine J_iload dc_Mo_round_195 (Eq.refl 197) 0 rfl ?_
  refine J_if_eq dc_Mo_round_197 (Eq.refl 200) rfl (fun hc => ?_) (fun hc => ?_)
  · have h := h.1 hc
    refine J_aload_n dc_Mo_round_204 (Eq.refl 205) 1 rfl ?_
    refine J_getF (y := 5) dc_Mo_round_205 (Eq.refl 208) fl_Mo_22 (Nat.le_of_ble_eq_true rfl) rfl (Or.inl rfl) rfl ?_
    refine J_iload dc_Mo_round_208 (Eq.refl 210) 5 rfl ?_
    obtain ⟨hg, h⟩ := h
    refine J_iald dc_Mo_round_210 (Eq.refl 211) rfl rfl hg ?_
    refine J_iconst (v := (1 : Int32)) dc_Mo_round_211 (Eq.refl 212) rfl ?_
    refine J_iadd dc_Mo_round_212 (Eq.refl 213) ?_
    refine J_sub [1, 2, 3, 4, 0, 5] rfl ?_
    exact h
  · have h := h.2 hc
    refine J_iconst (v := (0 : Int32)) dc_Mo_round_200 (Eq.refl 201) rfl ?_
    refine J_goto dc_Mo_round_201 rfl ?_
    refine J_sub [1, 2, 3, 4, 0, 5] rfl ?_
    exact h
theorem b_Mo_round_213 {E : En_t} {d : Nat} {σ : S_t} {Q : Option Value → S_t → Prop} {x1 : Int64} {x3 : Int32} {x4 : Int32} {x6 : Int32} {x7 : Int32} {s0 : Int32} {s1 : Int32} {q2 : Nat} (hk_q2 : kindP q2 = 20)
    (h : vp_in s1 (lenP q2) ∧ (JE E (d + 1) m_Mo_round 160 [(0, pv E 0), (1, .long x1), (3, .int x3), (4, .int x4), (6, .int x6), (7, .int (x7 + (-1 : Int32)))] [] (sI σ q2 s1.toNatClampNeg s0) Q)) :
    JE E (d + 1) m_Mo_round 213 [(0, pv E 0), (1, .long x1), (3, .int x3), (4, .int x4), (6, .int x6), (7, .int x7)] [.int s0, .int s1, pv E q2] σ Q := by
  obtain ⟨hg, h⟩ := h
  refine J_iast dc_Mo_round_213 (Eq.refl 214) hk_q2 rfl hg ?_
  refine J_iinc (v := x7 + (-1 : Int32)) (L' := [(7, .int (x7 + (-1 : Int32))), (0, pv E 0), (1, .long x1), (3, .int x3), (4, .int x4), (6, .int x6)]) dc_Mo_round_214 (Eq.refl 217) 5 rfl rfl (Nat.le_of_ble_eq_true rfl) rfl ?_
  refine J_goto dc_Mo_round_217 rfl ?_
  refine J_sub [1, 2, 3, 4, 5, 0] rfl ?_
  exact h
theorem b_Mo_round_220 {E : En_t} {d : Nat} {σ : S_t} {Q : Option Value → S_t → Prop} {x1 : Int64} {x3 : Int32} {x4 : Int32} {x6 : Int32}
    (h : (x6 = 0 → JE E (d + 1) m_Mo_round 242 [(0, pv E 0), (1, .long x1), (3, .int x3), (4, .int x4)] [] σ Q) ∧ (¬ x6 = 0 → vp_in (0 : Int32) 1200 ∧ (JE E (d + 1) m_Mo_round 242 [(0, pv E 0), (1, .long x1), (3, .int x3), (4, .int x4)] [] (sI (sI σ 5 (0 : Int32).toNatClampNeg (1 : Int32)) 0 14 ((gI (sI σ 5 (0 : Int32).toNatClampNeg (1 : Int32)) 0 14) + (1 : Int32))) Q))) :
    JE E (d + 1) m_Mo_round 220 [(0, pv E 0), (1, .long x1), (3, .int x3), (4, .int x4), (6, .int x6)] [] σ Q := by
  refine J_iload dc_Mo_round_220 (Eq.refl 222) 4 rfl ?_
  refine J_if_eq dc_Mo_round_222 (Eq.refl 225) rfl (fun hc => ?_) (fun hc => ?_)
  · have h := h.1 hc
    refine J_sub [0, 1, 2, 3] rfl ?_
    exact h
  · have h := h.2 hc
    refine J_aload_n dc_Mo_round_225 (Eq.refl 226) 0 rfl ?_
    refine J_getF (y := 5) dc_Mo_round_226 (Eq.refl 229) fl_Mo_22 (Nat.le_of_ble_eq_true rfl) rfl (Or.inl rfl) rfl ?_
    refine J_iconst (v := (0 : Int32)) dc_Mo_round_229 (Eq.refl 230) rfl ?_
    refine J_iconst (v := (1 : Int32)) dc_Mo_round_230 (Eq.refl 231) rfl ?_
    obtain ⟨hg, h⟩ := h
    refine J_iast dc_Mo_round_231 (Eq.refl 232) rfl rfl hg ?_
    refine J_aload_n dc_Mo_round_232 (Eq.refl 233) 0 rfl ?_
    refine J_dup dc_Mo_round_233 (Eq.refl 234) rfl ?_
    refine J_getI dc_Mo_round_234 (Eq.refl 237) fl_Mo_244 (Nat.le_of_ble_eq_true rfl) rfl (Or.inl rfl) ?_
    refine J_iconst (v := (1 : Int32)) dc_Mo_round_237 (Eq.refl 238) rfl ?_
    refine J_iadd dc_Mo_round_238 (Eq.refl 239) ?_
    refine J_putI dc_Mo_round_239 (Eq.refl 242) pl_Mo_244 (Nat.le_of_ble_eq_true rfl) rfl rfl ?_
    refine J_sub [0, 1, 2, 3] rfl ?_
    exact h
theorem b_Mo_round_242 {E : En_t} {d : Nat} {σ : S_t} {Q : Option Value → S_t → Prop} {x1 : Int64} {x3 : Int32} {x4 : Int32}
    (h : CV E d m_Mo_clearOut [pv E 0] σ (fun σ1 => (0 ≤ (lg_cmp x1 (0 : Int64)) → JE E (d + 1) m_Mo_round 258 [(0, pv E 0), (3, .int x3), (4, .int x4)] [] σ1 Q) ∧ (¬ 0 ≤ (lg_cmp x1 (0 : Int64)) → CV E d m_Mo_put [pv E 0, .int (45 : Int32)] σ1 (fun σ2 => JE E (d + 1) m_Mo_round 258 [(0, pv E 0), (3, .int x3), (4, .int x4)] [] σ2 Q)))) :
    JE E (d + 1) m_Mo_round 242 [(0, pv E 0), (1, .long x1), (3, .int x3), (4, .int x4)] [] σ Q := by
  refine J_aload_n dc_Mo_round_242 (Eq.refl 243) 0 rfl ?_
  refine J_callVV (As := []) (st := []) dc_Mo_round_243 (Eq.refl 246) lk_Mo_285 mi_Mo_clearOut rfl (Nat.le_of_ble_eq_true rfl) rfl rfl (Nat.le_of_ble_eq_true rfl) rfl (Nat.le_of_ble_eq_true rfl) (CV.mono h (fun σ1 h => ?_))
  refine J_lload_n dc_Mo_round_246 (Eq.refl 247) 1 rfl ?_
  refine J_lconst (v := (0 : Int64)) dc_Mo_round_247 (Eq.refl 248) rfl ?_
  refine J_lcmp dc_Mo_round_248 (Eq.refl 249) ?_
  refine J_if_ge dc_Mo_round_249 (Eq.refl 252) rfl (fun hc => ?_) (fun hc => ?_)
  · have h := h.1 hc
    refine J_sub [0, 2, 3] rfl ?_
    exact h
  · have h := h.2 hc
    refine J_aload_n dc_Mo_round_252 (Eq.refl 253) 0 rfl ?_
    refine J_bipush (v := (45 : Int32)) dc_Mo_round_253 (Eq.refl 255) rfl ?_
    refine J_callVV (As := [.int (45 : Int32)]) (st := []) dc_Mo_round_255 (Eq.refl 258) lk_Mo_288 mi_Mo_put rfl (Nat.le_of_ble_eq_true rfl) rfl rfl (Nat.le_of_ble_eq_true rfl) rfl (Nat.le_of_ble_eq_true rfl) (CV.mono h (fun σ2 h => ?_))
    refine J_sub [0, 2, 3] rfl ?_
    exact h
theorem b_Mo_round_258 {E : En_t} {d : Nat} {σ : S_t} {Q : Option Value → S_t → Prop} {x3 : Int32} {x4 : Int32}
    (h : JE E (d + 1) m_Mo_round 261 [(0, pv E 0), (3, .int x3), (4, .int x4), (5, .int (0 : Int32))] [] σ Q) :
    JE E (d + 1) m_Mo_round 258 [(0, pv E 0), (3, .int x3), (4, .int x4)] [] σ Q := by
  refine J_iconst (v := (0 : Int32)) dc_Mo_round_258 (Eq.refl 259) rfl ?_
  refine J_istore (L' := [(5, .int (0 : Int32)), (0, pv E 0), (3, .int x3), (4, .int x4)]) dc_Mo_round_259 (Eq.refl 261) (Nat.le_of_ble_eq_true rfl) rfl ?_
  refine J_sub [1, 2, 3, 0] rfl ?_
  exact h
theorem b_Mo_round_261 {E : En_t} {d : Nat} {σ : S_t} {Q : Option Value → S_t → Prop} {x3 : Int32} {x4 : Int32} {x5 : Int32}
    (h : (x3 ≤ x5 → CV E d m_Mo_put [pv E 0, .int (101 : Int32)] σ (fun σ1 => (0 ≤ ((gI σ 0 14) - (1 : Int32)) → JE E (d + 1) m_Mo_round 335 [(0, pv E 0), (5, .int ((gI σ 0 14) - (1 : Int32)))] [.int (43 : Int32), pv E 0] σ1 Q) ∧ (¬ 0 ≤ ((gI σ 0 14) - (1 : Int32)) → JE E (d + 1) m_Mo_round 335 [(0, pv E 0), (5, .int ((gI σ 0 14) - (1 : Int32)))] [.int (45 : Int32), pv E 0] σ1 Q))) ∧ (¬ x3 ≤ x5 → (¬ x5 = (1 : Int32) → JE E (d + 1) m_Mo_round 279 [(0, pv E 0), (3, .int x3), (4, .int x4), (5, .int x5)] [] σ Q) ∧ (x5 = (1 : Int32) → CV E d m_Mo_put [pv E 0, .int (46 : Int32)] σ (fun σ2 => JE E (d + 1) m_Mo_round 279 [(0, pv E 0), (3, .int x3), (4, .int x4), (5, .int x5)] [] σ2 Q)))) :
    JE E (d + 1) m_Mo_round 261 [(0, pv E 0), (3, .int x3), (4, .int x4), (5, .int x5)] [] σ Q := by
  refine J_iload dc_Mo_round_261 (Eq.refl 263) 3 rfl ?_
  refine J_iload_n dc_Mo_round_263 (Eq.refl 264) 1 rfl ?_
  refine J_icmp_ge dc_Mo_round_264 (Eq.refl 267) rfl (fun hc => ?_) (fun hc => ?_)
  · have h := h.1 hc
    refine J_aload_n dc_Mo_round_308 (Eq.refl 309) 0 rfl ?_
    refine J_getI dc_Mo_round_309 (Eq.refl 312) fl_Mo_244 (Nat.le_of_ble_eq_true rfl) rfl (Or.inl rfl) ?_
    refine J_iconst (v := (1 : Int32)) dc_Mo_round_312 (Eq.refl 313) rfl ?_
    refine J_isub dc_Mo_round_313 (Eq.refl 314) ?_
    refine J_istore (L' := [(5, .int ((gI σ 0 14) - (1 : Int32))), (0, pv E 0), (3, .int x3), (4, .int x4)]) dc_Mo_round_314 (Eq.refl 316) (Nat.le_of_ble_eq_true rfl) rfl ?_
    refine J_aload_n dc_Mo_round_316 (Eq.refl 317) 1 rfl ?_
    refine J_bipush (v := (101 : Int32)) dc_Mo_round_317 (Eq.refl 319) rfl ?_
    refine J_callVV (As := [.int (101 : Int32)]) (st := []) dc_Mo_round_319 (Eq.refl 322) lk_Mo_288 mi_Mo_put rfl (Nat.le_of_ble_eq_true rfl) rfl rfl (Nat.le_of_ble_eq_true rfl) rfl (Nat.le_of_ble_eq_true rfl) (CV.mono h (fun σ1 h => ?_))
    refine J_aload_n dc_Mo_round_322 (Eq.refl 323) 1 rfl ?_
    refine J_iload dc_Mo_round_323 (Eq.refl 325) 0 rfl ?_
    refine J_if_ge dc_Mo_round_325 (Eq.refl 328) rfl (fun hc => ?_) (fun hc => ?_)
    · have h := h.1 hc
      refine J_bipush (v := (43 : Int32)) dc_Mo_round_333 (Eq.refl 335) rfl ?_
      refine J_sub [1, 0] rfl ?_
      exact h
    · have h := h.2 hc
      refine J_bipush (v := (45 : Int32)) dc_Mo_round_328 (Eq.refl 330) rfl ?_
      refine J_goto dc_Mo_round_330 rfl ?_
      refine J_sub [1, 0] rfl ?_
      exact h
  · have h := h.2 hc
    refine J_iload dc_Mo_round_267 (Eq.refl 269) 3 rfl ?_
    refine J_iconst (v := (1 : Int32)) dc_Mo_round_269 (Eq.refl 270) rfl ?_
    refine J_icmp_ne dc_Mo_round_270 (Eq.refl 273) rfl (fun hc => ?_) (fun hc => ?_)
    · have h := h.1 hc
      exact h
    · have h := h.2 hc
      refine J_aload_n dc_Mo_round_273 (Eq.refl 274) 0 rfl ?_
      refine J_bipush (v := (46 : Int32)) dc_Mo_round_274 (Eq.refl 276) rfl ?_
      refine J_callVV (As := [.int (46 : Int32)]) (st := []) dc_Mo_round_276 (Eq.refl 279) lk_Mo_288 mi_Mo_put rfl (Nat.le_of_ble_eq_true rfl) rfl rfl (Nat.le_of_ble_eq_true rfl) rfl (Nat.le_of_ble_eq_true rfl) (CV.mono h (fun σ2 h => ?_))
      exact h
theorem b_Mo_round_279 {E : En_t} {d : Nat} {σ : S_t} {Q : Option Value → S_t → Prop} {x3 : Int32} {x4 : Int32} {x5 : Int32}
    (h : (x4 = 0 → vp_in x5 1200 ∧ (JE E (d + 1) m_Mo_round 298 [(0, pv E 0), (3, .int x3), (4, .int x4), (5, .int x5)] [.int (gI σ 5 x5.toNatClampNeg), .int (48 : Int32), pv E 0] σ Q)) ∧ (¬ x4 = 0 → JE E (d + 1) m_Mo_round 298 [(0, pv E 0), (3, .int x3), (4, .int x4), (5, .int x5)] [.int (0 : Int32), .int (48 : Int32), pv E 0] σ Q)) :
    JE E (d + 1) m_Mo_round 279 [(0, pv E 0), (3, .int x3), (4, .int x4), (5, .int x5)] [] σ Q := by
  refine J_aload_n dc_Mo_round_279 (Eq.refl 280) 0 rfl ?_
  refine J_bipush (v := (48 : Int32)) dc_Mo_round_280 (Eq.refl 282) rfl ?_
  refine J_iload dc_Mo_round_282 (Eq.refl 284) 2 rfl ?_
  refine J_if_eq dc_Mo_round_284 (Eq.refl 287) rfl (fun hc => ?_) (fun hc => ?_)
  · have h := h.1 hc
    refine J_aload_n dc_Mo_round_291 (Eq.refl 292) 0 rfl ?_
    refine J_getF (y := 5) dc_Mo_round_292 (Eq.refl 295) fl_Mo_22 (Nat.le_of_ble_eq_true rfl) rfl (Or.inl rfl) rfl ?_
    refine J_iload dc_Mo_round_295 (Eq.refl 297) 3 rfl ?_
    obtain ⟨hg, h⟩ := h
    refine J_iald dc_Mo_round_297 (Eq.refl 298) rfl rfl hg ?_
    exact h
  · have h := h.2 hc
    refine J_iconst (v := (0 : Int32)) dc_Mo_round_287 (Eq.refl 288) rfl ?_
    refine J_goto dc_Mo_round_288 rfl ?_
    exact h
theorem b_Mo_round_298 {E : En_t} {d : Nat} {σ : S_t} {Q : Option Value → S_t → Prop} {x3 : Int32} {x4 : Int32} {x5 : Int32} {s0 : Int32} {s1 : Int32}
    (h : CV E d m_Mo_put [pv E 0, .int (s1 + s0)] σ (fun σ1 => JE E (d + 1) m_Mo_round 261 [(0, pv E 0), (3, .int x3), (4, .int x4), (5, .int (x5 + (1 : Int32)))] [] σ1 Q)) :
    JE E (d + 1) m_Mo_round 298 [(0, pv E 0), (3, .int x3), (4, .int x4), (5, .int x5)] [.int s0, .int s1, pv E 0] σ Q := by
  refine J_iadd dc_Mo_round_298 (Eq.refl 299) ?_
  refine J_callVV (As := [.int (s1 + s0)]) (st := []) dc_Mo_round_299 (Eq.refl 302) lk_Mo_288 mi_Mo_put rfl (Nat.le_of_ble_eq_true rfl) rfl rfl (Nat.le_of_ble_eq_true rfl) rfl (Nat.le_of_ble_eq_true rfl) (CV.mono h (fun σ1 h => ?_))
  refine J_iinc (v := x5 + (1 : Int32)) (L' := [(5, .int (x5 + (1 : Int32))), (0, pv E 0), (3, .int x3), (4, .int x4)]) dc_Mo_round_302 (Eq.refl 305) 3 rfl rfl (Nat.le_of_ble_eq_true rfl) rfl ?_
  refine J_goto dc_Mo_round_305 rfl ?_
  refine J_sub [1, 2, 3, 0] rfl ?_
  exact h
theorem b_Mo_round_335 {E : En_t} {d : Nat} {σ : S_t} {Q : Option Value → S_t → Prop} {x5 : Int32} {s0 : Int32}
    (h : CV E d m_Mo_put [pv E 0, .int s0] σ (fun σ1 => (0 ≤ x5 → JE E (d + 1) m_Mo_round 357 [(0, pv E 0)] [.int x5, pv E 0] (sI σ1 0 18 (0 : Int32)) Q) ∧ (¬ 0 ≤ x5 → JE E (d + 1) m_Mo_round 357 [(0, pv E 0)] [.int (-x5), pv E 0] (sI σ1 0 18 (0 : Int32)) Q))) :
    JE E (d + 1) m_Mo_round 335 [(0, pv E 0), (5, .int x5)] [.int s0, pv E 0] σ Q := by
  refine J_callVV (As := [.int s0]) (st := []) dc_Mo_round_335 (Eq.refl 338) lk_Mo_288 mi_Mo_put rfl (Nat.le_of_ble_eq_true rfl) rfl rfl (Nat.le_of_ble_eq_true rfl) rfl (Nat.le_of_ble_eq_true rfl) (CV.mono h (fun σ1 h => ?_))
  refine J_aload_n dc_Mo_round_338 (Eq.refl 339) 0 rfl ?_
  refine J_iconst (v := (0 : Int32)) dc_Mo_round_339 (Eq.refl 340) rfl ?_
  refine J_putI dc_Mo_round_340 (Eq.refl 343) pl_Mo_264 (Nat.le_of_ble_eq_true rfl) rfl rfl ?_
  refine J_aload_n dc_Mo_round_343 (Eq.refl 344) 0 rfl ?_
  refine J_iload dc_Mo_round_344 (Eq.refl 346) 1 rfl ?_
  refine J_if_ge dc_Mo_round_346 (Eq.refl 349) rfl (fun hc => ?_) (fun hc => ?_)
  · have h := h.1 hc
    refine J_iload dc_Mo_round_355 (Eq.refl 357) 1 rfl ?_
    refine J_sub [0] rfl ?_
    exact h
  · have h := h.2 hc
    refine J_iload dc_Mo_round_349 (Eq.refl 351) 1 rfl ?_
    refine J_ineg dc_Mo_round_351 (Eq.refl 352) ?_
    refine J_goto dc_Mo_round_352 rfl ?_
    refine J_sub [0] rfl ?_
    exact h
theorem b_Mo_round_357 {E : En_t} {d : Nat} {σ : S_t} {Q : Option Value → S_t → Prop} {s0 : Int32}
    (h : CV E d m_Mo_printNumber [pv E 0, .int s0] σ (fun σ1 => JE E (d + 1) m_Mo_round 363 [(0, pv E 0), (6, .int (0 : Int32))] [] σ1 Q)) :
    JE E (d + 1) m_Mo_round 357 [(0, pv E 0)] [.int s0, pv E 0] σ Q := by
  refine J_callVV (As := [.int s0]) (st := []) dc_Mo_round_357 (Eq.refl 360) lk_Mo_275 mi_Mo_printNumber rfl (Nat.le_of_ble_eq_true rfl) rfl rfl (Nat.le_of_ble_eq_true rfl) rfl (Nat.le_of_ble_eq_true rfl) (CV.mono h (fun σ1 h => ?_))
  refine J_iconst (v := (0 : Int32)) dc_Mo_round_360 (Eq.refl 361) rfl ?_
  refine J_istore (L' := [(6, .int (0 : Int32)), (0, pv E 0)]) dc_Mo_round_361 (Eq.refl 363) (Nat.le_of_ble_eq_true rfl) rfl ?_
  refine J_sub [1, 0] rfl ?_
  exact h
theorem b_Mo_round_363 {E : En_t} {d : Nat} {σ : S_t} {Q : Option Value → S_t → Prop} {x6 : Int32}
    (h : ((gI σ 0 18) ≤ x6 → Q (some (.int (gI σ 0 4))) σ) ∧ (¬ (gI σ 0 18) ≤ x6 → vp_in x6 40 ∧ (CV E d m_Mo_put [pv E 0, .int (gI σ 7 x6.toNatClampNeg)] σ (fun σ1 => JE E (d + 1) m_Mo_round 363 [(0, pv E 0), (6, .int (x6 + (1 : Int32)))] [] σ1 Q)))) :
    JE E (d + 1) m_Mo_round 363 [(0, pv E 0), (6, .int x6)] [] σ Q := by
  refine J_iload dc_Mo_round_363 (Eq.refl 365) 1 rfl ?_
  refine J_aload_n dc_Mo_round_365 (Eq.refl 366) 0 rfl ?_
  refine J_getI dc_Mo_round_366 (Eq.refl 369) fl_Mo_264 (Nat.le_of_ble_eq_true rfl) rfl (Or.inl rfl) ?_
  refine J_icmp_ge dc_Mo_round_369 (Eq.refl 372) rfl (fun hc => ?_) (fun hc => ?_)
  · have h := h.1 hc
    refine J_aload_n dc_Mo_round_389 (Eq.refl 390) 0 rfl ?_
    refine J_getI dc_Mo_round_390 (Eq.refl 393) fl_Mo_169 (Nat.le_of_ble_eq_true rfl) rfl (Or.inl rfl) ?_
    exact J_iret dc_Mo_round_393 rfl h
  · have h := h.2 hc
    refine J_aload_n dc_Mo_round_372 (Eq.refl 373) 0 rfl ?_
    refine J_aload_n dc_Mo_round_373 (Eq.refl 374) 0 rfl ?_
    refine J_getF (y := 7) dc_Mo_round_374 (Eq.refl 377) fl_Mo_28 (Nat.le_of_ble_eq_true rfl) rfl (Or.inl rfl) rfl ?_
    refine J_iload dc_Mo_round_377 (Eq.refl 379) 1 rfl ?_
    obtain ⟨hg, h⟩ := h
    refine J_iald dc_Mo_round_379 (Eq.refl 380) rfl rfl hg ?_
    refine J_callVV (As := [.int (gI σ 7 x6.toNatClampNeg)]) (st := []) dc_Mo_round_380 (Eq.refl 383) lk_Mo_288 mi_Mo_put rfl (Nat.le_of_ble_eq_true rfl) rfl rfl (Nat.le_of_ble_eq_true rfl) rfl (Nat.le_of_ble_eq_true rfl) (CV.mono h (fun σ1 h => ?_))
    refine J_iinc (v := x6 + (1 : Int32)) (L' := [(6, .int (x6 + (1 : Int32))), (0, pv E 0)]) dc_Mo_round_383 (Eq.refl 386) 1 rfl rfl (Nat.le_of_ble_eq_true rfl) rfl ?_
    refine J_goto dc_Mo_round_386 rfl ?_
    refine J_sub [1, 0] rfl ?_
    exact h
theorem dc_Mo_document_0 : decode m_Mo_document.2.1 0 = .ok (.iload_n 1, 1) := by decide +kernel
theorem dc_Mo_document_1 : decode m_Mo_document.2.1 1 = .ok (.invokestatic 291, 3) := by decide +kernel
theorem dc_Mo_document_4 : decode m_Mo_document.2.1 4 = .ok (.ifCond .ne 5, 3) := by decide +kernel
theorem dc_Mo_document_7 : decode m_Mo_document.2.1 7 = .ok (.iconst (-1), 1) := by decide +kernel
theorem dc_Mo_document_8 : decode m_Mo_document.2.1 8 = .ok (.ireturn, 1) := by decide +kernel
theorem dc_Mo_document_9 : decode m_Mo_document.2.1 9 = .ok (.aload_n 0, 1) := by decide +kernel
theorem dc_Mo_document_10 : decode m_Mo_document.2.1 10 = .ok (.getfield 162, 3) := by decide +kernel
theorem dc_Mo_document_13 : decode m_Mo_document.2.1 13 = .ok (.istore_n 2, 1) := by decide +kernel
theorem dc_Mo_document_14 : decode m_Mo_document.2.1 14 = .ok (.aload_n 0, 1) := by decide +kernel
theorem dc_Mo_document_15 : decode m_Mo_document.2.1 15 = .ok (.iconst 0, 1) := by decide +kernel
theorem dc_Mo_document_16 : decode m_Mo_document.2.1 16 = .ok (.putfield 162, 3) := by decide +kernel
theorem dc_Mo_document_19 : decode m_Mo_document.2.1 19 = .ok (.aload_n 0, 1) := by decide +kernel
theorem dc_Mo_document_20 : decode m_Mo_document.2.1 20 = .ok (.iload_n 2, 1) := by decide +kernel
theorem dc_Mo_document_21 : decode m_Mo_document.2.1 21 = .ok (.invokevirtual 386, 3) := by decide +kernel
theorem dc_Mo_document_24 : decode m_Mo_document.2.1 24 = .ok (.ifCond .ne 8, 3) := by decide +kernel
theorem dc_Mo_document_27 : decode m_Mo_document.2.1 27 = .ok (.aload_n 0, 1) := by decide +kernel
theorem dc_Mo_document_28 : decode m_Mo_document.2.1 28 = .ok (.getfield 318, 3) := by decide +kernel
theorem dc_Mo_document_31 : decode m_Mo_document.2.1 31 = .ok (.ireturn, 1) := by decide +kernel
theorem dc_Mo_document_32 : decode m_Mo_document.2.1 32 = .ok (.aload_n 0, 1) := by decide +kernel
theorem dc_Mo_document_33 : decode m_Mo_document.2.1 33 = .ok (.invokevirtual 389, 3) := by decide +kernel
theorem dc_Mo_document_36 : decode m_Mo_document.2.1 36 = .ok (.aload_n 0, 1) := by decide +kernel
theorem dc_Mo_document_37 : decode m_Mo_document.2.1 37 = .ok (.iload_n 1, 1) := by decide +kernel
theorem dc_Mo_document_38 : decode m_Mo_document.2.1 38 = .ok (.invokevirtual 392, 3) := by decide +kernel
theorem dc_Mo_document_41 : decode m_Mo_document.2.1 41 = .ok (.iconst 0, 1) := by decide +kernel
theorem dc_Mo_document_42 : decode m_Mo_document.2.1 42 = .ok (.ireturn, 1) := by decide +kernel
theorem b_Mo_document_0 {E : En_t} {d : Nat} {σ : S_t} {Q : Option Value → S_t → Prop} {x1 : Int32}
    (h : CI E d m_Mo_isShelf [.int x1] σ (fun r2 σ1 => (¬ r2 = 0 → CI E d m_Mo_readAll [pv E 0, .int (gI σ1 0 1)] (sI σ1 0 1 (0 : Int32)) (fun r4 σ3 => (¬ r4 = 0 → CV E d m_Mo_makeRead [pv E 0] σ3 (fun σ5 => CV E d m_Mo_shelve [pv E 0, .int x1] σ5 (fun σ6 => Q (some (.int (0 : Int32))) σ6))) ∧ (r4 = 0 → Q (some (.int (gI σ3 0 41))) σ3))) ∧ (r2 = 0 → Q (some (.int (-1 : Int32))) σ1))) :
    JE E (d + 1) m_Mo_document 0 [(0, pv E 0), (1, .int x1)] [] σ Q := by
  refine J_iload_n dc_Mo_document_0 (Eq.refl 1) 1 rfl ?_
  refine J_callSI (As := [.int x1]) (st := []) dc_Mo_document_1 (Eq.refl 4) lk_Mo_291 mi_Mo_isShelf (Nat.le_of_ble_eq_true rfl) rfl (Nat.le_of_ble_eq_true rfl) (CI.mono h (fun r2 σ1 h => ?_))
  refine J_if_ne dc_Mo_document_4 (Eq.refl 7) rfl (fun hc => ?_) (fun hc => ?_)
  · have h := h.1 hc
    refine J_aload_n dc_Mo_document_9 (Eq.refl 10) 0 rfl ?_
    refine J_getI dc_Mo_document_10 (Eq.refl 13) fl_Mo_162 (Nat.le_of_ble_eq_true rfl) rfl (Or.inl rfl) ?_
    refine J_istore_n (L' := [(2, .int (gI σ1 0 1)), (0, pv E 0), (1, .int x1)]) dc_Mo_document_13 (Eq.refl 14) (Nat.le_of_ble_eq_true rfl) rfl ?_
    refine J_aload_n dc_Mo_document_14 (Eq.refl 15) 1 rfl ?_
    refine J_iconst (v := (0 : Int32)) dc_Mo_document_15 (Eq.refl 16) rfl ?_
    refine J_putI dc_Mo_document_16 (Eq.refl 19) pl_Mo_162 (Nat.le_of_ble_eq_true rfl) rfl rfl ?_
    refine J_aload_n dc_Mo_document_19 (Eq.refl 20) 1 rfl ?_
    refine J_iload_n dc_Mo_document_20 (Eq.refl 21) 0 rfl ?_
    refine J_callVI (As := [.int (gI σ1 0 1)]) (st := []) dc_Mo_document_21 (Eq.refl 24) lk_Mo_386 mi_Mo_readAll rfl (Nat.le_of_ble_eq_true rfl) rfl rfl (Nat.le_of_ble_eq_true rfl) rfl (Nat.le_of_ble_eq_true rfl) (CI.mono h (fun r4 σ3 h => ?_))
    refine J_if_ne dc_Mo_document_24 (Eq.refl 27) rfl (fun hc => ?_) (fun hc => ?_)
    · have h := h.1 hc
      refine J_aload_n dc_Mo_document_32 (Eq.refl 33) 1 rfl ?_
      refine J_callVV (As := []) (st := []) dc_Mo_document_33 (Eq.refl 36) lk_Mo_389 mi_Mo_makeRead rfl (Nat.le_of_ble_eq_true rfl) rfl rfl (Nat.le_of_ble_eq_true rfl) rfl (Nat.le_of_ble_eq_true rfl) (CV.mono h (fun σ5 h => ?_))
      refine J_aload_n dc_Mo_document_36 (Eq.refl 37) 1 rfl ?_
      refine J_iload_n dc_Mo_document_37 (Eq.refl 38) 2 rfl ?_
      refine J_callVV (As := [.int x1]) (st := []) dc_Mo_document_38 (Eq.refl 41) lk_Mo_392 mi_Mo_shelve rfl (Nat.le_of_ble_eq_true rfl) rfl rfl (Nat.le_of_ble_eq_true rfl) rfl (Nat.le_of_ble_eq_true rfl) (CV.mono h (fun σ6 h => ?_))
      refine J_iconst (v := (0 : Int32)) dc_Mo_document_41 (Eq.refl 42) rfl ?_
      exact J_iret dc_Mo_document_42 rfl h
    · have h := h.2 hc
      refine J_aload_n dc_Mo_document_27 (Eq.refl 28) 1 rfl ?_
      refine J_getI dc_Mo_document_28 (Eq.refl 31) fl_Mo_318 (Nat.le_of_ble_eq_true rfl) rfl (Or.inl rfl) ?_
      exact J_iret dc_Mo_document_31 rfl h
  · have h := h.2 hc
    refine J_iconst (v := (-1 : Int32)) dc_Mo_document_7 (Eq.refl 8) rfl ?_
    exact J_iret dc_Mo_document_8 rfl h
theorem dc_Mo_isShelf_0 : decode m_Mo_isShelf.2.1 0 = .ok (.iload_n 0, 1) := by decide +kernel
theorem dc_Mo_isShelf_1 : decode m_Mo_isShelf.2.1 1 = .ok (.ifCond .lt 13, 3) := by decide +kernel
theorem dc_Mo_isShelf_4 : decode m_Mo_isShelf.2.1 4 = .ok (.iload_n 0, 1) := by decide +kernel
theorem dc_Mo_isShelf_5 : decode m_Mo_isShelf.2.1 5 = .ok (.bipush 8, 2) := by decide +kernel
theorem dc_Mo_isShelf_7 : decode m_Mo_isShelf.2.1 7 = .ok (.if_icmp .ge 7, 3) := by decide +kernel
theorem dc_Mo_isShelf_10 : decode m_Mo_isShelf.2.1 10 = .ok (.iconst 1, 1) := by decide +kernel
theorem dc_Mo_isShelf_11 : decode m_Mo_isShelf.2.1 11 = .ok (.goto 4, 3) := by decide +kernel
theorem dc_Mo_isShelf_14 : decode m_Mo_isShelf.2.1 14 = .ok (.iconst 0, 1) := by decide +kernel
theorem dc_Mo_isShelf_15 : decode m_Mo_isShelf.2.1 15 = .ok (.ireturn, 1) := by decide +kernel
theorem b_Mo_isShelf_0 {E : En_t} {d : Nat} {σ : S_t} {Q : Option Value → S_t → Prop} {x0 : Int32}
    (h : (x0 < 0 → Q (some (.int (0 : Int32))) σ) ∧ (¬ x0 < 0 → ((8 : Int32) ≤ x0 → Q (some (.int (0 : Int32))) σ) ∧ (¬ (8 : Int32) ≤ x0 → Q (some (.int (1 : Int32))) σ))) :
    JE E d m_Mo_isShelf 0 [(0, .int x0)] [] σ Q := by
  refine J_iload_n dc_Mo_isShelf_0 (Eq.refl 1) 0 rfl ?_
  refine J_if_lt dc_Mo_isShelf_1 (Eq.refl 4) rfl (fun hc => ?_) (fun hc => ?_)
  · have h := h.1 hc
    refine J_iconst (v := (0 : Int32)) dc_Mo_isShelf_14 (Eq.refl 15) rfl ?_
    exact J_zret dc_Mo_isShelf_15 rfl rfl h
  · have h := h.2 hc
    refine J_iload_n dc_Mo_isShelf_4 (Eq.refl 5) 0 rfl ?_
    refine J_bipush (v := (8 : Int32)) dc_Mo_isShelf_5 (Eq.refl 7) rfl ?_
    refine J_icmp_ge dc_Mo_isShelf_7 (Eq.refl 10) rfl (fun hc => ?_) (fun hc => ?_)
    · have h := h.1 hc
      refine J_iconst (v := (0 : Int32)) dc_Mo_isShelf_14 (Eq.refl 15) rfl ?_
      exact J_zret dc_Mo_isShelf_15 rfl rfl h
    · have h := h.2 hc
      refine J_iconst (v := (1 : Int32)) dc_Mo_isShelf_10 (Eq.refl 11) rfl ?_
      refine J_goto dc_Mo_isShelf_11 rfl ?_
      exact J_zret dc_Mo_isShelf_15 rfl rfl h
theorem dc_Mo_readAll_0 : decode m_Mo_readAll.2.1 0 = .ok (.aload_n 0, 1) := by decide +kernel
theorem dc_Mo_readAll_1 : decode m_Mo_readAll.2.1 1 = .ok (.iconst 0, 1) := by decide +kernel
theorem dc_Mo_readAll_2 : decode m_Mo_readAll.2.1 2 = .ok (.putfield 347, 3) := by decide +kernel
theorem dc_Mo_readAll_5 : decode m_Mo_readAll.2.1 5 = .ok (.aload_n 0, 1) := by decide +kernel
theorem dc_Mo_readAll_6 : decode m_Mo_readAll.2.1 6 = .ok (.iconst 0, 1) := by decide +kernel
theorem dc_Mo_readAll_7 : decode m_Mo_readAll.2.1 7 = .ok (.putfield 321, 3) := by decide +kernel
theorem dc_Mo_readAll_10 : decode m_Mo_readAll.2.1 10 = .ok (.aload_n 0, 1) := by decide +kernel
theorem dc_Mo_readAll_11 : decode m_Mo_readAll.2.1 11 = .ok (.iconst 0, 1) := by decide +kernel
theorem dc_Mo_readAll_12 : decode m_Mo_readAll.2.1 12 = .ok (.putfield 318, 3) := by decide +kernel
theorem dc_Mo_readAll_15 : decode m_Mo_readAll.2.1 15 = .ok (.aload_n 0, 1) := by decide +kernel
theorem dc_Mo_readAll_16 : decode m_Mo_readAll.2.1 16 = .ok (.iconst (-1), 1) := by decide +kernel
theorem dc_Mo_readAll_17 : decode m_Mo_readAll.2.1 17 = .ok (.putfield 98, 3) := by decide +kernel
theorem dc_Mo_readAll_20 : decode m_Mo_readAll.2.1 20 = .ok (.aload_n 0, 1) := by decide +kernel
theorem dc_Mo_readAll_21 : decode m_Mo_readAll.2.1 21 = .ok (.iconst 0, 1) := by decide +kernel
theorem dc_Mo_readAll_22 : decode m_Mo_readAll.2.1 22 = .ok (.putfield 210, 3) := by decide +kernel
theorem dc_Mo_readAll_25 : decode m_Mo_readAll.2.1 25 = .ok (.iconst (-1), 1) := by decide +kernel
theorem dc_Mo_readAll_26 : decode m_Mo_readAll.2.1 26 = .ok (.istore_n 2, 1) := by decide +kernel
theorem dc_Mo_readAll_27 : decode m_Mo_readAll.2.1 27 = .ok (.iconst 0, 1) := by decide +kernel
theorem dc_Mo_readAll_28 : decode m_Mo_readAll.2.1 28 = .ok (.istore_n 3, 1) := by decide +kernel
theorem dc_Mo_readAll_29 : decode m_Mo_readAll.2.1 29 = .ok (.iconst 0, 1) := by decide +kernel
theorem dc_Mo_readAll_30 : decode m_Mo_readAll.2.1 30 = .ok (.istore 4, 2) := by decide +kernel
theorem dc_Mo_readAll_32 : decode m_Mo_readAll.2.1 32 = .ok (.iconst 0, 1) := by decide +kernel
theorem dc_Mo_readAll_33 : decode m_Mo_readAll.2.1 33 = .ok (.istore 5, 2) := by decide +kernel
theorem dc_Mo_readAll_35 : decode m_Mo_readAll.2.1 35 = .ok (.iconst (-1), 1) := by decide +kernel
theorem dc_Mo_readAll_36 : decode m_Mo_readAll.2.1 36 = .ok (.istore 6, 2) := by decide +kernel
theorem dc_Mo_readAll_38 : decode m_Mo_readAll.2.1 38 = .ok (.iconst 1, 1) := by decide +kernel
theorem dc_Mo_readAll_39 : decode m_Mo_readAll.2.1 39 = .ok (.istore 7, 2) := by decide +kernel
theorem dc_Mo_readAll_41 : decode m_Mo_readAll.2.1 41 = .ok (.iload 7, 2) := by decide +kernel
theorem dc_Mo_readAll_43 : decode m_Mo_readAll.2.1 43 = .ok (.ifCond .eq 449, 3) := by decide +kernel
theorem dc_Mo_readAll_46 : decode m_Mo_readAll.2.1 46 = .ok (.aload_n 0, 1) := by decide +kernel
theorem dc_Mo_readAll_47 : decode m_Mo_readAll.2.1 47 = .ok (.iload_n 1, 1) := by decide +kernel
theorem dc_Mo_readAll_48 : decode m_Mo_readAll.2.1 48 = .ok (.invokevirtual 360, 3) := by decide +kernel
theorem dc_Mo_readAll_51 : decode m_Mo_readAll.2.1 51 = .ok (.aload_n 0, 1) := by decide +kernel
theorem dc_Mo_readAll_52 : decode m_Mo_readAll.2.1 52 = .ok (.iload_n 1, 1) := by decide +kernel
theorem dc_Mo_readAll_53 : decode m_Mo_readAll.2.1 53 = .ok (.invokevirtual 213, 3) := by decide +kernel
theorem dc_Mo_readAll_56 : decode m_Mo_readAll.2.1 56 = .ok (.istore 8, 2) := by decide +kernel
theorem dc_Mo_readAll_58 : decode m_Mo_readAll.2.1 58 = .ok (.iload 4, 2) := by decide +kernel
theorem dc_Mo_readAll_60 : decode m_Mo_readAll.2.1 60 = .ok (.iconst 3, 1) := by decide +kernel
theorem dc_Mo_readAll_61 : decode m_Mo_readAll.2.1 61 = .ok (.if_icmp .ne 31, 3) := by decide +kernel
theorem dc_Mo_readAll_64 : decode m_Mo_readAll.2.1 64 = .ok (.iload 8, 2) := by decide +kernel
theorem dc_Mo_readAll_66 : decode m_Mo_readAll.2.1 66 = .ok (.aload_n 0, 1) := by decide +kernel
theorem dc_Mo_readAll_67 : decode m_Mo_readAll.2.1 67 = .ok (.getfield 102, 3) := by decide +kernel
theorem dc_Mo_readAll_70 : decode m_Mo_readAll.2.1 70 = .ok (.iload_n 2, 1) := by decide +kernel
theorem dc_Mo_readAll_71 : decode m_Mo_readAll.2.1 71 = .ok (.iaload, 1) := by decide +kernel
theorem dc_Mo_readAll_72 : decode m_Mo_readAll.2.1 72 = .ok (.iconst 5, 1) := by decide +kernel
theorem dc_Mo_readAll_73 : decode m_Mo_readAll.2.1 73 = .ok (.if_icmp .ne 8, 3) := by decide +kernel
theorem dc_Mo_readAll_76 : decode m_Mo_readAll.2.1 76 = .ok (.bipush 93, 2) := by decide +kernel
theorem dc_Mo_readAll_78 : decode m_Mo_readAll.2.1 78 = .ok (.goto 5, 3) := by decide +kernel
theorem dc_Mo_readAll_81 : decode m_Mo_readAll.2.1 81 = .ok (.bipush 125, 2) := by decide +kernel
theorem dc_Mo_readAll_83 : decode m_Mo_readAll.2.1 83 = .ok (.if_icmp .ne 9, 3) := by decide +kernel
theorem dc_Mo_readAll_86 : decode m_Mo_readAll.2.1 86 = .ok (.iconst 2, 1) := by decide +kernel
theorem dc_Mo_readAll_87 : decode m_Mo_readAll.2.1 87 = .ok (.istore 4, 2) := by decide +kernel
theorem dc_Mo_readAll_89 : decode m_Mo_readAll.2.1 89 = .ok (.goto 26, 3) := by decide +kernel
theorem dc_Mo_readAll_92 : decode m_Mo_readAll.2.1 92 = .ok (.iload 4, 2) := by decide +kernel
theorem dc_Mo_readAll_94 : decode m_Mo_readAll.2.1 94 = .ok (.iconst 3, 1) := by decide +kernel
theorem dc_Mo_readAll_95 : decode m_Mo_readAll.2.1 95 = .ok (.if_icmp .ne 20, 3) := by decide +kernel
theorem dc_Mo_readAll_98 : decode m_Mo_readAll.2.1 98 = .ok (.aload_n 0, 1) := by decide +kernel
theorem dc_Mo_readAll_99 : decode m_Mo_readAll.2.1 99 = .ok (.getfield 102, 3) := by decide +kernel
theorem dc_Mo_readAll_102 : decode m_Mo_readAll.2.1 102 = .ok (.iload_n 2, 1) := by decide +kernel
theorem dc_Mo_readAll_103 : decode m_Mo_readAll.2.1 103 = .ok (.iaload, 1) := by decide +kernel
theorem dc_Mo_readAll_104 : decode m_Mo_readAll.2.1 104 = .ok (.iconst 5, 1) := by decide +kernel
theorem dc_Mo_readAll_105 : decode m_Mo_readAll.2.1 105 = .ok (.if_icmp .ne 7, 3) := by decide +kernel
theorem dc_Mo_readAll_108 : decode m_Mo_readAll.2.1 108 = .ok (.iconst 0, 1) := by decide +kernel
theorem dc_Mo_readAll_109 : decode m_Mo_readAll.2.1 109 = .ok (.goto 4, 3) := by decide +kernel
theorem dc_Mo_readAll_112 : decode m_Mo_readAll.2.1 112 = .ok (.iconst 1, 1) := by decide +kernel
theorem dc_Mo_readAll_113 : decode m_Mo_readAll.2.1 113 = .ok (.istore 4, 2) := by decide +kernel
theorem dc_Mo_readAll_115 : decode m_Mo_readAll.2.1 115 = .ok (.iload 4, 2) := by decide +kernel
theorem dc_Mo_readAll_117 : decode m_Mo_readAll.2.1 117 = .ok (.iconst 1, 1) := by decide +kernel
theorem dc_Mo_readAll_118 : decode m_Mo_readAll.2.1 118 = .ok (.if_icmp .ne 112, 3) := by decide +kernel
theorem dc_Mo_readAll_121 : decode m_Mo_readAll.2.1 121 = .ok (.aload_n 0, 1) := by decide +kernel
theorem dc_Mo_readAll_122 : decode m_Mo_readAll.2.1 122 = .ok (.getfield 210, 3) := by decide +kernel
theorem dc_Mo_readAll_125 : decode m_Mo_readAll.2.1 125 = .ok (.istore 9, 2) := by decide +kernel
theorem dc_Mo_readAll_127 : decode m_Mo_readAll.2.1 127 = .ok (.iload 8, 2) := by decide +kernel
theorem dc_Mo_readAll_129 : decode m_Mo_readAll.2.1 129 = .ok (.bipush 34, 2) := by decide +kernel
theorem dc_Mo_readAll_131 : decode m_Mo_readAll.2.1 131 = .ok (.if_icmp .eq 13, 3) := by decide +kernel
theorem dc_Mo_readAll_134 : decode m_Mo_readAll.2.1 134 = .ok (.aload_n 0, 1) := by decide +kernel
theorem dc_Mo_readAll_135 : decode m_Mo_readAll.2.1 135 = .ok (.iconst 1, 1) := by decide +kernel
theorem dc_Mo_readAll_136 : decode m_Mo_readAll.2.1 136 = .ok (.aload_n 0, 1) := by decide +kernel
theorem dc_Mo_readAll_137 : decode m_Mo_readAll.2.1 137 = .ok (.getfield 210, 3) := by decide +kernel
theorem dc_Mo_readAll_140 : decode m_Mo_readAll.2.1 140 = .ok (.invokevirtual 343, 3) := by decide +kernel
theorem dc_Mo_readAll_143 : decode m_Mo_readAll.2.1 143 = .ok (.ireturn, 1) := by decide +kernel
theorem dc_Mo_readAll_144 : decode m_Mo_readAll.2.1 144 = .ok (.aload_n 0, 1) := by decide +kernel
theorem dc_Mo_readAll_145 : decode m_Mo_readAll.2.1 145 = .ok (.getfield 321, 3) := by decide +kernel
theorem dc_Mo_readAll_148 : decode m_Mo_readAll.2.1 148 = .ok (.istore 5, 2) := by decide +kernel
theorem dc_Mo_readAll_150 : decode m_Mo_readAll.2.1 150 = .ok (.aload_n 0, 1) := by decide +kernel
theorem dc_Mo_readAll_151 : decode m_Mo_readAll.2.1 151 = .ok (.iload_n 1, 1) := by decide +kernel
theorem dc_Mo_readAll_152 : decode m_Mo_readAll.2.1 152 = .ok (.invokevirtual 349, 3) := by decide +kernel
theorem dc_Mo_readAll_155 : decode m_Mo_readAll.2.1 155 = .ok (.ifCond .ne 5, 3) := by decide +kernel
theorem dc_Mo_readAll_158 : decode m_Mo_readAll.2.1 158 = .ok (.iconst 0, 1) := by decide +kernel
theorem dc_Mo_readAll_159 : decode m_Mo_readAll.2.1 159 = .ok (.ireturn, 1) := by decide +kernel
theorem dc_Mo_readAll_160 : decode m_Mo_readAll.2.1 160 = .ok (.aload_n 0, 1) := by decide +kernel
theorem dc_Mo_readAll_161 : decode m_Mo_readAll.2.1 161 = .ok (.getfield 321, 3) := by decide +kernel
theorem dc_Mo_readAll_164 : decode m_Mo_readAll.2.1 164 = .ok (.iload 5, 2) := by decide +kernel
theorem dc_Mo_readAll_166 : decode m_Mo_readAll.2.1 166 = .ok (.isub, 1) := by decide +kernel
theorem dc_Mo_readAll_167 : decode m_Mo_readAll.2.1 167 = .ok (.istore 6, 2) := by decide +kernel
theorem dc_Mo_readAll_169 : decode m_Mo_readAll.2.1 169 = .ok (.aload_n 0, 1) := by decide +kernel
theorem dc_Mo_readAll_170 : decode m_Mo_readAll.2.1 170 = .ok (.iload_n 2, 1) := by decide +kernel
theorem dc_Mo_readAll_171 : decode m_Mo_readAll.2.1 171 = .ok (.iload 5, 2) := by decide +kernel
theorem dc_Mo_readAll_173 : decode m_Mo_readAll.2.1 173 = .ok (.iload 6, 2) := by decide +kernel
theorem dc_Mo_readAll_175 : decode m_Mo_readAll.2.1 175 = .ok (.invokevirtual 363, 3) := by decide +kernel
theorem dc_Mo_readAll_178 : decode m_Mo_readAll.2.1 178 = .ok (.ifCond .eq 11, 3) := by decide +kernel
theorem dc_Mo_readAll_181 : decode m_Mo_readAll.2.1 181 = .ok (.aload_n 0, 1) := by decide +kernel
theorem dc_Mo_readAll_182 : decode m_Mo_readAll.2.1 182 = .ok (.iconst 3, 1) := by decide +kernel
theorem dc_Mo_readAll_183 : decode m_Mo_readAll.2.1 183 = .ok (.iload 9, 2) := by decide +kernel
theorem dc_Mo_readAll_185 : decode m_Mo_readAll.2.1 185 = .ok (.invokevirtual 343, 3) := by decide +kernel
theorem dc_Mo_readAll_188 : decode m_Mo_readAll.2.1 188 = .ok (.ireturn, 1) := by decide +kernel
theorem dc_Mo_readAll_189 : decode m_Mo_readAll.2.1 189 = .ok (.aload_n 0, 1) := by decide +kernel
theorem dc_Mo_readAll_190 : decode m_Mo_readAll.2.1 190 = .ok (.iload_n 1, 1) := by decide +kernel
theorem dc_Mo_readAll_191 : decode m_Mo_readAll.2.1 191 = .ok (.invokevirtual 360, 3) := by decide +kernel
theorem dc_Mo_readAll_194 : decode m_Mo_readAll.2.1 194 = .ok (.aload_n 0, 1) := by decide +kernel
theorem dc_Mo_readAll_195 : decode m_Mo_readAll.2.1 195 = .ok (.iload_n 1, 1) := by decide +kernel
theorem dc_Mo_readAll_196 : decode m_Mo_readAll.2.1 196 = .ok (.invokevirtual 213, 3) := by decide +kernel
theorem dc_Mo_readAll_199 : decode m_Mo_readAll.2.1 199 = .ok (.bipush 58, 2) := by decide +kernel
theorem dc_Mo_readAll_201 : decode m_Mo_readAll.2.1 201 = .ok (.if_icmp .eq 13, 3) := by decide +kernel
theorem dc_Mo_readAll_204 : decode m_Mo_readAll.2.1 204 = .ok (.aload_n 0, 1) := by decide +kernel
theorem dc_Mo_readAll_205 : decode m_Mo_readAll.2.1 205 = .ok (.iconst 1, 1) := by decide +kernel
theorem dc_Mo_readAll_206 : decode m_Mo_readAll.2.1 206 = .ok (.aload_n 0, 1) := by decide +kernel
theorem dc_Mo_readAll_207 : decode m_Mo_readAll.2.1 207 = .ok (.getfield 210, 3) := by decide +kernel
theorem dc_Mo_readAll_210 : decode m_Mo_readAll.2.1 210 = .ok (.invokevirtual 343, 3) := by decide +kernel
theorem dc_Mo_readAll_213 : decode m_Mo_readAll.2.1 213 = .ok (.ireturn, 1) := by decide +kernel
theorem dc_Mo_readAll_214 : decode m_Mo_readAll.2.1 214 = .ok (.aload_n 0, 1) := by decide +kernel
theorem dc_Mo_readAll_215 : decode m_Mo_readAll.2.1 215 = .ok (.dup, 1) := by decide +kernel
theorem dc_Mo_readAll_216 : decode m_Mo_readAll.2.1 216 = .ok (.getfield 210, 3) := by decide +kernel
theorem dc_Mo_readAll_219 : decode m_Mo_readAll.2.1 219 = .ok (.iconst 1, 1) := by decide +kernel
theorem dc_Mo_readAll_220 : decode m_Mo_readAll.2.1 220 = .ok (.iadd, 1) := by decide +kernel
theorem dc_Mo_readAll_221 : decode m_Mo_readAll.2.1 221 = .ok (.putfield 210, 3) := by decide +kernel
theorem dc_Mo_readAll_224 : decode m_Mo_readAll.2.1 224 = .ok (.iconst 0, 1) := by decide +kernel
theorem dc_Mo_readAll_225 : decode m_Mo_readAll.2.1 225 = .ok (.istore 4, 2) := by decide +kernel
theorem dc_Mo_readAll_227 : decode m_Mo_readAll.2.1 227 = .ok (.goto 262, 3) := by decide +kernel
theorem dc_Mo_readAll_230 : decode m_Mo_readAll.2.1 230 = .ok (.iload 4, 2) := by decide +kernel
theorem dc_Mo_readAll_232 : decode m_Mo_readAll.2.1 232 = .ok (.ifCond .ne 154, 3) := by decide +kernel
theorem dc_Mo_readAll_235 : decode m_Mo_readAll.2.1 235 = .ok (.iload 8, 2) := by decide +kernel
theorem dc_Mo_readAll_237 : decode m_Mo_readAll.2.1 237 = .ok (.invokestatic 366, 3) := by decide +kernel
theorem dc_Mo_readAll_240 : decode m_Mo_readAll.2.1 240 = .ok (.istore 9, 2) := by decide +kernel
theorem dc_Mo_readAll_242 : decode m_Mo_readAll.2.1 242 = .ok (.iload 9, 2) := by decide +kernel
theorem dc_Mo_readAll_244 : decode m_Mo_readAll.2.1 244 = .ok (.ifCond .ge 13, 3) := by decide +kernel
theorem dc_Mo_readAll_247 : decode m_Mo_readAll.2.1 247 = .ok (.aload_n 0, 1) := by decide +kernel
theorem dc_Mo_readAll_248 : decode m_Mo_readAll.2.1 248 = .ok (.iconst 1, 1) := by decide +kernel
theorem dc_Mo_readAll_249 : decode m_Mo_readAll.2.1 249 = .ok (.aload_n 0, 1) := by decide +kernel
theorem dc_Mo_readAll_250 : decode m_Mo_readAll.2.1 250 = .ok (.getfield 210, 3) := by decide +kernel
theorem dc_Mo_readAll_253 : decode m_Mo_readAll.2.1 253 = .ok (.invokevirtual 343, 3) := by decide +kernel
theorem dc_Mo_readAll_256 : decode m_Mo_readAll.2.1 256 = .ok (.ireturn, 1) := by decide +kernel
theorem dc_Mo_readAll_257 : decode m_Mo_readAll.2.1 257 = .ok (.iload 9, 2) := by decide +kernel
theorem dc_Mo_readAll_259 : decode m_Mo_readAll.2.1 259 = .ok (.iconst 5, 1) := by decide +kernel
theorem dc_Mo_readAll_260 : decode m_Mo_readAll.2.1 260 = .ok (.if_icmp .lt 19, 3) := by decide +kernel
theorem dc_Mo_readAll_263 : decode m_Mo_readAll.2.1 263 = .ok (.iload_n 3, 1) := by decide +kernel
theorem dc_Mo_readAll_264 : decode m_Mo_readAll.2.1 264 = .ok (.bipush 30, 2) := by decide +kernel
theorem dc_Mo_readAll_266 : decode m_Mo_readAll.2.1 266 = .ok (.if_icmp .ne 13, 3) := by decide +kernel
theorem dc_Mo_readAll_269 : decode m_Mo_readAll.2.1 269 = .ok (.aload_n 0, 1) := by decide +kernel
theorem dc_Mo_readAll_270 : decode m_Mo_readAll.2.1 270 = .ok (.iconst 4, 1) := by decide +kernel
theorem dc_Mo_readAll_271 : decode m_Mo_readAll.2.1 271 = .ok (.aload_n 0, 1) := by decide +kernel
theorem dc_Mo_readAll_272 : decode m_Mo_readAll.2.1 272 = .ok (.getfield 210, 3) := by decide +kernel
theorem dc_Mo_readAll_275 : decode m_Mo_readAll.2.1 275 = .ok (.invokevirtual 343, 3) := by decide +kernel
theorem dc_Mo_readAll_278 : decode m_Mo_readAll.2.1 278 = .ok (.ireturn, 1) := by decide +kernel
theorem dc_Mo_readAll_279 : decode m_Mo_readAll.2.1 279 = .ok (.aload_n 0, 1) := by decide +kernel
theorem dc_Mo_readAll_280 : decode m_Mo_readAll.2.1 280 = .ok (.getfield 347, 3) := by decide +kernel
theorem dc_Mo_readAll_283 : decode m_Mo_readAll.2.1 283 = .ok (.sipush 500, 3) := by decide +kernel
theorem dc_Mo_readAll_286 : decode m_Mo_readAll.2.1 286 = .ok (.if_icmp .ne 13, 3) := by decide +kernel
theorem dc_Mo_readAll_289 : decode m_Mo_readAll.2.1 289 = .ok (.aload_n 0, 1) := by decide +kernel
theorem dc_Mo_readAll_290 : decode m_Mo_readAll.2.1 290 = .ok (.iconst 5, 1) := by decide +kernel
theorem dc_Mo_readAll_291 : decode m_Mo_readAll.2.1 291 = .ok (.aload_n 0, 1) := by decide +kernel
theorem dc_Mo_readAll_292 : decode m_Mo_readAll.2.1 292 = .ok (.getfield 210, 3) := by decide +kernel
theorem dc_Mo_readAll_295 : decode m_Mo_readAll.2.1 295 = .ok (.invokevirtual 343, 3) := by decide +kernel
theorem dc_Mo_readAll_298 : decode m_Mo_readAll.2.1 298 = .ok (.ireturn, 1) := by decide +kernel
theorem dc_Mo_readAll_299 : decode m_Mo_readAll.2.1 299 = .ok (.aload_n 0, 1) := by decide +kernel
theorem dc_Mo_readAll_300 : decode m_Mo_readAll.2.1 300 = .ok (.iload 9, 2) := by decide +kernel
theorem dc_Mo_readAll_302 : decode m_Mo_readAll.2.1 302 = .ok (.iload_n 2, 1) := by decide +kernel
theorem dc_Mo_readAll_303 : decode m_Mo_readAll.2.1 303 = .ok (.invokevirtual 369, 3) := by decide +kernel
theorem dc_Mo_readAll_306 : decode m_Mo_readAll.2.1 306 = .ok (.istore 10, 2) := by decide +kernel
theorem dc_Mo_readAll_308 : decode m_Mo_readAll.2.1 308 = .ok (.aload_n 0, 1) := by decide +kernel
theorem dc_Mo_readAll_309 : decode m_Mo_readAll.2.1 309 = .ok (.getfield 117, 3) := by decide +kernel
theorem dc_Mo_readAll_312 : decode m_Mo_readAll.2.1 312 = .ok (.iload 10, 2) := by decide +kernel
theorem dc_Mo_readAll_314 : decode m_Mo_readAll.2.1 314 = .ok (.iload 5, 2) := by decide +kernel
theorem dc_Mo_readAll_316 : decode m_Mo_readAll.2.1 316 = .ok (.iastore, 1) := by decide +kernel
theorem dc_Mo_readAll_317 : decode m_Mo_readAll.2.1 317 = .ok (.aload_n 0, 1) := by decide +kernel
theorem dc_Mo_readAll_318 : decode m_Mo_readAll.2.1 318 = .ok (.getfield 120, 3) := by decide +kernel
theorem dc_Mo_readAll_321 : decode m_Mo_readAll.2.1 321 = .ok (.iload 10, 2) := by decide +kernel
theorem dc_Mo_readAll_323 : decode m_Mo_readAll.2.1 323 = .ok (.iload 6, 2) := by decide +kernel
theorem dc_Mo_readAll_325 : decode m_Mo_readAll.2.1 325 = .ok (.iastore, 1) := by decide +kernel
theorem dc_Mo_readAll_326 : decode m_Mo_readAll.2.1 326 = .ok (.iconst (-1), 1) := by decide +kernel
theorem dc_Mo_readAll_327 : decode m_Mo_readAll.2.1 327 = .ok (.istore 6, 2) := by decide +kernel
theorem dc_Mo_readAll_329 : decode m_Mo_readAll.2.1 329 = .ok (.iload 9, 2) := by decide +kernel
theorem dc_Mo_readAll_331 : decode m_Mo_readAll.2.1 331 = .ok (.iconst 5, 1) := by decide +kernel
theorem dc_Mo_readAll_332 : decode m_Mo_readAll.2.1 332 = .ok (.if_icmp .lt 25, 3) := by decide +kernel
theorem dc_Mo_readAll_335 : decode m_Mo_readAll.2.1 335 = .ok (.aload_n 0, 1) := by decide +kernel
theorem dc_Mo_readAll_336 : decode m_Mo_readAll.2.1 336 = .ok (.dup, 1) := by decide +kernel
theorem dc_Mo_readAll_337 : decode m_Mo_readAll.2.1 337 = .ok (.getfield 210, 3) := by decide +kernel
theorem dc_Mo_readAll_340 : decode m_Mo_readAll.2.1 340 = .ok (.iconst 1, 1) := by decide +kernel
theorem dc_Mo_readAll_341 : decode m_Mo_readAll.2.1 341 = .ok (.iadd, 1) := by decide +kernel
theorem dc_Mo_readAll_342 : decode m_Mo_readAll.2.1 342 = .ok (.putfield 210, 3) := by decide +kernel
theorem dc_Mo_readAll_345 : decode m_Mo_readAll.2.1 345 = .ok (.iinc 3 1, 3) := by decide +kernel
theorem dc_Mo_readAll_348 : decode m_Mo_readAll.2.1 348 = .ok (.iload 10, 2) := by decide +kernel
theorem dc_Mo_readAll_350 : decode m_Mo_readAll.2.1 350 = .ok (.istore_n 2, 1) := by decide +kernel
theorem dc_Mo_readAll_351 : decode m_Mo_readAll.2.1 351 = .ok (.iconst 3, 1) := by decide +kernel
theorem dc_Mo_readAll_352 : decode m_Mo_readAll.2.1 352 = .ok (.istore 4, 2) := by decide +kernel
theorem dc_Mo_readAll_354 : decode m_Mo_readAll.2.1 354 = .ok (.goto 29, 3) := by decide +kernel
theorem dc_Mo_readAll_357 : decode m_Mo_readAll.2.1 357 = .ok (.aload_n 0, 1) := by decide +kernel
theorem dc_Mo_readAll_358 : decode m_Mo_readAll.2.1 358 = .ok (.iload_n 1, 1) := by decide +kernel
theorem dc_Mo_readAll_359 : decode m_Mo_readAll.2.1 359 = .ok (.iload 10, 2) := by decide +kernel
theorem dc_Mo_readAll_361 : decode m_Mo_readAll.2.1 361 = .ok (.invokevirtual 373, 3) := by decide +kernel
theorem dc_Mo_readAll_364 : decode m_Mo_readAll.2.1 364 = .ok (.ifCond .ne 5, 3) := by decide +kernel
theorem dc_Mo_readAll_367 : decode m_Mo_readAll.2.1 367 = .ok (.iconst 0, 1) := by decide +kernel
theorem dc_Mo_readAll_368 : decode m_Mo_readAll.2.1 368 = .ok (.ireturn, 1) := by decide +kernel
theorem dc_Mo_readAll_369 : decode m_Mo_readAll.2.1 369 = .ok (.iconst 2, 1) := by decide +kernel
theorem dc_Mo_readAll_370 : decode m_Mo_readAll.2.1 370 = .ok (.istore 4, 2) := by decide +kernel
theorem dc_Mo_readAll_372 : decode m_Mo_readAll.2.1 372 = .ok (.iload_n 2, 1) := by decide +kernel
theorem dc_Mo_readAll_373 : decode m_Mo_readAll.2.1 373 = .ok (.ifCond .lt 7, 3) := by decide +kernel
theorem dc_Mo_readAll_376 : decode m_Mo_readAll.2.1 376 = .ok (.iconst 1, 1) := by decide +kernel
theorem dc_Mo_readAll_377 : decode m_Mo_readAll.2.1 377 = .ok (.goto 4, 3) := by decide +kernel
theorem dc_Mo_readAll_380 : decode m_Mo_readAll.2.1 380 = .ok (.iconst 0, 1) := by decide +kernel
theorem dc_Mo_readAll_381 : decode m_Mo_readAll.2.1 381 = .ok (.istore 7, 2) := by decide +kernel
theorem dc_Mo_readAll_383 : decode m_Mo_readAll.2.1 383 = .ok (.goto 106, 3) := by decide +kernel
theorem dc_Mo_readAll_386 : decode m_Mo_readAll.2.1 386 = .ok (.iload 8, 2) := by decide +kernel
theorem dc_Mo_readAll_388 : decode m_Mo_readAll.2.1 388 = .ok (.bipush 44, 2) := by decide +kernel
theorem dc_Mo_readAll_390 : decode m_Mo_readAll.2.1 390 = .ok (.if_icmp .ne 33, 3) := by decide +kernel
theorem dc_Mo_readAll_393 : decode m_Mo_readAll.2.1 393 = .ok (.aload_n 0, 1) := by decide +kernel
theorem dc_Mo_readAll_394 : decode m_Mo_readAll.2.1 394 = .ok (.dup, 1) := by decide +kernel
theorem dc_Mo_readAll_395 : decode m_Mo_readAll.2.1 395 = .ok (.getfield 210, 3) := by decide +kernel
theorem dc_Mo_readAll_398 : decode m_Mo_readAll.2.1 398 = .ok (.iconst 1, 1) := by decide +kernel
theorem dc_Mo_readAll_399 : decode m_Mo_readAll.2.1 399 = .ok (.iadd, 1) := by decide +kernel
theorem dc_Mo_readAll_400 : decode m_Mo_readAll.2.1 400 = .ok (.putfield 210, 3) := by decide +kernel
theorem dc_Mo_readAll_403 : decode m_Mo_readAll.2.1 403 = .ok (.aload_n 0, 1) := by decide +kernel
theorem dc_Mo_readAll_404 : decode m_Mo_readAll.2.1 404 = .ok (.getfield 102, 3) := by decide +kernel
theorem dc_Mo_readAll_407 : decode m_Mo_readAll.2.1 407 = .ok (.iload_n 2, 1) := by decide +kernel
theorem dc_Mo_readAll_408 : decode m_Mo_readAll.2.1 408 = .ok (.iaload, 1) := by decide +kernel
theorem dc_Mo_readAll_409 : decode m_Mo_readAll.2.1 409 = .ok (.iconst 5, 1) := by decide +kernel
theorem dc_Mo_readAll_410 : decode m_Mo_readAll.2.1 410 = .ok (.if_icmp .ne 7, 3) := by decide +kernel
theorem dc_Mo_readAll_413 : decode m_Mo_readAll.2.1 413 = .ok (.iconst 0, 1) := by decide +kernel
theorem dc_Mo_readAll_414 : decode m_Mo_readAll.2.1 414 = .ok (.goto 4, 3) := by decide +kernel
theorem dc_Mo_readAll_417 : decode m_Mo_readAll.2.1 417 = .ok (.iconst 1, 1) := by decide +kernel
theorem dc_Mo_readAll_418 : decode m_Mo_readAll.2.1 418 = .ok (.istore 4, 2) := by decide +kernel
theorem dc_Mo_readAll_420 : decode m_Mo_readAll.2.1 420 = .ok (.goto 69, 3) := by decide +kernel
theorem dc_Mo_readAll_423 : decode m_Mo_readAll.2.1 423 = .ok (.iload 8, 2) := by decide +kernel
theorem dc_Mo_readAll_425 : decode m_Mo_readAll.2.1 425 = .ok (.aload_n 0, 1) := by decide +kernel
theorem dc_Mo_readAll_426 : decode m_Mo_readAll.2.1 426 = .ok (.getfield 102, 3) := by decide +kernel
theorem dc_Mo_readAll_429 : decode m_Mo_readAll.2.1 429 = .ok (.iload_n 2, 1) := by decide +kernel
theorem dc_Mo_readAll_430 : decode m_Mo_readAll.2.1 430 = .ok (.iaload, 1) := by decide +kernel
theorem dc_Mo_readAll_431 : decode m_Mo_readAll.2.1 431 = .ok (.iconst 5, 1) := by decide +kernel
theorem dc_Mo_readAll_432 : decode m_Mo_readAll.2.1 432 = .ok (.if_icmp .ne 8, 3) := by decide +kernel
theorem dc_Mo_readAll_435 : decode m_Mo_readAll.2.1 435 = .ok (.bipush 93, 2) := by decide +kernel
theorem dc_Mo_readAll_437 : decode m_Mo_readAll.2.1 437 = .ok (.goto 5, 3) := by decide +kernel
theorem dc_Mo_readAll_440 : decode m_Mo_readAll.2.1 440 = .ok (.bipush 125, 2) := by decide +kernel
theorem dc_Mo_readAll_442 : decode m_Mo_readAll.2.1 442 = .ok (.if_icmp .ne 37, 3) := by decide +kernel
theorem dc_Mo_readAll_445 : decode m_Mo_readAll.2.1 445 = .ok (.aload_n 0, 1) := by decide +kernel
theorem dc_Mo_readAll_446 : decode m_Mo_readAll.2.1 446 = .ok (.dup, 1) := by decide +kernel
theorem dc_Mo_readAll_447 : decode m_Mo_readAll.2.1 447 = .ok (.getfield 210, 3) := by decide +kernel
theorem dc_Mo_readAll_450 : decode m_Mo_readAll.2.1 450 = .ok (.iconst 1, 1) := by decide +kernel
theorem dc_Mo_readAll_451 : decode m_Mo_readAll.2.1 451 = .ok (.iadd, 1) := by decide +kernel
theorem dc_Mo_readAll_452 : decode m_Mo_readAll.2.1 452 = .ok (.putfield 210, 3) := by decide +kernel
theorem dc_Mo_readAll_455 : decode m_Mo_readAll.2.1 455 = .ok (.iinc 3 (-1), 3) := by decide +kernel
theorem dc_Mo_readAll_458 : decode m_Mo_readAll.2.1 458 = .ok (.aload_n 0, 1) := by decide +kernel
theorem dc_Mo_readAll_459 : decode m_Mo_readAll.2.1 459 = .ok (.getfield 105, 3) := by decide +kernel
theorem dc_Mo_readAll_462 : decode m_Mo_readAll.2.1 462 = .ok (.iload_n 2, 1) := by decide +kernel
theorem dc_Mo_readAll_463 : decode m_Mo_readAll.2.1 463 = .ok (.iaload, 1) := by decide +kernel
theorem dc_Mo_readAll_464 : decode m_Mo_readAll.2.1 464 = .ok (.istore_n 2, 1) := by decide +kernel
theorem dc_Mo_readAll_465 : decode m_Mo_readAll.2.1 465 = .ok (.iload_n 2, 1) := by decide +kernel
theorem dc_Mo_readAll_466 : decode m_Mo_readAll.2.1 466 = .ok (.ifCond .lt 7, 3) := by decide +kernel
theorem dc_Mo_readAll_469 : decode m_Mo_readAll.2.1 469 = .ok (.iconst 1, 1) := by decide +kernel
theorem dc_Mo_readAll_470 : decode m_Mo_readAll.2.1 470 = .ok (.goto 4, 3) := by decide +kernel
theorem dc_Mo_readAll_473 : decode m_Mo_readAll.2.1 473 = .ok (.iconst 0, 1) := by decide +kernel
theorem dc_Mo_readAll_474 : decode m_Mo_readAll.2.1 474 = .ok (.istore 7, 2) := by decide +kernel
theorem dc_Mo_readAll_476 : decode m_Mo_readAll.2.1 476 = .ok (.goto 13, 3) := by decide +kernel
theorem dc_Mo_readAll_479 : decode m_Mo_readAll.2.1 479 = .ok (.aload_n 0, 1) := by decide +kernel
theorem dc_Mo_readAll_480 : decode m_Mo_readAll.2.1 480 = .ok (.iconst 1, 1) := by decide +kernel
theorem dc_Mo_readAll_481 : decode m_Mo_readAll.2.1 481 = .ok (.aload_n 0, 1) := by decide +kernel
theorem dc_Mo_readAll_482 : decode m_Mo_readAll.2.1 482 = .ok (.getfield 210, 3) := by decide +kernel
theorem dc_Mo_readAll_485 : decode m_Mo_readAll.2.1 485 = .ok (.invokevirtual 343, 3) := by decide +kernel
theorem dc_Mo_readAll_488 : decode m_Mo_readAll.2.1 488 = .ok (.ireturn, 1) := by decide +kernel
theorem dc_Mo_readAll_489 : decode m_Mo_readAll.2.1 489 = .ok (.goto (-448), 3) := by decide +kernel
theorem dc_Mo_readAll_492 : decode m_Mo_readAll.2.1 492 = .ok (.aload_n 0, 1) := by decide +kernel
theorem dc_Mo_readAll_493 : decode m_Mo_readAll.2.1 493 = .ok (.iload_n 1, 1) := by decide +kernel
theorem dc_Mo_readAll_494 : decode m_Mo_readAll.2.1 494 = .ok (.invokevirtual 360, 3) := by decide +kernel
theorem dc_Mo_readAll_497 : decode m_Mo_readAll.2.1 497 = .ok (.aload_n 0, 1) := by decide +kernel
theorem dc_Mo_readAll_498 : decode m_Mo_readAll.2.1 498 = .ok (.getfield 210, 3) := by decide +kernel
theorem dc_Mo_readAll_501 : decode m_Mo_readAll.2.1 501 = .ok (.iload_n 1, 1) := by decide +kernel
theorem dc_Mo_readAll_502 : decode m_Mo_readAll.2.1 502 = .ok (.if_icmp .eq 15, 3) := by decide +kernel
theorem dc_Mo_readAll_505 : decode m_Mo_readAll.2.1 505 = .ok (.aload_n 0, 1) := by decide +kernel
theorem dc_Mo_readAll_506 : decode m_Mo_readAll.2.1 506 = .ok (.iconst 1, 1) := by decide +kernel
theorem dc_Mo_readAll_507 : decode m_Mo_readAll.2.1 507 = .ok (.aload_n 0, 1) := by decide +kernel
theorem dc_Mo_readAll_508 : decode m_Mo_readAll.2.1 508 = .ok (.getfield 210, 3) := by decide +kernel
theorem dc_Mo_readAll_511 : decode m_Mo_readAll.2.1 511 = .ok (.invokevirtual 343, 3) := by decide +kernel
theorem dc_Mo_readAll_514 : decode m_Mo_readAll.2.1 514 = .ok (.ifCond .eq 7, 3) := by decide +kernel
theorem dc_Mo_readAll_517 : decode m_Mo_readAll.2.1 517 = .ok (.iconst 1, 1) := by decide +kernel
theorem dc_Mo_readAll_518 : decode m_Mo_readAll.2.1 518 = .ok (.goto 4, 3) := by decide +kernel
theorem dc_Mo_readAll_521 : decode m_Mo_readAll.2.1 521 = .ok (.iconst 0, 1) := by decide +kernel
theorem dc_Mo_readAll_522 : decode m_Mo_readAll.2.1 522 = .ok (.ireturn, 1) := by decide +kernel
theorem b_Mo_readAll_0 {E : En_t} {d : Nat} {σ : S_t} {Q : Option Value → S_t → Prop} {x1 : Int32}
    (h : JE E (d + 1) m_Mo_readAll 41 [(0, pv E 0), (1, .int x1), (2, .int (-1 : Int32)), (3, .int (0 : Int32)), (4, .int (0 : Int32)), (5, .int (0 : Int32)), (6, .int (-1 : Int32)), (7, .int (1 : Int32))] [] (sI (sI (sI (sI (sI σ 0 43 (0 : Int32)) 0 44 (0 : Int32)) 0 41 (0 : Int32)) 0 42 (-1 : Int32)) 0 9 (0 : Int32)) Q) :
    JE E (d + 1) m_Mo_readAll 0 [(0, pv E 0), (1, .int x1)] [] σ Q := by
  refine J_aload_n dc_Mo_readAll_0 (Eq.refl 1) 0 rfl ?_
  refine J_iconst (v := (0 : Int32)) dc_Mo_readAll_1 (Eq.refl 2) rfl ?_
  refine J_putI dc_Mo_readAll_2 (Eq.refl 5) pl_Mo_347 (Nat.le_of_ble_eq_true rfl) rfl rfl ?_
  refine J_aload_n dc_Mo_readAll_5 (Eq.refl 6) 0 rfl ?_
  refine J_iconst (v := (0 : Int32)) dc_Mo_readAll_6 (Eq.refl 7) rfl ?_
  refine J_putI dc_Mo_readAll_7 (Eq.refl 10) pl_Mo_321 (Nat.le_of_ble_eq_true rfl) rfl rfl ?_
  refine J_aload_n dc_Mo_readAll_10 (Eq.refl 11) 0 rfl ?_
  refine J_iconst (v := (0 : Int32)) dc_Mo_readAll_11 (Eq.refl 12) rfl ?_
  refine J_putI dc_Mo_readAll_12 (Eq.refl 15) pl_Mo_318 (Nat.le_of_ble_eq_true rfl) rfl rfl ?_
  refine J_aload_n dc_Mo_readAll_15 (Eq.refl 16) 0 rfl ?_
  refine J_iconst (v := (-1 : Int32)) dc_Mo_readAll_16 (Eq.refl 17) rfl ?_
  refine J_putI dc_Mo_readAll_17 (Eq.refl 20) pl_Mo_98 (Nat.le_of_ble_eq_true rfl) rfl rfl ?_
  refine J_aload_n dc_Mo_readAll_20 (Eq.refl 21) 0 rfl ?_
  refine J_iconst (v := (0 : Int32)) dc_Mo_readAll_21 (Eq.refl 22) rfl ?_
  refine J_putI dc_Mo_readAll_22 (Eq.refl 25) pl_Mo_210 (Nat.le_of_ble_eq_true rfl) rfl rfl ?_
  refine J_iconst (v := (-1 : Int32)) dc_Mo_readAll_25 (Eq.refl 26) rfl ?_
  refine J_istore_n (L' := [(2, .int (-1 : Int32)), (0, pv E 0), (1, .int x1)]) dc_Mo_readAll_26 (Eq.refl 27) (Nat.le_of_ble_eq_true rfl) rfl ?_
  refine J_iconst (v := (0 : Int32)) dc_Mo_readAll_27 (Eq.refl 28) rfl ?_
  refine J_istore_n (L' := [(3, .int (0 : Int32)), (2, .int (-1 : Int32)), (0, pv E 0), (1, .int x1)]) dc_Mo_readAll_28 (Eq.refl 29) (Nat.le_of_ble_eq_true rfl) rfl ?_
  refine J_iconst (v := (0 : Int32)) dc_Mo_readAll_29 (Eq.refl 30) rfl ?_
  refine J_istore (L' := [(4, .int (0 : Int32)), (3, .int (0 : Int32)), (2, .int (-1 : Int32)), (0, pv E 0), (1, .int x1)]) dc_Mo_readAll_30 (Eq.refl 32) (Nat.le_of_ble_eq_true rfl) rfl ?_
  refine J_iconst (v := (0 : Int32)) dc_Mo_readAll_32 (Eq.refl 33) rfl ?_
  refine J_istore (L' := [(5, .int (0 : Int32)), (4, .int (0 : Int32)), (3, .int (0 : Int32)), (2, .int (-1 : Int32)), (0, pv E 0), (1, .int x1)]) dc_Mo_readAll_33 (Eq.refl 35) (Nat.le_of_ble_eq_true rfl) rfl ?_
  refine J_iconst (v := (-1 : Int32)) dc_Mo_readAll_35 (Eq.refl 36) rfl ?_
  refine J_istore (L' := [(6, .int (-1 : Int32)), (5, .int (0 : Int32)), (4, .int (0 : Int32)), (3, .int (0 : Int32)), (2, .int (-1 : Int32)), (0, pv E 0), (1, .int x1)]) dc_Mo_readAll_36 (Eq.refl 38) (Nat.le_of_ble_eq_true rfl) rfl ?_
  refine J_iconst (v := (1 : Int32)) dc_Mo_readAll_38 (Eq.refl 39) rfl ?_
  refine J_istore (L' := [(7, .int (1 : Int32)), (6, .int (-1 : Int32)), (5, .int (0 : Int32)), (4, .int (0 : Int32)), (3, .int (0 : Int32)), (2, .int (-1 : Int32)), (0, pv E 0), (1, .int x1)]) dc_Mo_readAll_39 (Eq.refl 41) (Nat.le_of_ble_eq_true rfl) rfl ?_
  refine J_sub [6, 7, 5, 4, 3, 2, 1, 0] rfl ?_
  exact h
theorem b_Mo_readAll_41 {E : En_t} {d : Nat} {σ : S_t} {Q : Option Value → S_t → Prop} {x1 : Int32} {x2 : Int32} {x3 : Int32} {x4 : Int32} {x5 : Int32} {x6 : Int32} {x7 : Int32}
    (h : (x7 = 0 → CV E d m_Mo_blanks [pv E 0, .int x1] σ (fun σ1 => ((gI σ1 0 9) = x1 → JE E (d + 1) m_Mo_readAll 517 [] [] σ1 Q) ∧ (¬ (gI σ1 0 9) = x1 → CI E d m_Mo_wrong [pv E 0, .int (1 : Int32), .int (gI σ1 0 9)] σ1 (fun r3 σ2 => (r3 = 0 → Q (some (.int (0 : Int32))) σ2) ∧ (¬ r3 = 0 → JE E (d + 1) m_Mo_readAll 517 [] [] σ2 Q))))) ∧ (¬ x7 = 0 → CV E d m_Mo_blanks [pv E 0, .int x1] σ (fun σ4 => CI E d m_Mo_here [pv E 0, .int x1] σ4 (fun r6 σ5 => (¬ x4 = (3 : Int32) → JE E (d + 1) m_Mo_readAll 92 [(0, pv E 0), (1, .int x1), (2, .int x2), (3, .int x3), (4, .int x4), (5, .int x5), (6, .int x6), (7, .int x7), (8, .int r6)] [] σ5 Q) ∧ (x4 = (3 : Int32) → vp_in x2 500 ∧ ((¬ (gI σ5 29 x2.toNatClampNeg) = (5 : Int32) → JE E (d + 1) m_Mo_readAll 83 [(0, pv E 0), (1, .int x1), (2, .int x2), (3, .int x3), (4, .int x4), (5, .int x5), (6, .int x6), (7, .int x7), (8, .int r6)] [.int (125 : Int32), .int r6] σ5 Q) ∧ ((gI σ5 29 x2.toNatClampNeg) = (5 : Int32) → JE E (d + 1) m_Mo_readAll 83 [(0, pv E 0), (1, .int x1), (2, .int x2), (3, .int x3), (4, .int x4), (5, .int x5), (6, .int x6), (7, .int x7), (8, .int r6)] [.int (93 : Int32), .int r6] σ5 Q))))))) :
    JE E (d + 1) m_Mo_readAll 41 [(0, pv E 0), (1, .int x1), (2, .int x2), (3, .int x3), (4, .int x4), (5, .int x5), (6, .int x6), (7, .int x7)] [] σ Q := by
  refine J_iload dc_Mo_readAll_41 (Eq.refl 43) 7 rfl ?_
  refine J_if_eq dc_Mo_readAll_43 (Eq.refl 46) rfl (fun hc => ?_) (fun hc => ?_)
  · have h := h.1 hc
    refine J_aload_n dc_Mo_readAll_492 (Eq.refl 493) 0 rfl ?_
    refine J_iload_n dc_Mo_readAll_493 (Eq.refl 494) 1 rfl ?_
    refine J_callVV (As := [.int x1]) (st := []) dc_Mo_readAll_494 (Eq.refl 497) lk_Mo_360 mi_Mo_blanks rfl (Nat.le_of_ble_eq_true rfl) rfl rfl (Nat.le_of_ble_eq_true rfl) rfl (Nat.le_of_ble_eq_true rfl) (CV.mono h (fun σ1 h => ?_))
    refine J_aload_n dc_Mo_readAll_497 (Eq.refl 498) 0 rfl ?_
    refine J_getI dc_Mo_readAll_498 (Eq.refl 501) fl_Mo_210 (Nat.le_of_ble_eq_true rfl) rfl (Or.inl rfl) ?_
    refine J_iload_n dc_Mo_readAll_501 (Eq.refl 502) 1 rfl ?_
    refine J_icmp_eq dc_Mo_readAll_502 (Eq.refl 505) rfl (fun hc => ?_) (fun hc => ?_)
    · have h := h.1 hc
      refine J_sub [] rfl ?_
      exact h
    · have h := h.2 hc
      refine J_aload_n dc_Mo_readAll_505 (Eq.refl 506) 0 rfl ?_
      refine J_iconst (v := (1 : Int32)) dc_Mo_readAll_506 (Eq.refl 507) rfl ?_
      refine J_aload_n dc_Mo_readAll_507 (Eq.refl 508) 0 rfl ?_
      refine J_getI dc_Mo_readAll_508 (Eq.refl 511) fl_Mo_210 (Nat.le_of_ble_eq_true rfl) rfl (Or.inl rfl) ?_
      refine J_callVI (As := [.int (1 : Int32), .int (gI σ1 0 9)]) (st := []) dc_Mo_readAll_511 (Eq.refl 514) lk_Mo_343 mi_Mo_wrong rfl (Nat.le_of_ble_eq_true rfl) rfl rfl (Nat.le_of_ble_eq_true rfl) rfl (Nat.le_of_ble_eq_true rfl) (CI.mono h (fun r3 σ2 h => ?_))
      refine J_if_eq dc_Mo_readAll_514 (Eq.refl 517) rfl (fun hc => ?_) (fun hc => ?_)
      · have h := h.1 hc
        refine J_iconst (v := (0 : Int32)) dc_Mo_readAll_521 (Eq.refl 522) rfl ?_
        exact J_zret dc_Mo_readAll_522 rfl rfl h
      · have h := h.2 hc
        refine J_sub [] rfl ?_
        exact h
  · have h := h.2 hc
    refine J_aload_n dc_Mo_readAll_46 (Eq.refl 47) 0 rfl ?_
    refine J_iload_n dc_Mo_readAll_47 (Eq.refl 48) 1 rfl ?_
    refine J_callVV (As := [.int x1]) (st := []) dc_Mo_readAll_48 (Eq.refl 51) lk_Mo_360 mi_Mo_blanks rfl (Nat.le_of_ble_eq_true rfl) rfl rfl (Nat.le_of_ble_eq_true rfl) rfl (Nat.le_of_ble_eq_true rfl) (CV.mono h (fun σ4 h => ?_))
    refine J_aload_n dc_Mo_readAll_51 (Eq.refl 52) 0 rfl ?_
    refine J_iload_n dc_Mo_readAll_52 (Eq.refl 53) 1 rfl ?_
    refine J_callVI (As := [.int x1]) (st := []) dc_Mo_readAll_53 (Eq.refl 56) lk_Mo_213 mi_Mo_here rfl (Nat.le_of_ble_eq_true rfl) rfl rfl (Nat.le_of_ble_eq_true rfl) rfl (Nat.le_of_ble_eq_true rfl) (CI.mono h (fun r6 σ5 h => ?_))
    refine J_istore (L' := [(8, .int r6), (0, pv E 0), (1, .int x1), (2, .int x2), (3, .int x3), (4, .int x4), (5, .int x5), (6, .int x6), (7, .int x7)]) dc_Mo_readAll_56 (Eq.refl 58) (Nat.le_of_ble_eq_true rfl) rfl ?_
    refine J_iload dc_Mo_readAll_58 (Eq.refl 60) 5 rfl ?_
    refine J_iconst (v := (3 : Int32)) dc_Mo_readAll_60 (Eq.refl 61) rfl ?_
    refine J_icmp_ne dc_Mo_readAll_61 (Eq.refl 64) rfl (fun hc => ?_) (fun hc => ?_)
    · have h := h.1 hc
      refine J_sub [1, 2, 3, 4, 5, 6, 7, 8, 0] rfl ?_
      exact h
    · have h := h.2 hc
      refine J_iload dc_Mo_readAll_64 (Eq.refl 66) 0 rfl ?_
      refine J_aload_n dc_Mo_readAll_66 (Eq.refl 67) 1 rfl ?_
      refine J_getF (y := 29) dc_Mo_readAll_67 (Eq.refl 70) fl_Mo_102 (Nat.le_of_ble_eq_true rfl) rfl (Or.inl rfl) rfl ?_
      refine J_iload_n dc_Mo_readAll_70 (Eq.refl 71) 3 rfl ?_
      obtain ⟨hg, h⟩ := h
      refine J_iald dc_Mo_readAll_71 (Eq.refl 72) rfl rfl hg ?_
      refine J_iconst (v := (5 : Int32)) dc_Mo_readAll_72 (Eq.refl 73) rfl ?_
      refine J_icmp_ne dc_Mo_readAll_73 (Eq.refl 76) rfl (fun hc => ?_) (fun hc => ?_)
      · have h := h.1 hc
        refine J_bipush (v := (125 : Int32)) dc_Mo_readAll_81 (Eq.refl 83) rfl ?_
        refine J_sub [1, 2, 3, 4, 5, 6, 7, 8, 0] rfl ?_
        exact h
      · have h := h.2 hc
        refine J_bipush (v := (93 : Int32)) dc_Mo_readAll_76 (Eq.refl 78) rfl ?_
        refine J_goto dc_Mo_readAll_78 rfl ?_
        refine J_sub [1, 2, 3, 4, 5, 6, 7, 8, 0] rfl ?_
        exact h
theorem b_Mo_readAll_83 {E : En_t} {d : Nat} {σ : S_t} {Q : Option Value → S_t → Prop} {x1 : Int32} {x2 : Int32} {x3 : Int32} {x4 : Int32} {x5 : Int32} {x6 : Int32} {x7 : Int32} {x8 : Int32} {s0 : Int32} {s1 : Int32}
    (h : (¬ s1 = s0 → JE E (d + 1) m_Mo_readAll 92 [(0, pv E 0), (1, .int x1), (2, .int x2), (3, .int x3), (4, .int x4), (5, .int x5), (6, .int x6), (7, .int x7), (8, .int x8)] [] σ Q) ∧ (s1 = s0 → JE E (d + 1) m_Mo_readAll 115 [(0, pv E 0), (1, .int x1), (2, .int x2), (3, .int x3), (4, .int (2 : Int32)), (5, .int x5), (6, .int x6), (7, .int x7), (8, .int x8)] [] σ Q)) :
    JE E (d + 1) m_Mo_readAll 83 [(0, pv E 0), (1, .int x1), (2, .int x2), (3, .int x3), (4, .int x4), (5, .int x5), (6, .int x6), (7, .int x7), (8, .int x8)] [.int s0, .int s1] σ Q := by
  refine J_icmp_ne dc_Mo_readAll_83 (Eq.refl 86) rfl (fun hc => ?_) (fun hc => ?_)
  · have h := h.1 hc
    exact h
  · have h := h.2 hc
    refine J_iconst (v := (2 : Int32)) dc_Mo_readAll_86 (Eq.refl 87) rfl ?_
    refine J_istore (L' := [(4, .int (2 : Int32)), (0, pv E 0), (1, .int x1), (2, .int x2), (3, .int x3), (5, .int x5), (6, .int x6), (7, .int x7), (8, .int x8)]) dc_Mo_readAll_87 (Eq.refl 89) (Nat.le_of_ble_eq_true rfl) rfl ?_
    refine J_goto dc_Mo_readAll_89 rfl ?_
    refine J_sub [1, 2, 3, 4, 0, 5, 6, 7, 8] rfl ?_
    exact h
theorem b_Mo_readAll_92 {E : En_t} {d : Nat} {σ : S_t} {Q : Option Value → S_t → Prop} {x1 : Int32} {x2 : Int32} {x3 : Int32} {x4 : Int32} {x5 : Int32} {x6 : Int32} {x7 : Int32} {x8 : Int32}
    (h : (¬ x4 = (3 : Int32) → JE E (d + 1) m_Mo_readAll 115 [(0, pv E 0), (1, .int x1), (2, .int x2), (3, .int x3), (4, .int x4), (5, .int x5), (6, .int x6), (7, .int x7), (8, .int x8)] [] σ Q) ∧ (x4 = (3 : Int32) → vp_in x2 500 ∧ ((¬ (gI σ 29 x2.toNatClampNeg) = (5 : Int32) → JE E (d + 1) m_Mo_readAll 113 [(0, pv E 0), (1, .int x1), (2, .int x2), (3, .int x3), (5, .int x5), (6, .int x6), (7, .int x7), (8, .int x8)] [.int (1 : Int32)] σ Q) ∧ ((gI σ 29 x2.toNatClampNeg) = (5 : Int32) → JE E (d + 1) m_Mo_readAll 113 [(0, pv E 0), (1, .int x1), (2, .int x2), (3, .int x3), (5, .int x5), (6, .int x6), (7, .int x7), (8, .int x8)] [.int (0 : Int32)] σ Q)))) :
    JE E (d + 1) m_Mo_readAll 92 [(0, pv E 0), (1, .int x1), (2, .int x2), (3, .int x3), (4, .int x4), (5, .int x5), (6, .int x6), (7, .int x7), (8, .int x8)] [] σ Q := by
  refine J_iload dc_Mo_readAll_92 (Eq.refl 94) 4 rfl ?_
  refine J_iconst (v := (3 : Int32)) dc_Mo_readAll_94 (Eq.refl 95) rfl ?_
  refine J_icmp_ne dc_Mo_readAll_95 (Eq.refl 98) rfl (fun hc => ?_) (fun hc => ?_)
  · have h := h.1 hc
    exact h
  · have h := h.2 hc
    refine J_aload_n dc_Mo_readAll_98 (Eq.refl 99) 0 rfl ?_
    refine J_getF (y := 29) dc_Mo_readAll_99 (Eq.refl 102) fl_Mo_102 (Nat.le_of_ble_eq_true rfl) rfl (Or.inl rfl) rfl ?_
    refine J_iload_n dc_Mo_readAll_102 (Eq.refl 103) 2 rfl ?_
    obtain ⟨hg, h⟩ := h
    refine J_iald dc_Mo_readAll_103 (Eq.refl 104) rfl rfl hg ?_
    refine J_iconst (v := (5 : Int32)) dc_Mo_readAll_104 (Eq.refl 105) rfl ?_
    refine J_icmp_ne dc_Mo_readAll_105 (Eq.refl 108) rfl (fun hc => ?_) (fun hc => ?_)
    · have h := h.1 hc
      refine J_iconst (v := (1 : Int32)) dc_Mo_readAll_112 (Eq.refl 113) rfl ?_
      refine J_sub [0, 1, 2, 3, 5, 6, 7, 8] rfl ?_
      exact h
    · have h := h.2 hc
      refine J_iconst (v := (0 : Int32)) dc_Mo_readAll_108 (Eq.refl 109) rfl ?_
      refine J_goto dc_Mo_readAll_109 rfl ?_
      refine J_sub [0, 1, 2, 3, 5, 6, 7, 8] rfl ?_
      exact h
theorem b_Mo_readAll_113 {E : En_t} {d : Nat} {σ : S_t} {Q : Option Value → S_t → Prop} {x1 : Int32} {x2 : Int32} {x3 : Int32} {x5 : Int32} {x6 : Int32} {x7 : Int32} {x8 : Int32} {s0 : Int32}
    (h : JE E (d + 1) m_Mo_readAll 115 [(0, pv E 0), (1, .int x1), (2, .int x2), (3, .int x3), (4, .int s0), (5, .int x5), (6, .int x6), (7, .int x7), (8, .int x8)] [] σ Q) :
    JE E (d + 1) m_Mo_readAll 113 [(0, pv E 0), (1, .int x1), (2, .int x2), (3, .int x3), (5, .int x5), (6, .int x6), (7, .int x7), (8, .int x8)] [.int s0] σ Q := by
  refine J_istore (L' := [(4, .int s0), (0, pv E 0), (1, .int x1), (2, .int x2), (3, .int x3), (5, .int x5), (6, .int x6), (7, .int x7), (8, .int x8)]) dc_Mo_readAll_113 (Eq.refl 115) (Nat.le_of_ble_eq_true rfl) rfl ?_
  refine J_sub [1, 2, 3, 4, 0, 5, 6, 7, 8] rfl ?_
  exact h
theorem b_Mo_readAll_115 {E : En_t} {d : Nat} {σ : S_t} {Q : Option Value → S_t → Prop} {x1 : Int32} {x2 : Int32} {x3 : Int32} {x4 : Int32} {x5 : Int32} {x6 : Int32} {x7 : Int32} {x8 : Int32}
    (h : (¬ x4 = (1 : Int32) → (¬ x4 = 0 → (¬ x8 = (44 : Int32) → vp_in x2 500 ∧ ((¬ (gI σ 29 x2.toNatClampNeg) = (5 : Int32) → JE E (d + 1) m_Mo_readAll 442 [(0, pv E 0), (1, .int x1), (2, .int x2), (3, .int x3), (4, .int x4), (5, .int x5), (6, .int x6)] [.int (125 : Int32), .int x8] σ Q) ∧ ((gI σ 29 x2.toNatClampNeg) = (5 : Int32) → JE E (d + 1) m_Mo_readAll 442 [(0, pv E 0), (1, .int x1), (2, .int x2), (3, .int x3), (4, .int x4), (5, .int x5), (6, .int x6)] [.int (93 : Int32), .int x8] σ Q))) ∧ (x8 = (44 : Int32) → vp_in x2 500 ∧ ((¬ (gI (sI σ 0 9 ((gI σ 0 9) + (1 : Int32))) 29 x2.toNatClampNeg) = (5 : Int32) → JE E (d + 1) m_Mo_readAll 418 [(0, pv E 0), (1, .int x1), (2, .int x2), (3, .int x3), (5, .int x5), (6, .int x6), (7, .int x7)] [.int (1 : Int32)] (sI σ 0 9 ((gI σ 0 9) + (1 : Int32))) Q) ∧ ((gI (sI σ 0 9 ((gI σ 0 9) + (1 : Int32))) 29 x2.toNatClampNeg) = (5 : Int32) → JE E (d + 1) m_Mo_readAll 418 [(0, pv E 0), (1, .int x1), (2, .int x2), (3, .int x3), (5, .int x5), (6, .int x6), (7, .int x7)] [.int (0 : Int32)] (sI σ 0 9 ((gI σ 0 9) + (1 : Int32))) Q)))) ∧ (x4 = 0 → CI E d m_Mo_kindAt [.int x8] σ (fun r2 σ1 => (0 ≤ r2 → (r2 < (5 : Int32) → JE E (d + 1) m_Mo_readAll 279 [(0, pv E 0), (1, .int x1), (2, .int x2), (3, .int x3), (5, .int x5), (6, .int x6), (7, .int x7), (9, .int r2)] [] σ1 Q) ∧ (¬ r2 < (5 : Int32) → (¬ x3 = (30 : Int32) → JE E (d + 1) m_Mo_readAll 279 [(0, pv E 0), (1, .int x1), (2, .int x2), (3, .int x3), (5, .int x5), (6, .int x6), (7, .int x7), (9, .int r2)] [] σ1 Q) ∧ (x3 = (30 : Int32) → CI E d m_Mo_wrong [pv E 0, .int (4 : Int32), .int (gI σ1 0 9)] σ1 (fun r4 σ3 => narrow .boolean (.int r4) = .int r4 ∧ Q (some (.int r4)) σ3)))) ∧ (¬ 0 ≤ r2 → CI E d m_Mo_wrong [pv E 0, .int (1 : Int32), .int (gI σ1 0 9)] σ1 (fun r6 σ5 => narrow .boolean (.int r6) = .int r6 ∧ Q (some (.int r6)) σ5))))) ∧ (x4 = (1 : Int32) → (x8 = (34 : Int32) → CI E d m_Mo_takeString [pv E 0, .int x1] σ (fun r8 σ7 => (¬ r8 = 0 → CI E d m_Mo_isNamed [pv E 0, .int x2, .int (gI σ 0 44), .int ((gI σ7 0 44) - (gI σ 0 44))] σ7 (fun r10 σ9 => (r10 = 0 → CV E d m_Mo_blanks [pv E 0, .int x1] σ9 (fun σ11 => CI E d m_Mo_here [pv E 0, .int x1] σ11 (fun r13 σ12 => (r13 = (58 : Int32) → JE E (d + 1) m_Mo_readAll 489 [(0, pv E 0), (1, .int x1), (2, .int x2), (3, .int x3), (4, .int (0 : Int32)), (5, .int (gI σ 0 44)), (6, .int ((gI σ7 0 44) - (gI σ 0 44))), (7, .int x7)] [] (sI σ12 0 9 ((gI σ12 0 9) + (1 : Int32))) Q) ∧ (¬ r13 = (58 : Int32) → CI E d m_Mo_wrong [pv E 0, .int (1 : Int32), .int (gI σ12 0 9)] σ12 (fun r15 σ14 => narrow .boolean (.int r15) = .int r15 ∧ Q (some (.int r15)) σ14))))) ∧ (¬ r10 = 0 → CI E d m_Mo_wrong [pv E 0, .int (3 : Int32), .int (gI σ 0 9)] σ9 (fun r17 σ16 => narrow .boolean (.int r17) = .int r17 ∧ Q (some (.int r17)) σ16)))) ∧ (r8 = 0 → Q (some (.int (0 : Int32))) σ7))) ∧ (¬ x8 = (34 : Int32) → CI E d m_Mo_wrong [pv E 0, .int (1 : Int32), .int (gI σ 0 9)] σ (fun r19 σ18 => narrow .boolean (.int r19) = .int r19 ∧ Q (some (.int r19)) σ18)))) :
    JE E (d + 1) m_Mo_readAll 115 [(0, pv E 0), (1, .int x1), (2, .int x2), (3, .int x3), (4, .int x4), (5, .int x5), (6, .int x6), (7, .int x7), (8, .int x8)] [] σ Q := by
  refine J_iload dc_Mo_readAll_115 (Eq.refl 117) 4 rfl ?_
  refine J_iconst (v := (1 : Int32)) dc_Mo_readAll_117 (Eq.refl 118) rfl ?_
  refine J_icmp_ne dc_Mo_readAll_118 (Eq.refl 121) rfl (fun hc => ?_) (fun hc => ?_)
  · have h := h.1 hc
    refine J_iload dc_Mo_readAll_230 (Eq.refl 232) 4 rfl ?_
    refine J_if_ne dc_Mo_readAll_232 (Eq.refl 235) rfl (fun hc => ?_) (fun hc => ?_)
    · have h := h.1 hc
      refine J_iload dc_Mo_readAll_386 (Eq.refl 388) 8 rfl ?_
      refine J_bipush (v := (44 : Int32)) dc_Mo_readAll_388 (Eq.refl 390) rfl ?_
      refine J_icmp_ne dc_Mo_readAll_390 (Eq.refl 393) rfl (fun hc => ?_) (fun hc => ?_)
      · have h := h.1 hc
        refine J_iload dc_Mo_readAll_423 (Eq.refl 425) 8 rfl ?_
        refine J_aload_n dc_Mo_readAll_425 (Eq.refl 426) 0 rfl ?_
        refine J_getF (y := 29) dc_Mo_readAll_426 (Eq.refl 429) fl_Mo_102 (Nat.le_of_ble_eq_true rfl) rfl (Or.inl rfl) rfl ?_
        refine J_iload_n dc_Mo_readAll_429 (Eq.refl 430) 2 rfl ?_
        obtain ⟨hg, h⟩ := h
        refine J_iald dc_Mo_readAll_430 (Eq.refl 431) rfl rfl hg ?_
        refine J_iconst (v := (5 : Int32)) dc_Mo_readAll_431 (Eq.refl 432) rfl ?_
        refine J_icmp_ne dc_Mo_readAll_432 (Eq.refl 435) rfl (fun hc => ?_) (fun hc => ?_)
        · have h := h.1 hc
          refine J_bipush (v := (125 : Int32)) dc_Mo_readAll_440 (Eq.refl 442) rfl ?_
          refine J_sub [0, 1, 2, 3, 4, 5, 6] rfl ?_
          exact h
        · have h := h.2 hc
          refine J_bipush (v := (93 : Int32)) dc_Mo_readAll_435 (Eq.refl 437) rfl ?_
          refine J_goto dc_Mo_readAll_437 rfl ?_
          refine J_sub [0, 1, 2, 3, 4, 5, 6] rfl ?_
          exact h
      · have h := h.2 hc
        refine J_aload_n dc_Mo_readAll_393 (Eq.refl 394) 0 rfl ?_
        refine J_dup dc_Mo_readAll_394 (Eq.refl 395) rfl ?_
        refine J_getI dc_Mo_readAll_395 (Eq.refl 398) fl_Mo_210 (Nat.le_of_ble_eq_true rfl) rfl (Or.inl rfl) ?_
        refine J_iconst (v := (1 : Int32)) dc_Mo_readAll_398 (Eq.refl 399) rfl ?_
        refine J_iadd dc_Mo_readAll_399 (Eq.refl 400) ?_
        refine J_putI dc_Mo_readAll_400 (Eq.refl 403) pl_Mo_210 (Nat.le_of_ble_eq_true rfl) rfl rfl ?_
        refine J_aload_n dc_Mo_readAll_403 (Eq.refl 404) 0 rfl ?_
        refine J_getF (y := 29) dc_Mo_readAll_404 (Eq.refl 407) fl_Mo_102 (Nat.le_of_ble_eq_true rfl) rfl (Or.inl rfl) rfl ?_
        refine J_iload_n dc_Mo_readAll_407 (Eq.refl 408) 2 rfl ?_
        obtain ⟨hg, h⟩ := h
        refine J_iald dc_Mo_readAll_408 (Eq.refl 409) rfl rfl hg ?_
        refine J_iconst (v := (5 : Int32)) dc_Mo_readAll_409 (Eq.refl 410) rfl ?_
        refine J_icmp_ne dc_Mo_readAll_410 (Eq.refl 413) rfl (fun hc => ?_) (fun hc => ?_)
        · have h := h.1 hc
          refine J_iconst (v := (1 : Int32)) dc_Mo_readAll_417 (Eq.refl 418) rfl ?_
          refine J_sub [0, 1, 2, 3, 5, 6, 7] rfl ?_
          exact h
        · have h := h.2 hc
          refine J_iconst (v := (0 : Int32)) dc_Mo_readAll_413 (Eq.refl 414) rfl ?_
          refine J_goto dc_Mo_readAll_414 rfl ?_
          refine J_sub [0, 1, 2, 3, 5, 6, 7] rfl ?_
          exact h
    · have h := h.2 hc
      refine J_iload dc_Mo_readAll_235 (Eq.refl 237) 8 rfl ?_
      refine J_callSI (As := [.int x8]) (st := []) dc_Mo_readAll_237 (Eq.refl 240) lk_Mo_366 mi_Mo_kindAt (Nat.le_of_ble_eq_true rfl) rfl (Nat.le_of_ble_eq_true rfl) (CI.mono h (fun r2 σ1 h => ?_))
      refine J_istore (L' := [(9, .int r2), (0, pv E 0), (1, .int x1), (2, .int x2), (3, .int x3), (4, .int x4), (5, .int x5), (6, .int x6), (7, .int x7), (8, .int x8)]) dc_Mo_readAll_240 (Eq.refl 242) (Nat.le_of_ble_eq_true rfl) rfl ?_
      refine J_iload dc_Mo_readAll_242 (Eq.refl 244) 0 rfl ?_
      refine J_if_ge dc_Mo_readAll_244 (Eq.refl 247) rfl (fun hc => ?_) (fun hc => ?_)
      · have h := h.1 hc
        refine J_iload dc_Mo_readAll_257 (Eq.refl 259) 0 rfl ?_
        refine J_iconst (v := (5 : Int32)) dc_Mo_readAll_259 (Eq.refl 260) rfl ?_
        refine J_icmp_lt dc_Mo_readAll_260 (Eq.refl 263) rfl (fun hc => ?_) (fun hc => ?_)
        · have h := h.1 hc
          refine J_sub [1, 2, 3, 4, 6, 7, 8, 0] rfl ?_
          exact h
        · have h := h.2 hc
          refine J_iload_n dc_Mo_readAll_263 (Eq.refl 264) 4 rfl ?_
          refine J_bipush (v := (30 : Int32)) dc_Mo_readAll_264 (Eq.refl 266) rfl ?_
          refine J_icmp_ne dc_Mo_readAll_266 (Eq.refl 269) rfl (fun hc => ?_) (fun hc => ?_)
          · have h := h.1 hc
            refine J_sub [1, 2, 3, 4, 6, 7, 8, 0] rfl ?_
            exact h
          · have h := h.2 hc
            refine J_aload_n dc_Mo_readAll_269 (Eq.refl 270) 1 rfl ?_
            refine J_iconst (v := (4 : Int32)) dc_Mo_readAll_270 (Eq.refl 271) rfl ?_
            refine J_aload_n dc_Mo_readAll_271 (Eq.refl 272) 1 rfl ?_
            refine J_getI dc_Mo_readAll_272 (Eq.refl 275) fl_Mo_210 (Nat.le_of_ble_eq_true rfl) rfl (Or.inl rfl) ?_
            refine J_callVI (As := [.int (4 : Int32), .int (gI σ1 0 9)]) (st := []) dc_Mo_readAll_275 (Eq.refl 278) lk_Mo_343 mi_Mo_wrong rfl (Nat.le_of_ble_eq_true rfl) rfl rfl (Nat.le_of_ble_eq_true rfl) rfl (Nat.le_of_ble_eq_true rfl) (CI.mono h (fun r4 σ3 h => ?_))
            exact J_zret dc_Mo_readAll_278 rfl h.1 h.2
      · have h := h.2 hc
        refine J_aload_n dc_Mo_readAll_247 (Eq.refl 248) 1 rfl ?_
        refine J_iconst (v := (1 : Int32)) dc_Mo_readAll_248 (Eq.refl 249) rfl ?_
        refine J_aload_n dc_Mo_readAll_249 (Eq.refl 250) 1 rfl ?_
        refine J_getI dc_Mo_readAll_250 (Eq.refl 253) fl_Mo_210 (Nat.le_of_ble_eq_true rfl) rfl (Or.inl rfl) ?_
        refine J_callVI (As := [.int (1 : Int32), .int (gI σ1 0 9)]) (st := []) dc_Mo_readAll_253 (Eq.refl 256) lk_Mo_343 mi_Mo_wrong rfl (Nat.le_of_ble_eq_true rfl) rfl rfl (Nat.le_of_ble_eq_true rfl) rfl (Nat.le_of_ble_eq_true rfl) (CI.mono h (fun r6 σ5 h => ?_))
        exact J_zret dc_Mo_readAll_256 rfl h.1 h.2
  · have h := h.2 hc
    refine J_aload_n dc_Mo_readAll_121 (Eq.refl 122) 0 rfl ?_
    refine J_getI dc_Mo_readAll_122 (Eq.refl 125) fl_Mo_210 (Nat.le_of_ble_eq_true rfl) rfl (Or.inl rfl) ?_
    refine J_istore (L' := [(9, .int (gI σ 0 9)), (0, pv E 0), (1, .int x1), (2, .int x2), (3, .int x3), (4, .int x4), (5, .int x5), (6, .int x6), (7, .int x7), (8, .int x8)]) dc_Mo_readAll_125 (Eq.refl 127) (Nat.le_of_ble_eq_true rfl) rfl ?_
    refine J_iload dc_Mo_readAll_127 (Eq.refl 129) 9 rfl ?_
    refine J_bipush (v := (34 : Int32)) dc_Mo_readAll_129 (Eq.refl 131) rfl ?_
    refine J_icmp_eq dc_Mo_readAll_131 (Eq.refl 134) rfl (fun hc => ?_) (fun hc => ?_)
    · have h := h.1 hc
      refine J_aload_n dc_Mo_readAll_144 (Eq.refl 145) 1 rfl ?_
      refine J_getI dc_Mo_readAll_145 (Eq.refl 148) fl_Mo_321 (Nat.le_of_ble_eq_true rfl) rfl (Or.inl rfl) ?_
      refine J_istore (L' := [(5, .int (gI σ 0 44)), (9, .int (gI σ 0 9)), (0, pv E 0), (1, .int x1), (2, .int x2), (3, .int x3), (4, .int x4), (6, .int x6), (7, .int x7), (8, .int x8)]) dc_Mo_readAll_148 (Eq.refl 150) (Nat.le_of_ble_eq_true rfl) rfl ?_
      refine J_aload_n dc_Mo_readAll_150 (Eq.refl 151) 2 rfl ?_
      refine J_iload_n dc_Mo_readAll_151 (Eq.refl 152) 3 rfl ?_
      refine J_callVI (As := [.int x1]) (st := []) dc_Mo_readAll_152 (Eq.refl 155) lk_Mo_349 mi_Mo_takeString rfl (Nat.le_of_ble_eq_true rfl) rfl rfl (Nat.le_of_ble_eq_true rfl) rfl (Nat.le_of_ble_eq_true rfl) (CI.mono h (fun r8 σ7 h => ?_))
      refine J_if_ne dc_Mo_readAll_155 (Eq.refl 158) rfl (fun hc => ?_) (fun hc => ?_)
      · have h := h.1 hc
        refine J_aload_n dc_Mo_readAll_160 (Eq.refl 161) 2 rfl ?_
        refine J_getI dc_Mo_readAll_161 (Eq.refl 164) fl_Mo_321 (Nat.le_of_ble_eq_true rfl) rfl (Or.inl rfl) ?_
        refine J_iload dc_Mo_readAll_164 (Eq.refl 166) 0 rfl ?_
        refine J_isub dc_Mo_readAll_166 (Eq.refl 167) ?_
        refine J_istore (L' := [(6, .int ((gI σ7 0 44) - (gI σ 0 44))), (5, .int (gI σ 0 44)), (9, .int (gI σ 0 9)), (0, pv E 0), (1, .int x1), (2, .int x2), (3, .int x3), (4, .int x4), (7, .int x7), (8, .int x8)]) dc_Mo_readAll_167 (Eq.refl 169) (Nat.le_of_ble_eq_true rfl) rfl ?_
        refine J_aload_n dc_Mo_readAll_169 (Eq.refl 170) 3 rfl ?_
        refine J_iload_n dc_Mo_readAll_170 (Eq.refl 171) 5 rfl ?_
        refine J_iload dc_Mo_readAll_171 (Eq.refl 173) 1 rfl ?_
        refine J_iload dc_Mo_readAll_173 (Eq.refl 175) 0 rfl ?_
        refine J_callVI (As := [.int x2, .int (gI σ 0 44), .int ((gI σ7 0 44) - (gI σ 0 44))]) (st := []) dc_Mo_readAll_175 (Eq.refl 178) lk_Mo_363 mi_Mo_isNamed rfl (Nat.le_of_ble_eq_true rfl) rfl rfl (Nat.le_of_ble_eq_true rfl) rfl (Nat.le_of_ble_eq_true rfl) (CI.mono h (fun r10 σ9 h => ?_))
        refine J_if_eq dc_Mo_readAll_178 (Eq.refl 181) rfl (fun hc => ?_) (fun hc => ?_)
        · have h := h.1 hc
          refine J_aload_n dc_Mo_readAll_189 (Eq.refl 190) 3 rfl ?_
          refine J_iload_n dc_Mo_readAll_190 (Eq.refl 191) 4 rfl ?_
          refine J_callVV (As := [.int x1]) (st := []) dc_Mo_readAll_191 (Eq.refl 194) lk_Mo_360 mi_Mo_blanks rfl (Nat.le_of_ble_eq_true rfl) rfl rfl (Nat.le_of_ble_eq_true rfl) rfl (Nat.le_of_ble_eq_true rfl) (CV.mono h (fun σ11 h => ?_))
          refine J_aload_n dc_Mo_readAll_194 (Eq.refl 195) 3 rfl ?_
          refine J_iload_n dc_Mo_readAll_195 (Eq.refl 196) 4 rfl ?_
          refine J_callVI (As := [.int x1]) (st := []) dc_Mo_readAll_196 (Eq.refl 199) lk_Mo_213 mi_Mo_here rfl (Nat.le_of_ble_eq_true rfl) rfl rfl (Nat.le_of_ble_eq_true rfl) rfl (Nat.le_of_ble_eq_true rfl) (CI.mono h (fun r13 σ12 h => ?_))
          refine J_bipush (v := (58 : Int32)) dc_Mo_readAll_199 (Eq.refl 201) rfl ?_
          refine J_icmp_eq dc_Mo_readAll_201 (Eq.refl 204) rfl (fun hc => ?_) (fun hc => ?_)
          · have h := h.1 hc
            refine J_aload_n dc_Mo_readAll_214 (Eq.refl 215) 3 rfl ?_
            refine J_dup dc_Mo_readAll_215 (Eq.refl 216) rfl ?_
            refine J_getI dc_Mo_readAll_216 (Eq.refl 219) fl_Mo_210 (Nat.le_of_ble_eq_true rfl) rfl (Or.inl rfl) ?_
            refine J_iconst (v := (1 : Int32)) dc_Mo_readAll_219 (Eq.refl 220) rfl ?_
            refine J_iadd dc_Mo_readAll_220 (Eq.refl 221) ?_
            refine J_putI dc_Mo_readAll_221 (Eq.refl 224) pl_Mo_210 (Nat.le_of_ble_eq_true rfl) rfl rfl ?_
            refine J_iconst (v := (0 : Int32)) dc_Mo_readAll_224 (Eq.refl 225) rfl ?_
            refine J_istore (L' := [(4, .int (0 : Int32)), (6, .int ((gI σ7 0 44) - (gI σ 0 44))), (5, .int (gI σ 0 44)), (9, .int (gI σ 0 9)), (0, pv E 0), (1, .int x1), (2, .int x2), (3, .int x3), (7, .int x7), (8, .int x8)]) dc_Mo_readAll_225 (Eq.refl 227) (Nat.le_of_ble_eq_true rfl) rfl ?_
            refine J_goto dc_Mo_readAll_227 rfl ?_
            refine J_sub [4, 5, 6, 7, 0, 2, 1, 8] rfl ?_
            exact h
          · have h := h.2 hc
            refine J_aload_n dc_Mo_readAll_204 (Eq.refl 205) 3 rfl ?_
            refine J_iconst (v := (1 : Int32)) dc_Mo_readAll_205 (Eq.refl 206) rfl ?_
            refine J_aload_n dc_Mo_readAll_206 (Eq.refl 207) 3 rfl ?_
            refine J_getI dc_Mo_readAll_207 (Eq.refl 210) fl_Mo_210 (Nat.le_of_ble_eq_true rfl) rfl (Or.inl rfl) ?_
            refine J_callVI (As := [.int (1 : Int32), .int (gI σ12 0 9)]) (st := []) dc_Mo_readAll_210 (Eq.refl 213) lk_Mo_343 mi_Mo_wrong rfl (Nat.le_of_ble_eq_true rfl) rfl rfl (Nat.le_of_ble_eq_true rfl) rfl (Nat.le_of_ble_eq_true rfl) (CI.mono h (fun r15 σ14 h => ?_))
            exact J_zret dc_Mo_readAll_213 rfl h.1 h.2
        · have h := h.2 hc
          refine J_aload_n dc_Mo_readAll_181 (Eq.refl 182) 3 rfl ?_
          refine J_iconst (v := (3 : Int32)) dc_Mo_readAll_182 (Eq.refl 183) rfl ?_
          refine J_iload dc_Mo_readAll_183 (Eq.refl 185) 2 rfl ?_
          refine J_callVI (As := [.int (3 : Int32), .int (gI σ 0 9)]) (st := []) dc_Mo_readAll_185 (Eq.refl 188) lk_Mo_343 mi_Mo_wrong rfl (Nat.le_of_ble_eq_true rfl) rfl rfl (Nat.le_of_ble_eq_true rfl) rfl (Nat.le_of_ble_eq_true rfl) (CI.mono h (fun r17 σ16 h => ?_))
          exact J_zret dc_Mo_readAll_188 rfl h.1 h.2
      · have h := h.2 hc
        refine J_iconst (v := (0 : Int32)) dc_Mo_readAll_158 (Eq.refl 159) rfl ?_
        exact J_zret dc_Mo_readAll_159 rfl rfl h
    · have h := h.2 hc
      refine J_aload_n dc_Mo_readAll_134 (Eq.refl 135) 1 rfl ?_
      refine J_iconst (v := (1 : Int32)) dc_Mo_readAll_135 (Eq.refl 136) rfl ?_
      refine J_aload_n dc_Mo_readAll_136 (Eq.refl 137) 1 rfl ?_
      refine J_getI dc_Mo_readAll_137 (Eq.refl 140) fl_Mo_210 (Nat.le_of_ble_eq_true rfl) rfl (Or.inl rfl) ?_
      refine J_callVI (As := [.int (1 : Int32), .int (gI σ 0 9)]) (st := []) dc_Mo_readAll_140 (Eq.refl 143) lk_Mo_343 mi_Mo_wrong rfl (Nat.le_of_ble_eq_true rfl) rfl rfl (Nat.le_of_ble_eq_true rfl) rfl (Nat.le_of_ble_eq_true rfl) (CI.mono h (fun r19 σ18 h => ?_))
      exact J_zret dc_Mo_readAll_143 rfl h.1 h.2
theorem b_Mo_readAll_279 {E : En_t} {d : Nat} {σ : S_t} {Q : Option Value → S_t → Prop} {x1 : Int32} {x2 : Int32} {x3 : Int32} {x5 : Int32} {x6 : Int32} {x7 : Int32} {x9 : Int32}
    (h : (¬ (gI σ 0 43) = (500 : Int32) → CI E d m_Mo_begin [pv E 0, .int x9, .int x2] σ (fun r2 σ1 => vp_in r2 500 ∧ (vp_in r2 500 ∧ ((x9 < (5 : Int32) → CI E d m_Mo_takePlain [pv E 0, .int x1, .int r2] (sI (sI σ1 34 r2.toNatClampNeg x5) 35 r2.toNatClampNeg x6) (fun r4 σ3 => (¬ r4 = 0 → (x2 < 0 → JE E (d + 1) m_Mo_readAll 381 [(0, pv E 0), (1, .int x1), (2, .int x2), (3, .int x3), (4, .int (2 : Int32)), (5, .int x5), (6, .int (-1 : Int32))] [.int (0 : Int32)] σ3 Q) ∧ (¬ x2 < 0 → JE E (d + 1) m_Mo_readAll 381 [(0, pv E 0), (1, .int x1), (2, .int x2), (3, .int x3), (4, .int (2 : Int32)), (5, .int x5), (6, .int (-1 : Int32))] [.int (1 : Int32)] σ3 Q)) ∧ (r4 = 0 → Q (some (.int (0 : Int32))) σ3))) ∧ (¬ x9 < (5 : Int32) → ∀ σ5, σ5 = sI (sI (sI σ1 34 r2.toNatClampNeg x5) 35 r2.toNatClampNeg x6) 0 9 ((gI (sI (sI σ1 34 r2.toNatClampNeg x5) 35 r2.toNatClampNeg x6) 0 9) + (1 : Int32)) → (JE E (d + 1) m_Mo_readAll 383 [(0, pv E 0), (1, .int x1), (2, .int r2), (3, .int (x3 + (1 : Int32))), (4, .int (3 : Int32)), (5, .int x5), (6, .int (-1 : Int32)), (7, .int x7)] [] σ5 Q)))))) ∧ ((gI σ 0 43) = (500 : Int32) → CI E d m_Mo_wrong [pv E 0, .int (5 : Int32), .int (gI σ 0 9)] σ (fun r7 σ6 => narrow .boolean (.int r7) = .int r7 ∧ Q (some (.int r7)) σ6))) :
    JE E (d + 1) m_Mo_readAll 279 [(0, pv E 0), (1, .int x1), (2, .int x2), (3, .int x3), (5, .int x5), (6, .int x6), (7, .int x7), (9, .int x9)] [] σ Q := by
  refine J_aload_n dc_Mo_readAll_279 (Eq.refl 280) 0 rfl ?_
  refine J_getI dc_Mo_readAll_280 (Eq.refl 283) fl_Mo_347 (Nat.le_of_ble_eq_true rfl) rfl (Or.inl rfl) ?_
  refine J_sipush (v := (500 : Int32)) dc_Mo_readAll_283 (Eq.refl 286) rfl ?_
  refine J_icmp_ne dc_Mo_readAll_286 (Eq.refl 289) rfl (fun hc => ?_) (fun hc => ?_)
  · have h := h.1 hc
    refine J_aload_n dc_Mo_readAll_299 (Eq.refl 300) 0 rfl ?_
    refine J_iload dc_Mo_readAll_300 (Eq.refl 302) 7 rfl ?_
    refine J_iload_n dc_Mo_readAll_302 (Eq.refl 303) 2 rfl ?_
    refine J_callVI (As := [.int x9, .int x2]) (st := []) dc_Mo_readAll_303 (Eq.refl 306) lk_Mo_369 mi_Mo_begin rfl (Nat.le_of_ble_eq_true rfl) rfl rfl (Nat.le_of_ble_eq_true rfl) rfl (Nat.le_of_ble_eq_true rfl) (CI.mono h (fun r2 σ1 h => ?_))
    refine J_istore (L' := [(10, .int r2), (0, pv E 0), (1, .int x1), (2, .int x2), (3, .int x3), (5, .int x5), (6, .int x6), (7, .int x7), (9, .int x9)]) dc_Mo_readAll_306 (Eq.refl 308) (Nat.le_of_ble_eq_true rfl) rfl ?_
    refine J_aload_n dc_Mo_readAll_308 (Eq.refl 309) 1 rfl ?_
    refine J_getF (y := 34) dc_Mo_readAll_309 (Eq.refl 312) fl_Mo_117 (Nat.le_of_ble_eq_true rfl) rfl (Or.inl rfl) rfl ?_
    refine J_iload dc_Mo_readAll_312 (Eq.refl 314) 0 rfl ?_
    refine J_iload dc_Mo_readAll_314 (Eq.refl 316) 5 rfl ?_
    obtain ⟨hg, h⟩ := h
    refine J_iast dc_Mo_readAll_316 (Eq.refl 317) rfl rfl hg ?_
    refine J_aload_n dc_Mo_readAll_317 (Eq.refl 318) 1 rfl ?_
    refine J_getF (y := 35) dc_Mo_readAll_318 (Eq.refl 321) fl_Mo_120 (Nat.le_of_ble_eq_true rfl) rfl (Or.inl rfl) rfl ?_
    refine J_iload dc_Mo_readAll_321 (Eq.refl 323) 0 rfl ?_
    refine J_iload dc_Mo_readAll_323 (Eq.refl 325) 6 rfl ?_
    obtain ⟨hg, h⟩ := h
    refine J_iast dc_Mo_readAll_325 (Eq.refl 326) rfl rfl hg ?_
    refine J_iconst (v := (-1 : Int32)) dc_Mo_readAll_326 (Eq.refl 327) rfl ?_
    refine J_istore (L' := [(6, .int (-1 : Int32)), (10, .int r2), (0, pv E 0), (1, .int x1), (2, .int x2), (3, .int x3), (5, .int x5), (7, .int x7), (9, .int x9)]) dc_Mo_readAll_327 (Eq.refl 329) (Nat.le_of_ble_eq_true rfl) rfl ?_
    refine J_iload dc_Mo_readAll_329 (Eq.refl 331) 8 rfl ?_
    refine J_iconst (v := (5 : Int32)) dc_Mo_readAll_331 (Eq.refl 332) rfl ?_
    refine J_icmp_lt dc_Mo_readAll_332 (Eq.refl 335) rfl (fun hc => ?_) (fun hc => ?_)
    · have h := h.1 hc
      refine J_aload_n dc_Mo_readAll_357 (Eq.refl 358) 2 rfl ?_
      refine J_iload_n dc_Mo_readAll_358 (Eq.refl 359) 3 rfl ?_
      refine J_iload dc_Mo_readAll_359 (Eq.refl 361) 1 rfl ?_
      refine J_callVI (As := [.int x1, .int r2]) (st := []) dc_Mo_readAll_361 (Eq.refl 364) lk_Mo_373 mi_Mo_takePlain rfl (Nat.le_of_ble_eq_true rfl) rfl rfl (Nat.le_of_ble_eq_true rfl) rfl (Nat.le_of_ble_eq_true rfl) (CI.mono h (fun r4 σ3 h => ?_))
      refine J_if_ne dc_Mo_readAll_364 (Eq.refl 367) rfl (fun hc => ?_) (fun hc => ?_)
      · have h := h.1 hc
        refine J_iconst (v := (2 : Int32)) dc_Mo_readAll_369 (Eq.refl 370) rfl ?_
        refine J_istore (L' := [(4, .int (2 : Int32)), (6, .int (-1 : Int32)), (10, .int r2), (0, pv E 0), (1, .int x1), (2, .int x2), (3, .int x3), (5, .int x5), (7, .int x7), (9, .int x9)]) dc_Mo_readAll_370 (Eq.refl 372) (Nat.le_of_ble_eq_true rfl) rfl ?_
        refine J_iload_n dc_Mo_readAll_372 (Eq.refl 373) 5 rfl ?_
        refine J_if_lt dc_Mo_readAll_373 (Eq.refl 376) rfl (fun hc => ?_) (fun hc => ?_)
        · have h := h.1 hc
          refine J_iconst (v := (0 : Int32)) dc_Mo_readAll_380 (Eq.refl 381) rfl ?_
          refine J_sub [3, 4, 5, 6, 0, 7, 1] rfl ?_
          exact h
        · have h := h.2 hc
          refine J_iconst (v := (1 : Int32)) dc_Mo_readAll_376 (Eq.refl 377) rfl ?_
          refine J_goto dc_Mo_readAll_377 rfl ?_
          refine J_sub [3, 4, 5, 6, 0, 7, 1] rfl ?_
          exact h
      · have h := h.2 hc
        refine J_iconst (v := (0 : Int32)) dc_Mo_readAll_367 (Eq.refl 368) rfl ?_
        exact J_zret dc_Mo_readAll_368 rfl rfl h
    · have h := h.2 hc
      refine J_aload_n dc_Mo_readAll_335 (Eq.refl 336) 2 rfl ?_
      refine J_dup dc_Mo_readAll_336 (Eq.refl 337) rfl ?_
      refine J_getI dc_Mo_readAll_337 (Eq.refl 340) fl_Mo_210 (Nat.le_of_ble_eq_true rfl) rfl (Or.inl rfl) ?_
      refine J_iconst (v := (1 : Int32)) dc_Mo_readAll_340 (Eq.refl 341) rfl ?_
      refine J_iadd dc_Mo_readAll_341 (Eq.refl 342) ?_
      refine J_putI dc_Mo_readAll_342 (Eq.refl 345) pl_Mo_210 (Nat.le_of_ble_eq_true rfl) rfl rfl ?_
      refine J_st (fun σ5 eσ5 => ?_)
      have h := h σ5 eσ5
      refine J_iinc (v := x3 + (1 : Int32)) (L' := [(3, .int (x3 + (1 : Int32))), (6, .int (-1 : Int32)), (10, .int r2), (0, pv E 0), (1, .int x1), (2, .int x2), (5, .int x5), (7, .int x7), (9, .int x9)]) dc_Mo_readAll_345 (Eq.refl 348) 5 rfl rfl (Nat.le_of_ble_eq_true rfl) rfl ?_
      refine J_iload dc_Mo_readAll_348 (Eq.refl 350) 2 rfl ?_
      refine J_istore_n (L' := [(2, .int r2), (3, .int (x3 + (1 : Int32))), (6, .int (-1 : Int32)), (10, .int r2), (0, pv E 0), (1, .int x1), (5, .int x5), (7, .int x7), (9, .int x9)]) dc_Mo_readAll_350 (Eq.refl 351) (Nat.le_of_ble_eq_true rfl) rfl ?_
      refine J_iconst (v := (3 : Int32)) dc_Mo_readAll_351 (Eq.refl 352) rfl ?_
      refine J_istore (L' := [(4, .int (3 : Int32)), (2, .int r2), (3, .int (x3 + (1 : Int32))), (6, .int (-1 : Int32)), (10, .int r2), (0, pv E 0), (1, .int x1), (5, .int x5), (7, .int x7), (9, .int x9)]) dc_Mo_readAll_352 (Eq.refl 354) (Nat.le_of_ble_eq_true rfl) rfl ?_
      refine J_goto dc_Mo_readAll_354 rfl ?_
      refine J_sub [5, 6, 1, 2, 0, 7, 3, 8] rfl ?_
      exact h
  · have h := h.2 hc
    refine J_aload_n dc_Mo_readAll_289 (Eq.refl 290) 0 rfl ?_
    refine J_iconst (v := (5 : Int32)) dc_Mo_readAll_290 (Eq.refl 291) rfl ?_
    refine J_aload_n dc_Mo_readAll_291 (Eq.refl 292) 0 rfl ?_
    refine J_getI dc_Mo_readAll_292 (Eq.refl 295) fl_Mo_210 (Nat.le_of_ble_eq_true rfl) rfl (Or.inl rfl) ?_
    refine J_callVI (As := [.int (5 : Int32), .int (gI σ 0 9)]) (st := []) dc_Mo_readAll_295 (Eq.refl 298) lk_Mo_343 mi_Mo_wrong rfl (Nat.le_of_ble_eq_true rfl) rfl rfl (Nat.le_of_ble_eq_true rfl) rfl (Nat.le_of_ble_eq_true rfl) (CI.mono h (fun r7 σ6 h => ?_))
    exact J_zret dc_Mo_readAll_298 rfl h.1 h.2
theorem b_Mo_readAll_381 {E : En_t} {d : Nat} {σ : S_t} {Q : Option Value → S_t → Prop} {x1 : Int32} {x2 : Int32} {x3 : Int32} {x4 : Int32} {x5 : Int32} {x6 : Int32} {s0 : Int32}
    (h : JE E (d + 1) m_Mo_readAll 383 [(0, pv E 0), (1, .int x1), (2, .int x2), (3, .int x3), (4, .int x4), (5, .int x5), (6, .int x6), (7, .int s0)] [] σ Q) :
    JE E (d + 1) m_Mo_readAll 381 [(0, pv E 0), (1, .int x1), (2, .int x2), (3, .int x3), (4, .int x4), (5, .int x5), (6, .int x6)] [.int s0] σ Q := by
  refine J_istore (L' := [(7, .int s0), (0, pv E 0), (1, .int x1), (2, .int x2), (3, .int x3), (4, .int x4), (5, .int x5), (6, .int x6)]) dc_Mo_readAll_381 (Eq.refl 383) (Nat.le_of_ble_eq_true rfl) rfl ?_
  refine J_sub [1, 2, 3, 4, 5, 6, 7, 0] rfl ?_
  exact h
theorem b_Mo_readAll_383 {E : En_t} {d : Nat} {σ : S_t} {Q : Option Value → S_t → Prop} {x1 : Int32} {x2 : Int32} {x3 : Int32} {x4 : Int32} {x5 : Int32} {x6 : Int32} {x7 : Int32}
    (h : JE E (d + 1) m_Mo_readAll 489 [(0, pv E 0), (1, .int x1), (2, .int x2), (3, .int x3), (4, .int x4), (5, .int x5), (6, .int x6), (7, .int x7)] [] σ Q) :
    JE E (d + 1) m_Mo_readAll 383 [(0, pv E 0), (1, .int x1), (2, .int x2), (3, .int x3), (4, .int x4), (5, .int x5), (6, .int x6), (7, .int x7)] [] σ Q := by
  refine J_goto dc_Mo_readAll_383 rfl ?_
  exact h
theorem b_Mo_readAll_418 {E : En_t} {d : Nat} {σ : S_t} {Q : Option Value → S_t → Prop} {x1 : Int32} {x2 : Int32} {x3 : Int32} {x5 : Int32} {x6 : Int32} {x7 : Int32} {s0 : Int32}
    (h : JE E (d + 1) m_Mo_readAll 489 [(0, pv E 0), (1, .int x1), (2, .int x2), (3, .int x3), (4, .int s0), (5, .int x5), (6, .int x6), (7, .int x7)] [] σ Q) :
    JE E (d + 1) m_Mo_readAll 418 [(0, pv E 0), (1, .int x1), (2, .int x2), (3, .int x3), (5, .int x5), (6, .int x6), (7, .int x7)] [.int s0] σ Q := by
  refine J_istore (L' := [(4, .int s0), (0, pv E 0), (1, .int x1), (2, .int x2), (3, .int x3), (5, .int x5), (6, .int x6), (7, .int x7)]) dc_Mo_readAll_418 (Eq.refl 420) (Nat.le_of_ble_eq_true rfl) rfl ?_
  refine J_goto dc_Mo_readAll_420 rfl ?_
  refine J_sub [1, 2, 3, 4, 0, 5, 6, 7] rfl ?_
  exact h
theorem b_Mo_readAll_442 {E : En_t} {d : Nat} {σ : S_t} {Q : Option Value → S_t → Prop} {x1 : Int32} {x2 : Int32} {x3 : Int32} {x4 : Int32} {x5 : Int32} {x6 : Int32} {s0 : Int32} {s1 : Int32}
    (h : (¬ s1 = s0 → CI E d m_Mo_wrong [pv E 0, .int (1 : Int32), .int (gI σ 0 9)] σ (fun r2 σ1 => narrow .boolean (.int r2) = .int r2 ∧ Q (some (.int r2)) σ1)) ∧ (s1 = s0 → vp_in x2 500 ∧ (((gI (sI σ 0 9 ((gI σ 0 9) + (1 : Int32))) 30 x2.toNatClampNeg) < 0 → JE E (d + 1) m_Mo_readAll 474 [(0, pv E 0), (1, .int x1), (2, .int (gI (sI σ 0 9 ((gI σ 0 9) + (1 : Int32))) 30 x2.toNatClampNeg)), (3, .int (x3 + (-1 : Int32))), (4, .int x4), (5, .int x5), (6, .int x6)] [.int (0 : Int32)] (sI σ 0 9 ((gI σ 0 9) + (1 : Int32))) Q) ∧ (¬ (gI (sI σ 0 9 ((gI σ 0 9) + (1 : Int32))) 30 x2.toNatClampNeg) < 0 → JE E (d + 1) m_Mo_readAll 474 [(0, pv E 0), (1, .int x1), (2, .int (gI (sI σ 0 9 ((gI σ 0 9) + (1 : Int32))) 30 x2.toNatClampNeg)), (3, .int (x3 + (-1 : Int32))), (4, .int x4), (5, .int x5), (6, .int x6)] [.int (1 : Int32)] (sI σ 0 9 ((gI σ 0 9) + (1 : Int32))) Q)))) :
    JE E (d + 1) m_Mo_readAll 442 [(0, pv E 0), (1, .int x1), (2, .int x2), (3, .int x3), (4, .int x4), (5, .int x5), (6, .int x6)] [.int s0, .int s1] σ Q := by
  refine J_icmp_ne dc_Mo_readAll_442 (Eq.refl 445) rfl (fun hc => ?_) (fun hc => ?_)
  · have h := h.1 hc
    refine J_aload_n dc_Mo_readAll_479 (Eq.refl 480) 0 rfl ?_
    refine J_iconst (v := (1 : Int32)) dc_Mo_readAll_480 (Eq.refl 481) rfl ?_
    refine J_aload_n dc_Mo_readAll_481 (Eq.refl 482) 0 rfl ?_
    refine J_getI dc_Mo_readAll_482 (Eq.refl 485) fl_Mo_210 (Nat.le_of_ble_eq_true rfl) rfl (Or.inl rfl) ?_
    refine J_callVI (As := [.int (1 : Int32), .int (gI σ 0 9)]) (st := []) dc_Mo_readAll_485 (Eq.refl 488) lk_Mo_343 mi_Mo_wrong rfl (Nat.le_of_ble_eq_true rfl) rfl rfl (Nat.le_of_ble_eq_true rfl) rfl (Nat.le_of_ble_eq_true rfl) (CI.mono h (fun r2 σ1 h => ?_))
    exact J_zret dc_Mo_readAll_488 rfl h.1 h.2
  · have h := h.2 hc
    refine J_aload_n dc_Mo_readAll_445 (Eq.refl 446) 0 rfl ?_
    refine J_dup dc_Mo_readAll_446 (Eq.refl 447) rfl ?_
    refine J_getI dc_Mo_readAll_447 (Eq.refl 450) fl_Mo_210 (Nat.le_of_ble_eq_true rfl) rfl (Or.inl rfl) ?_
    refine J_iconst (v := (1 : Int32)) dc_Mo_readAll_450 (Eq.refl 451) rfl ?_
    refine J_iadd dc_Mo_readAll_451 (Eq.refl 452) ?_
    refine J_putI dc_Mo_readAll_452 (Eq.refl 455) pl_Mo_210 (Nat.le_of_ble_eq_true rfl) rfl rfl ?_
    refine J_iinc (v := x3 + (-1 : Int32)) (L' := [(3, .int (x3 + (-1 : Int32))), (0, pv E 0), (1, .int x1), (2, .int x2), (4, .int x4), (5, .int x5), (6, .int x6)]) dc_Mo_readAll_455 (Eq.refl 458) 3 rfl rfl (Nat.le_of_ble_eq_true rfl) rfl ?_
    refine J_aload_n dc_Mo_readAll_458 (Eq.refl 459) 1 rfl ?_
    refine J_getF (y := 30) dc_Mo_readAll_459 (Eq.refl 462) fl_Mo_105 (Nat.le_of_ble_eq_true rfl) rfl (Or.inl rfl) rfl ?_
    refine J_iload_n dc_Mo_readAll_462 (Eq.refl 463) 3 rfl ?_
    obtain ⟨hg, h⟩ := h
    refine J_iald dc_Mo_readAll_463 (Eq.refl 464) rfl rfl hg ?_
    refine J_istore_n (L' := [(2, .int (gI (sI σ 0 9 ((gI σ 0 9) + (1 : Int32))) 30 x2.toNatClampNeg)), (3, .int (x3 + (-1 : Int32))), (0, pv E 0), (1, .int x1), (4, .int x4), (5, .int x5), (6, .int x6)]) dc_Mo_readAll_464 (Eq.refl 465) (Nat.le_of_ble_eq_true rfl) rfl ?_
    refine J_iload_n dc_Mo_readAll_465 (Eq.refl 466) 0 rfl ?_
    refine J_if_lt dc_Mo_readAll_466 (Eq.refl 469) rfl (fun hc => ?_) (fun hc => ?_)
    · have h := h.1 hc
      refine J_iconst (v := (0 : Int32)) dc_Mo_readAll_473 (Eq.refl 474) rfl ?_
      refine J_sub [2, 3, 0, 1, 4, 5, 6] rfl ?_
      exact h
    · have h := h.2 hc
      refine J_iconst (v := (1 : Int32)) dc_Mo_readAll_469 (Eq.refl 470) rfl ?_
      refine J_goto dc_Mo_readAll_470 rfl ?_
      refine J_sub [2, 3, 0, 1, 4, 5, 6] rfl ?_
      exact h
theorem b_Mo_readAll_474 {E : En_t} {d : Nat} {σ : S_t} {Q : Option Value → S_t → Prop} {x1 : Int32} {x2 : Int32} {x3 : Int32} {x4 : Int32} {x5 : Int32} {x6 : Int32} {s0 : Int32}
    (h : JE E (d + 1) m_Mo_readAll 489 [(0, pv E 0), (1, .int x1), (2, .int x2), (3, .int x3), (4, .int x4), (5, .int x5), (6, .int x6), (7, .int s0)] [] σ Q) :
    JE E (d + 1) m_Mo_readAll 474 [(0, pv E 0), (1, .int x1), (2, .int x2), (3, .int x3), (4, .int x4), (5, .int x5), (6, .int x6)] [.int s0] σ Q := by
  refine J_istore (L' := [(7, .int s0), (0, pv E 0), (1, .int x1), (2, .int x2), (3, .int x3), (4, .int x4), (5, .int x5), (6, .int x6)]) dc_Mo_readAll_474 (Eq.refl 476) (Nat.le_of_ble_eq_true rfl) rfl ?_
  refine J_goto dc_Mo_readAll_476 rfl ?_
  refine J_sub [1, 2, 3, 4, 5, 6, 7, 0] rfl ?_
  exact h
theorem b_Mo_readAll_489 {E : En_t} {d : Nat} {σ : S_t} {Q : Option Value → S_t → Prop} {x1 : Int32} {x2 : Int32} {x3 : Int32} {x4 : Int32} {x5 : Int32} {x6 : Int32} {x7 : Int32}
    (h : JE E (d + 1) m_Mo_readAll 41 [(0, pv E 0), (1, .int x1), (2, .int x2), (3, .int x3), (4, .int x4), (5, .int x5), (6, .int x6), (7, .int x7)] [] σ Q) :
    JE E (d + 1) m_Mo_readAll 489 [(0, pv E 0), (1, .int x1), (2, .int x2), (3, .int x3), (4, .int x4), (5, .int x5), (6, .int x6), (7, .int x7)] [] σ Q := by
  refine J_goto dc_Mo_readAll_489 rfl ?_
  exact h
theorem b_Mo_readAll_517 {E : En_t} {d : Nat} {σ : S_t} {Q : Option Value → S_t → Prop}
    (h : Q (some (.int (1 : Int32))) σ) :
    JE E (d + 1) m_Mo_readAll 517 [] [] σ Q := by
  refine J_iconst (v := (1 : Int32)) dc_Mo_readAll_517 (Eq.refl 518) rfl ?_
  refine J_goto dc_Mo_readAll_518 rfl ?_
  exact J_zret dc_Mo_readAll_522 rfl rfl h
