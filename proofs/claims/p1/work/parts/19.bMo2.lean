theorem dc_Mo_halved_0 : decode m_Mo_halved.2.1 0 = .ok (.iconst 0, 1) := by decide +kernel
theorem dc_Mo_halved_1 : decode m_Mo_halved.2.1 1 = .ok (.istore_n 2, 1) := by decide +kernel
theorem dc_Mo_halved_2 : decode m_Mo_halved.2.1 2 = .ok (.lconst 0, 1) := by decide +kernel
theorem dc_Mo_halved_3 : decode m_Mo_halved.2.1 3 = .ok (.lstore_n 3, 1) := by decide +kernel
theorem dc_Mo_halved_4 : decode m_Mo_halved.2.1 4 = .ok (.lconst 1, 1) := by decide +kernel
theorem dc_Mo_halved_5 : decode m_Mo_halved.2.1 5 = .ok (.iload_n 1, 1) := by decide +kernel
theorem dc_Mo_halved_6 : decode m_Mo_halved.2.1 6 = .ok (.lshl, 1) := by decide +kernel
theorem dc_Mo_halved_7 : decode m_Mo_halved.2.1 7 = .ok (.lconst 1, 1) := by decide +kernel
theorem dc_Mo_halved_8 : decode m_Mo_halved.2.1 8 = .ok (.lsub, 1) := by decide +kernel
theorem dc_Mo_halved_9 : decode m_Mo_halved.2.1 9 = .ok (.lstore 5, 2) := by decide +kernel
theorem dc_Mo_halved_11 : decode m_Mo_halved.2.1 11 = .ok (.iconst 0, 1) := by decide +kernel
theorem dc_Mo_halved_12 : decode m_Mo_halved.2.1 12 = .ok (.istore 7, 2) := by decide +kernel
theorem dc_Mo_halved_14 : decode m_Mo_halved.2.1 14 = .ok (.aload_n 0, 1) := by decide +kernel
theorem dc_Mo_halved_15 : decode m_Mo_halved.2.1 15 = .ok (.getfield 175, 3) := by decide +kernel
theorem dc_Mo_halved_18 : decode m_Mo_halved.2.1 18 = .ok (.istore 8, 2) := by decide +kernel
theorem dc_Mo_halved_20 : decode m_Mo_halved.2.1 20 = .ok (.iconst 1, 1) := by decide +kernel
theorem dc_Mo_halved_21 : decode m_Mo_halved.2.1 21 = .ok (.istore 9, 2) := by decide +kernel
theorem dc_Mo_halved_23 : decode m_Mo_halved.2.1 23 = .ok (.iload 7, 2) := by decide +kernel
theorem dc_Mo_halved_25 : decode m_Mo_halved.2.1 25 = .ok (.iload 8, 2) := by decide +kernel
theorem dc_Mo_halved_27 : decode m_Mo_halved.2.1 27 = .ok (.if_icmp .lt 9, 3) := by decide +kernel
theorem dc_Mo_halved_30 : decode m_Mo_halved.2.1 30 = .ok (.lload_n 3, 1) := by decide +kernel
theorem dc_Mo_halved_31 : decode m_Mo_halved.2.1 31 = .ok (.lconst 0, 1) := by decide +kernel
theorem dc_Mo_halved_32 : decode m_Mo_halved.2.1 32 = .ok (.lcmp, 1) := by decide +kernel
theorem dc_Mo_halved_33 : decode m_Mo_halved.2.1 33 = .ok (.ifCond .le 83, 3) := by decide +kernel
theorem dc_Mo_halved_36 : decode m_Mo_halved.2.1 36 = .ok (.ldc2_w 181, 3) := by decide +kernel
theorem dc_Mo_halved_39 : decode m_Mo_halved.2.1 39 = .ok (.lload_n 3, 1) := by decide +kernel
theorem dc_Mo_halved_40 : decode m_Mo_halved.2.1 40 = .ok (.lmul, 1) := by decide +kernel
theorem dc_Mo_halved_41 : decode m_Mo_halved.2.1 41 = .ok (.iload 7, 2) := by decide +kernel
theorem dc_Mo_halved_43 : decode m_Mo_halved.2.1 43 = .ok (.iload 8, 2) := by decide +kernel
theorem dc_Mo_halved_45 : decode m_Mo_halved.2.1 45 = .ok (.if_icmp .ge 13, 3) := by decide +kernel
theorem dc_Mo_halved_48 : decode m_Mo_halved.2.1 48 = .ok (.aload_n 0, 1) := by decide +kernel
theorem dc_Mo_halved_49 : decode m_Mo_halved.2.1 49 = .ok (.getfield 16, 3) := by decide +kernel
theorem dc_Mo_halved_52 : decode m_Mo_halved.2.1 52 = .ok (.iload 7, 2) := by decide +kernel
theorem dc_Mo_halved_54 : decode m_Mo_halved.2.1 54 = .ok (.iaload, 1) := by decide +kernel
theorem dc_Mo_halved_55 : decode m_Mo_halved.2.1 55 = .ok (.goto 4, 3) := by decide +kernel
theorem dc_Mo_halved_58 : decode m_Mo_halved.2.1 58 = .ok (.iconst 0, 1) := by decide +kernel
theorem dc_Mo_halved_59 : decode m_Mo_halved.2.1 59 = .ok (.i2l, 1) := by decide +kernel
theorem dc_Mo_halved_60 : decode m_Mo_halved.2.1 60 = .ok (.ladd, 1) := by decide +kernel
theorem dc_Mo_halved_61 : decode m_Mo_halved.2.1 61 = .ok (.lstore_n 3, 1) := by decide +kernel
theorem dc_Mo_halved_62 : decode m_Mo_halved.2.1 62 = .ok (.iinc 7 1, 3) := by decide +kernel
theorem dc_Mo_halved_65 : decode m_Mo_halved.2.1 65 = .ok (.lload_n 3, 1) := by decide +kernel
theorem dc_Mo_halved_66 : decode m_Mo_halved.2.1 66 = .ok (.iload_n 1, 1) := by decide +kernel
theorem dc_Mo_halved_67 : decode m_Mo_halved.2.1 67 = .ok (.lshr, 1) := by decide +kernel
theorem dc_Mo_halved_68 : decode m_Mo_halved.2.1 68 = .ok (.l2i, 1) := by decide +kernel
theorem dc_Mo_halved_69 : decode m_Mo_halved.2.1 69 = .ok (.istore 10, 2) := by decide +kernel
theorem dc_Mo_halved_71 : decode m_Mo_halved.2.1 71 = .ok (.lload_n 3, 1) := by decide +kernel
theorem dc_Mo_halved_72 : decode m_Mo_halved.2.1 72 = .ok (.lload 5, 2) := by decide +kernel
theorem dc_Mo_halved_74 : decode m_Mo_halved.2.1 74 = .ok (.land, 1) := by decide +kernel
theorem dc_Mo_halved_75 : decode m_Mo_halved.2.1 75 = .ok (.lstore_n 3, 1) := by decide +kernel
theorem dc_Mo_halved_76 : decode m_Mo_halved.2.1 76 = .ok (.iload 9, 2) := by decide +kernel
theorem dc_Mo_halved_78 : decode m_Mo_halved.2.1 78 = .ok (.ifCond .eq 21, 3) := by decide +kernel
theorem dc_Mo_halved_81 : decode m_Mo_halved.2.1 81 = .ok (.iload 10, 2) := by decide +kernel
theorem dc_Mo_halved_83 : decode m_Mo_halved.2.1 83 = .ok (.ifCond .ne 16, 3) := by decide +kernel
theorem dc_Mo_halved_86 : decode m_Mo_halved.2.1 86 = .ok (.aload_n 0, 1) := by decide +kernel
theorem dc_Mo_halved_87 : decode m_Mo_halved.2.1 87 = .ok (.dup, 1) := by decide +kernel
theorem dc_Mo_halved_88 : decode m_Mo_halved.2.1 88 = .ok (.getfield 178, 3) := by decide +kernel
theorem dc_Mo_halved_91 : decode m_Mo_halved.2.1 91 = .ok (.iconst 1, 1) := by decide +kernel
theorem dc_Mo_halved_92 : decode m_Mo_halved.2.1 92 = .ok (.isub, 1) := by decide +kernel
theorem dc_Mo_halved_93 : decode m_Mo_halved.2.1 93 = .ok (.putfield 178, 3) := by decide +kernel
theorem dc_Mo_halved_96 : decode m_Mo_halved.2.1 96 = .ok (.goto 17, 3) := by decide +kernel
theorem dc_Mo_halved_99 : decode m_Mo_halved.2.1 99 = .ok (.iconst 0, 1) := by decide +kernel
theorem dc_Mo_halved_100 : decode m_Mo_halved.2.1 100 = .ok (.istore 9, 2) := by decide +kernel
theorem dc_Mo_halved_102 : decode m_Mo_halved.2.1 102 = .ok (.aload_n 0, 1) := by decide +kernel
theorem dc_Mo_halved_103 : decode m_Mo_halved.2.1 103 = .ok (.getfield 16, 3) := by decide +kernel
theorem dc_Mo_halved_106 : decode m_Mo_halved.2.1 106 = .ok (.iload_n 2, 1) := by decide +kernel
theorem dc_Mo_halved_107 : decode m_Mo_halved.2.1 107 = .ok (.iload 10, 2) := by decide +kernel
theorem dc_Mo_halved_109 : decode m_Mo_halved.2.1 109 = .ok (.iastore, 1) := by decide +kernel
theorem dc_Mo_halved_110 : decode m_Mo_halved.2.1 110 = .ok (.iinc 2 1, 3) := by decide +kernel
theorem dc_Mo_halved_113 : decode m_Mo_halved.2.1 113 = .ok (.goto (-90), 3) := by decide +kernel
theorem dc_Mo_halved_116 : decode m_Mo_halved.2.1 116 = .ok (.aload_n 0, 1) := by decide +kernel
theorem dc_Mo_halved_117 : decode m_Mo_halved.2.1 117 = .ok (.iload_n 2, 1) := by decide +kernel
theorem dc_Mo_halved_118 : decode m_Mo_halved.2.1 118 = .ok (.putfield 175, 3) := by decide +kernel
theorem dc_Mo_halved_121 : decode m_Mo_halved.2.1 121 = .ok (.aload_n 0, 1) := by decide +kernel
theorem dc_Mo_halved_122 : decode m_Mo_halved.2.1 122 = .ok (.invokevirtual 183, 3) := by decide +kernel
theorem dc_Mo_halved_125 : decode m_Mo_halved.2.1 125 = .ok (.return_, 1) := by decide +kernel
theorem b_Mo_halved_0 {E : En_t} {d : Nat} {σ : S_t} {Q : Option Value → S_t → Prop} {x1 : Int32}
    (h : JE E (d + 1) m_Mo_halved 23 [(0, pv E 0), (1, .int x1), (2, .int (0 : Int32)), (3, .long (0 : Int64)), (5, .long (((1 : Int64) <<< (x1.toInt64 &&& 63)) - (1 : Int64))), (7, .int (0 : Int32)), (8, .int (gI σ 0 6)), (9, .int (1 : Int32))] [] σ Q) :
    JE E (d + 1) m_Mo_halved 0 [(0, pv E 0), (1, .int x1)] [] σ Q := by
  refine J_iconst (v := (0 : Int32)) dc_Mo_halved_0 (Eq.refl 1) rfl ?_
  refine J_istore_n (L' := [(2, .int (0 : Int32)), (0, pv E 0), (1, .int x1)]) dc_Mo_halved_1 (Eq.refl 2) (Nat.le_of_ble_eq_true rfl) rfl ?_
  refine J_lconst (v := (0 : Int64)) dc_Mo_halved_2 (Eq.refl 3) rfl ?_
  refine J_lstore_n (L' := [(3, .long (0 : Int64)), (2, .int (0 : Int32)), (0, pv E 0), (1, .int x1)]) dc_Mo_halved_3 (Eq.refl 4) (Nat.le_of_ble_eq_true rfl) rfl ?_
  refine J_lconst (v := (1 : Int64)) dc_Mo_halved_4 (Eq.refl 5) rfl ?_
  refine J_iload_n dc_Mo_halved_5 (Eq.refl 6) 3 rfl ?_
  refine J_lshl dc_Mo_halved_6 (Eq.refl 7) ?_
  refine J_lconst (v := (1 : Int64)) dc_Mo_halved_7 (Eq.refl 8) rfl ?_
  refine J_lsub dc_Mo_halved_8 (Eq.refl 9) ?_
  refine J_lstore (L' := [(5, .long (((1 : Int64) <<< (x1.toInt64 &&& 63)) - (1 : Int64))), (3, .long (0 : Int64)), (2, .int (0 : Int32)), (0, pv E 0), (1, .int x1)]) dc_Mo_halved_9 (Eq.refl 11) (Nat.le_of_ble_eq_true rfl) rfl ?_
  refine J_iconst (v := (0 : Int32)) dc_Mo_halved_11 (Eq.refl 12) rfl ?_
  refine J_istore (L' := [(7, .int (0 : Int32)), (5, .long (((1 : Int64) <<< (x1.toInt64 &&& 63)) - (1 : Int64))), (3, .long (0 : Int64)), (2, .int (0 : Int32)), (0, pv E 0), (1, .int x1)]) dc_Mo_halved_12 (Eq.refl 14) (Nat.le_of_ble_eq_true rfl) rfl ?_
  refine J_aload_n dc_Mo_halved_14 (Eq.refl 15) 4 rfl ?_
  refine J_getI dc_Mo_halved_15 (Eq.refl 18) fl_Mo_175 (Nat.le_of_ble_eq_true rfl) rfl (Or.inl rfl) ?_
  refine J_istore (L' := [(8, .int (gI σ 0 6)), (7, .int (0 : Int32)), (5, .long (((1 : Int64) <<< (x1.toInt64 &&& 63)) - (1 : Int64))), (3, .long (0 : Int64)), (2, .int (0 : Int32)), (0, pv E 0), (1, .int x1)]) dc_Mo_halved_18 (Eq.refl 20) (Nat.le_of_ble_eq_true rfl) rfl ?_
  refine J_iconst (v := (1 : Int32)) dc_Mo_halved_20 (Eq.refl 21) rfl ?_
  refine J_istore (L' := [(9, .int (1 : Int32)), (8, .int (gI σ 0 6)), (7, .int (0 : Int32)), (5, .long (((1 : Int64) <<< (x1.toInt64 &&& 63)) - (1 : Int64))), (3, .long (0 : Int64)), (2, .int (0 : Int32)), (0, pv E 0), (1, .int x1)]) dc_Mo_halved_21 (Eq.refl 23) (Nat.le_of_ble_eq_true rfl) rfl ?_
  refine J_sub [6, 7, 5, 4, 3, 2, 1, 0] rfl ?_
  exact h
theorem b_Mo_halved_23 {E : En_t} {d : Nat} {σ : S_t} {Q : Option Value → S_t → Prop} {x1 : Int32} {x2 : Int32} {x3 : Int64} {x5 : Int64} {x7 : Int32} {x8 : Int32} {x9 : Int32}
    (h : (x7 < x8 → JE E (d + 1) m_Mo_halved 36 [(0, pv E 0), (1, .int x1), (2, .int x2), (3, .long x3), (5, .long x5), (7, .int x7), (8, .int x8), (9, .int x9)] [] σ Q) ∧ (¬ x7 < x8 → ((lg_cmp x3 (0 : Int64)) ≤ 0 → CV E d m_Mo_trim [pv E 0] (sI σ 0 6 x2) (fun σ1 => Q none σ1)) ∧ (¬ (lg_cmp x3 (0 : Int64)) ≤ 0 → JE E (d + 1) m_Mo_halved 36 [(0, pv E 0), (1, .int x1), (2, .int x2), (3, .long x3), (5, .long x5), (7, .int x7), (8, .int x8), (9, .int x9)] [] σ Q))) :
    JE E (d + 1) m_Mo_halved 23 [(0, pv E 0), (1, .int x1), (2, .int x2), (3, .long x3), (5, .long x5), (7, .int x7), (8, .int x8), (9, .int x9)] [] σ Q := by
  refine J_iload dc_Mo_halved_23 (Eq.refl 25) 5 rfl ?_
  refine J_iload dc_Mo_halved_25 (Eq.refl 27) 6 rfl ?_
  refine J_icmp_lt dc_Mo_halved_27 (Eq.refl 30) rfl (fun hc => ?_) (fun hc => ?_)
  · have h := h.1 hc
    exact h
  · have h := h.2 hc
    refine J_lload_n dc_Mo_halved_30 (Eq.refl 31) 3 rfl ?_
    refine J_lconst (v := (0 : Int64)) dc_Mo_halved_31 (Eq.refl 32) rfl ?_
    refine J_lcmp dc_Mo_halved_32 (Eq.refl 33) ?_
    refine J_if_le dc_Mo_halved_33 (Eq.refl 36) rfl (fun hc => ?_) (fun hc => ?_)
    · have h := h.1 hc
      refine J_aload_n dc_Mo_halved_116 (Eq.refl 117) 0 rfl ?_
      refine J_iload_n dc_Mo_halved_117 (Eq.refl 118) 2 rfl ?_
      refine J_putI dc_Mo_halved_118 (Eq.refl 121) pl_Mo_175 (Nat.le_of_ble_eq_true rfl) rfl rfl ?_
      refine J_aload_n dc_Mo_halved_121 (Eq.refl 122) 0 rfl ?_
      refine J_callVV (As := []) (st := []) dc_Mo_halved_122 (Eq.refl 125) lk_Mo_183 mi_Mo_trim rfl (Nat.le_of_ble_eq_true rfl) rfl rfl (Nat.le_of_ble_eq_true rfl) rfl (Nat.le_of_ble_eq_true rfl) (CV.mono h (fun σ1 h => ?_))
      exact J_vret dc_Mo_halved_125 rfl h
    · have h := h.2 hc
      exact h
theorem b_Mo_halved_36 {E : En_t} {d : Nat} {σ : S_t} {Q : Option Value → S_t → Prop} {x1 : Int32} {x2 : Int32} {x3 : Int64} {x5 : Int64} {x7 : Int32} {x8 : Int32} {x9 : Int32}
    (h : (x8 ≤ x7 → JE E (d + 1) m_Mo_halved 59 [(0, pv E 0), (1, .int x1), (2, .int x2), (5, .long x5), (7, .int x7), (8, .int x8), (9, .int x9)] [.int (0 : Int32), .long ((10 : Int64) * x3)] σ Q) ∧ (¬ x8 ≤ x7 → vp_in x7 6000 ∧ (JE E (d + 1) m_Mo_halved 59 [(0, pv E 0), (1, .int x1), (2, .int x2), (5, .long x5), (7, .int x7), (8, .int x8), (9, .int x9)] [.int (gI σ 3 x7.toNatClampNeg), .long ((10 : Int64) * x3)] σ Q))) :
    JE E (d + 1) m_Mo_halved 36 [(0, pv E 0), (1, .int x1), (2, .int x2), (3, .long x3), (5, .long x5), (7, .int x7), (8, .int x8), (9, .int x9)] [] σ Q := by
  refine J_ldc2 dc_Mo_halved_36 (Eq.refl 39) kc_Mo_181 ?_
  refine J_lload_n dc_Mo_halved_39 (Eq.refl 40) 3 rfl ?_
  refine J_lmul dc_Mo_halved_40 (Eq.refl 41) ?_
  refine J_iload dc_Mo_halved_41 (Eq.refl 43) 5 rfl ?_
  refine J_iload dc_Mo_halved_43 (Eq.refl 45) 6 rfl ?_
  refine J_icmp_ge dc_Mo_halved_45 (Eq.refl 48) rfl (fun hc => ?_) (fun hc => ?_)
  · have h := h.1 hc
    refine J_iconst (v := (0 : Int32)) dc_Mo_halved_58 (Eq.refl 59) rfl ?_
    refine J_sub [0, 1, 2, 4, 5, 6, 7] rfl ?_
    exact h
  · have h := h.2 hc
    refine J_aload_n dc_Mo_halved_48 (Eq.refl 49) 0 rfl ?_
    refine J_getF (y := 3) dc_Mo_halved_49 (Eq.refl 52) fl_Mo_16 (Nat.le_of_ble_eq_true rfl) rfl (Or.inl rfl) rfl ?_
    refine J_iload dc_Mo_halved_52 (Eq.refl 54) 5 rfl ?_
    obtain ⟨hg, h⟩ := h
    refine J_iald dc_Mo_halved_54 (Eq.refl 55) rfl rfl hg ?_
    refine J_goto dc_Mo_halved_55 rfl ?_
    refine J_sub [0, 1, 2, 4, 5, 6, 7] rfl ?_
    exact h
theorem b_Mo_halved_59 {E : En_t} {d : Nat} {σ : S_t} {Q : Option Value → S_t → Prop} {x1 : Int32} {x2 : Int32} {x5 : Int64} {x7 : Int32} {x8 : Int32} {x9 : Int32} {s0 : Int32} {s1 : Int64}
    (h : (x9 = 0 → JE E (d + 1) m_Mo_halved 99 [(0, pv E 0), (1, .int x1), (2, .int x2), (3, .long ((s1 + s0.toInt64) &&& x5)), (5, .long x5), (7, .int (x7 + (1 : Int32))), (8, .int x8), (10, .int (((s1 + s0.toInt64) >>> (x1.toInt64 &&& 63)).toInt32))] [] σ Q) ∧ (¬ x9 = 0 → (¬ (((s1 + s0.toInt64) >>> (x1.toInt64 &&& 63)).toInt32) = 0 → JE E (d + 1) m_Mo_halved 99 [(0, pv E 0), (1, .int x1), (2, .int x2), (3, .long ((s1 + s0.toInt64) &&& x5)), (5, .long x5), (7, .int (x7 + (1 : Int32))), (8, .int x8), (10, .int (((s1 + s0.toInt64) >>> (x1.toInt64 &&& 63)).toInt32))] [] σ Q) ∧ ((((s1 + s0.toInt64) >>> (x1.toInt64 &&& 63)).toInt32) = 0 → JE E (d + 1) m_Mo_halved 113 [(0, pv E 0), (1, .int x1), (2, .int x2), (3, .long ((s1 + s0.toInt64) &&& x5)), (5, .long x5), (7, .int (x7 + (1 : Int32))), (8, .int x8), (9, .int x9)] [] (sI σ 0 7 ((gI σ 0 7) - (1 : Int32))) Q))) :
    JE E (d + 1) m_Mo_halved 59 [(0, pv E 0), (1, .int x1), (2, .int x2), (5, .long x5), (7, .int x7), (8, .int x8), (9, .int x9)] [.int s0, .long s1] σ Q := by
  refine J_i2l dc_Mo_halved_59 (Eq.refl 60) ?_
  refine J_ladd dc_Mo_halved_60 (Eq.refl 61) ?_
  refine J_lstore_n (L' := [(3, .long (s1 + s0.toInt64)), (0, pv E 0), (1, .int x1), (2, .int x2), (5, .long x5), (7, .int x7), (8, .int x8), (9, .int x9)]) dc_Mo_halved_61 (Eq.refl 62) (Nat.le_of_ble_eq_true rfl) rfl ?_
  refine J_iinc (v := x7 + (1 : Int32)) (L' := [(7, .int (x7 + (1 : Int32))), (3, .long (s1 + s0.toInt64)), (0, pv E 0), (1, .int x1), (2, .int x2), (5, .long x5), (8, .int x8), (9, .int x9)]) dc_Mo_halved_62 (Eq.refl 65) 5 rfl rfl (Nat.le_of_ble_eq_true rfl) rfl ?_
  refine J_lload_n dc_Mo_halved_65 (Eq.refl 66) 1 rfl ?_
  refine J_iload_n dc_Mo_halved_66 (Eq.refl 67) 3 rfl ?_
  refine J_lshr dc_Mo_halved_67 (Eq.refl 68) ?_
  refine J_l2i dc_Mo_halved_68 (Eq.refl 69) ?_
  refine J_istore (L' := [(10, .int (((s1 + s0.toInt64) >>> (x1.toInt64 &&& 63)).toInt32)), (7, .int (x7 + (1 : Int32))), (3, .long (s1 + s0.toInt64)), (0, pv E 0), (1, .int x1), (2, .int x2), (5, .long x5), (8, .int x8), (9, .int x9)]) dc_Mo_halved_69 (Eq.refl 71) (Nat.le_of_ble_eq_true rfl) rfl ?_
  refine J_lload_n dc_Mo_halved_71 (Eq.refl 72) 2 rfl ?_
  refine J_lload dc_Mo_halved_72 (Eq.refl 74) 6 rfl ?_
  refine J_land dc_Mo_halved_74 (Eq.refl 75) ?_
  refine J_lstore_n (L' := [(3, .long ((s1 + s0.toInt64) &&& x5)), (10, .int (((s1 + s0.toInt64) >>> (x1.toInt64 &&& 63)).toInt32)), (7, .int (x7 + (1 : Int32))), (0, pv E 0), (1, .int x1), (2, .int x2), (5, .long x5), (8, .int x8), (9, .int x9)]) dc_Mo_halved_75 (Eq.refl 76) (Nat.le_of_ble_eq_true rfl) rfl ?_
  refine J_iload dc_Mo_halved_76 (Eq.refl 78) 8 rfl ?_
  refine J_if_eq dc_Mo_halved_78 (Eq.refl 81) rfl (fun hc => ?_) (fun hc => ?_)
  · have h := h.1 hc
    refine J_sub [3, 4, 5, 0, 6, 2, 7, 1] rfl ?_
    exact h
  · have h := h.2 hc
    refine J_iload dc_Mo_halved_81 (Eq.refl 83) 1 rfl ?_
    refine J_if_ne dc_Mo_halved_83 (Eq.refl 86) rfl (fun hc => ?_) (fun hc => ?_)
    · have h := h.1 hc
      refine J_sub [3, 4, 5, 0, 6, 2, 7, 1] rfl ?_
      exact h
    · have h := h.2 hc
      refine J_aload_n dc_Mo_halved_86 (Eq.refl 87) 3 rfl ?_
      refine J_dup dc_Mo_halved_87 (Eq.refl 88) rfl ?_
      refine J_getI dc_Mo_halved_88 (Eq.refl 91) fl_Mo_178 (Nat.le_of_ble_eq_true rfl) rfl (Or.inl rfl) ?_
      refine J_iconst (v := (1 : Int32)) dc_Mo_halved_91 (Eq.refl 92) rfl ?_
      refine J_isub dc_Mo_halved_92 (Eq.refl 93) ?_
      refine J_putI dc_Mo_halved_93 (Eq.refl 96) pl_Mo_178 (Nat.le_of_ble_eq_true rfl) rfl rfl ?_
      refine J_goto dc_Mo_halved_96 rfl ?_
      refine J_sub [3, 4, 5, 0, 6, 2, 7, 8] rfl ?_
      exact h
theorem b_Mo_halved_99 {E : En_t} {d : Nat} {σ : S_t} {Q : Option Value → S_t → Prop} {x1 : Int32} {x2 : Int32} {x3 : Int64} {x5 : Int64} {x7 : Int32} {x8 : Int32} {x10 : Int32}
    (h : vp_in x2 6000 ∧ (JE E (d + 1) m_Mo_halved 113 [(0, pv E 0), (1, .int x1), (2, .int (x2 + (1 : Int32))), (3, .long x3), (5, .long x5), (7, .int x7), (8, .int x8), (9, .int (0 : Int32))] [] (sI σ 3 x2.toNatClampNeg x10) Q)) :
    JE E (d + 1) m_Mo_halved 99 [(0, pv E 0), (1, .int x1), (2, .int x2), (3, .long x3), (5, .long x5), (7, .int x7), (8, .int x8), (10, .int x10)] [] σ Q := by
  refine J_iconst (v := (0 : Int32)) dc_Mo_halved_99 (Eq.refl 100) rfl ?_
  refine J_istore (L' := [(9, .int (0 : Int32)), (0, pv E 0), (1, .int x1), (2, .int x2), (3, .long x3), (5, .long x5), (7, .int x7), (8, .int x8), (10, .int x10)]) dc_Mo_halved_100 (Eq.refl 102) (Nat.le_of_ble_eq_true rfl) rfl ?_
  refine J_aload_n dc_Mo_halved_102 (Eq.refl 103) 1 rfl ?_
  refine J_getF (y := 3) dc_Mo_halved_103 (Eq.refl 106) fl_Mo_16 (Nat.le_of_ble_eq_true rfl) rfl (Or.inl rfl) rfl ?_
  refine J_iload_n dc_Mo_halved_106 (Eq.refl 107) 3 rfl ?_
  refine J_iload dc_Mo_halved_107 (Eq.refl 109) 8 rfl ?_
  obtain ⟨hg, h⟩ := h
  refine J_iast dc_Mo_halved_109 (Eq.refl 110) rfl rfl hg ?_
  refine J_iinc (v := x2 + (1 : Int32)) (L' := [(2, .int (x2 + (1 : Int32))), (9, .int (0 : Int32)), (0, pv E 0), (1, .int x1), (3, .long x3), (5, .long x5), (7, .int x7), (8, .int x8), (10, .int x10)]) dc_Mo_halved_110 (Eq.refl 113) 3 rfl rfl (Nat.le_of_ble_eq_true rfl) rfl ?_
  refine J_sub [2, 3, 0, 4, 5, 6, 7, 1] rfl ?_
  exact h
theorem b_Mo_halved_113 {E : En_t} {d : Nat} {σ : S_t} {Q : Option Value → S_t → Prop} {x1 : Int32} {x2 : Int32} {x3 : Int64} {x5 : Int64} {x7 : Int32} {x8 : Int32} {x9 : Int32}
    (h : JE E (d + 1) m_Mo_halved 23 [(0, pv E 0), (1, .int x1), (2, .int x2), (3, .long x3), (5, .long x5), (7, .int x7), (8, .int x8), (9, .int x9)] [] σ Q) :
    JE E (d + 1) m_Mo_halved 113 [(0, pv E 0), (1, .int x1), (2, .int x2), (3, .long x3), (5, .long x5), (7, .int x7), (8, .int x8), (9, .int x9)] [] σ Q := by
  refine J_goto dc_Mo_halved_113 rfl ?_
  exact h
theorem dc_Mo_doubled_0 : decode m_Mo_doubled.2.1 0 = .ok (.lconst 0, 1) := by decide +kernel
theorem dc_Mo_doubled_1 : decode m_Mo_doubled.2.1 1 = .ok (.lstore_n 2, 1) := by decide +kernel
theorem dc_Mo_doubled_2 : decode m_Mo_doubled.2.1 2 = .ok (.aload_n 0, 1) := by decide +kernel
theorem dc_Mo_doubled_3 : decode m_Mo_doubled.2.1 3 = .ok (.getfield 175, 3) := by decide +kernel
theorem dc_Mo_doubled_6 : decode m_Mo_doubled.2.1 6 = .ok (.iconst 1, 1) := by decide +kernel
theorem dc_Mo_doubled_7 : decode m_Mo_doubled.2.1 7 = .ok (.isub, 1) := by decide +kernel
theorem dc_Mo_doubled_8 : decode m_Mo_doubled.2.1 8 = .ok (.istore 4, 2) := by decide +kernel
theorem dc_Mo_doubled_10 : decode m_Mo_doubled.2.1 10 = .ok (.iload 4, 2) := by decide +kernel
theorem dc_Mo_doubled_12 : decode m_Mo_doubled.2.1 12 = .ok (.ifCond .lt 44, 3) := by decide +kernel
theorem dc_Mo_doubled_15 : decode m_Mo_doubled.2.1 15 = .ok (.aload_n 0, 1) := by decide +kernel
theorem dc_Mo_doubled_16 : decode m_Mo_doubled.2.1 16 = .ok (.getfield 16, 3) := by decide +kernel
theorem dc_Mo_doubled_19 : decode m_Mo_doubled.2.1 19 = .ok (.iload 4, 2) := by decide +kernel
theorem dc_Mo_doubled_21 : decode m_Mo_doubled.2.1 21 = .ok (.iaload, 1) := by decide +kernel
theorem dc_Mo_doubled_22 : decode m_Mo_doubled.2.1 22 = .ok (.i2l, 1) := by decide +kernel
theorem dc_Mo_doubled_23 : decode m_Mo_doubled.2.1 23 = .ok (.iload_n 1, 1) := by decide +kernel
theorem dc_Mo_doubled_24 : decode m_Mo_doubled.2.1 24 = .ok (.lshl, 1) := by decide +kernel
theorem dc_Mo_doubled_25 : decode m_Mo_doubled.2.1 25 = .ok (.lload_n 2, 1) := by decide +kernel
theorem dc_Mo_doubled_26 : decode m_Mo_doubled.2.1 26 = .ok (.ladd, 1) := by decide +kernel
theorem dc_Mo_doubled_27 : decode m_Mo_doubled.2.1 27 = .ok (.lstore 5, 2) := by decide +kernel
theorem dc_Mo_doubled_29 : decode m_Mo_doubled.2.1 29 = .ok (.aload_n 0, 1) := by decide +kernel
theorem dc_Mo_doubled_30 : decode m_Mo_doubled.2.1 30 = .ok (.getfield 16, 3) := by decide +kernel
theorem dc_Mo_doubled_33 : decode m_Mo_doubled.2.1 33 = .ok (.iload 4, 2) := by decide +kernel
theorem dc_Mo_doubled_35 : decode m_Mo_doubled.2.1 35 = .ok (.lload 5, 2) := by decide +kernel
theorem dc_Mo_doubled_37 : decode m_Mo_doubled.2.1 37 = .ok (.ldc2_w 181, 3) := by decide +kernel
theorem dc_Mo_doubled_40 : decode m_Mo_doubled.2.1 40 = .ok (.lrem, 1) := by decide +kernel
theorem dc_Mo_doubled_41 : decode m_Mo_doubled.2.1 41 = .ok (.l2i, 1) := by decide +kernel
theorem dc_Mo_doubled_42 : decode m_Mo_doubled.2.1 42 = .ok (.iastore, 1) := by decide +kernel
theorem dc_Mo_doubled_43 : decode m_Mo_doubled.2.1 43 = .ok (.lload 5, 2) := by decide +kernel
theorem dc_Mo_doubled_45 : decode m_Mo_doubled.2.1 45 = .ok (.ldc2_w 181, 3) := by decide +kernel
theorem dc_Mo_doubled_48 : decode m_Mo_doubled.2.1 48 = .ok (.ldiv, 1) := by decide +kernel
theorem dc_Mo_doubled_49 : decode m_Mo_doubled.2.1 49 = .ok (.lstore_n 2, 1) := by decide +kernel
theorem dc_Mo_doubled_50 : decode m_Mo_doubled.2.1 50 = .ok (.iinc 4 (-1), 3) := by decide +kernel
theorem dc_Mo_doubled_53 : decode m_Mo_doubled.2.1 53 = .ok (.goto (-43), 3) := by decide +kernel
theorem dc_Mo_doubled_56 : decode m_Mo_doubled.2.1 56 = .ok (.iconst 0, 1) := by decide +kernel
theorem dc_Mo_doubled_57 : decode m_Mo_doubled.2.1 57 = .ok (.istore 4, 2) := by decide +kernel
theorem dc_Mo_doubled_59 : decode m_Mo_doubled.2.1 59 = .ok (.lload_n 2, 1) := by decide +kernel
theorem dc_Mo_doubled_60 : decode m_Mo_doubled.2.1 60 = .ok (.lconst 0, 1) := by decide +kernel
theorem dc_Mo_doubled_61 : decode m_Mo_doubled.2.1 61 = .ok (.lcmp, 1) := by decide +kernel
theorem dc_Mo_doubled_62 : decode m_Mo_doubled.2.1 62 = .ok (.ifCond .le 28, 3) := by decide +kernel
theorem dc_Mo_doubled_65 : decode m_Mo_doubled.2.1 65 = .ok (.aload_n 0, 1) := by decide +kernel
theorem dc_Mo_doubled_66 : decode m_Mo_doubled.2.1 66 = .ok (.getfield 19, 3) := by decide +kernel
theorem dc_Mo_doubled_69 : decode m_Mo_doubled.2.1 69 = .ok (.iload 4, 2) := by decide +kernel
theorem dc_Mo_doubled_71 : decode m_Mo_doubled.2.1 71 = .ok (.lload_n 2, 1) := by decide +kernel
theorem dc_Mo_doubled_72 : decode m_Mo_doubled.2.1 72 = .ok (.ldc2_w 181, 3) := by decide +kernel
theorem dc_Mo_doubled_75 : decode m_Mo_doubled.2.1 75 = .ok (.lrem, 1) := by decide +kernel
theorem dc_Mo_doubled_76 : decode m_Mo_doubled.2.1 76 = .ok (.l2i, 1) := by decide +kernel
theorem dc_Mo_doubled_77 : decode m_Mo_doubled.2.1 77 = .ok (.iastore, 1) := by decide +kernel
theorem dc_Mo_doubled_78 : decode m_Mo_doubled.2.1 78 = .ok (.lload_n 2, 1) := by decide +kernel
theorem dc_Mo_doubled_79 : decode m_Mo_doubled.2.1 79 = .ok (.ldc2_w 181, 3) := by decide +kernel
theorem dc_Mo_doubled_82 : decode m_Mo_doubled.2.1 82 = .ok (.ldiv, 1) := by decide +kernel
theorem dc_Mo_doubled_83 : decode m_Mo_doubled.2.1 83 = .ok (.lstore_n 2, 1) := by decide +kernel
theorem dc_Mo_doubled_84 : decode m_Mo_doubled.2.1 84 = .ok (.iinc 4 1, 3) := by decide +kernel
theorem dc_Mo_doubled_87 : decode m_Mo_doubled.2.1 87 = .ok (.goto (-28), 3) := by decide +kernel
theorem dc_Mo_doubled_90 : decode m_Mo_doubled.2.1 90 = .ok (.aload_n 0, 1) := by decide +kernel
theorem dc_Mo_doubled_91 : decode m_Mo_doubled.2.1 91 = .ok (.getfield 175, 3) := by decide +kernel
theorem dc_Mo_doubled_94 : decode m_Mo_doubled.2.1 94 = .ok (.iconst 1, 1) := by decide +kernel
theorem dc_Mo_doubled_95 : decode m_Mo_doubled.2.1 95 = .ok (.isub, 1) := by decide +kernel
theorem dc_Mo_doubled_96 : decode m_Mo_doubled.2.1 96 = .ok (.istore 5, 2) := by decide +kernel
theorem dc_Mo_doubled_98 : decode m_Mo_doubled.2.1 98 = .ok (.iload 5, 2) := by decide +kernel
theorem dc_Mo_doubled_100 : decode m_Mo_doubled.2.1 100 = .ok (.ifCond .lt 26, 3) := by decide +kernel
theorem dc_Mo_doubled_103 : decode m_Mo_doubled.2.1 103 = .ok (.aload_n 0, 1) := by decide +kernel
theorem dc_Mo_doubled_104 : decode m_Mo_doubled.2.1 104 = .ok (.getfield 16, 3) := by decide +kernel
theorem dc_Mo_doubled_107 : decode m_Mo_doubled.2.1 107 = .ok (.iload 5, 2) := by decide +kernel
theorem dc_Mo_doubled_109 : decode m_Mo_doubled.2.1 109 = .ok (.iload 4, 2) := by decide +kernel
theorem dc_Mo_doubled_111 : decode m_Mo_doubled.2.1 111 = .ok (.iadd, 1) := by decide +kernel
theorem dc_Mo_doubled_112 : decode m_Mo_doubled.2.1 112 = .ok (.aload_n 0, 1) := by decide +kernel
theorem dc_Mo_doubled_113 : decode m_Mo_doubled.2.1 113 = .ok (.getfield 16, 3) := by decide +kernel
theorem dc_Mo_doubled_116 : decode m_Mo_doubled.2.1 116 = .ok (.iload 5, 2) := by decide +kernel
theorem dc_Mo_doubled_118 : decode m_Mo_doubled.2.1 118 = .ok (.iaload, 1) := by decide +kernel
theorem dc_Mo_doubled_119 : decode m_Mo_doubled.2.1 119 = .ok (.iastore, 1) := by decide +kernel
theorem dc_Mo_doubled_120 : decode m_Mo_doubled.2.1 120 = .ok (.iinc 5 (-1), 3) := by decide +kernel
theorem dc_Mo_doubled_123 : decode m_Mo_doubled.2.1 123 = .ok (.goto (-25), 3) := by decide +kernel
theorem dc_Mo_doubled_126 : decode m_Mo_doubled.2.1 126 = .ok (.iconst 0, 1) := by decide +kernel
theorem dc_Mo_doubled_127 : decode m_Mo_doubled.2.1 127 = .ok (.istore 5, 2) := by decide +kernel
theorem dc_Mo_doubled_129 : decode m_Mo_doubled.2.1 129 = .ok (.iload 5, 2) := by decide +kernel
theorem dc_Mo_doubled_131 : decode m_Mo_doubled.2.1 131 = .ok (.iload 4, 2) := by decide +kernel
theorem dc_Mo_doubled_133 : decode m_Mo_doubled.2.1 133 = .ok (.if_icmp .ge 28, 3) := by decide +kernel
theorem dc_Mo_doubled_136 : decode m_Mo_doubled.2.1 136 = .ok (.aload_n 0, 1) := by decide +kernel
theorem dc_Mo_doubled_137 : decode m_Mo_doubled.2.1 137 = .ok (.getfield 16, 3) := by decide +kernel
theorem dc_Mo_doubled_140 : decode m_Mo_doubled.2.1 140 = .ok (.iload 5, 2) := by decide +kernel
theorem dc_Mo_doubled_142 : decode m_Mo_doubled.2.1 142 = .ok (.aload_n 0, 1) := by decide +kernel
theorem dc_Mo_doubled_143 : decode m_Mo_doubled.2.1 143 = .ok (.getfield 19, 3) := by decide +kernel
theorem dc_Mo_doubled_146 : decode m_Mo_doubled.2.1 146 = .ok (.iload 4, 2) := by decide +kernel
theorem dc_Mo_doubled_148 : decode m_Mo_doubled.2.1 148 = .ok (.iconst 1, 1) := by decide +kernel
theorem dc_Mo_doubled_149 : decode m_Mo_doubled.2.1 149 = .ok (.isub, 1) := by decide +kernel
theorem dc_Mo_doubled_150 : decode m_Mo_doubled.2.1 150 = .ok (.iload 5, 2) := by decide +kernel
theorem dc_Mo_doubled_152 : decode m_Mo_doubled.2.1 152 = .ok (.isub, 1) := by decide +kernel
theorem dc_Mo_doubled_153 : decode m_Mo_doubled.2.1 153 = .ok (.iaload, 1) := by decide +kernel
theorem dc_Mo_doubled_154 : decode m_Mo_doubled.2.1 154 = .ok (.iastore, 1) := by decide +kernel
theorem dc_Mo_doubled_155 : decode m_Mo_doubled.2.1 155 = .ok (.iinc 5 1, 3) := by decide +kernel
theorem dc_Mo_doubled_158 : decode m_Mo_doubled.2.1 158 = .ok (.goto (-29), 3) := by decide +kernel
theorem dc_Mo_doubled_161 : decode m_Mo_doubled.2.1 161 = .ok (.aload_n 0, 1) := by decide +kernel
theorem dc_Mo_doubled_162 : decode m_Mo_doubled.2.1 162 = .ok (.dup, 1) := by decide +kernel
theorem dc_Mo_doubled_163 : decode m_Mo_doubled.2.1 163 = .ok (.getfield 175, 3) := by decide +kernel
theorem dc_Mo_doubled_166 : decode m_Mo_doubled.2.1 166 = .ok (.iload 4, 2) := by decide +kernel
theorem dc_Mo_doubled_168 : decode m_Mo_doubled.2.1 168 = .ok (.iadd, 1) := by decide +kernel
theorem dc_Mo_doubled_169 : decode m_Mo_doubled.2.1 169 = .ok (.putfield 175, 3) := by decide +kernel
theorem dc_Mo_doubled_172 : decode m_Mo_doubled.2.1 172 = .ok (.aload_n 0, 1) := by decide +kernel
theorem dc_Mo_doubled_173 : decode m_Mo_doubled.2.1 173 = .ok (.dup, 1) := by decide +kernel
theorem dc_Mo_doubled_174 : decode m_Mo_doubled.2.1 174 = .ok (.getfield 178, 3) := by decide +kernel
theorem dc_Mo_doubled_177 : decode m_Mo_doubled.2.1 177 = .ok (.iload 4, 2) := by decide +kernel
theorem dc_Mo_doubled_179 : decode m_Mo_doubled.2.1 179 = .ok (.iadd, 1) := by decide +kernel
theorem dc_Mo_doubled_180 : decode m_Mo_doubled.2.1 180 = .ok (.putfield 178, 3) := by decide +kernel
theorem dc_Mo_doubled_183 : decode m_Mo_doubled.2.1 183 = .ok (.aload_n 0, 1) := by decide +kernel
theorem dc_Mo_doubled_184 : decode m_Mo_doubled.2.1 184 = .ok (.invokevirtual 183, 3) := by decide +kernel
theorem dc_Mo_doubled_187 : decode m_Mo_doubled.2.1 187 = .ok (.return_, 1) := by decide +kernel
theorem b_Mo_doubled_0 {E : En_t} {d : Nat} {σ : S_t} {Q : Option Value → S_t → Prop} {x1 : Int32}
    (h : JE E (d + 1) m_Mo_doubled 10 [(0, pv E 0), (1, .int x1), (2, .long (0 : Int64)), (4, .int ((gI σ 0 6) - (1 : Int32)))] [] σ Q) :
    JE E (d + 1) m_Mo_doubled 0 [(0, pv E 0), (1, .int x1)] [] σ Q := by
  refine J_lconst (v := (0 : Int64)) dc_Mo_doubled_0 (Eq.refl 1) rfl ?_
  refine J_lstore_n (L' := [(2, .long (0 : Int64)), (0, pv E 0), (1, .int x1)]) dc_Mo_doubled_1 (Eq.refl 2) (Nat.le_of_ble_eq_true rfl) rfl ?_
  refine J_aload_n dc_Mo_doubled_2 (Eq.refl 3) 1 rfl ?_
  refine J_getI dc_Mo_doubled_3 (Eq.refl 6) fl_Mo_175 (Nat.le_of_ble_eq_true rfl) rfl (Or.inl rfl) ?_
  refine J_iconst (v := (1 : Int32)) dc_Mo_doubled_6 (Eq.refl 7) rfl ?_
  refine J_isub dc_Mo_doubled_7 (Eq.refl 8) ?_
  refine J_istore (L' := [(4, .int ((gI σ 0 6) - (1 : Int32))), (2, .long (0 : Int64)), (0, pv E 0), (1, .int x1)]) dc_Mo_doubled_8 (Eq.refl 10) (Nat.le_of_ble_eq_true rfl) rfl ?_
  refine J_sub [2, 3, 1, 0] rfl ?_
  exact h
theorem b_Mo_doubled_10 {E : En_t} {d : Nat} {σ : S_t} {Q : Option Value → S_t → Prop} {x1 : Int32} {x2 : Int64} {x4 : Int32}
    (h : (x4 < 0 → JE E (d + 1) m_Mo_doubled 59 [(0, pv E 0), (2, .long x2), (4, .int (0 : Int32))] [] σ Q) ∧ (¬ x4 < 0 → vp_in x4 6000 ∧ (∀ v1, v1 = ((((gI σ 3 x4.toNatClampNeg).toInt64) <<< (x1.toInt64 &&& 63)) + x2) - ((((gI σ 3 x4.toNatClampNeg).toInt64) <<< (x1.toInt64 &&& 63)) + x2) / (10 : Int64) * (10 : Int64) → (vp_in x4 6000 ∧ (JE E (d + 1) m_Mo_doubled 10 [(0, pv E 0), (1, .int x1), (2, .long (((((gI σ 3 x4.toNatClampNeg).toInt64) <<< (x1.toInt64 &&& 63)) + x2) / (10 : Int64))), (4, .int (x4 + (-1 : Int32)))] [] (sI σ 3 x4.toNatClampNeg v1.toInt32) Q))))) :
    JE E (d + 1) m_Mo_doubled 10 [(0, pv E 0), (1, .int x1), (2, .long x2), (4, .int x4)] [] σ Q := by
  refine J_iload dc_Mo_doubled_10 (Eq.refl 12) 3 rfl ?_
  refine J_if_lt dc_Mo_doubled_12 (Eq.refl 15) rfl (fun hc => ?_) (fun hc => ?_)
  · have h := h.1 hc
    refine J_iconst (v := (0 : Int32)) dc_Mo_doubled_56 (Eq.refl 57) rfl ?_
    refine J_istore (L' := [(4, .int (0 : Int32)), (0, pv E 0), (1, .int x1), (2, .long x2)]) dc_Mo_doubled_57 (Eq.refl 59) (Nat.le_of_ble_eq_true rfl) rfl ?_
    refine J_sub [1, 3, 0] rfl ?_
    exact h
  · have h := h.2 hc
    refine J_aload_n dc_Mo_doubled_15 (Eq.refl 16) 0 rfl ?_
    refine J_getF (y := 3) dc_Mo_doubled_16 (Eq.refl 19) fl_Mo_16 (Nat.le_of_ble_eq_true rfl) rfl (Or.inl rfl) rfl ?_
    refine J_iload dc_Mo_doubled_19 (Eq.refl 21) 3 rfl ?_
    obtain ⟨hg, h⟩ := h
    refine J_iald dc_Mo_doubled_21 (Eq.refl 22) rfl rfl hg ?_
    refine J_i2l dc_Mo_doubled_22 (Eq.refl 23) ?_
    refine J_iload_n dc_Mo_doubled_23 (Eq.refl 24) 1 rfl ?_
    refine J_lshl dc_Mo_doubled_24 (Eq.refl 25) ?_
    refine J_lload_n dc_Mo_doubled_25 (Eq.refl 26) 2 rfl ?_
    refine J_ladd dc_Mo_doubled_26 (Eq.refl 27) ?_
    refine J_lstore (L' := [(5, .long ((((gI σ 3 x4.toNatClampNeg).toInt64) <<< (x1.toInt64 &&& 63)) + x2)), (0, pv E 0), (1, .int x1), (2, .long x2), (4, .int x4)]) dc_Mo_doubled_27 (Eq.refl 29) (Nat.le_of_ble_eq_true rfl) rfl ?_
    refine J_aload_n dc_Mo_doubled_29 (Eq.refl 30) 1 rfl ?_
    refine J_getF (y := 3) dc_Mo_doubled_30 (Eq.refl 33) fl_Mo_16 (Nat.le_of_ble_eq_true rfl) rfl (Or.inl rfl) rfl ?_
    refine J_iload dc_Mo_doubled_33 (Eq.refl 35) 4 rfl ?_
    refine J_lload dc_Mo_doubled_35 (Eq.refl 37) 0 rfl ?_
    refine J_ldc2 dc_Mo_doubled_37 (Eq.refl 40) kc_Mo_181 ?_
    refine J_lrem dc_Mo_doubled_40 (Eq.refl 41) (by decide) ?_
    refine J_topl (fun v1 ev1 => ?_)
    have h := h v1 ev1
    refine J_l2i dc_Mo_doubled_41 (Eq.refl 42) ?_
    obtain ⟨hg, h⟩ := h
    refine J_iast dc_Mo_doubled_42 (Eq.refl 43) rfl rfl hg ?_
    refine J_lload dc_Mo_doubled_43 (Eq.refl 45) 0 rfl ?_
    refine J_ldc2 dc_Mo_doubled_45 (Eq.refl 48) kc_Mo_181 ?_
    refine J_ldiv dc_Mo_doubled_48 (Eq.refl 49) (by decide) ?_
    refine J_lstore_n (L' := [(2, .long (((((gI σ 3 x4.toNatClampNeg).toInt64) <<< (x1.toInt64 &&& 63)) + x2) / (10 : Int64))), (5, .long ((((gI σ 3 x4.toNatClampNeg).toInt64) <<< (x1.toInt64 &&& 63)) + x2)), (0, pv E 0), (1, .int x1), (4, .int x4)]) dc_Mo_doubled_49 (Eq.refl 50) (Nat.le_of_ble_eq_true rfl) rfl ?_
    refine J_iinc (v := x4 + (-1 : Int32)) (L' := [(4, .int (x4 + (-1 : Int32))), (2, .long (((((gI σ 3 x4.toNatClampNeg).toInt64) <<< (x1.toInt64 &&& 63)) + x2) / (10 : Int64))), (5, .long ((((gI σ 3 x4.toNatClampNeg).toInt64) <<< (x1.toInt64 &&& 63)) + x2)), (0, pv E 0), (1, .int x1)]) dc_Mo_doubled_50 (Eq.refl 53) 4 rfl rfl (Nat.le_of_ble_eq_true rfl) rfl ?_
    refine J_goto dc_Mo_doubled_53 rfl ?_
    refine J_sub [3, 4, 1, 0] rfl ?_
    exact h
theorem b_Mo_doubled_59 {E : En_t} {d : Nat} {σ : S_t} {Q : Option Value → S_t → Prop} {x2 : Int64} {x4 : Int32}
    (h : ((lg_cmp x2 (0 : Int64)) ≤ 0 → JE E (d + 1) m_Mo_doubled 98 [(0, pv E 0), (4, .int x4), (5, .int ((gI σ 0 6) - (1 : Int32)))] [] σ Q) ∧ (¬ (lg_cmp x2 (0 : Int64)) ≤ 0 → vp_in x4 12 ∧ (JE E (d + 1) m_Mo_doubled 59 [(0, pv E 0), (2, .long (x2 / (10 : Int64))), (4, .int (x4 + (1 : Int32)))] [] (sI σ 4 x4.toNatClampNeg ((x2 - x2 / (10 : Int64) * (10 : Int64)).toInt32)) Q))) :
    JE E (d + 1) m_Mo_doubled 59 [(0, pv E 0), (2, .long x2), (4, .int x4)] [] σ Q := by
  refine J_lload_n dc_Mo_doubled_59 (Eq.refl 60) 1 rfl ?_
  refine J_lconst (v := (0 : Int64)) dc_Mo_doubled_60 (Eq.refl 61) rfl ?_
  refine J_lcmp dc_Mo_doubled_61 (Eq.refl 62) ?_
  refine J_if_le dc_Mo_doubled_62 (Eq.refl 65) rfl (fun hc => ?_) (fun hc => ?_)
  · have h := h.1 hc
    refine J_aload_n dc_Mo_doubled_90 (Eq.refl 91) 0 rfl ?_
    refine J_getI dc_Mo_doubled_91 (Eq.refl 94) fl_Mo_175 (Nat.le_of_ble_eq_true rfl) rfl (Or.inl rfl) ?_
    refine J_iconst (v := (1 : Int32)) dc_Mo_doubled_94 (Eq.refl 95) rfl ?_
    refine J_isub dc_Mo_doubled_95 (Eq.refl 96) ?_
    refine J_istore (L' := [(5, .int ((gI σ 0 6) - (1 : Int32))), (0, pv E 0), (2, .long x2), (4, .int x4)]) dc_Mo_doubled_96 (Eq.refl 98) (Nat.le_of_ble_eq_true rfl) rfl ?_
    refine J_sub [1, 3, 0] rfl ?_
    exact h
  · have h := h.2 hc
    refine J_aload_n dc_Mo_doubled_65 (Eq.refl 66) 0 rfl ?_
    refine J_getF (y := 4) dc_Mo_doubled_66 (Eq.refl 69) fl_Mo_19 (Nat.le_of_ble_eq_true rfl) rfl (Or.inl rfl) rfl ?_
    refine J_iload dc_Mo_doubled_69 (Eq.refl 71) 2 rfl ?_
    refine J_lload_n dc_Mo_doubled_71 (Eq.refl 72) 1 rfl ?_
    refine J_ldc2 dc_Mo_doubled_72 (Eq.refl 75) kc_Mo_181 ?_
    refine J_lrem dc_Mo_doubled_75 (Eq.refl 76) (by decide) ?_
    refine J_l2i dc_Mo_doubled_76 (Eq.refl 77) ?_
    obtain ⟨hg, h⟩ := h
    refine J_iast dc_Mo_doubled_77 (Eq.refl 78) rfl rfl hg ?_
    refine J_lload_n dc_Mo_doubled_78 (Eq.refl 79) 1 rfl ?_
    refine J_ldc2 dc_Mo_doubled_79 (Eq.refl 82) kc_Mo_181 ?_
    refine J_ldiv dc_Mo_doubled_82 (Eq.refl 83) (by decide) ?_
    refine J_lstore_n (L' := [(2, .long (x2 / (10 : Int64))), (0, pv E 0), (4, .int x4)]) dc_Mo_doubled_83 (Eq.refl 84) (Nat.le_of_ble_eq_true rfl) rfl ?_
    refine J_iinc (v := x4 + (1 : Int32)) (L' := [(4, .int (x4 + (1 : Int32))), (2, .long (x2 / (10 : Int64))), (0, pv E 0)]) dc_Mo_doubled_84 (Eq.refl 87) 2 rfl rfl (Nat.le_of_ble_eq_true rfl) rfl ?_
    refine J_goto dc_Mo_doubled_87 rfl ?_
    refine J_sub [2, 1, 0] rfl ?_
    exact h
theorem b_Mo_doubled_98 {E : En_t} {d : Nat} {σ : S_t} {Q : Option Value → S_t → Prop} {x4 : Int32} {x5 : Int32}
    (h : (x5 < 0 → JE E (d + 1) m_Mo_doubled 129 [(0, pv E 0), (4, .int x4), (5, .int (0 : Int32))] [] σ Q) ∧ (¬ x5 < 0 → vp_in x5 6000 ∧ (vp_in (x5 + x4) 6000 ∧ (JE E (d + 1) m_Mo_doubled 98 [(0, pv E 0), (4, .int x4), (5, .int (x5 + (-1 : Int32)))] [] (sI σ 3 (x5 + x4).toNatClampNeg (gI σ 3 x5.toNatClampNeg)) Q)))) :
    JE E (d + 1) m_Mo_doubled 98 [(0, pv E 0), (4, .int x4), (5, .int x5)] [] σ Q := by
  refine J_iload dc_Mo_doubled_98 (Eq.refl 100) 2 rfl ?_
  refine J_if_lt dc_Mo_doubled_100 (Eq.refl 103) rfl (fun hc => ?_) (fun hc => ?_)
  · have h := h.1 hc
    refine J_iconst (v := (0 : Int32)) dc_Mo_doubled_126 (Eq.refl 127) rfl ?_
    refine J_istore (L' := [(5, .int (0 : Int32)), (0, pv E 0), (4, .int x4)]) dc_Mo_doubled_127 (Eq.refl 129) (Nat.le_of_ble_eq_true rfl) rfl ?_
    refine J_sub [1, 2, 0] rfl ?_
    exact h
  · have h := h.2 hc
    refine J_aload_n dc_Mo_doubled_103 (Eq.refl 104) 0 rfl ?_
    refine J_getF (y := 3) dc_Mo_doubled_104 (Eq.refl 107) fl_Mo_16 (Nat.le_of_ble_eq_true rfl) rfl (Or.inl rfl) rfl ?_
    refine J_iload dc_Mo_doubled_107 (Eq.refl 109) 2 rfl ?_
    refine J_iload dc_Mo_doubled_109 (Eq.refl 111) 1 rfl ?_
    refine J_iadd dc_Mo_doubled_111 (Eq.refl 112) ?_
    refine J_aload_n dc_Mo_doubled_112 (Eq.refl 113) 0 rfl ?_
    refine J_getF (y := 3) dc_Mo_doubled_113 (Eq.refl 116) fl_Mo_16 (Nat.le_of_ble_eq_true rfl) rfl (Or.inl rfl) rfl ?_
    refine J_iload dc_Mo_doubled_116 (Eq.refl 118) 2 rfl ?_
    obtain ⟨hg, h⟩ := h
    refine J_iald dc_Mo_doubled_118 (Eq.refl 119) rfl rfl hg ?_
    obtain ⟨hg, h⟩ := h
    refine J_iast dc_Mo_doubled_119 (Eq.refl 120) rfl rfl hg ?_
    refine J_iinc (v := x5 + (-1 : Int32)) (L' := [(5, .int (x5 + (-1 : Int32))), (0, pv E 0), (4, .int x4)]) dc_Mo_doubled_120 (Eq.refl 123) 2 rfl rfl (Nat.le_of_ble_eq_true rfl) rfl ?_
    refine J_goto dc_Mo_doubled_123 rfl ?_
    refine J_sub [1, 2, 0] rfl ?_
    exact h
theorem b_Mo_doubled_129 {E : En_t} {d : Nat} {σ : S_t} {Q : Option Value → S_t → Prop} {x4 : Int32} {x5 : Int32}
    (h : (x4 ≤ x5 → CV E d m_Mo_trim [pv E 0] (sI (sI σ 0 6 ((gI σ 0 6) + x4)) 0 7 ((gI (sI σ 0 6 ((gI σ 0 6) + x4)) 0 7) + x4)) (fun σ1 => Q none σ1)) ∧ (¬ x4 ≤ x5 → vp_in ((x4 - (1 : Int32)) - x5) 12 ∧ (vp_in x5 6000 ∧ (JE E (d + 1) m_Mo_doubled 129 [(0, pv E 0), (4, .int x4), (5, .int (x5 + (1 : Int32)))] [] (sI σ 3 x5.toNatClampNeg (gI σ 4 ((x4 - (1 : Int32)) - x5).toNatClampNeg)) Q)))) :
    JE E (d + 1) m_Mo_doubled 129 [(0, pv E 0), (4, .int x4), (5, .int x5)] [] σ Q := by
  refine J_iload dc_Mo_doubled_129 (Eq.refl 131) 2 rfl ?_
  refine J_iload dc_Mo_doubled_131 (Eq.refl 133) 1 rfl ?_
  refine J_icmp_ge dc_Mo_doubled_133 (Eq.refl 136) rfl (fun hc => ?_) (fun hc => ?_)
  · have h := h.1 hc
    refine J_aload_n dc_Mo_doubled_161 (Eq.refl 162) 0 rfl ?_
    refine J_dup dc_Mo_doubled_162 (Eq.refl 163) rfl ?_
    refine J_getI dc_Mo_doubled_163 (Eq.refl 166) fl_Mo_175 (Nat.le_of_ble_eq_true rfl) rfl (Or.inl rfl) ?_
    refine J_iload dc_Mo_doubled_166 (Eq.refl 168) 1 rfl ?_
    refine J_iadd dc_Mo_doubled_168 (Eq.refl 169) ?_
    refine J_putI dc_Mo_doubled_169 (Eq.refl 172) pl_Mo_175 (Nat.le_of_ble_eq_true rfl) rfl rfl ?_
    refine J_aload_n dc_Mo_doubled_172 (Eq.refl 173) 0 rfl ?_
    refine J_dup dc_Mo_doubled_173 (Eq.refl 174) rfl ?_
    refine J_getI dc_Mo_doubled_174 (Eq.refl 177) fl_Mo_178 (Nat.le_of_ble_eq_true rfl) rfl (Or.inl rfl) ?_
    refine J_iload dc_Mo_doubled_177 (Eq.refl 179) 1 rfl ?_
    refine J_iadd dc_Mo_doubled_179 (Eq.refl 180) ?_
    refine J_putI dc_Mo_doubled_180 (Eq.refl 183) pl_Mo_178 (Nat.le_of_ble_eq_true rfl) rfl rfl ?_
    refine J_aload_n dc_Mo_doubled_183 (Eq.refl 184) 0 rfl ?_
    refine J_callVV (As := []) (st := []) dc_Mo_doubled_184 (Eq.refl 187) lk_Mo_183 mi_Mo_trim rfl (Nat.le_of_ble_eq_true rfl) rfl rfl (Nat.le_of_ble_eq_true rfl) rfl (Nat.le_of_ble_eq_true rfl) (CV.mono h (fun σ1 h => ?_))
    exact J_vret dc_Mo_doubled_187 rfl h
  · have h := h.2 hc
    refine J_aload_n dc_Mo_doubled_136 (Eq.refl 137) 0 rfl ?_
    refine J_getF (y := 3) dc_Mo_doubled_137 (Eq.refl 140) fl_Mo_16 (Nat.le_of_ble_eq_true rfl) rfl (Or.inl rfl) rfl ?_
    refine J_iload dc_Mo_doubled_140 (Eq.refl 142) 2 rfl ?_
    refine J_aload_n dc_Mo_doubled_142 (Eq.refl 143) 0 rfl ?_
    refine J_getF (y := 4) dc_Mo_doubled_143 (Eq.refl 146) fl_Mo_19 (Nat.le_of_ble_eq_true rfl) rfl (Or.inl rfl) rfl ?_
    refine J_iload dc_Mo_doubled_146 (Eq.refl 148) 1 rfl ?_
    refine J_iconst (v := (1 : Int32)) dc_Mo_doubled_148 (Eq.refl 149) rfl ?_
    refine J_isub dc_Mo_doubled_149 (Eq.refl 150) ?_
    refine J_iload dc_Mo_doubled_150 (Eq.refl 152) 2 rfl ?_
    refine J_isub dc_Mo_doubled_152 (Eq.refl 153) ?_
    obtain ⟨hg, h⟩ := h
    refine J_iald dc_Mo_doubled_153 (Eq.refl 154) rfl rfl hg ?_
    obtain ⟨hg, h⟩ := h
    refine J_iast dc_Mo_doubled_154 (Eq.refl 155) rfl rfl hg ?_
    refine J_iinc (v := x5 + (1 : Int32)) (L' := [(5, .int (x5 + (1 : Int32))), (0, pv E 0), (4, .int x4)]) dc_Mo_doubled_155 (Eq.refl 158) 2 rfl rfl (Nat.le_of_ble_eq_true rfl) rfl ?_
    refine J_goto dc_Mo_doubled_158 rfl ?_
    refine J_sub [1, 2, 0] rfl ?_
    exact h
theorem dc_Mo_halvedBy_0 : decode m_Mo_halvedBy.2.1 0 = .ok (.iload_n 1, 1) := by decide +kernel
theorem dc_Mo_halvedBy_1 : decode m_Mo_halvedBy.2.1 1 = .ok (.istore_n 2, 1) := by decide +kernel
theorem dc_Mo_halvedBy_2 : decode m_Mo_halvedBy.2.1 2 = .ok (.iload_n 2, 1) := by decide +kernel
theorem dc_Mo_halvedBy_3 : decode m_Mo_halvedBy.2.1 3 = .ok (.ifCond .le 35, 3) := by decide +kernel
theorem dc_Mo_halvedBy_6 : decode m_Mo_halvedBy.2.1 6 = .ok (.aload_n 0, 1) := by decide +kernel
theorem dc_Mo_halvedBy_7 : decode m_Mo_halvedBy.2.1 7 = .ok (.getfield 175, 3) := by decide +kernel
theorem dc_Mo_halvedBy_10 : decode m_Mo_halvedBy.2.1 10 = .ok (.ifCond .le 28, 3) := by decide +kernel
theorem dc_Mo_halvedBy_13 : decode m_Mo_halvedBy.2.1 13 = .ok (.iload_n 2, 1) := by decide +kernel
theorem dc_Mo_halvedBy_14 : decode m_Mo_halvedBy.2.1 14 = .ok (.bipush 20, 2) := by decide +kernel
theorem dc_Mo_halvedBy_16 : decode m_Mo_halvedBy.2.1 16 = .ok (.if_icmp .ge 7, 3) := by decide +kernel
theorem dc_Mo_halvedBy_19 : decode m_Mo_halvedBy.2.1 19 = .ok (.iload_n 2, 1) := by decide +kernel
theorem dc_Mo_halvedBy_20 : decode m_Mo_halvedBy.2.1 20 = .ok (.goto 5, 3) := by decide +kernel
theorem dc_Mo_halvedBy_23 : decode m_Mo_halvedBy.2.1 23 = .ok (.bipush 20, 2) := by decide +kernel
theorem dc_Mo_halvedBy_25 : decode m_Mo_halvedBy.2.1 25 = .ok (.istore_n 3, 1) := by decide +kernel
theorem dc_Mo_halvedBy_26 : decode m_Mo_halvedBy.2.1 26 = .ok (.aload_n 0, 1) := by decide +kernel
theorem dc_Mo_halvedBy_27 : decode m_Mo_halvedBy.2.1 27 = .ok (.iload_n 3, 1) := by decide +kernel
theorem dc_Mo_halvedBy_28 : decode m_Mo_halvedBy.2.1 28 = .ok (.invokevirtual 189, 3) := by decide +kernel
theorem dc_Mo_halvedBy_31 : decode m_Mo_halvedBy.2.1 31 = .ok (.iload_n 2, 1) := by decide +kernel
theorem dc_Mo_halvedBy_32 : decode m_Mo_halvedBy.2.1 32 = .ok (.iload_n 3, 1) := by decide +kernel
theorem dc_Mo_halvedBy_33 : decode m_Mo_halvedBy.2.1 33 = .ok (.isub, 1) := by decide +kernel
theorem dc_Mo_halvedBy_34 : decode m_Mo_halvedBy.2.1 34 = .ok (.istore_n 2, 1) := by decide +kernel
theorem dc_Mo_halvedBy_35 : decode m_Mo_halvedBy.2.1 35 = .ok (.goto (-33), 3) := by decide +kernel
theorem dc_Mo_halvedBy_38 : decode m_Mo_halvedBy.2.1 38 = .ok (.return_, 1) := by decide +kernel
theorem b_Mo_halvedBy_0 {E : En_t} {d : Nat} {σ : S_t} {Q : Option Value → S_t → Prop} {x1 : Int32}
    (h : JE E (d + 1) m_Mo_halvedBy 2 [(0, pv E 0), (2, .int x1)] [] σ Q) :
    JE E (d + 1) m_Mo_halvedBy 0 [(0, pv E 0), (1, .int x1)] [] σ Q := by
  refine J_iload_n dc_Mo_halvedBy_0 (Eq.refl 1) 1 rfl ?_
  refine J_istore_n (L' := [(2, .int x1), (0, pv E 0), (1, .int x1)]) dc_Mo_halvedBy_1 (Eq.refl 2) (Nat.le_of_ble_eq_true rfl) rfl ?_
  refine J_sub [1, 0] rfl ?_
  exact h
theorem b_Mo_halvedBy_2 {E : En_t} {d : Nat} {σ : S_t} {Q : Option Value → S_t → Prop} {x2 : Int32}
    (h : (x2 ≤ 0 → Q none σ) ∧ (¬ x2 ≤ 0 → ((gI σ 0 6) ≤ 0 → Q none σ) ∧ (¬ (gI σ 0 6) ≤ 0 → ((20 : Int32) ≤ x2 → JE E (d + 1) m_Mo_halvedBy 25 [(0, pv E 0), (2, .int x2)] [.int (20 : Int32)] σ Q) ∧ (¬ (20 : Int32) ≤ x2 → JE E (d + 1) m_Mo_halvedBy 25 [(0, pv E 0), (2, .int x2)] [.int x2] σ Q)))) :
    JE E (d + 1) m_Mo_halvedBy 2 [(0, pv E 0), (2, .int x2)] [] σ Q := by
  refine J_iload_n dc_Mo_halvedBy_2 (Eq.refl 3) 1 rfl ?_
  refine J_if_le dc_Mo_halvedBy_3 (Eq.refl 6) rfl (fun hc => ?_) (fun hc => ?_)
  · have h := h.1 hc
    exact J_vret dc_Mo_halvedBy_38 rfl h
  · have h := h.2 hc
    refine J_aload_n dc_Mo_halvedBy_6 (Eq.refl 7) 0 rfl ?_
    refine J_getI dc_Mo_halvedBy_7 (Eq.refl 10) fl_Mo_175 (Nat.le_of_ble_eq_true rfl) rfl (Or.inl rfl) ?_
    refine J_if_le dc_Mo_halvedBy_10 (Eq.refl 13) rfl (fun hc => ?_) (fun hc => ?_)
    · have h := h.1 hc
      exact J_vret dc_Mo_halvedBy_38 rfl h
    · have h := h.2 hc
      refine J_iload_n dc_Mo_halvedBy_13 (Eq.refl 14) 1 rfl ?_
      refine J_bipush (v := (20 : Int32)) dc_Mo_halvedBy_14 (Eq.refl 16) rfl ?_
      refine J_icmp_ge dc_Mo_halvedBy_16 (Eq.refl 19) rfl (fun hc => ?_) (fun hc => ?_)
      · have h := h.1 hc
        refine J_bipush (v := (20 : Int32)) dc_Mo_halvedBy_23 (Eq.refl 25) rfl ?_
        exact h
      · have h := h.2 hc
        refine J_iload_n dc_Mo_halvedBy_19 (Eq.refl 20) 1 rfl ?_
        refine J_goto dc_Mo_halvedBy_20 rfl ?_
        exact h
theorem b_Mo_halvedBy_25 {E : En_t} {d : Nat} {σ : S_t} {Q : Option Value → S_t → Prop} {x2 : Int32} {s0 : Int32}
    (h : CV E d m_Mo_halved [pv E 0, .int s0] σ (fun σ1 => JE E (d + 1) m_Mo_halvedBy 2 [(0, pv E 0), (2, .int (x2 - s0))] [] σ1 Q)) :
    JE E (d + 1) m_Mo_halvedBy 25 [(0, pv E 0), (2, .int x2)] [.int s0] σ Q := by
  refine J_istore_n (L' := [(3, .int s0), (0, pv E 0), (2, .int x2)]) dc_Mo_halvedBy_25 (Eq.refl 26) (Nat.le_of_ble_eq_true rfl) rfl ?_
  refine J_aload_n dc_Mo_halvedBy_26 (Eq.refl 27) 1 rfl ?_
  refine J_iload_n dc_Mo_halvedBy_27 (Eq.refl 28) 0 rfl ?_
  refine J_callVV (As := [.int s0]) (st := []) dc_Mo_halvedBy_28 (Eq.refl 31) lk_Mo_189 mi_Mo_halved rfl (Nat.le_of_ble_eq_true rfl) rfl rfl (Nat.le_of_ble_eq_true rfl) rfl (Nat.le_of_ble_eq_true rfl) (CV.mono h (fun σ1 h => ?_))
  refine J_iload_n dc_Mo_halvedBy_31 (Eq.refl 32) 2 rfl ?_
  refine J_iload_n dc_Mo_halvedBy_32 (Eq.refl 33) 0 rfl ?_
  refine J_isub dc_Mo_halvedBy_33 (Eq.refl 34) ?_
  refine J_istore_n (L' := [(2, .int (x2 - s0)), (3, .int s0), (0, pv E 0)]) dc_Mo_halvedBy_34 (Eq.refl 35) (Nat.le_of_ble_eq_true rfl) rfl ?_
  refine J_goto dc_Mo_halvedBy_35 rfl ?_
  refine J_sub [2, 0] rfl ?_
  exact h
theorem dc_Mo_doubledBy_0 : decode m_Mo_doubledBy.2.1 0 = .ok (.iload_n 1, 1) := by decide +kernel
theorem dc_Mo_doubledBy_1 : decode m_Mo_doubledBy.2.1 1 = .ok (.istore_n 2, 1) := by decide +kernel
theorem dc_Mo_doubledBy_2 : decode m_Mo_doubledBy.2.1 2 = .ok (.iload_n 2, 1) := by decide +kernel
theorem dc_Mo_doubledBy_3 : decode m_Mo_doubledBy.2.1 3 = .ok (.ifCond .le 35, 3) := by decide +kernel
theorem dc_Mo_doubledBy_6 : decode m_Mo_doubledBy.2.1 6 = .ok (.aload_n 0, 1) := by decide +kernel
theorem dc_Mo_doubledBy_7 : decode m_Mo_doubledBy.2.1 7 = .ok (.getfield 175, 3) := by decide +kernel
theorem dc_Mo_doubledBy_10 : decode m_Mo_doubledBy.2.1 10 = .ok (.ifCond .le 28, 3) := by decide +kernel
theorem dc_Mo_doubledBy_13 : decode m_Mo_doubledBy.2.1 13 = .ok (.iload_n 2, 1) := by decide +kernel
theorem dc_Mo_doubledBy_14 : decode m_Mo_doubledBy.2.1 14 = .ok (.bipush 20, 2) := by decide +kernel
theorem dc_Mo_doubledBy_16 : decode m_Mo_doubledBy.2.1 16 = .ok (.if_icmp .ge 7, 3) := by decide +kernel
theorem dc_Mo_doubledBy_19 : decode m_Mo_doubledBy.2.1 19 = .ok (.iload_n 2, 1) := by decide +kernel
theorem dc_Mo_doubledBy_20 : decode m_Mo_doubledBy.2.1 20 = .ok (.goto 5, 3) := by decide +kernel
theorem dc_Mo_doubledBy_23 : decode m_Mo_doubledBy.2.1 23 = .ok (.bipush 20, 2) := by decide +kernel
theorem dc_Mo_doubledBy_25 : decode m_Mo_doubledBy.2.1 25 = .ok (.istore_n 3, 1) := by decide +kernel
theorem dc_Mo_doubledBy_26 : decode m_Mo_doubledBy.2.1 26 = .ok (.aload_n 0, 1) := by decide +kernel
theorem dc_Mo_doubledBy_27 : decode m_Mo_doubledBy.2.1 27 = .ok (.iload_n 3, 1) := by decide +kernel
theorem dc_Mo_doubledBy_28 : decode m_Mo_doubledBy.2.1 28 = .ok (.invokevirtual 186, 3) := by decide +kernel
theorem dc_Mo_doubledBy_31 : decode m_Mo_doubledBy.2.1 31 = .ok (.iload_n 2, 1) := by decide +kernel
theorem dc_Mo_doubledBy_32 : decode m_Mo_doubledBy.2.1 32 = .ok (.iload_n 3, 1) := by decide +kernel
theorem dc_Mo_doubledBy_33 : decode m_Mo_doubledBy.2.1 33 = .ok (.isub, 1) := by decide +kernel
theorem dc_Mo_doubledBy_34 : decode m_Mo_doubledBy.2.1 34 = .ok (.istore_n 2, 1) := by decide +kernel
theorem dc_Mo_doubledBy_35 : decode m_Mo_doubledBy.2.1 35 = .ok (.goto (-33), 3) := by decide +kernel
theorem dc_Mo_doubledBy_38 : decode m_Mo_doubledBy.2.1 38 = .ok (.return_, 1) := by decide +kernel
theorem b_Mo_doubledBy_0 {E : En_t} {d : Nat} {σ : S_t} {Q : Option Value → S_t → Prop} {x1 : Int32}
    (h : JE E (d + 1) m_Mo_doubledBy 2 [(0, pv E 0), (2, .int x1)] [] σ Q) :
    JE E (d + 1) m_Mo_doubledBy 0 [(0, pv E 0), (1, .int x1)] [] σ Q := by
  refine J_iload_n dc_Mo_doubledBy_0 (Eq.refl 1) 1 rfl ?_
  refine J_istore_n (L' := [(2, .int x1), (0, pv E 0), (1, .int x1)]) dc_Mo_doubledBy_1 (Eq.refl 2) (Nat.le_of_ble_eq_true rfl) rfl ?_
  refine J_sub [1, 0] rfl ?_
  exact h
theorem b_Mo_doubledBy_2 {E : En_t} {d : Nat} {σ : S_t} {Q : Option Value → S_t → Prop} {x2 : Int32}
    (h : (x2 ≤ 0 → Q none σ) ∧ (¬ x2 ≤ 0 → ((gI σ 0 6) ≤ 0 → Q none σ) ∧ (¬ (gI σ 0 6) ≤ 0 → ((20 : Int32) ≤ x2 → JE E (d + 1) m_Mo_doubledBy 25 [(0, pv E 0), (2, .int x2)] [.int (20 : Int32)] σ Q) ∧ (¬ (20 : Int32) ≤ x2 → JE E (d + 1) m_Mo_doubledBy 25 [(0, pv E 0), (2, .int x2)] [.int x2] σ Q)))) :
    JE E (d + 1) m_Mo_doubledBy 2 [(0, pv E 0), (2, .int x2)] [] σ Q := by
  refine J_iload_n dc_Mo_doubledBy_2 (Eq.refl 3) 1 rfl ?_
  refine J_if_le dc_Mo_doubledBy_3 (Eq.refl 6) rfl (fun hc => ?_) (fun hc => ?_)
  · have h := h.1 hc
    exact J_vret dc_Mo_doubledBy_38 rfl h
  · have h := h.2 hc
    refine J_aload_n dc_Mo_doubledBy_6 (Eq.refl 7) 0 rfl ?_
    refine J_getI dc_Mo_doubledBy_7 (Eq.refl 10) fl_Mo_175 (Nat.le_of_ble_eq_true rfl) rfl (Or.inl rfl) ?_
    refine J_if_le dc_Mo_doubledBy_10 (Eq.refl 13) rfl (fun hc => ?_) (fun hc => ?_)
    · have h := h.1 hc
      exact J_vret dc_Mo_doubledBy_38 rfl h
    · have h := h.2 hc
      refine J_iload_n dc_Mo_doubledBy_13 (Eq.refl 14) 1 rfl ?_
      refine J_bipush (v := (20 : Int32)) dc_Mo_doubledBy_14 (Eq.refl 16) rfl ?_
      refine J_icmp_ge dc_Mo_doubledBy_16 (Eq.refl 19) rfl (fun hc => ?_) (fun hc => ?_)
      · have h := h.1 hc
        refine J_bipush (v := (20 : Int32)) dc_Mo_doubledBy_23 (Eq.refl 25) rfl ?_
        exact h
      · have h := h.2 hc
        refine J_iload_n dc_Mo_doubledBy_19 (Eq.refl 20) 1 rfl ?_
        refine J_goto dc_Mo_doubledBy_20 rfl ?_
        exact h
theorem b_Mo_doubledBy_25 {E : En_t} {d : Nat} {σ : S_t} {Q : Option Value → S_t → Prop} {x2 : Int32} {s0 : Int32}
    (h : CV E d m_Mo_doubled [pv E 0, .int s0] σ (fun σ1 => JE E (d + 1) m_Mo_doubledBy 2 [(0, pv E 0), (2, .int (x2 - s0))] [] σ1 Q)) :
    JE E (d + 1) m_Mo_doubledBy 25 [(0, pv E 0), (2, .int x2)] [.int s0] σ Q := by
  refine J_istore_n (L' := [(3, .int s0), (0, pv E 0), (2, .int x2)]) dc_Mo_doubledBy_25 (Eq.refl 26) (Nat.le_of_ble_eq_true rfl) rfl ?_
  refine J_aload_n dc_Mo_doubledBy_26 (Eq.refl 27) 1 rfl ?_
  refine J_iload_n dc_Mo_doubledBy_27 (Eq.refl 28) 0 rfl ?_
  refine J_callVV (As := [.int s0]) (st := []) dc_Mo_doubledBy_28 (Eq.refl 31) lk_Mo_186 mi_Mo_doubled rfl (Nat.le_of_ble_eq_true rfl) rfl rfl (Nat.le_of_ble_eq_true rfl) rfl (Nat.le_of_ble_eq_true rfl) (CV.mono h (fun σ1 h => ?_))
  refine J_iload_n dc_Mo_doubledBy_31 (Eq.refl 32) 2 rfl ?_
  refine J_iload_n dc_Mo_doubledBy_32 (Eq.refl 33) 0 rfl ?_
  refine J_isub dc_Mo_doubledBy_33 (Eq.refl 34) ?_
  refine J_istore_n (L' := [(2, .int (x2 - s0)), (3, .int s0), (0, pv E 0)]) dc_Mo_doubledBy_34 (Eq.refl 35) (Nat.le_of_ble_eq_true rfl) rfl ?_
  refine J_goto dc_Mo_doubledBy_35 rfl ?_
  refine J_sub [2, 0] rfl ?_
  exact h
theorem dc_Mo_print_0 : decode m_Mo_print.2.1 0 = .ok (.lload_n 1, 1) := by decide +kernel
theorem dc_Mo_print_1 : decode m_Mo_print.2.1 1 = .ok (.invokestatic 278, 3) := by decide +kernel
theorem dc_Mo_print_4 : decode m_Mo_print.2.1 4 = .ok (.ifCond .ne 5, 3) := by decide +kernel
theorem dc_Mo_print_7 : decode m_Mo_print.2.1 7 = .ok (.iconst (-1), 1) := by decide +kernel
theorem dc_Mo_print_8 : decode m_Mo_print.2.1 8 = .ok (.ireturn, 1) := by decide +kernel
theorem dc_Mo_print_9 : decode m_Mo_print.2.1 9 = .ok (.aload_n 0, 1) := by decide +kernel
theorem dc_Mo_print_10 : decode m_Mo_print.2.1 10 = .ok (.lload_n 1, 1) := by decide +kernel
theorem dc_Mo_print_11 : decode m_Mo_print.2.1 11 = .ok (.invokevirtual 282, 3) := by decide +kernel
theorem dc_Mo_print_14 : decode m_Mo_print.2.1 14 = .ok (.aload_n 0, 1) := by decide +kernel
theorem dc_Mo_print_15 : decode m_Mo_print.2.1 15 = .ok (.invokevirtual 285, 3) := by decide +kernel
theorem dc_Mo_print_18 : decode m_Mo_print.2.1 18 = .ok (.iconst 0, 1) := by decide +kernel
theorem dc_Mo_print_19 : decode m_Mo_print.2.1 19 = .ok (.istore_n 3, 1) := by decide +kernel
theorem dc_Mo_print_20 : decode m_Mo_print.2.1 20 = .ok (.iload_n 3, 1) := by decide +kernel
theorem dc_Mo_print_21 : decode m_Mo_print.2.1 21 = .ok (.aload_n 0, 1) := by decide +kernel
theorem dc_Mo_print_22 : decode m_Mo_print.2.1 22 = .ok (.getfield 264, 3) := by decide +kernel
theorem dc_Mo_print_25 : decode m_Mo_print.2.1 25 = .ok (.if_icmp .ge 19, 3) := by decide +kernel
theorem dc_Mo_print_28 : decode m_Mo_print.2.1 28 = .ok (.aload_n 0, 1) := by decide +kernel
theorem dc_Mo_print_29 : decode m_Mo_print.2.1 29 = .ok (.aload_n 0, 1) := by decide +kernel
theorem dc_Mo_print_30 : decode m_Mo_print.2.1 30 = .ok (.getfield 28, 3) := by decide +kernel
theorem dc_Mo_print_33 : decode m_Mo_print.2.1 33 = .ok (.iload_n 3, 1) := by decide +kernel
theorem dc_Mo_print_34 : decode m_Mo_print.2.1 34 = .ok (.iaload, 1) := by decide +kernel
theorem dc_Mo_print_35 : decode m_Mo_print.2.1 35 = .ok (.invokevirtual 288, 3) := by decide +kernel
theorem dc_Mo_print_38 : decode m_Mo_print.2.1 38 = .ok (.iinc 3 1, 3) := by decide +kernel
theorem dc_Mo_print_41 : decode m_Mo_print.2.1 41 = .ok (.goto (-21), 3) := by decide +kernel
theorem dc_Mo_print_44 : decode m_Mo_print.2.1 44 = .ok (.aload_n 0, 1) := by decide +kernel
theorem dc_Mo_print_45 : decode m_Mo_print.2.1 45 = .ok (.getfield 169, 3) := by decide +kernel
theorem dc_Mo_print_48 : decode m_Mo_print.2.1 48 = .ok (.ireturn, 1) := by decide +kernel
theorem b_Mo_print_0 {E : En_t} {d : Nat} {σ : S_t} {Q : Option Value → S_t → Prop} {x1 : Int64}
    (h : CI E d m_Mo_isNumber [.long x1] σ (fun r2 σ1 => (¬ r2 = 0 → CV E d m_Mo_spell [pv E 0, .long x1] σ1 (fun σ3 => CV E d m_Mo_clearOut [pv E 0] σ3 (fun σ4 => JE E (d + 1) m_Mo_print 20 [(0, pv E 0), (3, .int (0 : Int32))] [] σ4 Q))) ∧ (r2 = 0 → Q (some (.int (-1 : Int32))) σ1))) :
    JE E (d + 1) m_Mo_print 0 [(0, pv E 0), (1, .long x1)] [] σ Q := by
  refine J_lload_n dc_Mo_print_0 (Eq.refl 1) 1 rfl ?_
  refine J_callSI (As := [.long x1]) (st := []) dc_Mo_print_1 (Eq.refl 4) lk_Mo_278 mi_Mo_isNumber (Nat.le_of_ble_eq_true rfl) rfl (Nat.le_of_ble_eq_true rfl) (CI.mono h (fun r2 σ1 h => ?_))
  refine J_if_ne dc_Mo_print_4 (Eq.refl 7) rfl (fun hc => ?_) (fun hc => ?_)
  · have h := h.1 hc
    refine J_aload_n dc_Mo_print_9 (Eq.refl 10) 0 rfl ?_
    refine J_lload_n dc_Mo_print_10 (Eq.refl 11) 1 rfl ?_
    refine J_callVV (As := [.long x1]) (st := []) dc_Mo_print_11 (Eq.refl 14) lk_Mo_282 mi_Mo_spell rfl (Nat.le_of_ble_eq_true rfl) rfl rfl (Nat.le_of_ble_eq_true rfl) rfl (Nat.le_of_ble_eq_true rfl) (CV.mono h (fun σ3 h => ?_))
    refine J_aload_n dc_Mo_print_14 (Eq.refl 15) 0 rfl ?_
    refine J_callVV (As := []) (st := []) dc_Mo_print_15 (Eq.refl 18) lk_Mo_285 mi_Mo_clearOut rfl (Nat.le_of_ble_eq_true rfl) rfl rfl (Nat.le_of_ble_eq_true rfl) rfl (Nat.le_of_ble_eq_true rfl) (CV.mono h (fun σ4 h => ?_))
    refine J_iconst (v := (0 : Int32)) dc_Mo_print_18 (Eq.refl 19) rfl ?_
    refine J_istore_n (L' := [(3, .int (0 : Int32)), (0, pv E 0), (1, .long x1)]) dc_Mo_print_19 (Eq.refl 20) (Nat.le_of_ble_eq_true rfl) rfl ?_
    refine J_sub [1, 0] rfl ?_
    exact h
  · have h := h.2 hc
    refine J_iconst (v := (-1 : Int32)) dc_Mo_print_7 (Eq.refl 8) rfl ?_
    exact J_iret dc_Mo_print_8 rfl h
theorem b_Mo_print_20 {E : En_t} {d : Nat} {σ : S_t} {Q : Option Value → S_t → Prop} {x3 : Int32}
    (h : ((gI σ 0 18) ≤ x3 → Q (some (.int (gI σ 0 4))) σ) ∧ (¬ (gI σ 0 18) ≤ x3 → vp_in x3 40 ∧ (CV E d m_Mo_put [pv E 0, .int (gI σ 7 x3.toNatClampNeg)] σ (fun σ1 => JE E (d + 1) m_Mo_print 20 [(0, pv E 0), (3, .int (x3 + (1 : Int32)))] [] σ1 Q)))) :
    JE E (d + 1) m_Mo_print 20 [(0, pv E 0), (3, .int x3)] [] σ Q := by
  refine J_iload_n dc_Mo_print_20 (Eq.refl 21) 1 rfl ?_
  refine J_aload_n dc_Mo_print_21 (Eq.refl 22) 0 rfl ?_
  refine J_getI dc_Mo_print_22 (Eq.refl 25) fl_Mo_264 (Nat.le_of_ble_eq_true rfl) rfl (Or.inl rfl) ?_
  refine J_icmp_ge dc_Mo_print_25 (Eq.refl 28) rfl (fun hc => ?_) (fun hc => ?_)
  · have h := h.1 hc
    refine J_aload_n dc_Mo_print_44 (Eq.refl 45) 0 rfl ?_
    refine J_getI dc_Mo_print_45 (Eq.refl 48) fl_Mo_169 (Nat.le_of_ble_eq_true rfl) rfl (Or.inl rfl) ?_
    exact J_iret dc_Mo_print_48 rfl h
  · have h := h.2 hc
    refine J_aload_n dc_Mo_print_28 (Eq.refl 29) 0 rfl ?_
    refine J_aload_n dc_Mo_print_29 (Eq.refl 30) 0 rfl ?_
    refine J_getF (y := 7) dc_Mo_print_30 (Eq.refl 33) fl_Mo_28 (Nat.le_of_ble_eq_true rfl) rfl (Or.inl rfl) rfl ?_
    refine J_iload_n dc_Mo_print_33 (Eq.refl 34) 1 rfl ?_
    obtain ⟨hg, h⟩ := h
    refine J_iald dc_Mo_print_34 (Eq.refl 35) rfl rfl hg ?_
    refine J_callVV (As := [.int (gI σ 7 x3.toNatClampNeg)]) (st := []) dc_Mo_print_35 (Eq.refl 38) lk_Mo_288 mi_Mo_put rfl (Nat.le_of_ble_eq_true rfl) rfl rfl (Nat.le_of_ble_eq_true rfl) rfl (Nat.le_of_ble_eq_true rfl) (CV.mono h (fun σ1 h => ?_))
    refine J_iinc (v := x3 + (1 : Int32)) (L' := [(3, .int (x3 + (1 : Int32))), (0, pv E 0)]) dc_Mo_print_38 (Eq.refl 41) 1 rfl rfl (Nat.le_of_ble_eq_true rfl) rfl ?_
    refine J_goto dc_Mo_print_41 rfl ?_
    refine J_sub [1, 0] rfl ?_
    exact h
theorem dc_Mo_isNumber_0 : decode m_Mo_isNumber.2.1 0 = .ok (.lload_n 0, 1) := by decide +kernel
theorem dc_Mo_isNumber_1 : decode m_Mo_isNumber.2.1 1 = .ok (.ldc2_w 192, 3) := by decide +kernel
theorem dc_Mo_isNumber_4 : decode m_Mo_isNumber.2.1 4 = .ok (.land, 1) := by decide +kernel
theorem dc_Mo_isNumber_5 : decode m_Mo_isNumber.2.1 5 = .ok (.ldc2_w 192, 3) := by decide +kernel
theorem dc_Mo_isNumber_8 : decode m_Mo_isNumber.2.1 8 = .ok (.lcmp, 1) := by decide +kernel
theorem dc_Mo_isNumber_9 : decode m_Mo_isNumber.2.1 9 = .ok (.ifCond .eq 7, 3) := by decide +kernel
theorem dc_Mo_isNumber_12 : decode m_Mo_isNumber.2.1 12 = .ok (.iconst 1, 1) := by decide +kernel
theorem dc_Mo_isNumber_13 : decode m_Mo_isNumber.2.1 13 = .ok (.goto 4, 3) := by decide +kernel
theorem dc_Mo_isNumber_16 : decode m_Mo_isNumber.2.1 16 = .ok (.iconst 0, 1) := by decide +kernel
theorem dc_Mo_isNumber_17 : decode m_Mo_isNumber.2.1 17 = .ok (.ireturn, 1) := by decide +kernel
theorem b_Mo_isNumber_0 {E : En_t} {d : Nat} {σ : S_t} {Q : Option Value → S_t → Prop} {x0 : Int64}
    (h : ((lg_cmp (x0 &&& (9218868437227405312 : Int64)) (9218868437227405312 : Int64)) = 0 → Q (some (.int (0 : Int32))) σ) ∧ (¬ (lg_cmp (x0 &&& (9218868437227405312 : Int64)) (9218868437227405312 : Int64)) = 0 → Q (some (.int (1 : Int32))) σ)) :
    JE E d m_Mo_isNumber 0 [(0, .long x0)] [] σ Q := by
  refine J_lload_n dc_Mo_isNumber_0 (Eq.refl 1) 0 rfl ?_
  refine J_ldc2 dc_Mo_isNumber_1 (Eq.refl 4) kc_Mo_192 ?_
  refine J_land dc_Mo_isNumber_4 (Eq.refl 5) ?_
  refine J_ldc2 dc_Mo_isNumber_5 (Eq.refl 8) kc_Mo_192 ?_
  refine J_lcmp dc_Mo_isNumber_8 (Eq.refl 9) ?_
  refine J_if_eq dc_Mo_isNumber_9 (Eq.refl 12) rfl (fun hc => ?_) (fun hc => ?_)
  · have h := h.1 hc
    refine J_iconst (v := (0 : Int32)) dc_Mo_isNumber_16 (Eq.refl 17) rfl ?_
    exact J_zret dc_Mo_isNumber_17 rfl rfl h
  · have h := h.2 hc
    refine J_iconst (v := (1 : Int32)) dc_Mo_isNumber_12 (Eq.refl 13) rfl ?_
    refine J_goto dc_Mo_isNumber_13 rfl ?_
    exact J_zret dc_Mo_isNumber_17 rfl rfl h
theorem dc_Mo_spell_0 : decode m_Mo_spell.2.1 0 = .ok (.aload_n 0, 1) := by decide +kernel
theorem dc_Mo_spell_1 : decode m_Mo_spell.2.1 1 = .ok (.iconst 0, 1) := by decide +kernel
theorem dc_Mo_spell_2 : decode m_Mo_spell.2.1 2 = .ok (.putfield 264, 3) := by decide +kernel
theorem dc_Mo_spell_5 : decode m_Mo_spell.2.1 5 = .ok (.lload_n 1, 1) := by decide +kernel
theorem dc_Mo_spell_6 : decode m_Mo_spell.2.1 6 = .ok (.ldc2_w 270, 3) := by decide +kernel
theorem dc_Mo_spell_9 : decode m_Mo_spell.2.1 9 = .ok (.land, 1) := by decide +kernel
theorem dc_Mo_spell_10 : decode m_Mo_spell.2.1 10 = .ok (.lconst 0, 1) := by decide +kernel
theorem dc_Mo_spell_11 : decode m_Mo_spell.2.1 11 = .ok (.lcmp, 1) := by decide +kernel
theorem dc_Mo_spell_12 : decode m_Mo_spell.2.1 12 = .ok (.ifCond .ne 10, 3) := by decide +kernel
theorem dc_Mo_spell_15 : decode m_Mo_spell.2.1 15 = .ok (.aload_n 0, 1) := by decide +kernel
theorem dc_Mo_spell_16 : decode m_Mo_spell.2.1 16 = .ok (.bipush 48, 2) := by decide +kernel
theorem dc_Mo_spell_18 : decode m_Mo_spell.2.1 18 = .ok (.invokevirtual 267, 3) := by decide +kernel
theorem dc_Mo_spell_21 : decode m_Mo_spell.2.1 21 = .ok (.return_, 1) := by decide +kernel
theorem dc_Mo_spell_22 : decode m_Mo_spell.2.1 22 = .ok (.aload_n 0, 1) := by decide +kernel
theorem dc_Mo_spell_23 : decode m_Mo_spell.2.1 23 = .ok (.lload_n 1, 1) := by decide +kernel
theorem dc_Mo_spell_24 : decode m_Mo_spell.2.1 24 = .ok (.ldc2_w 270, 3) := by decide +kernel
theorem dc_Mo_spell_27 : decode m_Mo_spell.2.1 27 = .ok (.land, 1) := by decide +kernel
theorem dc_Mo_spell_28 : decode m_Mo_spell.2.1 28 = .ok (.invokevirtual 272, 3) := by decide +kernel
theorem dc_Mo_spell_31 : decode m_Mo_spell.2.1 31 = .ok (.lload_n 1, 1) := by decide +kernel
theorem dc_Mo_spell_32 : decode m_Mo_spell.2.1 32 = .ok (.lconst 0, 1) := by decide +kernel
theorem dc_Mo_spell_33 : decode m_Mo_spell.2.1 33 = .ok (.lcmp, 1) := by decide +kernel
theorem dc_Mo_spell_34 : decode m_Mo_spell.2.1 34 = .ok (.ifCond .ge 9, 3) := by decide +kernel
theorem dc_Mo_spell_37 : decode m_Mo_spell.2.1 37 = .ok (.aload_n 0, 1) := by decide +kernel
theorem dc_Mo_spell_38 : decode m_Mo_spell.2.1 38 = .ok (.bipush 45, 2) := by decide +kernel
theorem dc_Mo_spell_40 : decode m_Mo_spell.2.1 40 = .ok (.invokevirtual 267, 3) := by decide +kernel
theorem dc_Mo_spell_43 : decode m_Mo_spell.2.1 43 = .ok (.aload_n 0, 1) := by decide +kernel
theorem dc_Mo_spell_44 : decode m_Mo_spell.2.1 44 = .ok (.getfield 247, 3) := by decide +kernel
theorem dc_Mo_spell_47 : decode m_Mo_spell.2.1 47 = .ok (.istore_n 3, 1) := by decide +kernel
theorem dc_Mo_spell_48 : decode m_Mo_spell.2.1 48 = .ok (.aload_n 0, 1) := by decide +kernel
theorem dc_Mo_spell_49 : decode m_Mo_spell.2.1 49 = .ok (.getfield 250, 3) := by decide +kernel
theorem dc_Mo_spell_52 : decode m_Mo_spell.2.1 52 = .ok (.istore 4, 2) := by decide +kernel
theorem dc_Mo_spell_54 : decode m_Mo_spell.2.1 54 = .ok (.iload 4, 2) := by decide +kernel
theorem dc_Mo_spell_56 : decode m_Mo_spell.2.1 56 = .ok (.iload_n 3, 1) := by decide +kernel
theorem dc_Mo_spell_57 : decode m_Mo_spell.2.1 57 = .ok (.if_icmp .lt 53, 3) := by decide +kernel
theorem dc_Mo_spell_60 : decode m_Mo_spell.2.1 60 = .ok (.iload 4, 2) := by decide +kernel
theorem dc_Mo_spell_62 : decode m_Mo_spell.2.1 62 = .ok (.bipush 21, 2) := by decide +kernel
theorem dc_Mo_spell_64 : decode m_Mo_spell.2.1 64 = .ok (.if_icmp .gt 46, 3) := by decide +kernel
theorem dc_Mo_spell_67 : decode m_Mo_spell.2.1 67 = .ok (.iconst 0, 1) := by decide +kernel
theorem dc_Mo_spell_68 : decode m_Mo_spell.2.1 68 = .ok (.istore 5, 2) := by decide +kernel
theorem dc_Mo_spell_70 : decode m_Mo_spell.2.1 70 = .ok (.iload 5, 2) := by decide +kernel
theorem dc_Mo_spell_72 : decode m_Mo_spell.2.1 72 = .ok (.iload 4, 2) := by decide +kernel
theorem dc_Mo_spell_74 : decode m_Mo_spell.2.1 74 = .ok (.if_icmp .ge 33, 3) := by decide +kernel
theorem dc_Mo_spell_77 : decode m_Mo_spell.2.1 77 = .ok (.aload_n 0, 1) := by decide +kernel
theorem dc_Mo_spell_78 : decode m_Mo_spell.2.1 78 = .ok (.bipush 48, 2) := by decide +kernel
theorem dc_Mo_spell_80 : decode m_Mo_spell.2.1 80 = .ok (.iload 5, 2) := by decide +kernel
theorem dc_Mo_spell_82 : decode m_Mo_spell.2.1 82 = .ok (.iload_n 3, 1) := by decide +kernel
theorem dc_Mo_spell_83 : decode m_Mo_spell.2.1 83 = .ok (.if_icmp .ge 13, 3) := by decide +kernel
theorem dc_Mo_spell_86 : decode m_Mo_spell.2.1 86 = .ok (.aload_n 0, 1) := by decide +kernel
theorem dc_Mo_spell_87 : decode m_Mo_spell.2.1 87 = .ok (.getfield 25, 3) := by decide +kernel
theorem dc_Mo_spell_90 : decode m_Mo_spell.2.1 90 = .ok (.iload 5, 2) := by decide +kernel
theorem dc_Mo_spell_92 : decode m_Mo_spell.2.1 92 = .ok (.iaload, 1) := by decide +kernel
theorem dc_Mo_spell_93 : decode m_Mo_spell.2.1 93 = .ok (.goto 4, 3) := by decide +kernel
theorem dc_Mo_spell_96 : decode m_Mo_spell.2.1 96 = .ok (.iconst 0, 1) := by decide +kernel
theorem dc_Mo_spell_97 : decode m_Mo_spell.2.1 97 = .ok (.iadd, 1) := by decide +kernel
theorem dc_Mo_spell_98 : decode m_Mo_spell.2.1 98 = .ok (.invokevirtual 267, 3) := by decide +kernel
theorem dc_Mo_spell_101 : decode m_Mo_spell.2.1 101 = .ok (.iinc 5 1, 3) := by decide +kernel
theorem dc_Mo_spell_104 : decode m_Mo_spell.2.1 104 = .ok (.goto (-34), 3) := by decide +kernel
theorem dc_Mo_spell_107 : decode m_Mo_spell.2.1 107 = .ok (.goto 223, 3) := by decide +kernel
theorem dc_Mo_spell_110 : decode m_Mo_spell.2.1 110 = .ok (.iload 4, 2) := by decide +kernel
theorem dc_Mo_spell_112 : decode m_Mo_spell.2.1 112 = .ok (.iconst 1, 1) := by decide +kernel
theorem dc_Mo_spell_113 : decode m_Mo_spell.2.1 113 = .ok (.if_icmp .lt 55, 3) := by decide +kernel
theorem dc_Mo_spell_116 : decode m_Mo_spell.2.1 116 = .ok (.iload 4, 2) := by decide +kernel
theorem dc_Mo_spell_118 : decode m_Mo_spell.2.1 118 = .ok (.bipush 21, 2) := by decide +kernel
theorem dc_Mo_spell_120 : decode m_Mo_spell.2.1 120 = .ok (.if_icmp .gt 48, 3) := by decide +kernel
theorem dc_Mo_spell_123 : decode m_Mo_spell.2.1 123 = .ok (.iconst 0, 1) := by decide +kernel
theorem dc_Mo_spell_124 : decode m_Mo_spell.2.1 124 = .ok (.istore 5, 2) := by decide +kernel
theorem dc_Mo_spell_126 : decode m_Mo_spell.2.1 126 = .ok (.iload 5, 2) := by decide +kernel
theorem dc_Mo_spell_128 : decode m_Mo_spell.2.1 128 = .ok (.iload_n 3, 1) := by decide +kernel
theorem dc_Mo_spell_129 : decode m_Mo_spell.2.1 129 = .ok (.if_icmp .ge 36, 3) := by decide +kernel
theorem dc_Mo_spell_132 : decode m_Mo_spell.2.1 132 = .ok (.iload 5, 2) := by decide +kernel
theorem dc_Mo_spell_134 : decode m_Mo_spell.2.1 134 = .ok (.iload 4, 2) := by decide +kernel
theorem dc_Mo_spell_136 : decode m_Mo_spell.2.1 136 = .ok (.if_icmp .ne 9, 3) := by decide +kernel
theorem dc_Mo_spell_139 : decode m_Mo_spell.2.1 139 = .ok (.aload_n 0, 1) := by decide +kernel
theorem dc_Mo_spell_140 : decode m_Mo_spell.2.1 140 = .ok (.bipush 46, 2) := by decide +kernel
theorem dc_Mo_spell_142 : decode m_Mo_spell.2.1 142 = .ok (.invokevirtual 267, 3) := by decide +kernel
theorem dc_Mo_spell_145 : decode m_Mo_spell.2.1 145 = .ok (.aload_n 0, 1) := by decide +kernel
theorem dc_Mo_spell_146 : decode m_Mo_spell.2.1 146 = .ok (.bipush 48, 2) := by decide +kernel
theorem dc_Mo_spell_148 : decode m_Mo_spell.2.1 148 = .ok (.aload_n 0, 1) := by decide +kernel
theorem dc_Mo_spell_149 : decode m_Mo_spell.2.1 149 = .ok (.getfield 25, 3) := by decide +kernel
theorem dc_Mo_spell_152 : decode m_Mo_spell.2.1 152 = .ok (.iload 5, 2) := by decide +kernel
theorem dc_Mo_spell_154 : decode m_Mo_spell.2.1 154 = .ok (.iaload, 1) := by decide +kernel
theorem dc_Mo_spell_155 : decode m_Mo_spell.2.1 155 = .ok (.iadd, 1) := by decide +kernel
theorem dc_Mo_spell_156 : decode m_Mo_spell.2.1 156 = .ok (.invokevirtual 267, 3) := by decide +kernel
theorem dc_Mo_spell_159 : decode m_Mo_spell.2.1 159 = .ok (.iinc 5 1, 3) := by decide +kernel
theorem dc_Mo_spell_162 : decode m_Mo_spell.2.1 162 = .ok (.goto (-36), 3) := by decide +kernel
theorem dc_Mo_spell_165 : decode m_Mo_spell.2.1 165 = .ok (.goto 165, 3) := by decide +kernel
theorem dc_Mo_spell_168 : decode m_Mo_spell.2.1 168 = .ok (.iload 4, 2) := by decide +kernel
theorem dc_Mo_spell_170 : decode m_Mo_spell.2.1 170 = .ok (.bipush (-5), 2) := by decide +kernel
theorem dc_Mo_spell_172 : decode m_Mo_spell.2.1 172 = .ok (.if_icmp .lt 75, 3) := by decide +kernel
theorem dc_Mo_spell_175 : decode m_Mo_spell.2.1 175 = .ok (.iload 4, 2) := by decide +kernel
theorem dc_Mo_spell_177 : decode m_Mo_spell.2.1 177 = .ok (.ifCond .gt 70, 3) := by decide +kernel
theorem dc_Mo_spell_180 : decode m_Mo_spell.2.1 180 = .ok (.aload_n 0, 1) := by decide +kernel
theorem dc_Mo_spell_181 : decode m_Mo_spell.2.1 181 = .ok (.bipush 48, 2) := by decide +kernel
theorem dc_Mo_spell_183 : decode m_Mo_spell.2.1 183 = .ok (.invokevirtual 267, 3) := by decide +kernel
theorem dc_Mo_spell_186 : decode m_Mo_spell.2.1 186 = .ok (.aload_n 0, 1) := by decide +kernel
theorem dc_Mo_spell_187 : decode m_Mo_spell.2.1 187 = .ok (.bipush 46, 2) := by decide +kernel
theorem dc_Mo_spell_189 : decode m_Mo_spell.2.1 189 = .ok (.invokevirtual 267, 3) := by decide +kernel
theorem dc_Mo_spell_192 : decode m_Mo_spell.2.1 192 = .ok (.iconst 0, 1) := by decide +kernel
theorem dc_Mo_spell_193 : decode m_Mo_spell.2.1 193 = .ok (.istore 5, 2) := by decide +kernel
theorem dc_Mo_spell_195 : decode m_Mo_spell.2.1 195 = .ok (.iload 5, 2) := by decide +kernel
theorem dc_Mo_spell_197 : decode m_Mo_spell.2.1 197 = .ok (.iload 4, 2) := by decide +kernel
theorem dc_Mo_spell_199 : decode m_Mo_spell.2.1 199 = .ok (.ineg, 1) := by decide +kernel
theorem dc_Mo_spell_200 : decode m_Mo_spell.2.1 200 = .ok (.if_icmp .ge 15, 3) := by decide +kernel
theorem dc_Mo_spell_203 : decode m_Mo_spell.2.1 203 = .ok (.aload_n 0, 1) := by decide +kernel
theorem dc_Mo_spell_204 : decode m_Mo_spell.2.1 204 = .ok (.bipush 48, 2) := by decide +kernel
theorem dc_Mo_spell_206 : decode m_Mo_spell.2.1 206 = .ok (.invokevirtual 267, 3) := by decide +kernel
theorem dc_Mo_spell_209 : decode m_Mo_spell.2.1 209 = .ok (.iinc 5 1, 3) := by decide +kernel
theorem dc_Mo_spell_212 : decode m_Mo_spell.2.1 212 = .ok (.goto (-17), 3) := by decide +kernel
theorem dc_Mo_spell_215 : decode m_Mo_spell.2.1 215 = .ok (.iconst 0, 1) := by decide +kernel
theorem dc_Mo_spell_216 : decode m_Mo_spell.2.1 216 = .ok (.istore 5, 2) := by decide +kernel
theorem dc_Mo_spell_218 : decode m_Mo_spell.2.1 218 = .ok (.iload 5, 2) := by decide +kernel
theorem dc_Mo_spell_220 : decode m_Mo_spell.2.1 220 = .ok (.iload_n 3, 1) := by decide +kernel
theorem dc_Mo_spell_221 : decode m_Mo_spell.2.1 221 = .ok (.if_icmp .ge 23, 3) := by decide +kernel
theorem dc_Mo_spell_224 : decode m_Mo_spell.2.1 224 = .ok (.aload_n 0, 1) := by decide +kernel
theorem dc_Mo_spell_225 : decode m_Mo_spell.2.1 225 = .ok (.bipush 48, 2) := by decide +kernel
theorem dc_Mo_spell_227 : decode m_Mo_spell.2.1 227 = .ok (.aload_n 0, 1) := by decide +kernel
theorem dc_Mo_spell_228 : decode m_Mo_spell.2.1 228 = .ok (.getfield 25, 3) := by decide +kernel
theorem dc_Mo_spell_231 : decode m_Mo_spell.2.1 231 = .ok (.iload 5, 2) := by decide +kernel
theorem dc_Mo_spell_233 : decode m_Mo_spell.2.1 233 = .ok (.iaload, 1) := by decide +kernel
theorem dc_Mo_spell_234 : decode m_Mo_spell.2.1 234 = .ok (.iadd, 1) := by decide +kernel
theorem dc_Mo_spell_235 : decode m_Mo_spell.2.1 235 = .ok (.invokevirtual 267, 3) := by decide +kernel
theorem dc_Mo_spell_238 : decode m_Mo_spell.2.1 238 = .ok (.iinc 5 1, 3) := by decide +kernel
theorem dc_Mo_spell_241 : decode m_Mo_spell.2.1 241 = .ok (.goto (-23), 3) := by decide +kernel
theorem dc_Mo_spell_244 : decode m_Mo_spell.2.1 244 = .ok (.goto 86, 3) := by decide +kernel
theorem dc_Mo_spell_247 : decode m_Mo_spell.2.1 247 = .ok (.iconst 0, 1) := by decide +kernel
theorem dc_Mo_spell_248 : decode m_Mo_spell.2.1 248 = .ok (.istore 5, 2) := by decide +kernel
theorem dc_Mo_spell_250 : decode m_Mo_spell.2.1 250 = .ok (.iload 5, 2) := by decide +kernel
theorem dc_Mo_spell_252 : decode m_Mo_spell.2.1 252 = .ok (.iload_n 3, 1) := by decide +kernel
theorem dc_Mo_spell_253 : decode m_Mo_spell.2.1 253 = .ok (.if_icmp .ge 35, 3) := by decide +kernel
theorem dc_Mo_spell_256 : decode m_Mo_spell.2.1 256 = .ok (.iload 5, 2) := by decide +kernel
theorem dc_Mo_spell_258 : decode m_Mo_spell.2.1 258 = .ok (.iconst 1, 1) := by decide +kernel
theorem dc_Mo_spell_259 : decode m_Mo_spell.2.1 259 = .ok (.if_icmp .ne 9, 3) := by decide +kernel
theorem dc_Mo_spell_262 : decode m_Mo_spell.2.1 262 = .ok (.aload_n 0, 1) := by decide +kernel
theorem dc_Mo_spell_263 : decode m_Mo_spell.2.1 263 = .ok (.bipush 46, 2) := by decide +kernel
theorem dc_Mo_spell_265 : decode m_Mo_spell.2.1 265 = .ok (.invokevirtual 267, 3) := by decide +kernel
theorem dc_Mo_spell_268 : decode m_Mo_spell.2.1 268 = .ok (.aload_n 0, 1) := by decide +kernel
theorem dc_Mo_spell_269 : decode m_Mo_spell.2.1 269 = .ok (.bipush 48, 2) := by decide +kernel
theorem dc_Mo_spell_271 : decode m_Mo_spell.2.1 271 = .ok (.aload_n 0, 1) := by decide +kernel
theorem dc_Mo_spell_272 : decode m_Mo_spell.2.1 272 = .ok (.getfield 25, 3) := by decide +kernel
theorem dc_Mo_spell_275 : decode m_Mo_spell.2.1 275 = .ok (.iload 5, 2) := by decide +kernel
theorem dc_Mo_spell_277 : decode m_Mo_spell.2.1 277 = .ok (.iaload, 1) := by decide +kernel
theorem dc_Mo_spell_278 : decode m_Mo_spell.2.1 278 = .ok (.iadd, 1) := by decide +kernel
theorem dc_Mo_spell_279 : decode m_Mo_spell.2.1 279 = .ok (.invokevirtual 267, 3) := by decide +kernel
theorem dc_Mo_spell_282 : decode m_Mo_spell.2.1 282 = .ok (.iinc 5 1, 3) := by decide +kernel
theorem dc_Mo_spell_285 : decode m_Mo_spell.2.1 285 = .ok (.goto (-35), 3) := by decide +kernel
theorem dc_Mo_spell_288 : decode m_Mo_spell.2.1 288 = .ok (.aload_n 0, 1) := by decide +kernel
theorem dc_Mo_spell_289 : decode m_Mo_spell.2.1 289 = .ok (.bipush 101, 2) := by decide +kernel
theorem dc_Mo_spell_291 : decode m_Mo_spell.2.1 291 = .ok (.invokevirtual 267, 3) := by decide +kernel
theorem dc_Mo_spell_294 : decode m_Mo_spell.2.1 294 = .ok (.aload_n 0, 1) := by decide +kernel
theorem dc_Mo_spell_295 : decode m_Mo_spell.2.1 295 = .ok (.iload 4, 2) := by decide +kernel
theorem dc_Mo_spell_297 : decode m_Mo_spell.2.1 297 = .ok (.ifCond .le 8, 3) := by decide +kernel
theorem dc_Mo_spell_300 : decode m_Mo_spell.2.1 300 = .ok (.bipush 43, 2) := by decide +kernel
theorem dc_Mo_spell_302 : decode m_Mo_spell.2.1 302 = .ok (.goto 5, 3) := by decide +kernel
theorem dc_Mo_spell_305 : decode m_Mo_spell.2.1 305 = .ok (.bipush 45, 2) := by decide +kernel
theorem dc_Mo_spell_307 : decode m_Mo_spell.2.1 307 = .ok (.invokevirtual 267, 3) := by decide +kernel
theorem dc_Mo_spell_310 : decode m_Mo_spell.2.1 310 = .ok (.aload_n 0, 1) := by decide +kernel
theorem dc_Mo_spell_311 : decode m_Mo_spell.2.1 311 = .ok (.iload 4, 2) := by decide +kernel
theorem dc_Mo_spell_313 : decode m_Mo_spell.2.1 313 = .ok (.ifCond .le 10, 3) := by decide +kernel
theorem dc_Mo_spell_316 : decode m_Mo_spell.2.1 316 = .ok (.iload 4, 2) := by decide +kernel
theorem dc_Mo_spell_318 : decode m_Mo_spell.2.1 318 = .ok (.iconst 1, 1) := by decide +kernel
theorem dc_Mo_spell_319 : decode m_Mo_spell.2.1 319 = .ok (.isub, 1) := by decide +kernel
theorem dc_Mo_spell_320 : decode m_Mo_spell.2.1 320 = .ok (.goto 7, 3) := by decide +kernel
theorem dc_Mo_spell_323 : decode m_Mo_spell.2.1 323 = .ok (.iconst 1, 1) := by decide +kernel
theorem dc_Mo_spell_324 : decode m_Mo_spell.2.1 324 = .ok (.iload 4, 2) := by decide +kernel
theorem dc_Mo_spell_326 : decode m_Mo_spell.2.1 326 = .ok (.isub, 1) := by decide +kernel
theorem dc_Mo_spell_327 : decode m_Mo_spell.2.1 327 = .ok (.invokevirtual 275, 3) := by decide +kernel
theorem dc_Mo_spell_330 : decode m_Mo_spell.2.1 330 = .ok (.return_, 1) := by decide +kernel
theorem b_Mo_spell_0 {E : En_t} {d : Nat} {σ : S_t} {Q : Option Value → S_t → Prop} {x1 : Int64}
    (h : (¬ (lg_cmp (x1 &&& (9223372036854775807 : Int64)) (0 : Int64)) = 0 → CV E d m_Mo_shortest [pv E 0, .long (x1 &&& (9223372036854775807 : Int64))] (sI σ 0 18 (0 : Int32)) (fun σ1 => (0 ≤ (lg_cmp x1 (0 : Int64)) → JE E (d + 1) m_Mo_spell 43 [(0, pv E 0)] [] σ1 Q) ∧ (¬ 0 ≤ (lg_cmp x1 (0 : Int64)) → CV E d m_Mo_printing [pv E 0, .int (45 : Int32)] σ1 (fun σ2 => JE E (d + 1) m_Mo_spell 43 [(0, pv E 0)] [] σ2 Q)))) ∧ ((lg_cmp (x1 &&& (9223372036854775807 : Int64)) (0 : Int64)) = 0 → CV E d m_Mo_printing [pv E 0, .int (48 : Int32)] (sI σ 0 18 (0 : Int32)) (fun σ3 => Q none σ3))) :
    JE E (d + 1) m_Mo_spell 0 [(0, pv E 0), (1, .long x1)] [] σ Q := by
  refine J_aload_n dc_Mo_spell_0 (Eq.refl 1) 0 rfl ?_
  refine J_iconst (v := (0 : Int32)) dc_Mo_spell_1 (Eq.refl 2) rfl ?_
  refine J_putI dc_Mo_spell_2 (Eq.refl 5) pl_Mo_264 (Nat.le_of_ble_eq_true rfl) rfl rfl ?_
  refine J_lload_n dc_Mo_spell_5 (Eq.refl 6) 1 rfl ?_
  refine J_ldc2 dc_Mo_spell_6 (Eq.refl 9) kc_Mo_270 ?_
  refine J_land dc_Mo_spell_9 (Eq.refl 10) ?_
  refine J_lconst (v := (0 : Int64)) dc_Mo_spell_10 (Eq.refl 11) rfl ?_
  refine J_lcmp dc_Mo_spell_11 (Eq.refl 12) ?_
  refine J_if_ne dc_Mo_spell_12 (Eq.refl 15) rfl (fun hc => ?_) (fun hc => ?_)
  · have h := h.1 hc
    refine J_aload_n dc_Mo_spell_22 (Eq.refl 23) 0 rfl ?_
    refine J_lload_n dc_Mo_spell_23 (Eq.refl 24) 1 rfl ?_
    refine J_ldc2 dc_Mo_spell_24 (Eq.refl 27) kc_Mo_270 ?_
    refine J_land dc_Mo_spell_27 (Eq.refl 28) ?_
    refine J_callVV (As := [.long (x1 &&& (9223372036854775807 : Int64))]) (st := []) dc_Mo_spell_28 (Eq.refl 31) lk_Mo_272 mi_Mo_shortest rfl (Nat.le_of_ble_eq_true rfl) rfl rfl (Nat.le_of_ble_eq_true rfl) rfl (Nat.le_of_ble_eq_true rfl) (CV.mono h (fun σ1 h => ?_))
    refine J_lload_n dc_Mo_spell_31 (Eq.refl 32) 1 rfl ?_
    refine J_lconst (v := (0 : Int64)) dc_Mo_spell_32 (Eq.refl 33) rfl ?_
    refine J_lcmp dc_Mo_spell_33 (Eq.refl 34) ?_
    refine J_if_ge dc_Mo_spell_34 (Eq.refl 37) rfl (fun hc => ?_) (fun hc => ?_)
    · have h := h.1 hc
      refine J_sub [0] rfl ?_
      exact h
    · have h := h.2 hc
      refine J_aload_n dc_Mo_spell_37 (Eq.refl 38) 0 rfl ?_
      refine J_bipush (v := (45 : Int32)) dc_Mo_spell_38 (Eq.refl 40) rfl ?_
      refine J_callVV (As := [.int (45 : Int32)]) (st := []) dc_Mo_spell_40 (Eq.refl 43) lk_Mo_267 mi_Mo_printing rfl (Nat.le_of_ble_eq_true rfl) rfl rfl (Nat.le_of_ble_eq_true rfl) rfl (Nat.le_of_ble_eq_true rfl) (CV.mono h (fun σ2 h => ?_))
      refine J_sub [0] rfl ?_
      exact h
  · have h := h.2 hc
    refine J_aload_n dc_Mo_spell_15 (Eq.refl 16) 0 rfl ?_
    refine J_bipush (v := (48 : Int32)) dc_Mo_spell_16 (Eq.refl 18) rfl ?_
    refine J_callVV (As := [.int (48 : Int32)]) (st := []) dc_Mo_spell_18 (Eq.refl 21) lk_Mo_267 mi_Mo_printing rfl (Nat.le_of_ble_eq_true rfl) rfl rfl (Nat.le_of_ble_eq_true rfl) rfl (Nat.le_of_ble_eq_true rfl) (CV.mono h (fun σ3 h => ?_))
    exact J_vret dc_Mo_spell_21 rfl h
theorem b_Mo_spell_43 {E : En_t} {d : Nat} {σ : S_t} {Q : Option Value → S_t → Prop}
    (h : ((gI σ 0 16) < (gI σ 0 15) → JE E (d + 1) m_Mo_spell 110 [(0, pv E 0), (3, .int (gI σ 0 15)), (4, .int (gI σ 0 16))] [] σ Q) ∧ (¬ (gI σ 0 16) < (gI σ 0 15) → ((21 : Int32) < (gI σ 0 16) → JE E (d + 1) m_Mo_spell 110 [(0, pv E 0), (3, .int (gI σ 0 15)), (4, .int (gI σ 0 16))] [] σ Q) ∧ (¬ (21 : Int32) < (gI σ 0 16) → JE E (d + 1) m_Mo_spell 70 [(0, pv E 0), (3, .int (gI σ 0 15)), (4, .int (gI σ 0 16)), (5, .int (0 : Int32))] [] σ Q))) :
    JE E (d + 1) m_Mo_spell 43 [(0, pv E 0)] [] σ Q := by
  refine J_aload_n dc_Mo_spell_43 (Eq.refl 44) 0 rfl ?_
  refine J_getI dc_Mo_spell_44 (Eq.refl 47) fl_Mo_247 (Nat.le_of_ble_eq_true rfl) rfl (Or.inl rfl) ?_
  refine J_istore_n (L' := [(3, .int (gI σ 0 15)), (0, pv E 0)]) dc_Mo_spell_47 (Eq.refl 48) (Nat.le_of_ble_eq_true rfl) rfl ?_
  refine J_aload_n dc_Mo_spell_48 (Eq.refl 49) 1 rfl ?_
  refine J_getI dc_Mo_spell_49 (Eq.refl 52) fl_Mo_250 (Nat.le_of_ble_eq_true rfl) rfl (Or.inl rfl) ?_
  refine J_istore (L' := [(4, .int (gI σ 0 16)), (3, .int (gI σ 0 15)), (0, pv E 0)]) dc_Mo_spell_52 (Eq.refl 54) (Nat.le_of_ble_eq_true rfl) rfl ?_
  refine J_iload dc_Mo_spell_54 (Eq.refl 56) 0 rfl ?_
  refine J_iload_n dc_Mo_spell_56 (Eq.refl 57) 1 rfl ?_
  refine J_icmp_lt dc_Mo_spell_57 (Eq.refl 60) rfl (fun hc => ?_) (fun hc => ?_)
  · have h := h.1 hc
    refine J_sub [2, 1, 0] rfl ?_
    exact h
  · have h := h.2 hc
    refine J_iload dc_Mo_spell_60 (Eq.refl 62) 0 rfl ?_
    refine J_bipush (v := (21 : Int32)) dc_Mo_spell_62 (Eq.refl 64) rfl ?_
    refine J_icmp_gt dc_Mo_spell_64 (Eq.refl 67) rfl (fun hc => ?_) (fun hc => ?_)
    · have h := h.1 hc
      refine J_sub [2, 1, 0] rfl ?_
      exact h
    · have h := h.2 hc
      refine J_iconst (v := (0 : Int32)) dc_Mo_spell_67 (Eq.refl 68) rfl ?_
      refine J_istore (L' := [(5, .int (0 : Int32)), (4, .int (gI σ 0 16)), (3, .int (gI σ 0 15)), (0, pv E 0)]) dc_Mo_spell_68 (Eq.refl 70) (Nat.le_of_ble_eq_true rfl) rfl ?_
      refine J_sub [3, 2, 1, 0] rfl ?_
      exact h
theorem b_Mo_spell_70 {E : En_t} {d : Nat} {σ : S_t} {Q : Option Value → S_t → Prop} {x3 : Int32} {x4 : Int32} {x5 : Int32}
    (h : (x4 ≤ x5 → Q none σ) ∧ (¬ x4 ≤ x5 → (x3 ≤ x5 → JE E (d + 1) m_Mo_spell 97 [(0, pv E 0), (3, .int x3), (4, .int x4), (5, .int x5)] [.int (0 : Int32), .int (48 : Int32), pv E 0] σ Q) ∧ (¬ x3 ≤ x5 → vp_in x5 20 ∧ (JE E (d + 1) m_Mo_spell 97 [(0, pv E 0), (3, .int x3), (4, .int x4), (5, .int x5)] [.int (gI σ 6 x5.toNatClampNeg), .int (48 : Int32), pv E 0] σ Q)))) :
    JE E (d + 1) m_Mo_spell 70 [(0, pv E 0), (3, .int x3), (4, .int x4), (5, .int x5)] [] σ Q := by
  refine J_iload dc_Mo_spell_70 (Eq.refl 72) 3 rfl ?_
  refine J_iload dc_Mo_spell_72 (Eq.refl 74) 2 rfl ?_
  refine J_icmp_ge dc_Mo_spell_74 (Eq.refl 77) rfl (fun hc => ?_) (fun hc => ?_)
  · have h := h.1 hc
    refine J_goto dc_Mo_spell_107 rfl ?_
    exact J_vret dc_Mo_spell_330 rfl h
  · have h := h.2 hc
    refine J_aload_n dc_Mo_spell_77 (Eq.refl 78) 0 rfl ?_
    refine J_bipush (v := (48 : Int32)) dc_Mo_spell_78 (Eq.refl 80) rfl ?_
    refine J_iload dc_Mo_spell_80 (Eq.refl 82) 3 rfl ?_
    refine J_iload_n dc_Mo_spell_82 (Eq.refl 83) 1 rfl ?_
    refine J_icmp_ge dc_Mo_spell_83 (Eq.refl 86) rfl (fun hc => ?_) (fun hc => ?_)
    · have h := h.1 hc
      refine J_iconst (v := (0 : Int32)) dc_Mo_spell_96 (Eq.refl 97) rfl ?_
      exact h
    · have h := h.2 hc
      refine J_aload_n dc_Mo_spell_86 (Eq.refl 87) 0 rfl ?_
      refine J_getF (y := 6) dc_Mo_spell_87 (Eq.refl 90) fl_Mo_25 (Nat.le_of_ble_eq_true rfl) rfl (Or.inl rfl) rfl ?_
      refine J_iload dc_Mo_spell_90 (Eq.refl 92) 3 rfl ?_
      obtain ⟨hg, h⟩ := h
      refine J_iald dc_Mo_spell_92 (Eq.refl 93) rfl rfl hg ?_
      refine J_goto dc_Mo_spell_93 rfl ?_
      exact h
theorem b_Mo_spell_97 {E : En_t} {d : Nat} {σ : S_t} {Q : Option Value → S_t → Prop} {x3 : Int32} {x4 : Int32} {x5 : Int32} {s0 : Int32} {s1 : Int32}
    (h : CV E d m_Mo_printing [pv E 0, .int (s1 + s0)] σ (fun σ1 => JE E (d + 1) m_Mo_spell 70 [(0, pv E 0), (3, .int x3), (4, .int x4), (5, .int (x5 + (1 : Int32)))] [] σ1 Q)) :
    JE E (d + 1) m_Mo_spell 97 [(0, pv E 0), (3, .int x3), (4, .int x4), (5, .int x5)] [.int s0, .int s1, pv E 0] σ Q := by
  refine J_iadd dc_Mo_spell_97 (Eq.refl 98) ?_
  refine J_callVV (As := [.int (s1 + s0)]) (st := []) dc_Mo_spell_98 (Eq.refl 101) lk_Mo_267 mi_Mo_printing rfl (Nat.le_of_ble_eq_true rfl) rfl rfl (Nat.le_of_ble_eq_true rfl) rfl (Nat.le_of_ble_eq_true rfl) (CV.mono h (fun σ1 h => ?_))
  refine J_iinc (v := x5 + (1 : Int32)) (L' := [(5, .int (x5 + (1 : Int32))), (0, pv E 0), (3, .int x3), (4, .int x4)]) dc_Mo_spell_101 (Eq.refl 104) 3 rfl rfl (Nat.le_of_ble_eq_true rfl) rfl ?_
  refine J_goto dc_Mo_spell_104 rfl ?_
  refine J_sub [1, 2, 3, 0] rfl ?_
  exact h
theorem b_Mo_spell_110 {E : En_t} {d : Nat} {σ : S_t} {Q : Option Value → S_t → Prop} {x3 : Int32} {x4 : Int32}
    (h : (x4 < (1 : Int32) → JE E (d + 1) m_Mo_spell 168 [(0, pv E 0), (3, .int x3), (4, .int x4)] [] σ Q) ∧ (¬ x4 < (1 : Int32) → ((21 : Int32) < x4 → JE E (d + 1) m_Mo_spell 168 [(0, pv E 0), (3, .int x3), (4, .int x4)] [] σ Q) ∧ (¬ (21 : Int32) < x4 → JE E (d + 1) m_Mo_spell 126 [(0, pv E 0), (3, .int x3), (4, .int x4), (5, .int (0 : Int32))] [] σ Q))) :
    JE E (d + 1) m_Mo_spell 110 [(0, pv E 0), (3, .int x3), (4, .int x4)] [] σ Q := by
  refine J_iload dc_Mo_spell_110 (Eq.refl 112) 2 rfl ?_
  refine J_iconst (v := (1 : Int32)) dc_Mo_spell_112 (Eq.refl 113) rfl ?_
  refine J_icmp_lt dc_Mo_spell_113 (Eq.refl 116) rfl (fun hc => ?_) (fun hc => ?_)
  · have h := h.1 hc
    exact h
  · have h := h.2 hc
    refine J_iload dc_Mo_spell_116 (Eq.refl 118) 2 rfl ?_
    refine J_bipush (v := (21 : Int32)) dc_Mo_spell_118 (Eq.refl 120) rfl ?_
    refine J_icmp_gt dc_Mo_spell_120 (Eq.refl 123) rfl (fun hc => ?_) (fun hc => ?_)
    · have h := h.1 hc
      exact h
    · have h := h.2 hc
      refine J_iconst (v := (0 : Int32)) dc_Mo_spell_123 (Eq.refl 124) rfl ?_
      refine J_istore (L' := [(5, .int (0 : Int32)), (0, pv E 0), (3, .int x3), (4, .int x4)]) dc_Mo_spell_124 (Eq.refl 126) (Nat.le_of_ble_eq_true rfl) rfl ?_
      refine J_sub [1, 2, 3, 0] rfl ?_
      exact h
theorem b_Mo_spell_126 {E : En_t} {d : Nat} {σ : S_t} {Q : Option Value → S_t → Prop} {x3 : Int32} {x4 : Int32} {x5 : Int32}
    (h : (x3 ≤ x5 → Q none σ) ∧ (¬ x3 ≤ x5 → (¬ x5 = x4 → JE E (d + 1) m_Mo_spell 145 [(0, pv E 0), (3, .int x3), (4, .int x4), (5, .int x5)] [] σ Q) ∧ (x5 = x4 → CV E d m_Mo_printing [pv E 0, .int (46 : Int32)] σ (fun σ1 => JE E (d + 1) m_Mo_spell 145 [(0, pv E 0), (3, .int x3), (4, .int x4), (5, .int x5)] [] σ1 Q)))) :
    JE E (d + 1) m_Mo_spell 126 [(0, pv E 0), (3, .int x3), (4, .int x4), (5, .int x5)] [] σ Q := by
  refine J_iload dc_Mo_spell_126 (Eq.refl 128) 3 rfl ?_
  refine J_iload_n dc_Mo_spell_128 (Eq.refl 129) 1 rfl ?_
  refine J_icmp_ge dc_Mo_spell_129 (Eq.refl 132) rfl (fun hc => ?_) (fun hc => ?_)
  · have h := h.1 hc
    refine J_goto dc_Mo_spell_165 rfl ?_
    exact J_vret dc_Mo_spell_330 rfl h
  · have h := h.2 hc
    refine J_iload dc_Mo_spell_132 (Eq.refl 134) 3 rfl ?_
    refine J_iload dc_Mo_spell_134 (Eq.refl 136) 2 rfl ?_
    refine J_icmp_ne dc_Mo_spell_136 (Eq.refl 139) rfl (fun hc => ?_) (fun hc => ?_)
    · have h := h.1 hc
      exact h
    · have h := h.2 hc
      refine J_aload_n dc_Mo_spell_139 (Eq.refl 140) 0 rfl ?_
      refine J_bipush (v := (46 : Int32)) dc_Mo_spell_140 (Eq.refl 142) rfl ?_
      refine J_callVV (As := [.int (46 : Int32)]) (st := []) dc_Mo_spell_142 (Eq.refl 145) lk_Mo_267 mi_Mo_printing rfl (Nat.le_of_ble_eq_true rfl) rfl rfl (Nat.le_of_ble_eq_true rfl) rfl (Nat.le_of_ble_eq_true rfl) (CV.mono h (fun σ1 h => ?_))
      exact h
theorem b_Mo_spell_145 {E : En_t} {d : Nat} {σ : S_t} {Q : Option Value → S_t → Prop} {x3 : Int32} {x4 : Int32} {x5 : Int32}
    (h : vp_in x5 20 ∧ (CV E d m_Mo_printing [pv E 0, .int ((48 : Int32) + (gI σ 6 x5.toNatClampNeg))] σ (fun σ1 => JE E (d + 1) m_Mo_spell 126 [(0, pv E 0), (3, .int x3), (4, .int x4), (5, .int (x5 + (1 : Int32)))] [] σ1 Q))) :
    JE E (d + 1) m_Mo_spell 145 [(0, pv E 0), (3, .int x3), (4, .int x4), (5, .int x5)] [] σ Q := by
  refine J_aload_n dc_Mo_spell_145 (Eq.refl 146) 0 rfl ?_
  refine J_bipush (v := (48 : Int32)) dc_Mo_spell_146 (Eq.refl 148) rfl ?_
  refine J_aload_n dc_Mo_spell_148 (Eq.refl 149) 0 rfl ?_
  refine J_getF (y := 6) dc_Mo_spell_149 (Eq.refl 152) fl_Mo_25 (Nat.le_of_ble_eq_true rfl) rfl (Or.inl rfl) rfl ?_
  refine J_iload dc_Mo_spell_152 (Eq.refl 154) 3 rfl ?_
  obtain ⟨hg, h⟩ := h
  refine J_iald dc_Mo_spell_154 (Eq.refl 155) rfl rfl hg ?_
  refine J_iadd dc_Mo_spell_155 (Eq.refl 156) ?_
  refine J_callVV (As := [.int ((48 : Int32) + (gI σ 6 x5.toNatClampNeg))]) (st := []) dc_Mo_spell_156 (Eq.refl 159) lk_Mo_267 mi_Mo_printing rfl (Nat.le_of_ble_eq_true rfl) rfl rfl (Nat.le_of_ble_eq_true rfl) rfl (Nat.le_of_ble_eq_true rfl) (CV.mono h (fun σ1 h => ?_))
  refine J_iinc (v := x5 + (1 : Int32)) (L' := [(5, .int (x5 + (1 : Int32))), (0, pv E 0), (3, .int x3), (4, .int x4)]) dc_Mo_spell_159 (Eq.refl 162) 3 rfl rfl (Nat.le_of_ble_eq_true rfl) rfl ?_
  refine J_goto dc_Mo_spell_162 rfl ?_
  refine J_sub [1, 2, 3, 0] rfl ?_
  exact h
theorem b_Mo_spell_168 {E : En_t} {d : Nat} {σ : S_t} {Q : Option Value → S_t → Prop} {x3 : Int32} {x4 : Int32}
    (h : (x4 < (-5 : Int32) → JE E (d + 1) m_Mo_spell 247 [(0, pv E 0), (3, .int x3), (4, .int x4)] [] σ Q) ∧ (¬ x4 < (-5 : Int32) → (0 < x4 → JE E (d + 1) m_Mo_spell 247 [(0, pv E 0), (3, .int x3), (4, .int x4)] [] σ Q) ∧ (¬ 0 < x4 → CV E d m_Mo_printing [pv E 0, .int (48 : Int32)] σ (fun σ1 => CV E d m_Mo_printing [pv E 0, .int (46 : Int32)] σ1 (fun σ2 => JE E (d + 1) m_Mo_spell 195 [(0, pv E 0), (3, .int x3), (4, .int x4), (5, .int (0 : Int32))] [] σ2 Q))))) :
    JE E (d + 1) m_Mo_spell 168 [(0, pv E 0), (3, .int x3), (4, .int x4)] [] σ Q := by
  refine J_iload dc_Mo_spell_168 (Eq.refl 170) 2 rfl ?_
  refine J_bipush (v := (-5 : Int32)) dc_Mo_spell_170 (Eq.refl 172) rfl ?_
  refine J_icmp_lt dc_Mo_spell_172 (Eq.refl 175) rfl (fun hc => ?_) (fun hc => ?_)
  · have h := h.1 hc
    exact h
  · have h := h.2 hc
    refine J_iload dc_Mo_spell_175 (Eq.refl 177) 2 rfl ?_
    refine J_if_gt dc_Mo_spell_177 (Eq.refl 180) rfl (fun hc => ?_) (fun hc => ?_)
    · have h := h.1 hc
      exact h
    · have h := h.2 hc
      refine J_aload_n dc_Mo_spell_180 (Eq.refl 181) 0 rfl ?_
      refine J_bipush (v := (48 : Int32)) dc_Mo_spell_181 (Eq.refl 183) rfl ?_
      refine J_callVV (As := [.int (48 : Int32)]) (st := []) dc_Mo_spell_183 (Eq.refl 186) lk_Mo_267 mi_Mo_printing rfl (Nat.le_of_ble_eq_true rfl) rfl rfl (Nat.le_of_ble_eq_true rfl) rfl (Nat.le_of_ble_eq_true rfl) (CV.mono h (fun σ1 h => ?_))
      refine J_aload_n dc_Mo_spell_186 (Eq.refl 187) 0 rfl ?_
      refine J_bipush (v := (46 : Int32)) dc_Mo_spell_187 (Eq.refl 189) rfl ?_
      refine J_callVV (As := [.int (46 : Int32)]) (st := []) dc_Mo_spell_189 (Eq.refl 192) lk_Mo_267 mi_Mo_printing rfl (Nat.le_of_ble_eq_true rfl) rfl rfl (Nat.le_of_ble_eq_true rfl) rfl (Nat.le_of_ble_eq_true rfl) (CV.mono h (fun σ2 h => ?_))
      refine J_iconst (v := (0 : Int32)) dc_Mo_spell_192 (Eq.refl 193) rfl ?_
      refine J_istore (L' := [(5, .int (0 : Int32)), (0, pv E 0), (3, .int x3), (4, .int x4)]) dc_Mo_spell_193 (Eq.refl 195) (Nat.le_of_ble_eq_true rfl) rfl ?_
      refine J_sub [1, 2, 3, 0] rfl ?_
      exact h
theorem b_Mo_spell_195 {E : En_t} {d : Nat} {σ : S_t} {Q : Option Value → S_t → Prop} {x3 : Int32} {x4 : Int32} {x5 : Int32}
    (h : ((-x4) ≤ x5 → JE E (d + 1) m_Mo_spell 218 [(0, pv E 0), (3, .int x3), (5, .int (0 : Int32))] [] σ Q) ∧ (¬ (-x4) ≤ x5 → CV E d m_Mo_printing [pv E 0, .int (48 : Int32)] σ (fun σ1 => JE E (d + 1) m_Mo_spell 195 [(0, pv E 0), (3, .int x3), (4, .int x4), (5, .int (x5 + (1 : Int32)))] [] σ1 Q))) :
    JE E (d + 1) m_Mo_spell 195 [(0, pv E 0), (3, .int x3), (4, .int x4), (5, .int x5)] [] σ Q := by
  refine J_iload dc_Mo_spell_195 (Eq.refl 197) 3 rfl ?_
  refine J_iload dc_Mo_spell_197 (Eq.refl 199) 2 rfl ?_
  refine J_ineg dc_Mo_spell_199 (Eq.refl 200) ?_
  refine J_icmp_ge dc_Mo_spell_200 (Eq.refl 203) rfl (fun hc => ?_) (fun hc => ?_)
  · have h := h.1 hc
    refine J_iconst (v := (0 : Int32)) dc_Mo_spell_215 (Eq.refl 216) rfl ?_
    refine J_istore (L' := [(5, .int (0 : Int32)), (0, pv E 0), (3, .int x3), (4, .int x4)]) dc_Mo_spell_216 (Eq.refl 218) (Nat.le_of_ble_eq_true rfl) rfl ?_
    refine J_sub [1, 2, 0] rfl ?_
    exact h
  · have h := h.2 hc
    refine J_aload_n dc_Mo_spell_203 (Eq.refl 204) 0 rfl ?_
    refine J_bipush (v := (48 : Int32)) dc_Mo_spell_204 (Eq.refl 206) rfl ?_
    refine J_callVV (As := [.int (48 : Int32)]) (st := []) dc_Mo_spell_206 (Eq.refl 209) lk_Mo_267 mi_Mo_printing rfl (Nat.le_of_ble_eq_true rfl) rfl rfl (Nat.le_of_ble_eq_true rfl) rfl (Nat.le_of_ble_eq_true rfl) (CV.mono h (fun σ1 h => ?_))
    refine J_iinc (v := x5 + (1 : Int32)) (L' := [(5, .int (x5 + (1 : Int32))), (0, pv E 0), (3, .int x3), (4, .int x4)]) dc_Mo_spell_209 (Eq.refl 212) 3 rfl rfl (Nat.le_of_ble_eq_true rfl) rfl ?_
    refine J_goto dc_Mo_spell_212 rfl ?_
    refine J_sub [1, 2, 3, 0] rfl ?_
    exact h
theorem b_Mo_spell_218 {E : En_t} {d : Nat} {σ : S_t} {Q : Option Value → S_t → Prop} {x3 : Int32} {x5 : Int32}
    (h : (x3 ≤ x5 → Q none σ) ∧ (¬ x3 ≤ x5 → vp_in x5 20 ∧ (CV E d m_Mo_printing [pv E 0, .int ((48 : Int32) + (gI σ 6 x5.toNatClampNeg))] σ (fun σ1 => JE E (d + 1) m_Mo_spell 218 [(0, pv E 0), (3, .int x3), (5, .int (x5 + (1 : Int32)))] [] σ1 Q)))) :
    JE E (d + 1) m_Mo_spell 218 [(0, pv E 0), (3, .int x3), (5, .int x5)] [] σ Q := by
  refine J_iload dc_Mo_spell_218 (Eq.refl 220) 2 rfl ?_
  refine J_iload_n dc_Mo_spell_220 (Eq.refl 221) 1 rfl ?_
  refine J_icmp_ge dc_Mo_spell_221 (Eq.refl 224) rfl (fun hc => ?_) (fun hc => ?_)
  · have h := h.1 hc
    refine J_goto dc_Mo_spell_244 rfl ?_
    exact J_vret dc_Mo_spell_330 rfl h
  · have h := h.2 hc
    refine J_aload_n dc_Mo_spell_224 (Eq.refl 225) 0 rfl ?_
    refine J_bipush (v := (48 : Int32)) dc_Mo_spell_225 (Eq.refl 227) rfl ?_
    refine J_aload_n dc_Mo_spell_227 (Eq.refl 228) 0 rfl ?_
    refine J_getF (y := 6) dc_Mo_spell_228 (Eq.refl 231) fl_Mo_25 (Nat.le_of_ble_eq_true rfl) rfl (Or.inl rfl) rfl ?_
    refine J_iload dc_Mo_spell_231 (Eq.refl 233) 2 rfl ?_
    obtain ⟨hg, h⟩ := h
    refine J_iald dc_Mo_spell_233 (Eq.refl 234) rfl rfl hg ?_
    refine J_iadd dc_Mo_spell_234 (Eq.refl 235) ?_
    refine J_callVV (As := [.int ((48 : Int32) + (gI σ 6 x5.toNatClampNeg))]) (st := []) dc_Mo_spell_235 (Eq.refl 238) lk_Mo_267 mi_Mo_printing rfl (Nat.le_of_ble_eq_true rfl) rfl rfl (Nat.le_of_ble_eq_true rfl) rfl (Nat.le_of_ble_eq_true rfl) (CV.mono h (fun σ1 h => ?_))
    refine J_iinc (v := x5 + (1 : Int32)) (L' := [(5, .int (x5 + (1 : Int32))), (0, pv E 0), (3, .int x3)]) dc_Mo_spell_238 (Eq.refl 241) 2 rfl rfl (Nat.le_of_ble_eq_true rfl) rfl ?_
    refine J_goto dc_Mo_spell_241 rfl ?_
    refine J_sub [1, 2, 0] rfl ?_
    exact h
theorem b_Mo_spell_247 {E : En_t} {d : Nat} {σ : S_t} {Q : Option Value → S_t → Prop} {x3 : Int32} {x4 : Int32}
    (h : JE E (d + 1) m_Mo_spell 250 [(0, pv E 0), (3, .int x3), (4, .int x4), (5, .int (0 : Int32))] [] σ Q) :
    JE E (d + 1) m_Mo_spell 247 [(0, pv E 0), (3, .int x3), (4, .int x4)] [] σ Q := by
  refine J_iconst (v := (0 : Int32)) dc_Mo_spell_247 (Eq.refl 248) rfl ?_
  refine J_istore (L' := [(5, .int (0 : Int32)), (0, pv E 0), (3, .int x3), (4, .int x4)]) dc_Mo_spell_248 (Eq.refl 250) (Nat.le_of_ble_eq_true rfl) rfl ?_
  refine J_sub [1, 2, 3, 0] rfl ?_
  exact h
theorem b_Mo_spell_250 {E : En_t} {d : Nat} {σ : S_t} {Q : Option Value → S_t → Prop} {x3 : Int32} {x4 : Int32} {x5 : Int32}
    (h : (x3 ≤ x5 → CV E d m_Mo_printing [pv E 0, .int (101 : Int32)] σ (fun σ1 => (x4 ≤ 0 → JE E (d + 1) m_Mo_spell 307 [(0, pv E 0), (4, .int x4)] [.int (45 : Int32), pv E 0] σ1 Q) ∧ (¬ x4 ≤ 0 → JE E (d + 1) m_Mo_spell 307 [(0, pv E 0), (4, .int x4)] [.int (43 : Int32), pv E 0] σ1 Q))) ∧ (¬ x3 ≤ x5 → (¬ x5 = (1 : Int32) → JE E (d + 1) m_Mo_spell 268 [(0, pv E 0), (3, .int x3), (4, .int x4), (5, .int x5)] [] σ Q) ∧ (x5 = (1 : Int32) → CV E d m_Mo_printing [pv E 0, .int (46 : Int32)] σ (fun σ2 => JE E (d + 1) m_Mo_spell 268 [(0, pv E 0), (3, .int x3), (4, .int x4), (5, .int x5)] [] σ2 Q)))) :
    JE E (d + 1) m_Mo_spell 250 [(0, pv E 0), (3, .int x3), (4, .int x4), (5, .int x5)] [] σ Q := by
  refine J_iload dc_Mo_spell_250 (Eq.refl 252) 3 rfl ?_
  refine J_iload_n dc_Mo_spell_252 (Eq.refl 253) 1 rfl ?_
  refine J_icmp_ge dc_Mo_spell_253 (Eq.refl 256) rfl (fun hc => ?_) (fun hc => ?_)
  · have h := h.1 hc
    refine J_aload_n dc_Mo_spell_288 (Eq.refl 289) 0 rfl ?_
    refine J_bipush (v := (101 : Int32)) dc_Mo_spell_289 (Eq.refl 291) rfl ?_
    refine J_callVV (As := [.int (101 : Int32)]) (st := []) dc_Mo_spell_291 (Eq.refl 294) lk_Mo_267 mi_Mo_printing rfl (Nat.le_of_ble_eq_true rfl) rfl rfl (Nat.le_of_ble_eq_true rfl) rfl (Nat.le_of_ble_eq_true rfl) (CV.mono h (fun σ1 h => ?_))
    refine J_aload_n dc_Mo_spell_294 (Eq.refl 295) 0 rfl ?_
    refine J_iload dc_Mo_spell_295 (Eq.refl 297) 2 rfl ?_
    refine J_if_le dc_Mo_spell_297 (Eq.refl 300) rfl (fun hc => ?_) (fun hc => ?_)
    · have h := h.1 hc
      refine J_bipush (v := (45 : Int32)) dc_Mo_spell_305 (Eq.refl 307) rfl ?_
      refine J_sub [0, 2] rfl ?_
      exact h
    · have h := h.2 hc
      refine J_bipush (v := (43 : Int32)) dc_Mo_spell_300 (Eq.refl 302) rfl ?_
      refine J_goto dc_Mo_spell_302 rfl ?_
      refine J_sub [0, 2] rfl ?_
      exact h
  · have h := h.2 hc
    refine J_iload dc_Mo_spell_256 (Eq.refl 258) 3 rfl ?_
    refine J_iconst (v := (1 : Int32)) dc_Mo_spell_258 (Eq.refl 259) rfl ?_
    refine J_icmp_ne dc_Mo_spell_259 (Eq.refl 262) rfl (fun hc => ?_) (fun hc => ?_)
    · have h := h.1 hc
      exact h
    · have h := h.2 hc
      refine J_aload_n dc_Mo_spell_262 (Eq.refl 263) 0 rfl ?_
      refine J_bipush (v := (46 : Int32)) dc_Mo_spell_263 (Eq.refl 265) rfl ?_
      refine J_callVV (As := [.int (46 : Int32)]) (st := []) dc_Mo_spell_265 (Eq.refl 268) lk_Mo_267 mi_Mo_printing rfl (Nat.le_of_ble_eq_true rfl) rfl rfl (Nat.le_of_ble_eq_true rfl) rfl (Nat.le_of_ble_eq_true rfl) (CV.mono h (fun σ2 h => ?_))
      exact h
theorem b_Mo_spell_268 {E : En_t} {d : Nat} {σ : S_t} {Q : Option Value → S_t → Prop} {x3 : Int32} {x4 : Int32} {x5 : Int32}
    (h : vp_in x5 20 ∧ (CV E d m_Mo_printing [pv E 0, .int ((48 : Int32) + (gI σ 6 x5.toNatClampNeg))] σ (fun σ1 => JE E (d + 1) m_Mo_spell 250 [(0, pv E 0), (3, .int x3), (4, .int x4), (5, .int (x5 + (1 : Int32)))] [] σ1 Q))) :
    JE E (d + 1) m_Mo_spell 268 [(0, pv E 0), (3, .int x3), (4, .int x4), (5, .int x5)] [] σ Q := by
  refine J_aload_n dc_Mo_spell_268 (Eq.refl 269) 0 rfl ?_
  refine J_bipush (v := (48 : Int32)) dc_Mo_spell_269 (Eq.refl 271) rfl ?_
  refine J_aload_n dc_Mo_spell_271 (Eq.refl 272) 0 rfl ?_
  refine J_getF (y := 6) dc_Mo_spell_272 (Eq.refl 275) fl_Mo_25 (Nat.le_of_ble_eq_true rfl) rfl (Or.inl rfl) rfl ?_
  refine J_iload dc_Mo_spell_275 (Eq.refl 277) 3 rfl ?_
  obtain ⟨hg, h⟩ := h
  refine J_iald dc_Mo_spell_277 (Eq.refl 278) rfl rfl hg ?_
  refine J_iadd dc_Mo_spell_278 (Eq.refl 279) ?_
  refine J_callVV (As := [.int ((48 : Int32) + (gI σ 6 x5.toNatClampNeg))]) (st := []) dc_Mo_spell_279 (Eq.refl 282) lk_Mo_267 mi_Mo_printing rfl (Nat.le_of_ble_eq_true rfl) rfl rfl (Nat.le_of_ble_eq_true rfl) rfl (Nat.le_of_ble_eq_true rfl) (CV.mono h (fun σ1 h => ?_))
  refine J_iinc (v := x5 + (1 : Int32)) (L' := [(5, .int (x5 + (1 : Int32))), (0, pv E 0), (3, .int x3), (4, .int x4)]) dc_Mo_spell_282 (Eq.refl 285) 3 rfl rfl (Nat.le_of_ble_eq_true rfl) rfl ?_
  refine J_goto dc_Mo_spell_285 rfl ?_
  refine J_sub [1, 2, 3, 0] rfl ?_
  exact h
theorem b_Mo_spell_307 {E : En_t} {d : Nat} {σ : S_t} {Q : Option Value → S_t → Prop} {x4 : Int32} {s0 : Int32}
    (h : CV E d m_Mo_printing [pv E 0, .int s0] σ (fun σ1 => (x4 ≤ 0 → JE E (d + 1) m_Mo_spell 327 [] [.int ((1 : Int32) - x4), pv E 0] σ1 Q) ∧ (¬ x4 ≤ 0 → JE E (d + 1) m_Mo_spell 327 [] [.int (x4 - (1 : Int32)), pv E 0] σ1 Q))) :
    JE E (d + 1) m_Mo_spell 307 [(0, pv E 0), (4, .int x4)] [.int s0, pv E 0] σ Q := by
  refine J_callVV (As := [.int s0]) (st := []) dc_Mo_spell_307 (Eq.refl 310) lk_Mo_267 mi_Mo_printing rfl (Nat.le_of_ble_eq_true rfl) rfl rfl (Nat.le_of_ble_eq_true rfl) rfl (Nat.le_of_ble_eq_true rfl) (CV.mono h (fun σ1 h => ?_))
  refine J_aload_n dc_Mo_spell_310 (Eq.refl 311) 0 rfl ?_
  refine J_iload dc_Mo_spell_311 (Eq.refl 313) 1 rfl ?_
  refine J_if_le dc_Mo_spell_313 (Eq.refl 316) rfl (fun hc => ?_) (fun hc => ?_)
  · have h := h.1 hc
    refine J_iconst (v := (1 : Int32)) dc_Mo_spell_323 (Eq.refl 324) rfl ?_
    refine J_iload dc_Mo_spell_324 (Eq.refl 326) 1 rfl ?_
    refine J_isub dc_Mo_spell_326 (Eq.refl 327) ?_
    refine J_sub [] rfl ?_
    exact h
  · have h := h.2 hc
    refine J_iload dc_Mo_spell_316 (Eq.refl 318) 1 rfl ?_
    refine J_iconst (v := (1 : Int32)) dc_Mo_spell_318 (Eq.refl 319) rfl ?_
    refine J_isub dc_Mo_spell_319 (Eq.refl 320) ?_
    refine J_goto dc_Mo_spell_320 rfl ?_
    refine J_sub [] rfl ?_
    exact h
theorem b_Mo_spell_327 {E : En_t} {d : Nat} {σ : S_t} {Q : Option Value → S_t → Prop} {s0 : Int32}
    (h : CV E d m_Mo_printNumber [pv E 0, .int s0] σ (fun σ1 => Q none σ1)) :
    JE E (d + 1) m_Mo_spell 327 [] [.int s0, pv E 0] σ Q := by
  refine J_callVV (As := [.int s0]) (st := []) dc_Mo_spell_327 (Eq.refl 330) lk_Mo_275 mi_Mo_printNumber rfl (Nat.le_of_ble_eq_true rfl) rfl rfl (Nat.le_of_ble_eq_true rfl) rfl (Nat.le_of_ble_eq_true rfl) (CV.mono h (fun σ1 h => ?_))
  exact J_vret dc_Mo_spell_330 rfl h
theorem dc_Mo_printing_0 : decode m_Mo_printing.2.1 0 = .ok (.aload_n 0, 1) := by decide +kernel
theorem dc_Mo_printing_1 : decode m_Mo_printing.2.1 1 = .ok (.getfield 28, 3) := by decide +kernel
theorem dc_Mo_printing_4 : decode m_Mo_printing.2.1 4 = .ok (.aload_n 0, 1) := by decide +kernel
theorem dc_Mo_printing_5 : decode m_Mo_printing.2.1 5 = .ok (.getfield 264, 3) := by decide +kernel
theorem dc_Mo_printing_8 : decode m_Mo_printing.2.1 8 = .ok (.iload_n 1, 1) := by decide +kernel
theorem dc_Mo_printing_9 : decode m_Mo_printing.2.1 9 = .ok (.iastore, 1) := by decide +kernel
theorem dc_Mo_printing_10 : decode m_Mo_printing.2.1 10 = .ok (.aload_n 0, 1) := by decide +kernel
theorem dc_Mo_printing_11 : decode m_Mo_printing.2.1 11 = .ok (.dup, 1) := by decide +kernel
theorem dc_Mo_printing_12 : decode m_Mo_printing.2.1 12 = .ok (.getfield 264, 3) := by decide +kernel
theorem dc_Mo_printing_15 : decode m_Mo_printing.2.1 15 = .ok (.iconst 1, 1) := by decide +kernel
theorem dc_Mo_printing_16 : decode m_Mo_printing.2.1 16 = .ok (.iadd, 1) := by decide +kernel
theorem dc_Mo_printing_17 : decode m_Mo_printing.2.1 17 = .ok (.putfield 264, 3) := by decide +kernel
theorem dc_Mo_printing_20 : decode m_Mo_printing.2.1 20 = .ok (.return_, 1) := by decide +kernel
theorem b_Mo_printing_0 {E : En_t} {d : Nat} {σ : S_t} {Q : Option Value → S_t → Prop} {x1 : Int32}
    (h : vp_in (gI σ 0 18) 40 ∧ (Q none (sI (sI σ 7 (gI σ 0 18).toNatClampNeg x1) 0 18 ((gI (sI σ 7 (gI σ 0 18).toNatClampNeg x1) 0 18) + (1 : Int32))))) :
    JE E d m_Mo_printing 0 [(0, pv E 0), (1, .int x1)] [] σ Q := by
  refine J_aload_n dc_Mo_printing_0 (Eq.refl 1) 0 rfl ?_
  refine J_getF (y := 7) dc_Mo_printing_1 (Eq.refl 4) fl_Mo_28 (Nat.le_of_ble_eq_true rfl) rfl (Or.inl rfl) rfl ?_
  refine J_aload_n dc_Mo_printing_4 (Eq.refl 5) 0 rfl ?_
  refine J_getI dc_Mo_printing_5 (Eq.refl 8) fl_Mo_264 (Nat.le_of_ble_eq_true rfl) rfl (Or.inl rfl) ?_
  refine J_iload_n dc_Mo_printing_8 (Eq.refl 9) 1 rfl ?_
  obtain ⟨hg, h⟩ := h
  refine J_iast dc_Mo_printing_9 (Eq.refl 10) rfl rfl hg ?_
  refine J_aload_n dc_Mo_printing_10 (Eq.refl 11) 0 rfl ?_
  refine J_dup dc_Mo_printing_11 (Eq.refl 12) rfl ?_
  refine J_getI dc_Mo_printing_12 (Eq.refl 15) fl_Mo_264 (Nat.le_of_ble_eq_true rfl) rfl (Or.inl rfl) ?_
  refine J_iconst (v := (1 : Int32)) dc_Mo_printing_15 (Eq.refl 16) rfl ?_
  refine J_iadd dc_Mo_printing_16 (Eq.refl 17) ?_
  refine J_putI dc_Mo_printing_17 (Eq.refl 20) pl_Mo_264 (Nat.le_of_ble_eq_true rfl) rfl rfl ?_
  exact J_vret dc_Mo_printing_20 rfl h
theorem dc_Mo_shortest_0 : decode m_Mo_shortest.2.1 0 = .ok (.aload_n 0, 1) := by decide +kernel
theorem dc_Mo_shortest_1 : decode m_Mo_shortest.2.1 1 = .ok (.lload_n 1, 1) := by decide +kernel
theorem dc_Mo_shortest_2 : decode m_Mo_shortest.2.1 2 = .ok (.invokevirtual 257, 3) := by decide +kernel
theorem dc_Mo_shortest_5 : decode m_Mo_shortest.2.1 5 = .ok (.iconst 1, 1) := by decide +kernel
theorem dc_Mo_shortest_6 : decode m_Mo_shortest.2.1 6 = .ok (.istore_n 3, 1) := by decide +kernel
theorem dc_Mo_shortest_7 : decode m_Mo_shortest.2.1 7 = .ok (.aload_n 0, 1) := by decide +kernel
theorem dc_Mo_shortest_8 : decode m_Mo_shortest.2.1 8 = .ok (.getfield 241, 3) := by decide +kernel
theorem dc_Mo_shortest_11 : decode m_Mo_shortest.2.1 11 = .ok (.bipush 17, 2) := by decide +kernel
theorem dc_Mo_shortest_13 : decode m_Mo_shortest.2.1 13 = .ok (.if_icmp .ge 10, 3) := by decide +kernel
theorem dc_Mo_shortest_16 : decode m_Mo_shortest.2.1 16 = .ok (.aload_n 0, 1) := by decide +kernel
theorem dc_Mo_shortest_17 : decode m_Mo_shortest.2.1 17 = .ok (.getfield 241, 3) := by decide +kernel
theorem dc_Mo_shortest_20 : decode m_Mo_shortest.2.1 20 = .ok (.goto 5, 3) := by decide +kernel
theorem dc_Mo_shortest_23 : decode m_Mo_shortest.2.1 23 = .ok (.bipush 17, 2) := by decide +kernel
theorem dc_Mo_shortest_25 : decode m_Mo_shortest.2.1 25 = .ok (.istore 4, 2) := by decide +kernel
theorem dc_Mo_shortest_27 : decode m_Mo_shortest.2.1 27 = .ok (.iload_n 3, 1) := by decide +kernel
theorem dc_Mo_shortest_28 : decode m_Mo_shortest.2.1 28 = .ok (.iload 4, 2) := by decide +kernel
theorem dc_Mo_shortest_30 : decode m_Mo_shortest.2.1 30 = .ok (.if_icmp .ge 48, 3) := by decide +kernel
theorem dc_Mo_shortest_33 : decode m_Mo_shortest.2.1 33 = .ok (.iload_n 3, 1) := by decide +kernel
theorem dc_Mo_shortest_34 : decode m_Mo_shortest.2.1 34 = .ok (.iload 4, 2) := by decide +kernel
theorem dc_Mo_shortest_36 : decode m_Mo_shortest.2.1 36 = .ok (.iadd, 1) := by decide +kernel
theorem dc_Mo_shortest_37 : decode m_Mo_shortest.2.1 37 = .ok (.iconst 2, 1) := by decide +kernel
theorem dc_Mo_shortest_38 : decode m_Mo_shortest.2.1 38 = .ok (.idiv, 1) := by decide +kernel
theorem dc_Mo_shortest_39 : decode m_Mo_shortest.2.1 39 = .ok (.istore 5, 2) := by decide +kernel
theorem dc_Mo_shortest_41 : decode m_Mo_shortest.2.1 41 = .ok (.aload_n 0, 1) := by decide +kernel
theorem dc_Mo_shortest_42 : decode m_Mo_shortest.2.1 42 = .ok (.iload 5, 2) := by decide +kernel
theorem dc_Mo_shortest_44 : decode m_Mo_shortest.2.1 44 = .ok (.iconst 0, 1) := by decide +kernel
theorem dc_Mo_shortest_45 : decode m_Mo_shortest.2.1 45 = .ok (.lload_n 1, 1) := by decide +kernel
theorem dc_Mo_shortest_46 : decode m_Mo_shortest.2.1 46 = .ok (.invokevirtual 260, 3) := by decide +kernel
theorem dc_Mo_shortest_49 : decode m_Mo_shortest.2.1 49 = .ok (.ifCond .ne 14, 3) := by decide +kernel
theorem dc_Mo_shortest_52 : decode m_Mo_shortest.2.1 52 = .ok (.aload_n 0, 1) := by decide +kernel
theorem dc_Mo_shortest_53 : decode m_Mo_shortest.2.1 53 = .ok (.iload 5, 2) := by decide +kernel
theorem dc_Mo_shortest_55 : decode m_Mo_shortest.2.1 55 = .ok (.iconst 1, 1) := by decide +kernel
theorem dc_Mo_shortest_56 : decode m_Mo_shortest.2.1 56 = .ok (.lload_n 1, 1) := by decide +kernel
theorem dc_Mo_shortest_57 : decode m_Mo_shortest.2.1 57 = .ok (.invokevirtual 260, 3) := by decide +kernel
theorem dc_Mo_shortest_60 : decode m_Mo_shortest.2.1 60 = .ok (.ifCond .eq 10, 3) := by decide +kernel
theorem dc_Mo_shortest_63 : decode m_Mo_shortest.2.1 63 = .ok (.iload 5, 2) := by decide +kernel
theorem dc_Mo_shortest_65 : decode m_Mo_shortest.2.1 65 = .ok (.istore 4, 2) := by decide +kernel
theorem dc_Mo_shortest_67 : decode m_Mo_shortest.2.1 67 = .ok (.goto 8, 3) := by decide +kernel
theorem dc_Mo_shortest_70 : decode m_Mo_shortest.2.1 70 = .ok (.iload 5, 2) := by decide +kernel
theorem dc_Mo_shortest_72 : decode m_Mo_shortest.2.1 72 = .ok (.iconst 1, 1) := by decide +kernel
theorem dc_Mo_shortest_73 : decode m_Mo_shortest.2.1 73 = .ok (.iadd, 1) := by decide +kernel
theorem dc_Mo_shortest_74 : decode m_Mo_shortest.2.1 74 = .ok (.istore_n 3, 1) := by decide +kernel
theorem dc_Mo_shortest_75 : decode m_Mo_shortest.2.1 75 = .ok (.goto (-48), 3) := by decide +kernel
theorem dc_Mo_shortest_78 : decode m_Mo_shortest.2.1 78 = .ok (.aload_n 0, 1) := by decide +kernel
theorem dc_Mo_shortest_79 : decode m_Mo_shortest.2.1 79 = .ok (.iload_n 3, 1) := by decide +kernel
theorem dc_Mo_shortest_80 : decode m_Mo_shortest.2.1 80 = .ok (.iconst 0, 1) := by decide +kernel
theorem dc_Mo_shortest_81 : decode m_Mo_shortest.2.1 81 = .ok (.lload_n 1, 1) := by decide +kernel
theorem dc_Mo_shortest_82 : decode m_Mo_shortest.2.1 82 = .ok (.invokevirtual 260, 3) := by decide +kernel
theorem dc_Mo_shortest_85 : decode m_Mo_shortest.2.1 85 = .ok (.istore 5, 2) := by decide +kernel
theorem dc_Mo_shortest_87 : decode m_Mo_shortest.2.1 87 = .ok (.aload_n 0, 1) := by decide +kernel
theorem dc_Mo_shortest_88 : decode m_Mo_shortest.2.1 88 = .ok (.iload_n 3, 1) := by decide +kernel
theorem dc_Mo_shortest_89 : decode m_Mo_shortest.2.1 89 = .ok (.iconst 1, 1) := by decide +kernel
theorem dc_Mo_shortest_90 : decode m_Mo_shortest.2.1 90 = .ok (.lload_n 1, 1) := by decide +kernel
theorem dc_Mo_shortest_91 : decode m_Mo_shortest.2.1 91 = .ok (.invokevirtual 260, 3) := by decide +kernel
theorem dc_Mo_shortest_94 : decode m_Mo_shortest.2.1 94 = .ok (.istore 6, 2) := by decide +kernel
theorem dc_Mo_shortest_96 : decode m_Mo_shortest.2.1 96 = .ok (.iload 5, 2) := by decide +kernel
theorem dc_Mo_shortest_98 : decode m_Mo_shortest.2.1 98 = .ok (.ifCond .eq 91, 3) := by decide +kernel
theorem dc_Mo_shortest_101 : decode m_Mo_shortest.2.1 101 = .ok (.iload 6, 2) := by decide +kernel
theorem dc_Mo_shortest_103 : decode m_Mo_shortest.2.1 103 = .ok (.ifCond .eq 86, 3) := by decide +kernel
theorem dc_Mo_shortest_106 : decode m_Mo_shortest.2.1 106 = .ok (.iload_n 3, 1) := by decide +kernel
theorem dc_Mo_shortest_107 : decode m_Mo_shortest.2.1 107 = .ok (.aload_n 0, 1) := by decide +kernel
theorem dc_Mo_shortest_108 : decode m_Mo_shortest.2.1 108 = .ok (.getfield 241, 3) := by decide +kernel
theorem dc_Mo_shortest_111 : decode m_Mo_shortest.2.1 111 = .ok (.if_icmp .ge 12, 3) := by decide +kernel
theorem dc_Mo_shortest_114 : decode m_Mo_shortest.2.1 114 = .ok (.aload_n 0, 1) := by decide +kernel
theorem dc_Mo_shortest_115 : decode m_Mo_shortest.2.1 115 = .ok (.getfield 22, 3) := by decide +kernel
theorem dc_Mo_shortest_118 : decode m_Mo_shortest.2.1 118 = .ok (.iload_n 3, 1) := by decide +kernel
theorem dc_Mo_shortest_119 : decode m_Mo_shortest.2.1 119 = .ok (.iaload, 1) := by decide +kernel
theorem dc_Mo_shortest_120 : decode m_Mo_shortest.2.1 120 = .ok (.goto 4, 3) := by decide +kernel
theorem dc_Mo_shortest_123 : decode m_Mo_shortest.2.1 123 = .ok (.iconst 0, 1) := by decide +kernel
theorem dc_Mo_shortest_124 : decode m_Mo_shortest.2.1 124 = .ok (.istore 7, 2) := by decide +kernel
theorem dc_Mo_shortest_126 : decode m_Mo_shortest.2.1 126 = .ok (.iload 7, 2) := by decide +kernel
theorem dc_Mo_shortest_128 : decode m_Mo_shortest.2.1 128 = .ok (.iconst 5, 1) := by decide +kernel
theorem dc_Mo_shortest_129 : decode m_Mo_shortest.2.1 129 = .ok (.if_icmp .ne 17, 3) := by decide +kernel
theorem dc_Mo_shortest_132 : decode m_Mo_shortest.2.1 132 = .ok (.aload_n 0, 1) := by decide +kernel
theorem dc_Mo_shortest_133 : decode m_Mo_shortest.2.1 133 = .ok (.getfield 241, 3) := by decide +kernel
theorem dc_Mo_shortest_136 : decode m_Mo_shortest.2.1 136 = .ok (.iload_n 3, 1) := by decide +kernel
theorem dc_Mo_shortest_137 : decode m_Mo_shortest.2.1 137 = .ok (.iconst 1, 1) := by decide +kernel
theorem dc_Mo_shortest_138 : decode m_Mo_shortest.2.1 138 = .ok (.iadd, 1) := by decide +kernel
theorem dc_Mo_shortest_139 : decode m_Mo_shortest.2.1 139 = .ok (.if_icmp .ne 7, 3) := by decide +kernel
theorem dc_Mo_shortest_142 : decode m_Mo_shortest.2.1 142 = .ok (.iconst 1, 1) := by decide +kernel
theorem dc_Mo_shortest_143 : decode m_Mo_shortest.2.1 143 = .ok (.goto 4, 3) := by decide +kernel
theorem dc_Mo_shortest_146 : decode m_Mo_shortest.2.1 146 = .ok (.iconst 0, 1) := by decide +kernel
theorem dc_Mo_shortest_147 : decode m_Mo_shortest.2.1 147 = .ok (.istore 8, 2) := by decide +kernel
theorem dc_Mo_shortest_149 : decode m_Mo_shortest.2.1 149 = .ok (.iload 8, 2) := by decide +kernel
theorem dc_Mo_shortest_151 : decode m_Mo_shortest.2.1 151 = .ok (.ifCond .eq 25, 3) := by decide +kernel
theorem dc_Mo_shortest_154 : decode m_Mo_shortest.2.1 154 = .ok (.aload_n 0, 1) := by decide +kernel
theorem dc_Mo_shortest_155 : decode m_Mo_shortest.2.1 155 = .ok (.getfield 22, 3) := by decide +kernel
theorem dc_Mo_shortest_158 : decode m_Mo_shortest.2.1 158 = .ok (.iload_n 3, 1) := by decide +kernel
theorem dc_Mo_shortest_159 : decode m_Mo_shortest.2.1 159 = .ok (.iconst 1, 1) := by decide +kernel
theorem dc_Mo_shortest_160 : decode m_Mo_shortest.2.1 160 = .ok (.isub, 1) := by decide +kernel
theorem dc_Mo_shortest_161 : decode m_Mo_shortest.2.1 161 = .ok (.iaload, 1) := by decide +kernel
theorem dc_Mo_shortest_162 : decode m_Mo_shortest.2.1 162 = .ok (.iconst 2, 1) := by decide +kernel
theorem dc_Mo_shortest_163 : decode m_Mo_shortest.2.1 163 = .ok (.irem, 1) := by decide +kernel
theorem dc_Mo_shortest_164 : decode m_Mo_shortest.2.1 164 = .ok (.iconst 1, 1) := by decide +kernel
theorem dc_Mo_shortest_165 : decode m_Mo_shortest.2.1 165 = .ok (.if_icmp .ne 7, 3) := by decide +kernel
theorem dc_Mo_shortest_168 : decode m_Mo_shortest.2.1 168 = .ok (.iconst 1, 1) := by decide +kernel
theorem dc_Mo_shortest_169 : decode m_Mo_shortest.2.1 169 = .ok (.goto 18, 3) := by decide +kernel
theorem dc_Mo_shortest_172 : decode m_Mo_shortest.2.1 172 = .ok (.iconst 0, 1) := by decide +kernel
theorem dc_Mo_shortest_173 : decode m_Mo_shortest.2.1 173 = .ok (.goto 14, 3) := by decide +kernel
theorem dc_Mo_shortest_176 : decode m_Mo_shortest.2.1 176 = .ok (.iload 7, 2) := by decide +kernel
theorem dc_Mo_shortest_178 : decode m_Mo_shortest.2.1 178 = .ok (.iconst 5, 1) := by decide +kernel
theorem dc_Mo_shortest_179 : decode m_Mo_shortest.2.1 179 = .ok (.if_icmp .lt 7, 3) := by decide +kernel
theorem dc_Mo_shortest_182 : decode m_Mo_shortest.2.1 182 = .ok (.iconst 1, 1) := by decide +kernel
theorem dc_Mo_shortest_183 : decode m_Mo_shortest.2.1 183 = .ok (.goto 4, 3) := by decide +kernel
theorem dc_Mo_shortest_186 : decode m_Mo_shortest.2.1 186 = .ok (.iconst 0, 1) := by decide +kernel
theorem dc_Mo_shortest_187 : decode m_Mo_shortest.2.1 187 = .ok (.istore 6, 2) := by decide +kernel
theorem dc_Mo_shortest_189 : decode m_Mo_shortest.2.1 189 = .ok (.aload_n 0, 1) := by decide +kernel
theorem dc_Mo_shortest_190 : decode m_Mo_shortest.2.1 190 = .ok (.iload_n 3, 1) := by decide +kernel
theorem dc_Mo_shortest_191 : decode m_Mo_shortest.2.1 191 = .ok (.iload 6, 2) := by decide +kernel
theorem dc_Mo_shortest_193 : decode m_Mo_shortest.2.1 193 = .ok (.invokevirtual 253, 3) := by decide +kernel
theorem dc_Mo_shortest_196 : decode m_Mo_shortest.2.1 196 = .ok (.aload_n 0, 1) := by decide +kernel
theorem dc_Mo_shortest_197 : decode m_Mo_shortest.2.1 197 = .ok (.getfield 247, 3) := by decide +kernel
theorem dc_Mo_shortest_200 : decode m_Mo_shortest.2.1 200 = .ok (.iconst 1, 1) := by decide +kernel
theorem dc_Mo_shortest_201 : decode m_Mo_shortest.2.1 201 = .ok (.if_icmp .le 30, 3) := by decide +kernel
theorem dc_Mo_shortest_204 : decode m_Mo_shortest.2.1 204 = .ok (.aload_n 0, 1) := by decide +kernel
theorem dc_Mo_shortest_205 : decode m_Mo_shortest.2.1 205 = .ok (.getfield 25, 3) := by decide +kernel
theorem dc_Mo_shortest_208 : decode m_Mo_shortest.2.1 208 = .ok (.aload_n 0, 1) := by decide +kernel
theorem dc_Mo_shortest_209 : decode m_Mo_shortest.2.1 209 = .ok (.getfield 247, 3) := by decide +kernel
theorem dc_Mo_shortest_212 : decode m_Mo_shortest.2.1 212 = .ok (.iconst 1, 1) := by decide +kernel
theorem dc_Mo_shortest_213 : decode m_Mo_shortest.2.1 213 = .ok (.isub, 1) := by decide +kernel
theorem dc_Mo_shortest_214 : decode m_Mo_shortest.2.1 214 = .ok (.iaload, 1) := by decide +kernel
theorem dc_Mo_shortest_215 : decode m_Mo_shortest.2.1 215 = .ok (.ifCond .ne 16, 3) := by decide +kernel
theorem dc_Mo_shortest_218 : decode m_Mo_shortest.2.1 218 = .ok (.aload_n 0, 1) := by decide +kernel
theorem dc_Mo_shortest_219 : decode m_Mo_shortest.2.1 219 = .ok (.dup, 1) := by decide +kernel
theorem dc_Mo_shortest_220 : decode m_Mo_shortest.2.1 220 = .ok (.getfield 247, 3) := by decide +kernel
theorem dc_Mo_shortest_223 : decode m_Mo_shortest.2.1 223 = .ok (.iconst 1, 1) := by decide +kernel
theorem dc_Mo_shortest_224 : decode m_Mo_shortest.2.1 224 = .ok (.isub, 1) := by decide +kernel
theorem dc_Mo_shortest_225 : decode m_Mo_shortest.2.1 225 = .ok (.putfield 247, 3) := by decide +kernel
theorem dc_Mo_shortest_228 : decode m_Mo_shortest.2.1 228 = .ok (.goto (-32), 3) := by decide +kernel
theorem dc_Mo_shortest_231 : decode m_Mo_shortest.2.1 231 = .ok (.return_, 1) := by decide +kernel
theorem b_Mo_shortest_0 {E : En_t} {d : Nat} {σ : S_t} {Q : Option Value → S_t → Prop} {x1 : Int64}
    (h : CV E d m_Mo_keepExact [pv E 0, .long x1] σ (fun σ1 => ((17 : Int32) ≤ (gI σ1 0 13) → JE E (d + 1) m_Mo_shortest 25 [(0, pv E 0), (1, .long x1), (3, .int (1 : Int32))] [.int (17 : Int32)] σ1 Q) ∧ (¬ (17 : Int32) ≤ (gI σ1 0 13) → JE E (d + 1) m_Mo_shortest 25 [(0, pv E 0), (1, .long x1), (3, .int (1 : Int32))] [.int (gI σ1 0 13)] σ1 Q))) :
    JE E (d + 1) m_Mo_shortest 0 [(0, pv E 0), (1, .long x1)] [] σ Q := by
  refine J_aload_n dc_Mo_shortest_0 (Eq.refl 1) 0 rfl ?_
  refine J_lload_n dc_Mo_shortest_1 (Eq.refl 2) 1 rfl ?_
  refine J_callVV (As := [.long x1]) (st := []) dc_Mo_shortest_2 (Eq.refl 5) lk_Mo_257 mi_Mo_keepExact rfl (Nat.le_of_ble_eq_true rfl) rfl rfl (Nat.le_of_ble_eq_true rfl) rfl (Nat.le_of_ble_eq_true rfl) (CV.mono h (fun σ1 h => ?_))
  refine J_iconst (v := (1 : Int32)) dc_Mo_shortest_5 (Eq.refl 6) rfl ?_
  refine J_istore_n (L' := [(3, .int (1 : Int32)), (0, pv E 0), (1, .long x1)]) dc_Mo_shortest_6 (Eq.refl 7) (Nat.le_of_ble_eq_true rfl) rfl ?_
  refine J_aload_n dc_Mo_shortest_7 (Eq.refl 8) 1 rfl ?_
  refine J_getI dc_Mo_shortest_8 (Eq.refl 11) fl_Mo_241 (Nat.le_of_ble_eq_true rfl) rfl (Or.inl rfl) ?_
  refine J_bipush (v := (17 : Int32)) dc_Mo_shortest_11 (Eq.refl 13) rfl ?_
  refine J_icmp_ge dc_Mo_shortest_13 (Eq.refl 16) rfl (fun hc => ?_) (fun hc => ?_)
  · have h := h.1 hc
    refine J_bipush (v := (17 : Int32)) dc_Mo_shortest_23 (Eq.refl 25) rfl ?_
    refine J_sub [1, 2, 0] rfl ?_
    exact h
  · have h := h.2 hc
    refine J_aload_n dc_Mo_shortest_16 (Eq.refl 17) 1 rfl ?_
    refine J_getI dc_Mo_shortest_17 (Eq.refl 20) fl_Mo_241 (Nat.le_of_ble_eq_true rfl) rfl (Or.inl rfl) ?_
    refine J_goto dc_Mo_shortest_20 rfl ?_
    refine J_sub [1, 2, 0] rfl ?_
    exact h
theorem b_Mo_shortest_25 {E : En_t} {d : Nat} {σ : S_t} {Q : Option Value → S_t → Prop} {x1 : Int64} {x3 : Int32} {s0 : Int32}
    (h : JE E (d + 1) m_Mo_shortest 27 [(0, pv E 0), (1, .long x1), (3, .int x3), (4, .int s0)] [] σ Q) :
    JE E (d + 1) m_Mo_shortest 25 [(0, pv E 0), (1, .long x1), (3, .int x3)] [.int s0] σ Q := by
  refine J_istore (L' := [(4, .int s0), (0, pv E 0), (1, .long x1), (3, .int x3)]) dc_Mo_shortest_25 (Eq.refl 27) (Nat.le_of_ble_eq_true rfl) rfl ?_
  refine J_sub [1, 2, 3, 0] rfl ?_
  exact h
theorem b_Mo_shortest_27 {E : En_t} {d : Nat} {σ : S_t} {Q : Option Value → S_t → Prop} {x1 : Int64} {x3 : Int32} {x4 : Int32}
    (h : (x4 ≤ x3 → CI E d m_Mo_reads [pv E 0, .int x3, .int (0 : Int32), .long x1] σ (fun r2 σ1 => CI E d m_Mo_reads [pv E 0, .int x3, .int (1 : Int32), .long x1] σ1 (fun r4 σ3 => (r2 = 0 → JE E (d + 1) m_Mo_shortest 189 [(0, pv E 0), (3, .int x3), (6, .int r4)] [] σ3 Q) ∧ (¬ r2 = 0 → (r4 = 0 → JE E (d + 1) m_Mo_shortest 189 [(0, pv E 0), (3, .int x3), (6, .int r4)] [] σ3 Q) ∧ (¬ r4 = 0 → ((gI σ3 0 13) ≤ x3 → JE E (d + 1) m_Mo_shortest 124 [(0, pv E 0), (3, .int x3)] [.int (0 : Int32)] σ3 Q) ∧ (¬ (gI σ3 0 13) ≤ x3 → vp_in x3 1200 ∧ (JE E (d + 1) m_Mo_shortest 124 [(0, pv E 0), (3, .int x3)] [.int (gI σ3 5 x3.toNatClampNeg)] σ3 Q))))))) ∧ (¬ x4 ≤ x3 → CI E d m_Mo_reads [pv E 0, .int ((x3 + x4) / (2 : Int32)), .int (0 : Int32), .long x1] σ (fun r6 σ5 => (¬ r6 = 0 → JE E (d + 1) m_Mo_shortest 63 [(0, pv E 0), (1, .long x1), (3, .int x3), (5, .int ((x3 + x4) / (2 : Int32)))] [] σ5 Q) ∧ (r6 = 0 → CI E d m_Mo_reads [pv E 0, .int ((x3 + x4) / (2 : Int32)), .int (1 : Int32), .long x1] σ5 (fun r8 σ7 => (r8 = 0 → JE E (d + 1) m_Mo_shortest 75 [(0, pv E 0), (1, .long x1), (3, .int (((x3 + x4) / (2 : Int32)) + (1 : Int32))), (4, .int x4)] [] σ7 Q) ∧ (¬ r8 = 0 → JE E (d + 1) m_Mo_shortest 63 [(0, pv E 0), (1, .long x1), (3, .int x3), (5, .int ((x3 + x4) / (2 : Int32)))] [] σ7 Q)))))) :
    JE E (d + 1) m_Mo_shortest 27 [(0, pv E 0), (1, .long x1), (3, .int x3), (4, .int x4)] [] σ Q := by
  refine J_iload_n dc_Mo_shortest_27 (Eq.refl 28) 2 rfl ?_
  refine J_iload dc_Mo_shortest_28 (Eq.refl 30) 3 rfl ?_
  refine J_icmp_ge dc_Mo_shortest_30 (Eq.refl 33) rfl (fun hc => ?_) (fun hc => ?_)
  · have h := h.1 hc
    refine J_aload_n dc_Mo_shortest_78 (Eq.refl 79) 0 rfl ?_
    refine J_iload_n dc_Mo_shortest_79 (Eq.refl 80) 2 rfl ?_
    refine J_iconst (v := (0 : Int32)) dc_Mo_shortest_80 (Eq.refl 81) rfl ?_
    refine J_lload_n dc_Mo_shortest_81 (Eq.refl 82) 1 rfl ?_
    refine J_callVI (As := [.int x3, .int (0 : Int32), .long x1]) (st := []) dc_Mo_shortest_82 (Eq.refl 85) lk_Mo_260 mi_Mo_reads rfl (Nat.le_of_ble_eq_true rfl) rfl rfl (Nat.le_of_ble_eq_true rfl) rfl (Nat.le_of_ble_eq_true rfl) (CI.mono h (fun r2 σ1 h => ?_))
    refine J_istore (L' := [(5, .int r2), (0, pv E 0), (1, .long x1), (3, .int x3), (4, .int x4)]) dc_Mo_shortest_85 (Eq.refl 87) (Nat.le_of_ble_eq_true rfl) rfl ?_
    refine J_aload_n dc_Mo_shortest_87 (Eq.refl 88) 1 rfl ?_
    refine J_iload_n dc_Mo_shortest_88 (Eq.refl 89) 3 rfl ?_
    refine J_iconst (v := (1 : Int32)) dc_Mo_shortest_89 (Eq.refl 90) rfl ?_
    refine J_lload_n dc_Mo_shortest_90 (Eq.refl 91) 2 rfl ?_
    refine J_callVI (As := [.int x3, .int (1 : Int32), .long x1]) (st := []) dc_Mo_shortest_91 (Eq.refl 94) lk_Mo_260 mi_Mo_reads rfl (Nat.le_of_ble_eq_true rfl) rfl rfl (Nat.le_of_ble_eq_true rfl) rfl (Nat.le_of_ble_eq_true rfl) (CI.mono h (fun r4 σ3 h => ?_))
    refine J_istore (L' := [(6, .int r4), (5, .int r2), (0, pv E 0), (1, .long x1), (3, .int x3), (4, .int x4)]) dc_Mo_shortest_94 (Eq.refl 96) (Nat.le_of_ble_eq_true rfl) rfl ?_
    refine J_iload dc_Mo_shortest_96 (Eq.refl 98) 1 rfl ?_
    refine J_if_eq dc_Mo_shortest_98 (Eq.refl 101) rfl (fun hc => ?_) (fun hc => ?_)
    · have h := h.1 hc
      refine J_sub [2, 4, 0] rfl ?_
      exact h
    · have h := h.2 hc
      refine J_iload dc_Mo_shortest_101 (Eq.refl 103) 0 rfl ?_
      refine J_if_eq dc_Mo_shortest_103 (Eq.refl 106) rfl (fun hc => ?_) (fun hc => ?_)
      · have h := h.1 hc
        refine J_sub [2, 4, 0] rfl ?_
        exact h
      · have h := h.2 hc
        refine J_iload_n dc_Mo_shortest_106 (Eq.refl 107) 4 rfl ?_
        refine J_aload_n dc_Mo_shortest_107 (Eq.refl 108) 2 rfl ?_
        refine J_getI dc_Mo_shortest_108 (Eq.refl 111) fl_Mo_241 (Nat.le_of_ble_eq_true rfl) rfl (Or.inl rfl) ?_
        refine J_icmp_ge dc_Mo_shortest_111 (Eq.refl 114) rfl (fun hc => ?_) (fun hc => ?_)
        · have h := h.1 hc
          refine J_iconst (v := (0 : Int32)) dc_Mo_shortest_123 (Eq.refl 124) rfl ?_
          refine J_sub [2, 4] rfl ?_
          exact h
        · have h := h.2 hc
          refine J_aload_n dc_Mo_shortest_114 (Eq.refl 115) 2 rfl ?_
          refine J_getF (y := 5) dc_Mo_shortest_115 (Eq.refl 118) fl_Mo_22 (Nat.le_of_ble_eq_true rfl) rfl (Or.inl rfl) rfl ?_
          refine J_iload_n dc_Mo_shortest_118 (Eq.refl 119) 4 rfl ?_
          obtain ⟨hg, h⟩ := h
          refine J_iald dc_Mo_shortest_119 (Eq.refl 120) rfl rfl hg ?_
          refine J_goto dc_Mo_shortest_120 rfl ?_
          refine J_sub [2, 4] rfl ?_
          exact h
  · have h := h.2 hc
    refine J_iload_n dc_Mo_shortest_33 (Eq.refl 34) 2 rfl ?_
    refine J_iload dc_Mo_shortest_34 (Eq.refl 36) 3 rfl ?_
    refine J_iadd dc_Mo_shortest_36 (Eq.refl 37) ?_
    refine J_iconst (v := (2 : Int32)) dc_Mo_shortest_37 (Eq.refl 38) rfl ?_
    refine J_idiv dc_Mo_shortest_38 (Eq.refl 39) (by decide) ?_
    refine J_istore (L' := [(5, .int ((x3 + x4) / (2 : Int32))), (0, pv E 0), (1, .long x1), (3, .int x3), (4, .int x4)]) dc_Mo_shortest_39 (Eq.refl 41) (Nat.le_of_ble_eq_true rfl) rfl ?_
    refine J_aload_n dc_Mo_shortest_41 (Eq.refl 42) 1 rfl ?_
    refine J_iload dc_Mo_shortest_42 (Eq.refl 44) 0 rfl ?_
    refine J_iconst (v := (0 : Int32)) dc_Mo_shortest_44 (Eq.refl 45) rfl ?_
    refine J_lload_n dc_Mo_shortest_45 (Eq.refl 46) 2 rfl ?_
    refine J_callVI (As := [.int ((x3 + x4) / (2 : Int32)), .int (0 : Int32), .long x1]) (st := []) dc_Mo_shortest_46 (Eq.refl 49) lk_Mo_260 mi_Mo_reads rfl (Nat.le_of_ble_eq_true rfl) rfl rfl (Nat.le_of_ble_eq_true rfl) rfl (Nat.le_of_ble_eq_true rfl) (CI.mono h (fun r6 σ5 h => ?_))
    refine J_if_ne dc_Mo_shortest_49 (Eq.refl 52) rfl (fun hc => ?_) (fun hc => ?_)
    · have h := h.1 hc
      refine J_sub [1, 2, 3, 0] rfl ?_
      exact h
    · have h := h.2 hc
      refine J_aload_n dc_Mo_shortest_52 (Eq.refl 53) 1 rfl ?_
      refine J_iload dc_Mo_shortest_53 (Eq.refl 55) 0 rfl ?_
      refine J_iconst (v := (1 : Int32)) dc_Mo_shortest_55 (Eq.refl 56) rfl ?_
      refine J_lload_n dc_Mo_shortest_56 (Eq.refl 57) 2 rfl ?_
      refine J_callVI (As := [.int ((x3 + x4) / (2 : Int32)), .int (1 : Int32), .long x1]) (st := []) dc_Mo_shortest_57 (Eq.refl 60) lk_Mo_260 mi_Mo_reads rfl (Nat.le_of_ble_eq_true rfl) rfl rfl (Nat.le_of_ble_eq_true rfl) rfl (Nat.le_of_ble_eq_true rfl) (CI.mono h (fun r8 σ7 h => ?_))
      refine J_if_eq dc_Mo_shortest_60 (Eq.refl 63) rfl (fun hc => ?_) (fun hc => ?_)
      · have h := h.1 hc
        refine J_iload dc_Mo_shortest_70 (Eq.refl 72) 0 rfl ?_
        refine J_iconst (v := (1 : Int32)) dc_Mo_shortest_72 (Eq.refl 73) rfl ?_
        refine J_iadd dc_Mo_shortest_73 (Eq.refl 74) ?_
        refine J_istore_n (L' := [(3, .int (((x3 + x4) / (2 : Int32)) + (1 : Int32))), (5, .int ((x3 + x4) / (2 : Int32))), (0, pv E 0), (1, .long x1), (4, .int x4)]) dc_Mo_shortest_74 (Eq.refl 75) (Nat.le_of_ble_eq_true rfl) rfl ?_
        refine J_sub [2, 3, 0, 4] rfl ?_
        exact h
      · have h := h.2 hc
        refine J_sub [1, 2, 3, 0] rfl ?_
        exact h
theorem b_Mo_shortest_63 {E : En_t} {d : Nat} {σ : S_t} {Q : Option Value → S_t → Prop} {x1 : Int64} {x3 : Int32} {x5 : Int32}
    (h : JE E (d + 1) m_Mo_shortest 75 [(0, pv E 0), (1, .long x1), (3, .int x3), (4, .int x5)] [] σ Q) :
    JE E (d + 1) m_Mo_shortest 63 [(0, pv E 0), (1, .long x1), (3, .int x3), (5, .int x5)] [] σ Q := by
  refine J_iload dc_Mo_shortest_63 (Eq.refl 65) 3 rfl ?_
  refine J_istore (L' := [(4, .int x5), (0, pv E 0), (1, .long x1), (3, .int x3), (5, .int x5)]) dc_Mo_shortest_65 (Eq.refl 67) (Nat.le_of_ble_eq_true rfl) rfl ?_
  refine J_goto dc_Mo_shortest_67 rfl ?_
  refine J_sub [1, 2, 3, 0] rfl ?_
  exact h
theorem b_Mo_shortest_75 {E : En_t} {d : Nat} {σ : S_t} {Q : Option Value → S_t → Prop} {x1 : Int64} {x3 : Int32} {x4 : Int32}
    (h : JE E (d + 1) m_Mo_shortest 27 [(0, pv E 0), (1, .long x1), (3, .int x3), (4, .int x4)] [] σ Q) :
    JE E (d + 1) m_Mo_shortest 75 [(0, pv E 0), (1, .long x1), (3, .int x3), (4, .int x4)] [] σ Q := by
  refine J_goto dc_Mo_shortest_75 rfl ?_
  exact h
theorem b_Mo_shortest_124 {E : En_t} {d : Nat} {σ : S_t} {Q : Option Value → S_t → Prop} {x3 : Int32} {s0 : Int32}
    (h : (¬ s0 = (5 : Int32) → JE E (d + 1) m_Mo_shortest 146 [(0, pv E 0), (3, .int x3), (7, .int s0)] [] σ Q) ∧ (s0 = (5 : Int32) → (¬ (gI σ 0 13) = (x3 + (1 : Int32)) → JE E (d + 1) m_Mo_shortest 146 [(0, pv E 0), (3, .int x3), (7, .int s0)] [] σ Q) ∧ ((gI σ 0 13) = (x3 + (1 : Int32)) → JE E (d + 1) m_Mo_shortest 147 [(0, pv E 0), (3, .int x3), (7, .int s0)] [.int (1 : Int32)] σ Q))) :
    JE E (d + 1) m_Mo_shortest 124 [(0, pv E 0), (3, .int x3)] [.int s0] σ Q := by
  refine J_istore (L' := [(7, .int s0), (0, pv E 0), (3, .int x3)]) dc_Mo_shortest_124 (Eq.refl 126) (Nat.le_of_ble_eq_true rfl) rfl ?_
  refine J_iload dc_Mo_shortest_126 (Eq.refl 128) 0 rfl ?_
  refine J_iconst (v := (5 : Int32)) dc_Mo_shortest_128 (Eq.refl 129) rfl ?_
  refine J_icmp_ne dc_Mo_shortest_129 (Eq.refl 132) rfl (fun hc => ?_) (fun hc => ?_)
  · have h := h.1 hc
    refine J_sub [1, 2, 0] rfl ?_
    exact h
  · have h := h.2 hc
    refine J_aload_n dc_Mo_shortest_132 (Eq.refl 133) 1 rfl ?_
    refine J_getI dc_Mo_shortest_133 (Eq.refl 136) fl_Mo_241 (Nat.le_of_ble_eq_true rfl) rfl (Or.inl rfl) ?_
    refine J_iload_n dc_Mo_shortest_136 (Eq.refl 137) 2 rfl ?_
    refine J_iconst (v := (1 : Int32)) dc_Mo_shortest_137 (Eq.refl 138) rfl ?_
    refine J_iadd dc_Mo_shortest_138 (Eq.refl 139) ?_
    refine J_icmp_ne dc_Mo_shortest_139 (Eq.refl 142) rfl (fun hc => ?_) (fun hc => ?_)
    · have h := h.1 hc
      refine J_sub [1, 2, 0] rfl ?_
      exact h
    · have h := h.2 hc
      refine J_iconst (v := (1 : Int32)) dc_Mo_shortest_142 (Eq.refl 143) rfl ?_
      refine J_goto dc_Mo_shortest_143 rfl ?_
      refine J_sub [1, 2, 0] rfl ?_
      exact h
theorem b_Mo_shortest_146 {E : En_t} {d : Nat} {σ : S_t} {Q : Option Value → S_t → Prop} {x3 : Int32} {x7 : Int32}
    (h : JE E (d + 1) m_Mo_shortest 147 [(0, pv E 0), (3, .int x3), (7, .int x7)] [.int (0 : Int32)] σ Q) :
    JE E (d + 1) m_Mo_shortest 146 [(0, pv E 0), (3, .int x3), (7, .int x7)] [] σ Q := by
  refine J_iconst (v := (0 : Int32)) dc_Mo_shortest_146 (Eq.refl 147) rfl ?_
  exact h
theorem b_Mo_shortest_147 {E : En_t} {d : Nat} {σ : S_t} {Q : Option Value → S_t → Prop} {x3 : Int32} {x7 : Int32} {s0 : Int32}
    (h : (s0 = 0 → (x7 < (5 : Int32) → JE E (d + 1) m_Mo_shortest 187 [(0, pv E 0), (3, .int x3)] [.int (0 : Int32)] σ Q) ∧ (¬ x7 < (5 : Int32) → JE E (d + 1) m_Mo_shortest 187 [(0, pv E 0), (3, .int x3)] [.int (1 : Int32)] σ Q)) ∧ (¬ s0 = 0 → vp_in (x3 - (1 : Int32)) 1200 ∧ (∀ v1, v1 = (gI σ 5 (x3 - (1 : Int32)).toNatClampNeg) - (gI σ 5 (x3 - (1 : Int32)).toNatClampNeg) / (2 : Int32) * (2 : Int32) → ((¬ v1 = (1 : Int32) → JE E (d + 1) m_Mo_shortest 187 [(0, pv E 0), (3, .int x3)] [.int (0 : Int32)] σ Q) ∧ (v1 = (1 : Int32) → JE E (d + 1) m_Mo_shortest 187 [(0, pv E 0), (3, .int x3)] [.int (1 : Int32)] σ Q))))) :
    JE E (d + 1) m_Mo_shortest 147 [(0, pv E 0), (3, .int x3), (7, .int x7)] [.int s0] σ Q := by
  refine J_istore (L' := [(8, .int s0), (0, pv E 0), (3, .int x3), (7, .int x7)]) dc_Mo_shortest_147 (Eq.refl 149) (Nat.le_of_ble_eq_true rfl) rfl ?_
  refine J_iload dc_Mo_shortest_149 (Eq.refl 151) 0 rfl ?_
  refine J_if_eq dc_Mo_shortest_151 (Eq.refl 154) rfl (fun hc => ?_) (fun hc => ?_)
  · have h := h.1 hc
    refine J_iload dc_Mo_shortest_176 (Eq.refl 178) 3 rfl ?_
    refine J_iconst (v := (5 : Int32)) dc_Mo_shortest_178 (Eq.refl 179) rfl ?_
    refine J_icmp_lt dc_Mo_shortest_179 (Eq.refl 182) rfl (fun hc => ?_) (fun hc => ?_)
    · have h := h.1 hc
      refine J_iconst (v := (0 : Int32)) dc_Mo_shortest_186 (Eq.refl 187) rfl ?_
      refine J_sub [1, 2] rfl ?_
      exact h
    · have h := h.2 hc
      refine J_iconst (v := (1 : Int32)) dc_Mo_shortest_182 (Eq.refl 183) rfl ?_
      refine J_goto dc_Mo_shortest_183 rfl ?_
      refine J_sub [1, 2] rfl ?_
      exact h
  · have h := h.2 hc
    refine J_aload_n dc_Mo_shortest_154 (Eq.refl 155) 1 rfl ?_
    refine J_getF (y := 5) dc_Mo_shortest_155 (Eq.refl 158) fl_Mo_22 (Nat.le_of_ble_eq_true rfl) rfl (Or.inl rfl) rfl ?_
    refine J_iload_n dc_Mo_shortest_158 (Eq.refl 159) 2 rfl ?_
    refine J_iconst (v := (1 : Int32)) dc_Mo_shortest_159 (Eq.refl 160) rfl ?_
    refine J_isub dc_Mo_shortest_160 (Eq.refl 161) ?_
    obtain ⟨hg, h⟩ := h
    refine J_iald dc_Mo_shortest_161 (Eq.refl 162) rfl rfl hg ?_
    refine J_iconst (v := (2 : Int32)) dc_Mo_shortest_162 (Eq.refl 163) rfl ?_
    refine J_irem dc_Mo_shortest_163 (Eq.refl 164) (by decide) ?_
    refine J_topi (fun v1 ev1 => ?_)
    have h := h v1 ev1
    refine J_iconst (v := (1 : Int32)) dc_Mo_shortest_164 (Eq.refl 165) rfl ?_
    refine J_icmp_ne dc_Mo_shortest_165 (Eq.refl 168) rfl (fun hc => ?_) (fun hc => ?_)
    · have h := h.1 hc
      refine J_iconst (v := (0 : Int32)) dc_Mo_shortest_172 (Eq.refl 173) rfl ?_
      refine J_goto dc_Mo_shortest_173 rfl ?_
      refine J_sub [1, 2] rfl ?_
      exact h
    · have h := h.2 hc
      refine J_iconst (v := (1 : Int32)) dc_Mo_shortest_168 (Eq.refl 169) rfl ?_
      refine J_goto dc_Mo_shortest_169 rfl ?_
      refine J_sub [1, 2] rfl ?_
      exact h
theorem b_Mo_shortest_187 {E : En_t} {d : Nat} {σ : S_t} {Q : Option Value → S_t → Prop} {x3 : Int32} {s0 : Int32}
    (h : JE E (d + 1) m_Mo_shortest 189 [(0, pv E 0), (3, .int x3), (6, .int s0)] [] σ Q) :
    JE E (d + 1) m_Mo_shortest 187 [(0, pv E 0), (3, .int x3)] [.int s0] σ Q := by
  refine J_istore (L' := [(6, .int s0), (0, pv E 0), (3, .int x3)]) dc_Mo_shortest_187 (Eq.refl 189) (Nat.le_of_ble_eq_true rfl) rfl ?_
  refine J_sub [1, 2, 0] rfl ?_
  exact h
theorem b_Mo_shortest_189 {E : En_t} {d : Nat} {σ : S_t} {Q : Option Value → S_t → Prop} {x3 : Int32} {x6 : Int32}
    (h : CV E d m_Mo_take_IZ [pv E 0, .int x3, .int x6] σ (fun σ1 => JE E (d + 1) m_Mo_shortest 196 [(0, pv E 0)] [] σ1 Q)) :
    JE E (d + 1) m_Mo_shortest 189 [(0, pv E 0), (3, .int x3), (6, .int x6)] [] σ Q := by
  refine J_aload_n dc_Mo_shortest_189 (Eq.refl 190) 0 rfl ?_
  refine J_iload_n dc_Mo_shortest_190 (Eq.refl 191) 1 rfl ?_
  refine J_iload dc_Mo_shortest_191 (Eq.refl 193) 2 rfl ?_
  refine J_callVV (As := [.int x3, .int x6]) (st := []) dc_Mo_shortest_193 (Eq.refl 196) lk_Mo_253 mi_Mo_take_IZ rfl (Nat.le_of_ble_eq_true rfl) rfl rfl (Nat.le_of_ble_eq_true rfl) rfl (Nat.le_of_ble_eq_true rfl) (CV.mono h (fun σ1 h => ?_))
  refine J_sub [0] rfl ?_
  exact h
theorem b_Mo_shortest_196 {E : En_t} {d : Nat} {σ : S_t} {Q : Option Value → S_t → Prop}
    (h : ((gI σ 0 15) ≤ (1 : Int32) → Q none σ) ∧ (¬ (gI σ 0 15) ≤ (1 : Int32) → vp_in ((gI σ 0 15) - (1 : Int32)) 20 ∧ ((¬ (gI σ 6 ((gI σ 0 15) - (1 : Int32)).toNatClampNeg) = 0 → Q none σ) ∧ ((gI σ 6 ((gI σ 0 15) - (1 : Int32)).toNatClampNeg) = 0 → JE E (d + 1) m_Mo_shortest 196 [(0, pv E 0)] [] (sI σ 0 15 ((gI σ 0 15) - (1 : Int32))) Q)))) :
    JE E (d + 1) m_Mo_shortest 196 [(0, pv E 0)] [] σ Q := by
  refine J_aload_n dc_Mo_shortest_196 (Eq.refl 197) 0 rfl ?_
  refine J_getI dc_Mo_shortest_197 (Eq.refl 200) fl_Mo_247 (Nat.le_of_ble_eq_true rfl) rfl (Or.inl rfl) ?_
  refine J_iconst (v := (1 : Int32)) dc_Mo_shortest_200 (Eq.refl 201) rfl ?_
  refine J_icmp_le dc_Mo_shortest_201 (Eq.refl 204) rfl (fun hc => ?_) (fun hc => ?_)
  · have h := h.1 hc
    exact J_vret dc_Mo_shortest_231 rfl h
  · have h := h.2 hc
    refine J_aload_n dc_Mo_shortest_204 (Eq.refl 205) 0 rfl ?_
    refine J_getF (y := 6) dc_Mo_shortest_205 (Eq.refl 208) fl_Mo_25 (Nat.le_of_ble_eq_true rfl) rfl (Or.inl rfl) rfl ?_
    refine J_aload_n dc_Mo_shortest_208 (Eq.refl 209) 0 rfl ?_
    refine J_getI dc_Mo_shortest_209 (Eq.refl 212) fl_Mo_247 (Nat.le_of_ble_eq_true rfl) rfl (Or.inl rfl) ?_
    refine J_iconst (v := (1 : Int32)) dc_Mo_shortest_212 (Eq.refl 213) rfl ?_
    refine J_isub dc_Mo_shortest_213 (Eq.refl 214) ?_
    obtain ⟨hg, h⟩ := h
    refine J_iald dc_Mo_shortest_214 (Eq.refl 215) rfl rfl hg ?_
    refine J_if_ne dc_Mo_shortest_215 (Eq.refl 218) rfl (fun hc => ?_) (fun hc => ?_)
    · have h := h.1 hc
      exact J_vret dc_Mo_shortest_231 rfl h
    · have h := h.2 hc
      refine J_aload_n dc_Mo_shortest_218 (Eq.refl 219) 0 rfl ?_
      refine J_dup dc_Mo_shortest_219 (Eq.refl 220) rfl ?_
      refine J_getI dc_Mo_shortest_220 (Eq.refl 223) fl_Mo_247 (Nat.le_of_ble_eq_true rfl) rfl (Or.inl rfl) ?_
      refine J_iconst (v := (1 : Int32)) dc_Mo_shortest_223 (Eq.refl 224) rfl ?_
      refine J_isub dc_Mo_shortest_224 (Eq.refl 225) ?_
      refine J_putI dc_Mo_shortest_225 (Eq.refl 228) pl_Mo_247 (Nat.le_of_ble_eq_true rfl) rfl rfl ?_
      refine J_goto dc_Mo_shortest_228 rfl ?_
      exact h
theorem dc_Mo_keepExact_0 : decode m_Mo_keepExact.2.1 0 = .ok (.aload_n 0, 1) := by decide +kernel
theorem dc_Mo_keepExact_1 : decode m_Mo_keepExact.2.1 1 = .ok (.lload_n 1, 1) := by decide +kernel
theorem dc_Mo_keepExact_2 : decode m_Mo_keepExact.2.1 2 = .ok (.invokevirtual 237, 3) := by decide +kernel
theorem dc_Mo_keepExact_5 : decode m_Mo_keepExact.2.1 5 = .ok (.aload_n 0, 1) := by decide +kernel
theorem dc_Mo_keepExact_6 : decode m_Mo_keepExact.2.1 6 = .ok (.aload_n 0, 1) := by decide +kernel
theorem dc_Mo_keepExact_7 : decode m_Mo_keepExact.2.1 7 = .ok (.getfield 175, 3) := by decide +kernel
theorem dc_Mo_keepExact_10 : decode m_Mo_keepExact.2.1 10 = .ok (.putfield 241, 3) := by decide +kernel
theorem dc_Mo_keepExact_13 : decode m_Mo_keepExact.2.1 13 = .ok (.aload_n 0, 1) := by decide +kernel
theorem dc_Mo_keepExact_14 : decode m_Mo_keepExact.2.1 14 = .ok (.aload_n 0, 1) := by decide +kernel
theorem dc_Mo_keepExact_15 : decode m_Mo_keepExact.2.1 15 = .ok (.getfield 178, 3) := by decide +kernel
theorem dc_Mo_keepExact_18 : decode m_Mo_keepExact.2.1 18 = .ok (.putfield 244, 3) := by decide +kernel
theorem dc_Mo_keepExact_21 : decode m_Mo_keepExact.2.1 21 = .ok (.iconst 0, 1) := by decide +kernel
theorem dc_Mo_keepExact_22 : decode m_Mo_keepExact.2.1 22 = .ok (.istore_n 3, 1) := by decide +kernel
theorem dc_Mo_keepExact_23 : decode m_Mo_keepExact.2.1 23 = .ok (.iload_n 3, 1) := by decide +kernel
theorem dc_Mo_keepExact_24 : decode m_Mo_keepExact.2.1 24 = .ok (.aload_n 0, 1) := by decide +kernel
theorem dc_Mo_keepExact_25 : decode m_Mo_keepExact.2.1 25 = .ok (.getfield 175, 3) := by decide +kernel
theorem dc_Mo_keepExact_28 : decode m_Mo_keepExact.2.1 28 = .ok (.if_icmp .ge 21, 3) := by decide +kernel
theorem dc_Mo_keepExact_31 : decode m_Mo_keepExact.2.1 31 = .ok (.aload_n 0, 1) := by decide +kernel
theorem dc_Mo_keepExact_32 : decode m_Mo_keepExact.2.1 32 = .ok (.getfield 22, 3) := by decide +kernel
theorem dc_Mo_keepExact_35 : decode m_Mo_keepExact.2.1 35 = .ok (.iload_n 3, 1) := by decide +kernel
theorem dc_Mo_keepExact_36 : decode m_Mo_keepExact.2.1 36 = .ok (.aload_n 0, 1) := by decide +kernel
theorem dc_Mo_keepExact_37 : decode m_Mo_keepExact.2.1 37 = .ok (.getfield 16, 3) := by decide +kernel
theorem dc_Mo_keepExact_40 : decode m_Mo_keepExact.2.1 40 = .ok (.iload_n 3, 1) := by decide +kernel
theorem dc_Mo_keepExact_41 : decode m_Mo_keepExact.2.1 41 = .ok (.iaload, 1) := by decide +kernel
theorem dc_Mo_keepExact_42 : decode m_Mo_keepExact.2.1 42 = .ok (.iastore, 1) := by decide +kernel
theorem dc_Mo_keepExact_43 : decode m_Mo_keepExact.2.1 43 = .ok (.iinc 3 1, 3) := by decide +kernel
theorem dc_Mo_keepExact_46 : decode m_Mo_keepExact.2.1 46 = .ok (.goto (-23), 3) := by decide +kernel
theorem dc_Mo_keepExact_49 : decode m_Mo_keepExact.2.1 49 = .ok (.return_, 1) := by decide +kernel
theorem b_Mo_keepExact_0 {E : En_t} {d : Nat} {σ : S_t} {Q : Option Value → S_t → Prop} {x1 : Int64}
    (h : CV E d m_Mo_exactly [pv E 0, .long x1] σ (fun σ1 => JE E (d + 1) m_Mo_keepExact 23 [(0, pv E 0), (3, .int (0 : Int32))] [] (sI (sI σ1 0 13 (gI σ1 0 6)) 0 14 (gI (sI σ1 0 13 (gI σ1 0 6)) 0 7)) Q)) :
    JE E (d + 1) m_Mo_keepExact 0 [(0, pv E 0), (1, .long x1)] [] σ Q := by
  refine J_aload_n dc_Mo_keepExact_0 (Eq.refl 1) 0 rfl ?_
  refine J_lload_n dc_Mo_keepExact_1 (Eq.refl 2) 1 rfl ?_
  refine J_callVV (As := [.long x1]) (st := []) dc_Mo_keepExact_2 (Eq.refl 5) lk_Mo_237 mi_Mo_exactly rfl (Nat.le_of_ble_eq_true rfl) rfl rfl (Nat.le_of_ble_eq_true rfl) rfl (Nat.le_of_ble_eq_true rfl) (CV.mono h (fun σ1 h => ?_))
  refine J_aload_n dc_Mo_keepExact_5 (Eq.refl 6) 0 rfl ?_
  refine J_aload_n dc_Mo_keepExact_6 (Eq.refl 7) 0 rfl ?_
  refine J_getI dc_Mo_keepExact_7 (Eq.refl 10) fl_Mo_175 (Nat.le_of_ble_eq_true rfl) rfl (Or.inl rfl) ?_
  refine J_putI dc_Mo_keepExact_10 (Eq.refl 13) pl_Mo_241 (Nat.le_of_ble_eq_true rfl) rfl rfl ?_
  refine J_aload_n dc_Mo_keepExact_13 (Eq.refl 14) 0 rfl ?_
  refine J_aload_n dc_Mo_keepExact_14 (Eq.refl 15) 0 rfl ?_
  refine J_getI dc_Mo_keepExact_15 (Eq.refl 18) fl_Mo_178 (Nat.le_of_ble_eq_true rfl) rfl (Or.inl rfl) ?_
  refine J_putI dc_Mo_keepExact_18 (Eq.refl 21) pl_Mo_244 (Nat.le_of_ble_eq_true rfl) rfl rfl ?_
  refine J_iconst (v := (0 : Int32)) dc_Mo_keepExact_21 (Eq.refl 22) rfl ?_
  refine J_istore_n (L' := [(3, .int (0 : Int32)), (0, pv E 0), (1, .long x1)]) dc_Mo_keepExact_22 (Eq.refl 23) (Nat.le_of_ble_eq_true rfl) rfl ?_
  refine J_sub [1, 0] rfl ?_
  exact h
theorem b_Mo_keepExact_23 {E : En_t} {d : Nat} {σ : S_t} {Q : Option Value → S_t → Prop} {x3 : Int32}
    (h : ((gI σ 0 6) ≤ x3 → Q none σ) ∧ (¬ (gI σ 0 6) ≤ x3 → vp_in x3 6000 ∧ (vp_in x3 1200 ∧ (JE E (d + 1) m_Mo_keepExact 23 [(0, pv E 0), (3, .int (x3 + (1 : Int32)))] [] (sI σ 5 x3.toNatClampNeg (gI σ 3 x3.toNatClampNeg)) Q)))) :
    JE E (d + 1) m_Mo_keepExact 23 [(0, pv E 0), (3, .int x3)] [] σ Q := by
  refine J_iload_n dc_Mo_keepExact_23 (Eq.refl 24) 1 rfl ?_
  refine J_aload_n dc_Mo_keepExact_24 (Eq.refl 25) 0 rfl ?_
  refine J_getI dc_Mo_keepExact_25 (Eq.refl 28) fl_Mo_175 (Nat.le_of_ble_eq_true rfl) rfl (Or.inl rfl) ?_
  refine J_icmp_ge dc_Mo_keepExact_28 (Eq.refl 31) rfl (fun hc => ?_) (fun hc => ?_)
  · have h := h.1 hc
    exact J_vret dc_Mo_keepExact_49 rfl h
  · have h := h.2 hc
    refine J_aload_n dc_Mo_keepExact_31 (Eq.refl 32) 0 rfl ?_
    refine J_getF (y := 5) dc_Mo_keepExact_32 (Eq.refl 35) fl_Mo_22 (Nat.le_of_ble_eq_true rfl) rfl (Or.inl rfl) rfl ?_
    refine J_iload_n dc_Mo_keepExact_35 (Eq.refl 36) 1 rfl ?_
    refine J_aload_n dc_Mo_keepExact_36 (Eq.refl 37) 0 rfl ?_
    refine J_getF (y := 3) dc_Mo_keepExact_37 (Eq.refl 40) fl_Mo_16 (Nat.le_of_ble_eq_true rfl) rfl (Or.inl rfl) rfl ?_
    refine J_iload_n dc_Mo_keepExact_40 (Eq.refl 41) 1 rfl ?_
    obtain ⟨hg, h⟩ := h
    refine J_iald dc_Mo_keepExact_41 (Eq.refl 42) rfl rfl hg ?_
    obtain ⟨hg, h⟩ := h
    refine J_iast dc_Mo_keepExact_42 (Eq.refl 43) rfl rfl hg ?_
    refine J_iinc (v := x3 + (1 : Int32)) (L' := [(3, .int (x3 + (1 : Int32))), (0, pv E 0)]) dc_Mo_keepExact_43 (Eq.refl 46) 1 rfl rfl (Nat.le_of_ble_eq_true rfl) rfl ?_
    refine J_goto dc_Mo_keepExact_46 rfl ?_
    refine J_sub [1, 0] rfl ?_
    exact h
