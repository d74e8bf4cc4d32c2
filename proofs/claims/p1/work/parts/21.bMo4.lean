theorem dc_Mo_blanks_0 : decode m_Mo_blanks.2.1 0 = .ok (.aload_n 0, 1) := by decide +kernel
theorem dc_Mo_blanks_1 : decode m_Mo_blanks.2.1 1 = .ok (.iload_n 1, 1) := by decide +kernel
theorem dc_Mo_blanks_2 : decode m_Mo_blanks.2.1 2 = .ok (.invokevirtual 213, 3) := by decide +kernel
theorem dc_Mo_blanks_5 : decode m_Mo_blanks.2.1 5 = .ok (.bipush 9, 2) := by decide +kernel
theorem dc_Mo_blanks_7 : decode m_Mo_blanks.2.1 7 = .ok (.if_icmp .eq 33, 3) := by decide +kernel
theorem dc_Mo_blanks_10 : decode m_Mo_blanks.2.1 10 = .ok (.aload_n 0, 1) := by decide +kernel
theorem dc_Mo_blanks_11 : decode m_Mo_blanks.2.1 11 = .ok (.iload_n 1, 1) := by decide +kernel
theorem dc_Mo_blanks_12 : decode m_Mo_blanks.2.1 12 = .ok (.invokevirtual 213, 3) := by decide +kernel
theorem dc_Mo_blanks_15 : decode m_Mo_blanks.2.1 15 = .ok (.bipush 10, 2) := by decide +kernel
theorem dc_Mo_blanks_17 : decode m_Mo_blanks.2.1 17 = .ok (.if_icmp .eq 23, 3) := by decide +kernel
theorem dc_Mo_blanks_20 : decode m_Mo_blanks.2.1 20 = .ok (.aload_n 0, 1) := by decide +kernel
theorem dc_Mo_blanks_21 : decode m_Mo_blanks.2.1 21 = .ok (.iload_n 1, 1) := by decide +kernel
theorem dc_Mo_blanks_22 : decode m_Mo_blanks.2.1 22 = .ok (.invokevirtual 213, 3) := by decide +kernel
theorem dc_Mo_blanks_25 : decode m_Mo_blanks.2.1 25 = .ok (.bipush 13, 2) := by decide +kernel
theorem dc_Mo_blanks_27 : decode m_Mo_blanks.2.1 27 = .ok (.if_icmp .eq 13, 3) := by decide +kernel
theorem dc_Mo_blanks_30 : decode m_Mo_blanks.2.1 30 = .ok (.aload_n 0, 1) := by decide +kernel
theorem dc_Mo_blanks_31 : decode m_Mo_blanks.2.1 31 = .ok (.iload_n 1, 1) := by decide +kernel
theorem dc_Mo_blanks_32 : decode m_Mo_blanks.2.1 32 = .ok (.invokevirtual 213, 3) := by decide +kernel
theorem dc_Mo_blanks_35 : decode m_Mo_blanks.2.1 35 = .ok (.bipush 32, 2) := by decide +kernel
theorem dc_Mo_blanks_37 : decode m_Mo_blanks.2.1 37 = .ok (.if_icmp .ne 16, 3) := by decide +kernel
theorem dc_Mo_blanks_40 : decode m_Mo_blanks.2.1 40 = .ok (.aload_n 0, 1) := by decide +kernel
theorem dc_Mo_blanks_41 : decode m_Mo_blanks.2.1 41 = .ok (.dup, 1) := by decide +kernel
theorem dc_Mo_blanks_42 : decode m_Mo_blanks.2.1 42 = .ok (.getfield 210, 3) := by decide +kernel
theorem dc_Mo_blanks_45 : decode m_Mo_blanks.2.1 45 = .ok (.iconst 1, 1) := by decide +kernel
theorem dc_Mo_blanks_46 : decode m_Mo_blanks.2.1 46 = .ok (.iadd, 1) := by decide +kernel
theorem dc_Mo_blanks_47 : decode m_Mo_blanks.2.1 47 = .ok (.putfield 210, 3) := by decide +kernel
theorem dc_Mo_blanks_50 : decode m_Mo_blanks.2.1 50 = .ok (.goto (-50), 3) := by decide +kernel
theorem dc_Mo_blanks_53 : decode m_Mo_blanks.2.1 53 = .ok (.return_, 1) := by decide +kernel
theorem b_Mo_blanks_0 {E : En_t} {d : Nat} {σ : S_t} {Q : Option Value → S_t → Prop} {x1 : Int32}
    (h : CI E d m_Mo_here [pv E 0, .int x1] σ (fun r2 σ1 => (r2 = (9 : Int32) → JE E (d + 1) m_Mo_blanks 40 [(0, pv E 0), (1, .int x1)] [] σ1 Q) ∧ (¬ r2 = (9 : Int32) → CI E d m_Mo_here [pv E 0, .int x1] σ1 (fun r4 σ3 => (r4 = (10 : Int32) → JE E (d + 1) m_Mo_blanks 40 [(0, pv E 0), (1, .int x1)] [] σ3 Q) ∧ (¬ r4 = (10 : Int32) → CI E d m_Mo_here [pv E 0, .int x1] σ3 (fun r6 σ5 => (r6 = (13 : Int32) → JE E (d + 1) m_Mo_blanks 40 [(0, pv E 0), (1, .int x1)] [] σ5 Q) ∧ (¬ r6 = (13 : Int32) → CI E d m_Mo_here [pv E 0, .int x1] σ5 (fun r8 σ7 => (¬ r8 = (32 : Int32) → Q none σ7) ∧ (r8 = (32 : Int32) → JE E (d + 1) m_Mo_blanks 40 [(0, pv E 0), (1, .int x1)] [] σ7 Q))))))))) :
    JE E (d + 1) m_Mo_blanks 0 [(0, pv E 0), (1, .int x1)] [] σ Q := by
  refine J_aload_n dc_Mo_blanks_0 (Eq.refl 1) 0 rfl ?_
  refine J_iload_n dc_Mo_blanks_1 (Eq.refl 2) 1 rfl ?_
  refine J_callVI (As := [.int x1]) (st := []) dc_Mo_blanks_2 (Eq.refl 5) lk_Mo_213 mi_Mo_here rfl (Nat.le_of_ble_eq_true rfl) rfl rfl (Nat.le_of_ble_eq_true rfl) rfl (Nat.le_of_ble_eq_true rfl) (CI.mono h (fun r2 σ1 h => ?_))
  refine J_bipush (v := (9 : Int32)) dc_Mo_blanks_5 (Eq.refl 7) rfl ?_
  refine J_icmp_eq dc_Mo_blanks_7 (Eq.refl 10) rfl (fun hc => ?_) (fun hc => ?_)
  · have h := h.1 hc
    exact h
  · have h := h.2 hc
    refine J_aload_n dc_Mo_blanks_10 (Eq.refl 11) 0 rfl ?_
    refine J_iload_n dc_Mo_blanks_11 (Eq.refl 12) 1 rfl ?_
    refine J_callVI (As := [.int x1]) (st := []) dc_Mo_blanks_12 (Eq.refl 15) lk_Mo_213 mi_Mo_here rfl (Nat.le_of_ble_eq_true rfl) rfl rfl (Nat.le_of_ble_eq_true rfl) rfl (Nat.le_of_ble_eq_true rfl) (CI.mono h (fun r4 σ3 h => ?_))
    refine J_bipush (v := (10 : Int32)) dc_Mo_blanks_15 (Eq.refl 17) rfl ?_
    refine J_icmp_eq dc_Mo_blanks_17 (Eq.refl 20) rfl (fun hc => ?_) (fun hc => ?_)
    · have h := h.1 hc
      exact h
    · have h := h.2 hc
      refine J_aload_n dc_Mo_blanks_20 (Eq.refl 21) 0 rfl ?_
      refine J_iload_n dc_Mo_blanks_21 (Eq.refl 22) 1 rfl ?_
      refine J_callVI (As := [.int x1]) (st := []) dc_Mo_blanks_22 (Eq.refl 25) lk_Mo_213 mi_Mo_here rfl (Nat.le_of_ble_eq_true rfl) rfl rfl (Nat.le_of_ble_eq_true rfl) rfl (Nat.le_of_ble_eq_true rfl) (CI.mono h (fun r6 σ5 h => ?_))
      refine J_bipush (v := (13 : Int32)) dc_Mo_blanks_25 (Eq.refl 27) rfl ?_
      refine J_icmp_eq dc_Mo_blanks_27 (Eq.refl 30) rfl (fun hc => ?_) (fun hc => ?_)
      · have h := h.1 hc
        exact h
      · have h := h.2 hc
        refine J_aload_n dc_Mo_blanks_30 (Eq.refl 31) 0 rfl ?_
        refine J_iload_n dc_Mo_blanks_31 (Eq.refl 32) 1 rfl ?_
        refine J_callVI (As := [.int x1]) (st := []) dc_Mo_blanks_32 (Eq.refl 35) lk_Mo_213 mi_Mo_here rfl (Nat.le_of_ble_eq_true rfl) rfl rfl (Nat.le_of_ble_eq_true rfl) rfl (Nat.le_of_ble_eq_true rfl) (CI.mono h (fun r8 σ7 h => ?_))
        refine J_bipush (v := (32 : Int32)) dc_Mo_blanks_35 (Eq.refl 37) rfl ?_
        refine J_icmp_ne dc_Mo_blanks_37 (Eq.refl 40) rfl (fun hc => ?_) (fun hc => ?_)
        · have h := h.1 hc
          exact J_vret dc_Mo_blanks_53 rfl h
        · have h := h.2 hc
          exact h
theorem b_Mo_blanks_40 {E : En_t} {d : Nat} {σ : S_t} {Q : Option Value → S_t → Prop} {x1 : Int32}
    (h : JE E (d + 1) m_Mo_blanks 0 [(0, pv E 0), (1, .int x1)] [] (sI σ 0 9 ((gI σ 0 9) + (1 : Int32))) Q) :
    JE E (d + 1) m_Mo_blanks 40 [(0, pv E 0), (1, .int x1)] [] σ Q := by
  refine J_aload_n dc_Mo_blanks_40 (Eq.refl 41) 0 rfl ?_
  refine J_dup dc_Mo_blanks_41 (Eq.refl 42) rfl ?_
  refine J_getI dc_Mo_blanks_42 (Eq.refl 45) fl_Mo_210 (Nat.le_of_ble_eq_true rfl) rfl (Or.inl rfl) ?_
  refine J_iconst (v := (1 : Int32)) dc_Mo_blanks_45 (Eq.refl 46) rfl ?_
  refine J_iadd dc_Mo_blanks_46 (Eq.refl 47) ?_
  refine J_putI dc_Mo_blanks_47 (Eq.refl 50) pl_Mo_210 (Nat.le_of_ble_eq_true rfl) rfl rfl ?_
  refine J_goto dc_Mo_blanks_50 rfl ?_
  exact h
theorem dc_Mo_wrong_0 : decode m_Mo_wrong.2.1 0 = .ok (.aload_n 0, 1) := by decide +kernel
theorem dc_Mo_wrong_1 : decode m_Mo_wrong.2.1 1 = .ok (.getfield 318, 3) := by decide +kernel
theorem dc_Mo_wrong_4 : decode m_Mo_wrong.2.1 4 = .ok (.ifCond .ne 13, 3) := by decide +kernel
theorem dc_Mo_wrong_7 : decode m_Mo_wrong.2.1 7 = .ok (.aload_n 0, 1) := by decide +kernel
theorem dc_Mo_wrong_8 : decode m_Mo_wrong.2.1 8 = .ok (.iload_n 1, 1) := by decide +kernel
theorem dc_Mo_wrong_9 : decode m_Mo_wrong.2.1 9 = .ok (.putfield 318, 3) := by decide +kernel
theorem dc_Mo_wrong_12 : decode m_Mo_wrong.2.1 12 = .ok (.aload_n 0, 1) := by decide +kernel
theorem dc_Mo_wrong_13 : decode m_Mo_wrong.2.1 13 = .ok (.iload_n 2, 1) := by decide +kernel
theorem dc_Mo_wrong_14 : decode m_Mo_wrong.2.1 14 = .ok (.putfield 98, 3) := by decide +kernel
theorem dc_Mo_wrong_17 : decode m_Mo_wrong.2.1 17 = .ok (.iconst 0, 1) := by decide +kernel
theorem dc_Mo_wrong_18 : decode m_Mo_wrong.2.1 18 = .ok (.ireturn, 1) := by decide +kernel
theorem b_Mo_wrong_0 {E : En_t} {d : Nat} {σ : S_t} {Q : Option Value → S_t → Prop} {x1 : Int32} {x2 : Int32}
    (h : (¬ (gI σ 0 41) = 0 → Q (some (.int (0 : Int32))) σ) ∧ ((gI σ 0 41) = 0 → Q (some (.int (0 : Int32))) (sI (sI σ 0 41 x1) 0 42 x2))) :
    JE E d m_Mo_wrong 0 [(0, pv E 0), (1, .int x1), (2, .int x2)] [] σ Q := by
  refine J_aload_n dc_Mo_wrong_0 (Eq.refl 1) 0 rfl ?_
  refine J_getI dc_Mo_wrong_1 (Eq.refl 4) fl_Mo_318 (Nat.le_of_ble_eq_true rfl) rfl (Or.inl rfl) ?_
  refine J_if_ne dc_Mo_wrong_4 (Eq.refl 7) rfl (fun hc => ?_) (fun hc => ?_)
  · have h := h.1 hc
    refine J_iconst (v := (0 : Int32)) dc_Mo_wrong_17 (Eq.refl 18) rfl ?_
    exact J_zret dc_Mo_wrong_18 rfl rfl h
  · have h := h.2 hc
    refine J_aload_n dc_Mo_wrong_7 (Eq.refl 8) 0 rfl ?_
    refine J_iload_n dc_Mo_wrong_8 (Eq.refl 9) 1 rfl ?_
    refine J_putI dc_Mo_wrong_9 (Eq.refl 12) pl_Mo_318 (Nat.le_of_ble_eq_true rfl) rfl rfl ?_
    refine J_aload_n dc_Mo_wrong_12 (Eq.refl 13) 0 rfl ?_
    refine J_iload_n dc_Mo_wrong_13 (Eq.refl 14) 2 rfl ?_
    refine J_putI dc_Mo_wrong_14 (Eq.refl 17) pl_Mo_98 (Nat.le_of_ble_eq_true rfl) rfl rfl ?_
    refine J_iconst (v := (0 : Int32)) dc_Mo_wrong_17 (Eq.refl 18) rfl ?_
    exact J_zret dc_Mo_wrong_18 rfl rfl h
theorem dc_Mo_takeString_0 : decode m_Mo_takeString.2.1 0 = .ok (.aload_n 0, 1) := by decide +kernel
theorem dc_Mo_takeString_1 : decode m_Mo_takeString.2.1 1 = .ok (.dup, 1) := by decide +kernel
theorem dc_Mo_takeString_2 : decode m_Mo_takeString.2.1 2 = .ok (.getfield 210, 3) := by decide +kernel
theorem dc_Mo_takeString_5 : decode m_Mo_takeString.2.1 5 = .ok (.iconst 1, 1) := by decide +kernel
theorem dc_Mo_takeString_6 : decode m_Mo_takeString.2.1 6 = .ok (.iadd, 1) := by decide +kernel
theorem dc_Mo_takeString_7 : decode m_Mo_takeString.2.1 7 = .ok (.putfield 210, 3) := by decide +kernel
theorem dc_Mo_takeString_10 : decode m_Mo_takeString.2.1 10 = .ok (.aload_n 0, 1) := by decide +kernel
theorem dc_Mo_takeString_11 : decode m_Mo_takeString.2.1 11 = .ok (.iload_n 1, 1) := by decide +kernel
theorem dc_Mo_takeString_12 : decode m_Mo_takeString.2.1 12 = .ok (.invokevirtual 213, 3) := by decide +kernel
theorem dc_Mo_takeString_15 : decode m_Mo_takeString.2.1 15 = .ok (.bipush 34, 2) := by decide +kernel
theorem dc_Mo_takeString_17 : decode m_Mo_takeString.2.1 17 = .ok (.if_icmp .eq 95, 3) := by decide +kernel
theorem dc_Mo_takeString_20 : decode m_Mo_takeString.2.1 20 = .ok (.aload_n 0, 1) := by decide +kernel
theorem dc_Mo_takeString_21 : decode m_Mo_takeString.2.1 21 = .ok (.iload_n 1, 1) := by decide +kernel
theorem dc_Mo_takeString_22 : decode m_Mo_takeString.2.1 22 = .ok (.invokevirtual 213, 3) := by decide +kernel
theorem dc_Mo_takeString_25 : decode m_Mo_takeString.2.1 25 = .ok (.istore_n 2, 1) := by decide +kernel
theorem dc_Mo_takeString_26 : decode m_Mo_takeString.2.1 26 = .ok (.iload_n 2, 1) := by decide +kernel
theorem dc_Mo_takeString_27 : decode m_Mo_takeString.2.1 27 = .ok (.bipush 32, 2) := by decide +kernel
theorem dc_Mo_takeString_29 : decode m_Mo_takeString.2.1 29 = .ok (.if_icmp .lt 7, 3) := by decide +kernel
theorem dc_Mo_takeString_32 : decode m_Mo_takeString.2.1 32 = .ok (.iconst 1, 1) := by decide +kernel
theorem dc_Mo_takeString_33 : decode m_Mo_takeString.2.1 33 = .ok (.goto 4, 3) := by decide +kernel
theorem dc_Mo_takeString_36 : decode m_Mo_takeString.2.1 36 = .ok (.iconst 0, 1) := by decide +kernel
theorem dc_Mo_takeString_37 : decode m_Mo_takeString.2.1 37 = .ok (.istore_n 3, 1) := by decide +kernel
theorem dc_Mo_takeString_38 : decode m_Mo_takeString.2.1 38 = .ok (.iload_n 3, 1) := by decide +kernel
theorem dc_Mo_takeString_39 : decode m_Mo_takeString.2.1 39 = .ok (.ifCond .eq 18, 3) := by decide +kernel
theorem dc_Mo_takeString_42 : decode m_Mo_takeString.2.1 42 = .ok (.iload_n 2, 1) := by decide +kernel
theorem dc_Mo_takeString_43 : decode m_Mo_takeString.2.1 43 = .ok (.bipush 92, 2) := by decide +kernel
theorem dc_Mo_takeString_45 : decode m_Mo_takeString.2.1 45 = .ok (.if_icmp .ne 12, 3) := by decide +kernel
theorem dc_Mo_takeString_48 : decode m_Mo_takeString.2.1 48 = .ok (.aload_n 0, 1) := by decide +kernel
theorem dc_Mo_takeString_49 : decode m_Mo_takeString.2.1 49 = .ok (.iload_n 1, 1) := by decide +kernel
theorem dc_Mo_takeString_50 : decode m_Mo_takeString.2.1 50 = .ok (.invokevirtual 337, 3) := by decide +kernel
theorem dc_Mo_takeString_53 : decode m_Mo_takeString.2.1 53 = .ok (.istore_n 3, 1) := by decide +kernel
theorem dc_Mo_takeString_54 : decode m_Mo_takeString.2.1 54 = .ok (.goto 41, 3) := by decide +kernel
theorem dc_Mo_takeString_57 : decode m_Mo_takeString.2.1 57 = .ok (.iload_n 3, 1) := by decide +kernel
theorem dc_Mo_takeString_58 : decode m_Mo_takeString.2.1 58 = .ok (.ifCond .eq 18, 3) := by decide +kernel
theorem dc_Mo_takeString_61 : decode m_Mo_takeString.2.1 61 = .ok (.iload_n 2, 1) := by decide +kernel
theorem dc_Mo_takeString_62 : decode m_Mo_takeString.2.1 62 = .ok (.bipush 127, 2) := by decide +kernel
theorem dc_Mo_takeString_64 : decode m_Mo_takeString.2.1 64 = .ok (.if_icmp .le 12, 3) := by decide +kernel
theorem dc_Mo_takeString_67 : decode m_Mo_takeString.2.1 67 = .ok (.aload_n 0, 1) := by decide +kernel
theorem dc_Mo_takeString_68 : decode m_Mo_takeString.2.1 68 = .ok (.iload_n 1, 1) := by decide +kernel
theorem dc_Mo_takeString_69 : decode m_Mo_takeString.2.1 69 = .ok (.invokevirtual 340, 3) := by decide +kernel
theorem dc_Mo_takeString_72 : decode m_Mo_takeString.2.1 72 = .ok (.istore_n 3, 1) := by decide +kernel
theorem dc_Mo_takeString_73 : decode m_Mo_takeString.2.1 73 = .ok (.goto 22, 3) := by decide +kernel
theorem dc_Mo_takeString_76 : decode m_Mo_takeString.2.1 76 = .ok (.iload_n 3, 1) := by decide +kernel
theorem dc_Mo_takeString_77 : decode m_Mo_takeString.2.1 77 = .ok (.ifCond .eq 18, 3) := by decide +kernel
theorem dc_Mo_takeString_80 : decode m_Mo_takeString.2.1 80 = .ok (.aload_n 0, 1) := by decide +kernel
theorem dc_Mo_takeString_81 : decode m_Mo_takeString.2.1 81 = .ok (.iload_n 2, 1) := by decide +kernel
theorem dc_Mo_takeString_82 : decode m_Mo_takeString.2.1 82 = .ok (.invokevirtual 324, 3) := by decide +kernel
theorem dc_Mo_takeString_85 : decode m_Mo_takeString.2.1 85 = .ok (.aload_n 0, 1) := by decide +kernel
theorem dc_Mo_takeString_86 : decode m_Mo_takeString.2.1 86 = .ok (.dup, 1) := by decide +kernel
theorem dc_Mo_takeString_87 : decode m_Mo_takeString.2.1 87 = .ok (.getfield 210, 3) := by decide +kernel
theorem dc_Mo_takeString_90 : decode m_Mo_takeString.2.1 90 = .ok (.iconst 1, 1) := by decide +kernel
theorem dc_Mo_takeString_91 : decode m_Mo_takeString.2.1 91 = .ok (.iadd, 1) := by decide +kernel
theorem dc_Mo_takeString_92 : decode m_Mo_takeString.2.1 92 = .ok (.putfield 210, 3) := by decide +kernel
theorem dc_Mo_takeString_95 : decode m_Mo_takeString.2.1 95 = .ok (.iload_n 3, 1) := by decide +kernel
theorem dc_Mo_takeString_96 : decode m_Mo_takeString.2.1 96 = .ok (.ifCond .ne 13, 3) := by decide +kernel
theorem dc_Mo_takeString_99 : decode m_Mo_takeString.2.1 99 = .ok (.aload_n 0, 1) := by decide +kernel
theorem dc_Mo_takeString_100 : decode m_Mo_takeString.2.1 100 = .ok (.iconst 1, 1) := by decide +kernel
theorem dc_Mo_takeString_101 : decode m_Mo_takeString.2.1 101 = .ok (.aload_n 0, 1) := by decide +kernel
theorem dc_Mo_takeString_102 : decode m_Mo_takeString.2.1 102 = .ok (.getfield 210, 3) := by decide +kernel
theorem dc_Mo_takeString_105 : decode m_Mo_takeString.2.1 105 = .ok (.invokevirtual 343, 3) := by decide +kernel
theorem dc_Mo_takeString_108 : decode m_Mo_takeString.2.1 108 = .ok (.ireturn, 1) := by decide +kernel
theorem dc_Mo_takeString_109 : decode m_Mo_takeString.2.1 109 = .ok (.goto (-99), 3) := by decide +kernel
theorem dc_Mo_takeString_112 : decode m_Mo_takeString.2.1 112 = .ok (.aload_n 0, 1) := by decide +kernel
theorem dc_Mo_takeString_113 : decode m_Mo_takeString.2.1 113 = .ok (.dup, 1) := by decide +kernel
theorem dc_Mo_takeString_114 : decode m_Mo_takeString.2.1 114 = .ok (.getfield 210, 3) := by decide +kernel
theorem dc_Mo_takeString_117 : decode m_Mo_takeString.2.1 117 = .ok (.iconst 1, 1) := by decide +kernel
theorem dc_Mo_takeString_118 : decode m_Mo_takeString.2.1 118 = .ok (.iadd, 1) := by decide +kernel
theorem dc_Mo_takeString_119 : decode m_Mo_takeString.2.1 119 = .ok (.putfield 210, 3) := by decide +kernel
theorem dc_Mo_takeString_122 : decode m_Mo_takeString.2.1 122 = .ok (.iconst 1, 1) := by decide +kernel
theorem dc_Mo_takeString_123 : decode m_Mo_takeString.2.1 123 = .ok (.ireturn, 1) := by decide +kernel
theorem b_Mo_takeString_0 {E : En_t} {d : Nat} {σ : S_t} {Q : Option Value → S_t → Prop} {x1 : Int32}
    (h : JE E (d + 1) m_Mo_takeString 10 [(0, pv E 0), (1, .int x1)] [] (sI σ 0 9 ((gI σ 0 9) + (1 : Int32))) Q) :
    JE E (d + 1) m_Mo_takeString 0 [(0, pv E 0), (1, .int x1)] [] σ Q := by
  refine J_aload_n dc_Mo_takeString_0 (Eq.refl 1) 0 rfl ?_
  refine J_dup dc_Mo_takeString_1 (Eq.refl 2) rfl ?_
  refine J_getI dc_Mo_takeString_2 (Eq.refl 5) fl_Mo_210 (Nat.le_of_ble_eq_true rfl) rfl (Or.inl rfl) ?_
  refine J_iconst (v := (1 : Int32)) dc_Mo_takeString_5 (Eq.refl 6) rfl ?_
  refine J_iadd dc_Mo_takeString_6 (Eq.refl 7) ?_
  refine J_putI dc_Mo_takeString_7 (Eq.refl 10) pl_Mo_210 (Nat.le_of_ble_eq_true rfl) rfl rfl ?_
  exact h
theorem b_Mo_takeString_10 {E : En_t} {d : Nat} {σ : S_t} {Q : Option Value → S_t → Prop} {x1 : Int32}
    (h : CI E d m_Mo_here [pv E 0, .int x1] σ (fun r2 σ1 => (r2 = (34 : Int32) → Q (some (.int (1 : Int32))) (sI σ1 0 9 ((gI σ1 0 9) + (1 : Int32)))) ∧ (¬ r2 = (34 : Int32) → CI E d m_Mo_here [pv E 0, .int x1] σ1 (fun r4 σ3 => (r4 < (32 : Int32) → JE E (d + 1) m_Mo_takeString 37 [(0, pv E 0), (1, .int x1), (2, .int r4)] [.int (0 : Int32)] σ3 Q) ∧ (¬ r4 < (32 : Int32) → JE E (d + 1) m_Mo_takeString 37 [(0, pv E 0), (1, .int x1), (2, .int r4)] [.int (1 : Int32)] σ3 Q))))) :
    JE E (d + 1) m_Mo_takeString 10 [(0, pv E 0), (1, .int x1)] [] σ Q := by
  refine J_aload_n dc_Mo_takeString_10 (Eq.refl 11) 0 rfl ?_
  refine J_iload_n dc_Mo_takeString_11 (Eq.refl 12) 1 rfl ?_
  refine J_callVI (As := [.int x1]) (st := []) dc_Mo_takeString_12 (Eq.refl 15) lk_Mo_213 mi_Mo_here rfl (Nat.le_of_ble_eq_true rfl) rfl rfl (Nat.le_of_ble_eq_true rfl) rfl (Nat.le_of_ble_eq_true rfl) (CI.mono h (fun r2 σ1 h => ?_))
  refine J_bipush (v := (34 : Int32)) dc_Mo_takeString_15 (Eq.refl 17) rfl ?_
  refine J_icmp_eq dc_Mo_takeString_17 (Eq.refl 20) rfl (fun hc => ?_) (fun hc => ?_)
  · have h := h.1 hc
    refine J_aload_n dc_Mo_takeString_112 (Eq.refl 113) 0 rfl ?_
    refine J_dup dc_Mo_takeString_113 (Eq.refl 114) rfl ?_
    refine J_getI dc_Mo_takeString_114 (Eq.refl 117) fl_Mo_210 (Nat.le_of_ble_eq_true rfl) rfl (Or.inl rfl) ?_
    refine J_iconst (v := (1 : Int32)) dc_Mo_takeString_117 (Eq.refl 118) rfl ?_
    refine J_iadd dc_Mo_takeString_118 (Eq.refl 119) ?_
    refine J_putI dc_Mo_takeString_119 (Eq.refl 122) pl_Mo_210 (Nat.le_of_ble_eq_true rfl) rfl rfl ?_
    refine J_iconst (v := (1 : Int32)) dc_Mo_takeString_122 (Eq.refl 123) rfl ?_
    exact J_zret dc_Mo_takeString_123 rfl rfl h
  · have h := h.2 hc
    refine J_aload_n dc_Mo_takeString_20 (Eq.refl 21) 0 rfl ?_
    refine J_iload_n dc_Mo_takeString_21 (Eq.refl 22) 1 rfl ?_
    refine J_callVI (As := [.int x1]) (st := []) dc_Mo_takeString_22 (Eq.refl 25) lk_Mo_213 mi_Mo_here rfl (Nat.le_of_ble_eq_true rfl) rfl rfl (Nat.le_of_ble_eq_true rfl) rfl (Nat.le_of_ble_eq_true rfl) (CI.mono h (fun r4 σ3 h => ?_))
    refine J_istore_n (L' := [(2, .int r4), (0, pv E 0), (1, .int x1)]) dc_Mo_takeString_25 (Eq.refl 26) (Nat.le_of_ble_eq_true rfl) rfl ?_
    refine J_iload_n dc_Mo_takeString_26 (Eq.refl 27) 0 rfl ?_
    refine J_bipush (v := (32 : Int32)) dc_Mo_takeString_27 (Eq.refl 29) rfl ?_
    refine J_icmp_lt dc_Mo_takeString_29 (Eq.refl 32) rfl (fun hc => ?_) (fun hc => ?_)
    · have h := h.1 hc
      refine J_iconst (v := (0 : Int32)) dc_Mo_takeString_36 (Eq.refl 37) rfl ?_
      refine J_sub [1, 2, 0] rfl ?_
      exact h
    · have h := h.2 hc
      refine J_iconst (v := (1 : Int32)) dc_Mo_takeString_32 (Eq.refl 33) rfl ?_
      refine J_goto dc_Mo_takeString_33 rfl ?_
      refine J_sub [1, 2, 0] rfl ?_
      exact h
theorem b_Mo_takeString_37 {E : En_t} {d : Nat} {σ : S_t} {Q : Option Value → S_t → Prop} {x1 : Int32} {x2 : Int32} {s0 : Int32}
    (h : (s0 = 0 → JE E (d + 1) m_Mo_takeString 57 [(0, pv E 0), (1, .int x1), (2, .int x2), (3, .int s0)] [] σ Q) ∧ (¬ s0 = 0 → (¬ x2 = (92 : Int32) → JE E (d + 1) m_Mo_takeString 57 [(0, pv E 0), (1, .int x1), (2, .int x2), (3, .int s0)] [] σ Q) ∧ (x2 = (92 : Int32) → CI E d m_Mo_takeEscape [pv E 0, .int x1] σ (fun r2 σ1 => JE E (d + 1) m_Mo_takeString 95 [(0, pv E 0), (1, .int x1), (3, .int r2)] [] σ1 Q)))) :
    JE E (d + 1) m_Mo_takeString 37 [(0, pv E 0), (1, .int x1), (2, .int x2)] [.int s0] σ Q := by
  refine J_istore_n (L' := [(3, .int s0), (0, pv E 0), (1, .int x1), (2, .int x2)]) dc_Mo_takeString_37 (Eq.refl 38) (Nat.le_of_ble_eq_true rfl) rfl ?_
  refine J_iload_n dc_Mo_takeString_38 (Eq.refl 39) 0 rfl ?_
  refine J_if_eq dc_Mo_takeString_39 (Eq.refl 42) rfl (fun hc => ?_) (fun hc => ?_)
  · have h := h.1 hc
    refine J_sub [1, 2, 3, 0] rfl ?_
    exact h
  · have h := h.2 hc
    refine J_iload_n dc_Mo_takeString_42 (Eq.refl 43) 3 rfl ?_
    refine J_bipush (v := (92 : Int32)) dc_Mo_takeString_43 (Eq.refl 45) rfl ?_
    refine J_icmp_ne dc_Mo_takeString_45 (Eq.refl 48) rfl (fun hc => ?_) (fun hc => ?_)
    · have h := h.1 hc
      refine J_sub [1, 2, 3, 0] rfl ?_
      exact h
    · have h := h.2 hc
      refine J_aload_n dc_Mo_takeString_48 (Eq.refl 49) 1 rfl ?_
      refine J_iload_n dc_Mo_takeString_49 (Eq.refl 50) 2 rfl ?_
      refine J_callVI (As := [.int x1]) (st := []) dc_Mo_takeString_50 (Eq.refl 53) lk_Mo_337 mi_Mo_takeEscape rfl (Nat.le_of_ble_eq_true rfl) rfl rfl (Nat.le_of_ble_eq_true rfl) rfl (Nat.le_of_ble_eq_true rfl) (CI.mono h (fun r2 σ1 h => ?_))
      refine J_istore_n (L' := [(3, .int r2), (0, pv E 0), (1, .int x1), (2, .int x2)]) dc_Mo_takeString_53 (Eq.refl 54) (Nat.le_of_ble_eq_true rfl) rfl ?_
      refine J_goto dc_Mo_takeString_54 rfl ?_
      refine J_sub [1, 2, 0] rfl ?_
      exact h
theorem b_Mo_takeString_57 {E : En_t} {d : Nat} {σ : S_t} {Q : Option Value → S_t → Prop} {x1 : Int32} {x2 : Int32} {x3 : Int32}
    (h : (x3 = 0 → JE E (d + 1) m_Mo_takeString 76 [(0, pv E 0), (1, .int x1), (2, .int x2), (3, .int x3)] [] σ Q) ∧ (¬ x3 = 0 → (x2 ≤ (127 : Int32) → JE E (d + 1) m_Mo_takeString 76 [(0, pv E 0), (1, .int x1), (2, .int x2), (3, .int x3)] [] σ Q) ∧ (¬ x2 ≤ (127 : Int32) → CI E d m_Mo_takeWide [pv E 0, .int x1] σ (fun r2 σ1 => JE E (d + 1) m_Mo_takeString 95 [(0, pv E 0), (1, .int x1), (3, .int r2)] [] σ1 Q)))) :
    JE E (d + 1) m_Mo_takeString 57 [(0, pv E 0), (1, .int x1), (2, .int x2), (3, .int x3)] [] σ Q := by
  refine J_iload_n dc_Mo_takeString_57 (Eq.refl 58) 3 rfl ?_
  refine J_if_eq dc_Mo_takeString_58 (Eq.refl 61) rfl (fun hc => ?_) (fun hc => ?_)
  · have h := h.1 hc
    exact h
  · have h := h.2 hc
    refine J_iload_n dc_Mo_takeString_61 (Eq.refl 62) 2 rfl ?_
    refine J_bipush (v := (127 : Int32)) dc_Mo_takeString_62 (Eq.refl 64) rfl ?_
    refine J_icmp_le dc_Mo_takeString_64 (Eq.refl 67) rfl (fun hc => ?_) (fun hc => ?_)
    · have h := h.1 hc
      exact h
    · have h := h.2 hc
      refine J_aload_n dc_Mo_takeString_67 (Eq.refl 68) 0 rfl ?_
      refine J_iload_n dc_Mo_takeString_68 (Eq.refl 69) 1 rfl ?_
      refine J_callVI (As := [.int x1]) (st := []) dc_Mo_takeString_69 (Eq.refl 72) lk_Mo_340 mi_Mo_takeWide rfl (Nat.le_of_ble_eq_true rfl) rfl rfl (Nat.le_of_ble_eq_true rfl) rfl (Nat.le_of_ble_eq_true rfl) (CI.mono h (fun r2 σ1 h => ?_))
      refine J_istore_n (L' := [(3, .int r2), (0, pv E 0), (1, .int x1), (2, .int x2)]) dc_Mo_takeString_72 (Eq.refl 73) (Nat.le_of_ble_eq_true rfl) rfl ?_
      refine J_goto dc_Mo_takeString_73 rfl ?_
      refine J_sub [1, 2, 0] rfl ?_
      exact h
theorem b_Mo_takeString_76 {E : En_t} {d : Nat} {σ : S_t} {Q : Option Value → S_t → Prop} {x1 : Int32} {x2 : Int32} {x3 : Int32}
    (h : (x3 = 0 → JE E (d + 1) m_Mo_takeString 95 [(0, pv E 0), (1, .int x1), (3, .int x3)] [] σ Q) ∧ (¬ x3 = 0 → CV E d m_Mo_keep [pv E 0, .int x2] σ (fun σ1 => JE E (d + 1) m_Mo_takeString 95 [(0, pv E 0), (1, .int x1), (3, .int x3)] [] (sI σ1 0 9 ((gI σ1 0 9) + (1 : Int32))) Q))) :
    JE E (d + 1) m_Mo_takeString 76 [(0, pv E 0), (1, .int x1), (2, .int x2), (3, .int x3)] [] σ Q := by
  refine J_iload_n dc_Mo_takeString_76 (Eq.refl 77) 3 rfl ?_
  refine J_if_eq dc_Mo_takeString_77 (Eq.refl 80) rfl (fun hc => ?_) (fun hc => ?_)
  · have h := h.1 hc
    refine J_sub [0, 1, 3] rfl ?_
    exact h
  · have h := h.2 hc
    refine J_aload_n dc_Mo_takeString_80 (Eq.refl 81) 0 rfl ?_
    refine J_iload_n dc_Mo_takeString_81 (Eq.refl 82) 2 rfl ?_
    refine J_callVV (As := [.int x2]) (st := []) dc_Mo_takeString_82 (Eq.refl 85) lk_Mo_324 mi_Mo_keep rfl (Nat.le_of_ble_eq_true rfl) rfl rfl (Nat.le_of_ble_eq_true rfl) rfl (Nat.le_of_ble_eq_true rfl) (CV.mono h (fun σ1 h => ?_))
    refine J_aload_n dc_Mo_takeString_85 (Eq.refl 86) 0 rfl ?_
    refine J_dup dc_Mo_takeString_86 (Eq.refl 87) rfl ?_
    refine J_getI dc_Mo_takeString_87 (Eq.refl 90) fl_Mo_210 (Nat.le_of_ble_eq_true rfl) rfl (Or.inl rfl) ?_
    refine J_iconst (v := (1 : Int32)) dc_Mo_takeString_90 (Eq.refl 91) rfl ?_
    refine J_iadd dc_Mo_takeString_91 (Eq.refl 92) ?_
    refine J_putI dc_Mo_takeString_92 (Eq.refl 95) pl_Mo_210 (Nat.le_of_ble_eq_true rfl) rfl rfl ?_
    refine J_sub [0, 1, 3] rfl ?_
    exact h
theorem b_Mo_takeString_95 {E : En_t} {d : Nat} {σ : S_t} {Q : Option Value → S_t → Prop} {x1 : Int32} {x3 : Int32}
    (h : (¬ x3 = 0 → JE E (d + 1) m_Mo_takeString 10 [(0, pv E 0), (1, .int x1)] [] σ Q) ∧ (x3 = 0 → CI E d m_Mo_wrong [pv E 0, .int (1 : Int32), .int (gI σ 0 9)] σ (fun r2 σ1 => narrow .boolean (.int r2) = .int r2 ∧ Q (some (.int r2)) σ1))) :
    JE E (d + 1) m_Mo_takeString 95 [(0, pv E 0), (1, .int x1), (3, .int x3)] [] σ Q := by
  refine J_iload_n dc_Mo_takeString_95 (Eq.refl 96) 2 rfl ?_
  refine J_if_ne dc_Mo_takeString_96 (Eq.refl 99) rfl (fun hc => ?_) (fun hc => ?_)
  · have h := h.1 hc
    refine J_goto dc_Mo_takeString_109 rfl ?_
    refine J_sub [0, 1] rfl ?_
    exact h
  · have h := h.2 hc
    refine J_aload_n dc_Mo_takeString_99 (Eq.refl 100) 0 rfl ?_
    refine J_iconst (v := (1 : Int32)) dc_Mo_takeString_100 (Eq.refl 101) rfl ?_
    refine J_aload_n dc_Mo_takeString_101 (Eq.refl 102) 0 rfl ?_
    refine J_getI dc_Mo_takeString_102 (Eq.refl 105) fl_Mo_210 (Nat.le_of_ble_eq_true rfl) rfl (Or.inl rfl) ?_
    refine J_callVI (As := [.int (1 : Int32), .int (gI σ 0 9)]) (st := []) dc_Mo_takeString_105 (Eq.refl 108) lk_Mo_343 mi_Mo_wrong rfl (Nat.le_of_ble_eq_true rfl) rfl rfl (Nat.le_of_ble_eq_true rfl) rfl (Nat.le_of_ble_eq_true rfl) (CI.mono h (fun r2 σ1 h => ?_))
    exact J_zret dc_Mo_takeString_108 rfl h.1 h.2
theorem dc_Mo_takeEscape_0 : decode m_Mo_takeEscape.2.1 0 = .ok (.aload_n 0, 1) := by decide +kernel
theorem dc_Mo_takeEscape_1 : decode m_Mo_takeEscape.2.1 1 = .ok (.dup, 1) := by decide +kernel
theorem dc_Mo_takeEscape_2 : decode m_Mo_takeEscape.2.1 2 = .ok (.getfield 210, 3) := by decide +kernel
theorem dc_Mo_takeEscape_5 : decode m_Mo_takeEscape.2.1 5 = .ok (.iconst 1, 1) := by decide +kernel
theorem dc_Mo_takeEscape_6 : decode m_Mo_takeEscape.2.1 6 = .ok (.iadd, 1) := by decide +kernel
theorem dc_Mo_takeEscape_7 : decode m_Mo_takeEscape.2.1 7 = .ok (.putfield 210, 3) := by decide +kernel
theorem dc_Mo_takeEscape_10 : decode m_Mo_takeEscape.2.1 10 = .ok (.aload_n 0, 1) := by decide +kernel
theorem dc_Mo_takeEscape_11 : decode m_Mo_takeEscape.2.1 11 = .ok (.iload_n 1, 1) := by decide +kernel
theorem dc_Mo_takeEscape_12 : decode m_Mo_takeEscape.2.1 12 = .ok (.invokevirtual 213, 3) := by decide +kernel
theorem dc_Mo_takeEscape_15 : decode m_Mo_takeEscape.2.1 15 = .ok (.istore_n 2, 1) := by decide +kernel
theorem dc_Mo_takeEscape_16 : decode m_Mo_takeEscape.2.1 16 = .ok (.iload_n 2, 1) := by decide +kernel
theorem dc_Mo_takeEscape_17 : decode m_Mo_takeEscape.2.1 17 = .ok (.bipush 34, 2) := by decide +kernel
theorem dc_Mo_takeEscape_19 : decode m_Mo_takeEscape.2.1 19 = .ok (.if_icmp .eq 15, 3) := by decide +kernel
theorem dc_Mo_takeEscape_22 : decode m_Mo_takeEscape.2.1 22 = .ok (.iload_n 2, 1) := by decide +kernel
theorem dc_Mo_takeEscape_23 : decode m_Mo_takeEscape.2.1 23 = .ok (.bipush 92, 2) := by decide +kernel
theorem dc_Mo_takeEscape_25 : decode m_Mo_takeEscape.2.1 25 = .ok (.if_icmp .eq 9, 3) := by decide +kernel
theorem dc_Mo_takeEscape_28 : decode m_Mo_takeEscape.2.1 28 = .ok (.iload_n 2, 1) := by decide +kernel
theorem dc_Mo_takeEscape_29 : decode m_Mo_takeEscape.2.1 29 = .ok (.bipush 47, 2) := by decide +kernel
theorem dc_Mo_takeEscape_31 : decode m_Mo_takeEscape.2.1 31 = .ok (.if_icmp .ne 7, 3) := by decide +kernel
theorem dc_Mo_takeEscape_34 : decode m_Mo_takeEscape.2.1 34 = .ok (.iload_n 2, 1) := by decide +kernel
theorem dc_Mo_takeEscape_35 : decode m_Mo_takeEscape.2.1 35 = .ok (.goto 59, 3) := by decide +kernel
theorem dc_Mo_takeEscape_38 : decode m_Mo_takeEscape.2.1 38 = .ok (.iload_n 2, 1) := by decide +kernel
theorem dc_Mo_takeEscape_39 : decode m_Mo_takeEscape.2.1 39 = .ok (.bipush 98, 2) := by decide +kernel
theorem dc_Mo_takeEscape_41 : decode m_Mo_takeEscape.2.1 41 = .ok (.if_icmp .ne 8, 3) := by decide +kernel
theorem dc_Mo_takeEscape_44 : decode m_Mo_takeEscape.2.1 44 = .ok (.bipush 8, 2) := by decide +kernel
theorem dc_Mo_takeEscape_46 : decode m_Mo_takeEscape.2.1 46 = .ok (.goto 48, 3) := by decide +kernel
theorem dc_Mo_takeEscape_49 : decode m_Mo_takeEscape.2.1 49 = .ok (.iload_n 2, 1) := by decide +kernel
theorem dc_Mo_takeEscape_50 : decode m_Mo_takeEscape.2.1 50 = .ok (.bipush 102, 2) := by decide +kernel
theorem dc_Mo_takeEscape_52 : decode m_Mo_takeEscape.2.1 52 = .ok (.if_icmp .ne 8, 3) := by decide +kernel
theorem dc_Mo_takeEscape_55 : decode m_Mo_takeEscape.2.1 55 = .ok (.bipush 12, 2) := by decide +kernel
theorem dc_Mo_takeEscape_57 : decode m_Mo_takeEscape.2.1 57 = .ok (.goto 37, 3) := by decide +kernel
theorem dc_Mo_takeEscape_60 : decode m_Mo_takeEscape.2.1 60 = .ok (.iload_n 2, 1) := by decide +kernel
theorem dc_Mo_takeEscape_61 : decode m_Mo_takeEscape.2.1 61 = .ok (.bipush 110, 2) := by decide +kernel
theorem dc_Mo_takeEscape_63 : decode m_Mo_takeEscape.2.1 63 = .ok (.if_icmp .ne 8, 3) := by decide +kernel
theorem dc_Mo_takeEscape_66 : decode m_Mo_takeEscape.2.1 66 = .ok (.bipush 10, 2) := by decide +kernel
theorem dc_Mo_takeEscape_68 : decode m_Mo_takeEscape.2.1 68 = .ok (.goto 26, 3) := by decide +kernel
theorem dc_Mo_takeEscape_71 : decode m_Mo_takeEscape.2.1 71 = .ok (.iload_n 2, 1) := by decide +kernel
theorem dc_Mo_takeEscape_72 : decode m_Mo_takeEscape.2.1 72 = .ok (.bipush 114, 2) := by decide +kernel
theorem dc_Mo_takeEscape_74 : decode m_Mo_takeEscape.2.1 74 = .ok (.if_icmp .ne 8, 3) := by decide +kernel
theorem dc_Mo_takeEscape_77 : decode m_Mo_takeEscape.2.1 77 = .ok (.bipush 13, 2) := by decide +kernel
theorem dc_Mo_takeEscape_79 : decode m_Mo_takeEscape.2.1 79 = .ok (.goto 15, 3) := by decide +kernel
theorem dc_Mo_takeEscape_82 : decode m_Mo_takeEscape.2.1 82 = .ok (.iload_n 2, 1) := by decide +kernel
theorem dc_Mo_takeEscape_83 : decode m_Mo_takeEscape.2.1 83 = .ok (.bipush 116, 2) := by decide +kernel
theorem dc_Mo_takeEscape_85 : decode m_Mo_takeEscape.2.1 85 = .ok (.if_icmp .ne 8, 3) := by decide +kernel
theorem dc_Mo_takeEscape_88 : decode m_Mo_takeEscape.2.1 88 = .ok (.bipush 9, 2) := by decide +kernel
theorem dc_Mo_takeEscape_90 : decode m_Mo_takeEscape.2.1 90 = .ok (.goto 4, 3) := by decide +kernel
theorem dc_Mo_takeEscape_93 : decode m_Mo_takeEscape.2.1 93 = .ok (.iconst (-1), 1) := by decide +kernel
theorem dc_Mo_takeEscape_94 : decode m_Mo_takeEscape.2.1 94 = .ok (.istore_n 3, 1) := by decide +kernel
theorem dc_Mo_takeEscape_95 : decode m_Mo_takeEscape.2.1 95 = .ok (.iload_n 3, 1) := by decide +kernel
theorem dc_Mo_takeEscape_96 : decode m_Mo_takeEscape.2.1 96 = .ok (.ifCond .lt 20, 3) := by decide +kernel
theorem dc_Mo_takeEscape_99 : decode m_Mo_takeEscape.2.1 99 = .ok (.aload_n 0, 1) := by decide +kernel
theorem dc_Mo_takeEscape_100 : decode m_Mo_takeEscape.2.1 100 = .ok (.dup, 1) := by decide +kernel
theorem dc_Mo_takeEscape_101 : decode m_Mo_takeEscape.2.1 101 = .ok (.getfield 210, 3) := by decide +kernel
theorem dc_Mo_takeEscape_104 : decode m_Mo_takeEscape.2.1 104 = .ok (.iconst 1, 1) := by decide +kernel
theorem dc_Mo_takeEscape_105 : decode m_Mo_takeEscape.2.1 105 = .ok (.iadd, 1) := by decide +kernel
theorem dc_Mo_takeEscape_106 : decode m_Mo_takeEscape.2.1 106 = .ok (.putfield 210, 3) := by decide +kernel
theorem dc_Mo_takeEscape_109 : decode m_Mo_takeEscape.2.1 109 = .ok (.aload_n 0, 1) := by decide +kernel
theorem dc_Mo_takeEscape_110 : decode m_Mo_takeEscape.2.1 110 = .ok (.iload_n 3, 1) := by decide +kernel
theorem dc_Mo_takeEscape_111 : decode m_Mo_takeEscape.2.1 111 = .ok (.invokevirtual 324, 3) := by decide +kernel
theorem dc_Mo_takeEscape_114 : decode m_Mo_takeEscape.2.1 114 = .ok (.iconst 1, 1) := by decide +kernel
theorem dc_Mo_takeEscape_115 : decode m_Mo_takeEscape.2.1 115 = .ok (.ireturn, 1) := by decide +kernel
theorem dc_Mo_takeEscape_116 : decode m_Mo_takeEscape.2.1 116 = .ok (.iload_n 2, 1) := by decide +kernel
theorem dc_Mo_takeEscape_117 : decode m_Mo_takeEscape.2.1 117 = .ok (.bipush 117, 2) := by decide +kernel
theorem dc_Mo_takeEscape_119 : decode m_Mo_takeEscape.2.1 119 = .ok (.if_icmp .eq 5, 3) := by decide +kernel
theorem dc_Mo_takeEscape_122 : decode m_Mo_takeEscape.2.1 122 = .ok (.iconst 0, 1) := by decide +kernel
theorem dc_Mo_takeEscape_123 : decode m_Mo_takeEscape.2.1 123 = .ok (.ireturn, 1) := by decide +kernel
theorem dc_Mo_takeEscape_124 : decode m_Mo_takeEscape.2.1 124 = .ok (.aload_n 0, 1) := by decide +kernel
theorem dc_Mo_takeEscape_125 : decode m_Mo_takeEscape.2.1 125 = .ok (.dup, 1) := by decide +kernel
theorem dc_Mo_takeEscape_126 : decode m_Mo_takeEscape.2.1 126 = .ok (.getfield 210, 3) := by decide +kernel
theorem dc_Mo_takeEscape_129 : decode m_Mo_takeEscape.2.1 129 = .ok (.iconst 1, 1) := by decide +kernel
theorem dc_Mo_takeEscape_130 : decode m_Mo_takeEscape.2.1 130 = .ok (.iadd, 1) := by decide +kernel
theorem dc_Mo_takeEscape_131 : decode m_Mo_takeEscape.2.1 131 = .ok (.putfield 210, 3) := by decide +kernel
theorem dc_Mo_takeEscape_134 : decode m_Mo_takeEscape.2.1 134 = .ok (.aload_n 0, 1) := by decide +kernel
theorem dc_Mo_takeEscape_135 : decode m_Mo_takeEscape.2.1 135 = .ok (.iload_n 1, 1) := by decide +kernel
theorem dc_Mo_takeEscape_136 : decode m_Mo_takeEscape.2.1 136 = .ok (.invokevirtual 332, 3) := by decide +kernel
theorem dc_Mo_takeEscape_139 : decode m_Mo_takeEscape.2.1 139 = .ok (.ifCond .ne 5, 3) := by decide +kernel
theorem dc_Mo_takeEscape_142 : decode m_Mo_takeEscape.2.1 142 = .ok (.iconst 0, 1) := by decide +kernel
theorem dc_Mo_takeEscape_143 : decode m_Mo_takeEscape.2.1 143 = .ok (.ireturn, 1) := by decide +kernel
theorem dc_Mo_takeEscape_144 : decode m_Mo_takeEscape.2.1 144 = .ok (.aload_n 0, 1) := by decide +kernel
theorem dc_Mo_takeEscape_145 : decode m_Mo_takeEscape.2.1 145 = .ok (.getfield 327, 3) := by decide +kernel
theorem dc_Mo_takeEscape_148 : decode m_Mo_takeEscape.2.1 148 = .ok (.ldc_w 335, 3) := by decide +kernel
theorem dc_Mo_takeEscape_151 : decode m_Mo_takeEscape.2.1 151 = .ok (.if_icmp .lt 25, 3) := by decide +kernel
theorem dc_Mo_takeEscape_154 : decode m_Mo_takeEscape.2.1 154 = .ok (.aload_n 0, 1) := by decide +kernel
theorem dc_Mo_takeEscape_155 : decode m_Mo_takeEscape.2.1 155 = .ok (.getfield 327, 3) := by decide +kernel
theorem dc_Mo_takeEscape_158 : decode m_Mo_takeEscape.2.1 158 = .ok (.ldc_w 336, 3) := by decide +kernel
theorem dc_Mo_takeEscape_161 : decode m_Mo_takeEscape.2.1 161 = .ok (.if_icmp .ge 15, 3) := by decide +kernel
theorem dc_Mo_takeEscape_164 : decode m_Mo_takeEscape.2.1 164 = .ok (.aload_n 0, 1) := by decide +kernel
theorem dc_Mo_takeEscape_165 : decode m_Mo_takeEscape.2.1 165 = .ok (.dup, 1) := by decide +kernel
theorem dc_Mo_takeEscape_166 : decode m_Mo_takeEscape.2.1 166 = .ok (.getfield 210, 3) := by decide +kernel
theorem dc_Mo_takeEscape_169 : decode m_Mo_takeEscape.2.1 169 = .ok (.iconst 1, 1) := by decide +kernel
theorem dc_Mo_takeEscape_170 : decode m_Mo_takeEscape.2.1 170 = .ok (.isub, 1) := by decide +kernel
theorem dc_Mo_takeEscape_171 : decode m_Mo_takeEscape.2.1 171 = .ok (.putfield 210, 3) := by decide +kernel
theorem dc_Mo_takeEscape_174 : decode m_Mo_takeEscape.2.1 174 = .ok (.iconst 0, 1) := by decide +kernel
theorem dc_Mo_takeEscape_175 : decode m_Mo_takeEscape.2.1 175 = .ok (.ireturn, 1) := by decide +kernel
theorem dc_Mo_takeEscape_176 : decode m_Mo_takeEscape.2.1 176 = .ok (.aload_n 0, 1) := by decide +kernel
theorem dc_Mo_takeEscape_177 : decode m_Mo_takeEscape.2.1 177 = .ok (.getfield 327, 3) := by decide +kernel
theorem dc_Mo_takeEscape_180 : decode m_Mo_takeEscape.2.1 180 = .ok (.ldc_w 295, 3) := by decide +kernel
theorem dc_Mo_takeEscape_183 : decode m_Mo_takeEscape.2.1 183 = .ok (.if_icmp .lt 13, 3) := by decide +kernel
theorem dc_Mo_takeEscape_186 : decode m_Mo_takeEscape.2.1 186 = .ok (.aload_n 0, 1) := by decide +kernel
theorem dc_Mo_takeEscape_187 : decode m_Mo_takeEscape.2.1 187 = .ok (.getfield 327, 3) := by decide +kernel
theorem dc_Mo_takeEscape_190 : decode m_Mo_takeEscape.2.1 190 = .ok (.ldc_w 336, 3) := by decide +kernel
theorem dc_Mo_takeEscape_193 : decode m_Mo_takeEscape.2.1 193 = .ok (.if_icmp .lt 13, 3) := by decide +kernel
theorem dc_Mo_takeEscape_196 : decode m_Mo_takeEscape.2.1 196 = .ok (.aload_n 0, 1) := by decide +kernel
theorem dc_Mo_takeEscape_197 : decode m_Mo_takeEscape.2.1 197 = .ok (.aload_n 0, 1) := by decide +kernel
theorem dc_Mo_takeEscape_198 : decode m_Mo_takeEscape.2.1 198 = .ok (.getfield 327, 3) := by decide +kernel
theorem dc_Mo_takeEscape_201 : decode m_Mo_takeEscape.2.1 201 = .ok (.invokevirtual 324, 3) := by decide +kernel
theorem dc_Mo_takeEscape_204 : decode m_Mo_takeEscape.2.1 204 = .ok (.iconst 1, 1) := by decide +kernel
theorem dc_Mo_takeEscape_205 : decode m_Mo_takeEscape.2.1 205 = .ok (.ireturn, 1) := by decide +kernel
theorem dc_Mo_takeEscape_206 : decode m_Mo_takeEscape.2.1 206 = .ok (.aload_n 0, 1) := by decide +kernel
theorem dc_Mo_takeEscape_207 : decode m_Mo_takeEscape.2.1 207 = .ok (.getfield 327, 3) := by decide +kernel
theorem dc_Mo_takeEscape_210 : decode m_Mo_takeEscape.2.1 210 = .ok (.istore 4, 2) := by decide +kernel
theorem dc_Mo_takeEscape_212 : decode m_Mo_takeEscape.2.1 212 = .ok (.aload_n 0, 1) := by decide +kernel
theorem dc_Mo_takeEscape_213 : decode m_Mo_takeEscape.2.1 213 = .ok (.iload_n 1, 1) := by decide +kernel
theorem dc_Mo_takeEscape_214 : decode m_Mo_takeEscape.2.1 214 = .ok (.invokevirtual 213, 3) := by decide +kernel
theorem dc_Mo_takeEscape_217 : decode m_Mo_takeEscape.2.1 217 = .ok (.bipush 92, 2) := by decide +kernel
theorem dc_Mo_takeEscape_219 : decode m_Mo_takeEscape.2.1 219 = .ok (.if_icmp .eq 5, 3) := by decide +kernel
theorem dc_Mo_takeEscape_222 : decode m_Mo_takeEscape.2.1 222 = .ok (.iconst 0, 1) := by decide +kernel
theorem dc_Mo_takeEscape_223 : decode m_Mo_takeEscape.2.1 223 = .ok (.ireturn, 1) := by decide +kernel
theorem dc_Mo_takeEscape_224 : decode m_Mo_takeEscape.2.1 224 = .ok (.aload_n 0, 1) := by decide +kernel
theorem dc_Mo_takeEscape_225 : decode m_Mo_takeEscape.2.1 225 = .ok (.dup, 1) := by decide +kernel
theorem dc_Mo_takeEscape_226 : decode m_Mo_takeEscape.2.1 226 = .ok (.getfield 210, 3) := by decide +kernel
theorem dc_Mo_takeEscape_229 : decode m_Mo_takeEscape.2.1 229 = .ok (.iconst 1, 1) := by decide +kernel
theorem dc_Mo_takeEscape_230 : decode m_Mo_takeEscape.2.1 230 = .ok (.iadd, 1) := by decide +kernel
theorem dc_Mo_takeEscape_231 : decode m_Mo_takeEscape.2.1 231 = .ok (.putfield 210, 3) := by decide +kernel
theorem dc_Mo_takeEscape_234 : decode m_Mo_takeEscape.2.1 234 = .ok (.aload_n 0, 1) := by decide +kernel
theorem dc_Mo_takeEscape_235 : decode m_Mo_takeEscape.2.1 235 = .ok (.iload_n 1, 1) := by decide +kernel
theorem dc_Mo_takeEscape_236 : decode m_Mo_takeEscape.2.1 236 = .ok (.invokevirtual 213, 3) := by decide +kernel
theorem dc_Mo_takeEscape_239 : decode m_Mo_takeEscape.2.1 239 = .ok (.bipush 117, 2) := by decide +kernel
theorem dc_Mo_takeEscape_241 : decode m_Mo_takeEscape.2.1 241 = .ok (.if_icmp .eq 5, 3) := by decide +kernel
theorem dc_Mo_takeEscape_244 : decode m_Mo_takeEscape.2.1 244 = .ok (.iconst 0, 1) := by decide +kernel
theorem dc_Mo_takeEscape_245 : decode m_Mo_takeEscape.2.1 245 = .ok (.ireturn, 1) := by decide +kernel
theorem dc_Mo_takeEscape_246 : decode m_Mo_takeEscape.2.1 246 = .ok (.aload_n 0, 1) := by decide +kernel
theorem dc_Mo_takeEscape_247 : decode m_Mo_takeEscape.2.1 247 = .ok (.dup, 1) := by decide +kernel
theorem dc_Mo_takeEscape_248 : decode m_Mo_takeEscape.2.1 248 = .ok (.getfield 210, 3) := by decide +kernel
theorem dc_Mo_takeEscape_251 : decode m_Mo_takeEscape.2.1 251 = .ok (.iconst 1, 1) := by decide +kernel
theorem dc_Mo_takeEscape_252 : decode m_Mo_takeEscape.2.1 252 = .ok (.iadd, 1) := by decide +kernel
theorem dc_Mo_takeEscape_253 : decode m_Mo_takeEscape.2.1 253 = .ok (.putfield 210, 3) := by decide +kernel
theorem dc_Mo_takeEscape_256 : decode m_Mo_takeEscape.2.1 256 = .ok (.aload_n 0, 1) := by decide +kernel
theorem dc_Mo_takeEscape_257 : decode m_Mo_takeEscape.2.1 257 = .ok (.iload_n 1, 1) := by decide +kernel
theorem dc_Mo_takeEscape_258 : decode m_Mo_takeEscape.2.1 258 = .ok (.invokevirtual 332, 3) := by decide +kernel
theorem dc_Mo_takeEscape_261 : decode m_Mo_takeEscape.2.1 261 = .ok (.ifCond .ne 5, 3) := by decide +kernel
theorem dc_Mo_takeEscape_264 : decode m_Mo_takeEscape.2.1 264 = .ok (.iconst 0, 1) := by decide +kernel
theorem dc_Mo_takeEscape_265 : decode m_Mo_takeEscape.2.1 265 = .ok (.ireturn, 1) := by decide +kernel
theorem dc_Mo_takeEscape_266 : decode m_Mo_takeEscape.2.1 266 = .ok (.aload_n 0, 1) := by decide +kernel
theorem dc_Mo_takeEscape_267 : decode m_Mo_takeEscape.2.1 267 = .ok (.getfield 327, 3) := by decide +kernel
theorem dc_Mo_takeEscape_270 : decode m_Mo_takeEscape.2.1 270 = .ok (.ldc_w 335, 3) := by decide +kernel
theorem dc_Mo_takeEscape_273 : decode m_Mo_takeEscape.2.1 273 = .ok (.if_icmp .lt 13, 3) := by decide +kernel
theorem dc_Mo_takeEscape_276 : decode m_Mo_takeEscape.2.1 276 = .ok (.aload_n 0, 1) := by decide +kernel
theorem dc_Mo_takeEscape_277 : decode m_Mo_takeEscape.2.1 277 = .ok (.getfield 327, 3) := by decide +kernel
theorem dc_Mo_takeEscape_280 : decode m_Mo_takeEscape.2.1 280 = .ok (.ldc_w 336, 3) := by decide +kernel
theorem dc_Mo_takeEscape_283 : decode m_Mo_takeEscape.2.1 283 = .ok (.if_icmp .lt 15, 3) := by decide +kernel
theorem dc_Mo_takeEscape_286 : decode m_Mo_takeEscape.2.1 286 = .ok (.aload_n 0, 1) := by decide +kernel
theorem dc_Mo_takeEscape_287 : decode m_Mo_takeEscape.2.1 287 = .ok (.dup, 1) := by decide +kernel
theorem dc_Mo_takeEscape_288 : decode m_Mo_takeEscape.2.1 288 = .ok (.getfield 210, 3) := by decide +kernel
theorem dc_Mo_takeEscape_291 : decode m_Mo_takeEscape.2.1 291 = .ok (.iconst 1, 1) := by decide +kernel
theorem dc_Mo_takeEscape_292 : decode m_Mo_takeEscape.2.1 292 = .ok (.isub, 1) := by decide +kernel
theorem dc_Mo_takeEscape_293 : decode m_Mo_takeEscape.2.1 293 = .ok (.putfield 210, 3) := by decide +kernel
theorem dc_Mo_takeEscape_296 : decode m_Mo_takeEscape.2.1 296 = .ok (.iconst 0, 1) := by decide +kernel
theorem dc_Mo_takeEscape_297 : decode m_Mo_takeEscape.2.1 297 = .ok (.ireturn, 1) := by decide +kernel
theorem dc_Mo_takeEscape_298 : decode m_Mo_takeEscape.2.1 298 = .ok (.aload_n 0, 1) := by decide +kernel
theorem dc_Mo_takeEscape_299 : decode m_Mo_takeEscape.2.1 299 = .ok (.ldc_w 294, 3) := by decide +kernel
theorem dc_Mo_takeEscape_302 : decode m_Mo_takeEscape.2.1 302 = .ok (.iload 4, 2) := by decide +kernel
theorem dc_Mo_takeEscape_304 : decode m_Mo_takeEscape.2.1 304 = .ok (.ldc_w 295, 3) := by decide +kernel
theorem dc_Mo_takeEscape_307 : decode m_Mo_takeEscape.2.1 307 = .ok (.isub, 1) := by decide +kernel
theorem dc_Mo_takeEscape_308 : decode m_Mo_takeEscape.2.1 308 = .ok (.bipush 10, 2) := by decide +kernel
theorem dc_Mo_takeEscape_310 : decode m_Mo_takeEscape.2.1 310 = .ok (.ishl, 1) := by decide +kernel
theorem dc_Mo_takeEscape_311 : decode m_Mo_takeEscape.2.1 311 = .ok (.iadd, 1) := by decide +kernel
theorem dc_Mo_takeEscape_312 : decode m_Mo_takeEscape.2.1 312 = .ok (.aload_n 0, 1) := by decide +kernel
theorem dc_Mo_takeEscape_313 : decode m_Mo_takeEscape.2.1 313 = .ok (.getfield 327, 3) := by decide +kernel
theorem dc_Mo_takeEscape_316 : decode m_Mo_takeEscape.2.1 316 = .ok (.iadd, 1) := by decide +kernel
theorem dc_Mo_takeEscape_317 : decode m_Mo_takeEscape.2.1 317 = .ok (.ldc_w 335, 3) := by decide +kernel
theorem dc_Mo_takeEscape_320 : decode m_Mo_takeEscape.2.1 320 = .ok (.isub, 1) := by decide +kernel
theorem dc_Mo_takeEscape_321 : decode m_Mo_takeEscape.2.1 321 = .ok (.invokevirtual 324, 3) := by decide +kernel
theorem dc_Mo_takeEscape_324 : decode m_Mo_takeEscape.2.1 324 = .ok (.iconst 1, 1) := by decide +kernel
theorem dc_Mo_takeEscape_325 : decode m_Mo_takeEscape.2.1 325 = .ok (.ireturn, 1) := by decide +kernel
theorem b_Mo_takeEscape_0 {E : En_t} {d : Nat} {σ : S_t} {Q : Option Value → S_t → Prop} {x1 : Int32}
    (h : CI E d m_Mo_here [pv E 0, .int x1] (sI σ 0 9 ((gI σ 0 9) + (1 : Int32))) (fun r2 σ1 => (r2 = (34 : Int32) → JE E (d + 1) m_Mo_takeEscape 34 [(0, pv E 0), (1, .int x1), (2, .int r2)] [] σ1 Q) ∧ (¬ r2 = (34 : Int32) → (r2 = (92 : Int32) → JE E (d + 1) m_Mo_takeEscape 34 [(0, pv E 0), (1, .int x1), (2, .int r2)] [] σ1 Q) ∧ (¬ r2 = (92 : Int32) → (¬ r2 = (47 : Int32) → (¬ r2 = (98 : Int32) → (¬ r2 = (102 : Int32) → (¬ r2 = (110 : Int32) → (¬ r2 = (114 : Int32) → (¬ r2 = (116 : Int32) → JE E (d + 1) m_Mo_takeEscape 94 [(0, pv E 0), (1, .int x1), (2, .int r2)] [.int (-1 : Int32)] σ1 Q) ∧ (r2 = (116 : Int32) → JE E (d + 1) m_Mo_takeEscape 94 [(0, pv E 0), (1, .int x1), (2, .int r2)] [.int (9 : Int32)] σ1 Q)) ∧ (r2 = (114 : Int32) → JE E (d + 1) m_Mo_takeEscape 94 [(0, pv E 0), (1, .int x1), (2, .int r2)] [.int (13 : Int32)] σ1 Q)) ∧ (r2 = (110 : Int32) → JE E (d + 1) m_Mo_takeEscape 94 [(0, pv E 0), (1, .int x1), (2, .int r2)] [.int (10 : Int32)] σ1 Q)) ∧ (r2 = (102 : Int32) → JE E (d + 1) m_Mo_takeEscape 94 [(0, pv E 0), (1, .int x1), (2, .int r2)] [.int (12 : Int32)] σ1 Q)) ∧ (r2 = (98 : Int32) → JE E (d + 1) m_Mo_takeEscape 94 [(0, pv E 0), (1, .int x1), (2, .int r2)] [.int (8 : Int32)] σ1 Q)) ∧ (r2 = (47 : Int32) → JE E (d + 1) m_Mo_takeEscape 34 [(0, pv E 0), (1, .int x1), (2, .int r2)] [] σ1 Q))))) :
    JE E (d + 1) m_Mo_takeEscape 0 [(0, pv E 0), (1, .int x1)] [] σ Q := by
  refine J_aload_n dc_Mo_takeEscape_0 (Eq.refl 1) 0 rfl ?_
  refine J_dup dc_Mo_takeEscape_1 (Eq.refl 2) rfl ?_
  refine J_getI dc_Mo_takeEscape_2 (Eq.refl 5) fl_Mo_210 (Nat.le_of_ble_eq_true rfl) rfl (Or.inl rfl) ?_
  refine J_iconst (v := (1 : Int32)) dc_Mo_takeEscape_5 (Eq.refl 6) rfl ?_
  refine J_iadd dc_Mo_takeEscape_6 (Eq.refl 7) ?_
  refine J_putI dc_Mo_takeEscape_7 (Eq.refl 10) pl_Mo_210 (Nat.le_of_ble_eq_true rfl) rfl rfl ?_
  refine J_aload_n dc_Mo_takeEscape_10 (Eq.refl 11) 0 rfl ?_
  refine J_iload_n dc_Mo_takeEscape_11 (Eq.refl 12) 1 rfl ?_
  refine J_callVI (As := [.int x1]) (st := []) dc_Mo_takeEscape_12 (Eq.refl 15) lk_Mo_213 mi_Mo_here rfl (Nat.le_of_ble_eq_true rfl) rfl rfl (Nat.le_of_ble_eq_true rfl) rfl (Nat.le_of_ble_eq_true rfl) (CI.mono h (fun r2 σ1 h => ?_))
  refine J_istore_n (L' := [(2, .int r2), (0, pv E 0), (1, .int x1)]) dc_Mo_takeEscape_15 (Eq.refl 16) (Nat.le_of_ble_eq_true rfl) rfl ?_
  refine J_iload_n dc_Mo_takeEscape_16 (Eq.refl 17) 0 rfl ?_
  refine J_bipush (v := (34 : Int32)) dc_Mo_takeEscape_17 (Eq.refl 19) rfl ?_
  refine J_icmp_eq dc_Mo_takeEscape_19 (Eq.refl 22) rfl (fun hc => ?_) (fun hc => ?_)
  · have h := h.1 hc
    refine J_sub [1, 2, 0] rfl ?_
    exact h
  · have h := h.2 hc
    refine J_iload_n dc_Mo_takeEscape_22 (Eq.refl 23) 0 rfl ?_
    refine J_bipush (v := (92 : Int32)) dc_Mo_takeEscape_23 (Eq.refl 25) rfl ?_
    refine J_icmp_eq dc_Mo_takeEscape_25 (Eq.refl 28) rfl (fun hc => ?_) (fun hc => ?_)
    · have h := h.1 hc
      refine J_sub [1, 2, 0] rfl ?_
      exact h
    · have h := h.2 hc
      refine J_iload_n dc_Mo_takeEscape_28 (Eq.refl 29) 0 rfl ?_
      refine J_bipush (v := (47 : Int32)) dc_Mo_takeEscape_29 (Eq.refl 31) rfl ?_
      refine J_icmp_ne dc_Mo_takeEscape_31 (Eq.refl 34) rfl (fun hc => ?_) (fun hc => ?_)
      · have h := h.1 hc
        refine J_iload_n dc_Mo_takeEscape_38 (Eq.refl 39) 0 rfl ?_
        refine J_bipush (v := (98 : Int32)) dc_Mo_takeEscape_39 (Eq.refl 41) rfl ?_
        refine J_icmp_ne dc_Mo_takeEscape_41 (Eq.refl 44) rfl (fun hc => ?_) (fun hc => ?_)
        · have h := h.1 hc
          refine J_iload_n dc_Mo_takeEscape_49 (Eq.refl 50) 0 rfl ?_
          refine J_bipush (v := (102 : Int32)) dc_Mo_takeEscape_50 (Eq.refl 52) rfl ?_
          refine J_icmp_ne dc_Mo_takeEscape_52 (Eq.refl 55) rfl (fun hc => ?_) (fun hc => ?_)
          · have h := h.1 hc
            refine J_iload_n dc_Mo_takeEscape_60 (Eq.refl 61) 0 rfl ?_
            refine J_bipush (v := (110 : Int32)) dc_Mo_takeEscape_61 (Eq.refl 63) rfl ?_
            refine J_icmp_ne dc_Mo_takeEscape_63 (Eq.refl 66) rfl (fun hc => ?_) (fun hc => ?_)
            · have h := h.1 hc
              refine J_iload_n dc_Mo_takeEscape_71 (Eq.refl 72) 0 rfl ?_
              refine J_bipush (v := (114 : Int32)) dc_Mo_takeEscape_72 (Eq.refl 74) rfl ?_
              refine J_icmp_ne dc_Mo_takeEscape_74 (Eq.refl 77) rfl (fun hc => ?_) (fun hc => ?_)
              · have h := h.1 hc
                refine J_iload_n dc_Mo_takeEscape_82 (Eq.refl 83) 0 rfl ?_
                refine J_bipush (v := (116 : Int32)) dc_Mo_takeEscape_83 (Eq.refl 85) rfl ?_
                refine J_icmp_ne dc_Mo_takeEscape_85 (Eq.refl 88) rfl (fun hc => ?_) (fun hc => ?_)
                · have h := h.1 hc
                  refine J_iconst (v := (-1 : Int32)) dc_Mo_takeEscape_93 (Eq.refl 94) rfl ?_
                  refine J_sub [1, 2, 0] rfl ?_
                  exact h
                · have h := h.2 hc
                  refine J_bipush (v := (9 : Int32)) dc_Mo_takeEscape_88 (Eq.refl 90) rfl ?_
                  refine J_goto dc_Mo_takeEscape_90 rfl ?_
                  refine J_sub [1, 2, 0] rfl ?_
                  exact h
              · have h := h.2 hc
                refine J_bipush (v := (13 : Int32)) dc_Mo_takeEscape_77 (Eq.refl 79) rfl ?_
                refine J_goto dc_Mo_takeEscape_79 rfl ?_
                refine J_sub [1, 2, 0] rfl ?_
                exact h
            · have h := h.2 hc
              refine J_bipush (v := (10 : Int32)) dc_Mo_takeEscape_66 (Eq.refl 68) rfl ?_
              refine J_goto dc_Mo_takeEscape_68 rfl ?_
              refine J_sub [1, 2, 0] rfl ?_
              exact h
          · have h := h.2 hc
            refine J_bipush (v := (12 : Int32)) dc_Mo_takeEscape_55 (Eq.refl 57) rfl ?_
            refine J_goto dc_Mo_takeEscape_57 rfl ?_
            refine J_sub [1, 2, 0] rfl ?_
            exact h
        · have h := h.2 hc
          refine J_bipush (v := (8 : Int32)) dc_Mo_takeEscape_44 (Eq.refl 46) rfl ?_
          refine J_goto dc_Mo_takeEscape_46 rfl ?_
          refine J_sub [1, 2, 0] rfl ?_
          exact h
      · have h := h.2 hc
        refine J_sub [1, 2, 0] rfl ?_
        exact h
theorem b_Mo_takeEscape_34 {E : En_t} {d : Nat} {σ : S_t} {Q : Option Value → S_t → Prop} {x1 : Int32} {x2 : Int32}
    (h : JE E (d + 1) m_Mo_takeEscape 94 [(0, pv E 0), (1, .int x1), (2, .int x2)] [.int x2] σ Q) :
    JE E (d + 1) m_Mo_takeEscape 34 [(0, pv E 0), (1, .int x1), (2, .int x2)] [] σ Q := by
  refine J_iload_n dc_Mo_takeEscape_34 (Eq.refl 35) 2 rfl ?_
  refine J_goto dc_Mo_takeEscape_35 rfl ?_
  exact h
theorem b_Mo_takeEscape_94 {E : En_t} {d : Nat} {σ : S_t} {Q : Option Value → S_t → Prop} {x1 : Int32} {x2 : Int32} {s0 : Int32}
    (h : (s0 < 0 → (x2 = (117 : Int32) → CI E d m_Mo_takeFour [pv E 0, .int x1] (sI σ 0 9 ((gI σ 0 9) + (1 : Int32))) (fun r2 σ1 => (¬ r2 = 0 → ((gI σ1 0 56) < (56320 : Int32) → JE E (d + 1) m_Mo_takeEscape 176 [(0, pv E 0), (1, .int x1)] [] σ1 Q) ∧ (¬ (gI σ1 0 56) < (56320 : Int32) → ((57344 : Int32) ≤ (gI σ1 0 56) → JE E (d + 1) m_Mo_takeEscape 176 [(0, pv E 0), (1, .int x1)] [] σ1 Q) ∧ (¬ (57344 : Int32) ≤ (gI σ1 0 56) → Q (some (.int (0 : Int32))) (sI σ1 0 9 ((gI σ1 0 9) - (1 : Int32)))))) ∧ (r2 = 0 → Q (some (.int (0 : Int32))) σ1))) ∧ (¬ x2 = (117 : Int32) → Q (some (.int (0 : Int32))) σ)) ∧ (¬ s0 < 0 → CV E d m_Mo_keep [pv E 0, .int s0] (sI σ 0 9 ((gI σ 0 9) + (1 : Int32))) (fun σ3 => Q (some (.int (1 : Int32))) σ3))) :
    JE E (d + 1) m_Mo_takeEscape 94 [(0, pv E 0), (1, .int x1), (2, .int x2)] [.int s0] σ Q := by
  refine J_istore_n (L' := [(3, .int s0), (0, pv E 0), (1, .int x1), (2, .int x2)]) dc_Mo_takeEscape_94 (Eq.refl 95) (Nat.le_of_ble_eq_true rfl) rfl ?_
  refine J_iload_n dc_Mo_takeEscape_95 (Eq.refl 96) 0 rfl ?_
  refine J_if_lt dc_Mo_takeEscape_96 (Eq.refl 99) rfl (fun hc => ?_) (fun hc => ?_)
  · have h := h.1 hc
    refine J_iload_n dc_Mo_takeEscape_116 (Eq.refl 117) 3 rfl ?_
    refine J_bipush (v := (117 : Int32)) dc_Mo_takeEscape_117 (Eq.refl 119) rfl ?_
    refine J_icmp_eq dc_Mo_takeEscape_119 (Eq.refl 122) rfl (fun hc => ?_) (fun hc => ?_)
    · have h := h.1 hc
      refine J_aload_n dc_Mo_takeEscape_124 (Eq.refl 125) 1 rfl ?_
      refine J_dup dc_Mo_takeEscape_125 (Eq.refl 126) rfl ?_
      refine J_getI dc_Mo_takeEscape_126 (Eq.refl 129) fl_Mo_210 (Nat.le_of_ble_eq_true rfl) rfl (Or.inl rfl) ?_
      refine J_iconst (v := (1 : Int32)) dc_Mo_takeEscape_129 (Eq.refl 130) rfl ?_
      refine J_iadd dc_Mo_takeEscape_130 (Eq.refl 131) ?_
      refine J_putI dc_Mo_takeEscape_131 (Eq.refl 134) pl_Mo_210 (Nat.le_of_ble_eq_true rfl) rfl rfl ?_
      refine J_aload_n dc_Mo_takeEscape_134 (Eq.refl 135) 1 rfl ?_
      refine J_iload_n dc_Mo_takeEscape_135 (Eq.refl 136) 2 rfl ?_
      refine J_callVI (As := [.int x1]) (st := []) dc_Mo_takeEscape_136 (Eq.refl 139) lk_Mo_332 mi_Mo_takeFour rfl (Nat.le_of_ble_eq_true rfl) rfl rfl (Nat.le_of_ble_eq_true rfl) rfl (Nat.le_of_ble_eq_true rfl) (CI.mono h (fun r2 σ1 h => ?_))
      refine J_if_ne dc_Mo_takeEscape_139 (Eq.refl 142) rfl (fun hc => ?_) (fun hc => ?_)
      · have h := h.1 hc
        refine J_aload_n dc_Mo_takeEscape_144 (Eq.refl 145) 1 rfl ?_
        refine J_getI dc_Mo_takeEscape_145 (Eq.refl 148) fl_Mo_327 (Nat.le_of_ble_eq_true rfl) rfl (Or.inl rfl) ?_
        refine J_ldcw dc_Mo_takeEscape_148 (Eq.refl 151) kc_Mo_335 ?_
        refine J_icmp_lt dc_Mo_takeEscape_151 (Eq.refl 154) rfl (fun hc => ?_) (fun hc => ?_)
        · have h := h.1 hc
          refine J_sub [1, 2] rfl ?_
          exact h
        · have h := h.2 hc
          refine J_aload_n dc_Mo_takeEscape_154 (Eq.refl 155) 1 rfl ?_
          refine J_getI dc_Mo_takeEscape_155 (Eq.refl 158) fl_Mo_327 (Nat.le_of_ble_eq_true rfl) rfl (Or.inl rfl) ?_
          refine J_ldcw dc_Mo_takeEscape_158 (Eq.refl 161) kc_Mo_336 ?_
          refine J_icmp_ge dc_Mo_takeEscape_161 (Eq.refl 164) rfl (fun hc => ?_) (fun hc => ?_)
          · have h := h.1 hc
            refine J_sub [1, 2] rfl ?_
            exact h
          · have h := h.2 hc
            refine J_aload_n dc_Mo_takeEscape_164 (Eq.refl 165) 1 rfl ?_
            refine J_dup dc_Mo_takeEscape_165 (Eq.refl 166) rfl ?_
            refine J_getI dc_Mo_takeEscape_166 (Eq.refl 169) fl_Mo_210 (Nat.le_of_ble_eq_true rfl) rfl (Or.inl rfl) ?_
            refine J_iconst (v := (1 : Int32)) dc_Mo_takeEscape_169 (Eq.refl 170) rfl ?_
            refine J_isub dc_Mo_takeEscape_170 (Eq.refl 171) ?_
            refine J_putI dc_Mo_takeEscape_171 (Eq.refl 174) pl_Mo_210 (Nat.le_of_ble_eq_true rfl) rfl rfl ?_
            refine J_iconst (v := (0 : Int32)) dc_Mo_takeEscape_174 (Eq.refl 175) rfl ?_
            exact J_zret dc_Mo_takeEscape_175 rfl rfl h
      · have h := h.2 hc
        refine J_iconst (v := (0 : Int32)) dc_Mo_takeEscape_142 (Eq.refl 143) rfl ?_
        exact J_zret dc_Mo_takeEscape_143 rfl rfl h
    · have h := h.2 hc
      refine J_iconst (v := (0 : Int32)) dc_Mo_takeEscape_122 (Eq.refl 123) rfl ?_
      exact J_zret dc_Mo_takeEscape_123 rfl rfl h
  · have h := h.2 hc
    refine J_aload_n dc_Mo_takeEscape_99 (Eq.refl 100) 1 rfl ?_
    refine J_dup dc_Mo_takeEscape_100 (Eq.refl 101) rfl ?_
    refine J_getI dc_Mo_takeEscape_101 (Eq.refl 104) fl_Mo_210 (Nat.le_of_ble_eq_true rfl) rfl (Or.inl rfl) ?_
    refine J_iconst (v := (1 : Int32)) dc_Mo_takeEscape_104 (Eq.refl 105) rfl ?_
    refine J_iadd dc_Mo_takeEscape_105 (Eq.refl 106) ?_
    refine J_putI dc_Mo_takeEscape_106 (Eq.refl 109) pl_Mo_210 (Nat.le_of_ble_eq_true rfl) rfl rfl ?_
    refine J_aload_n dc_Mo_takeEscape_109 (Eq.refl 110) 1 rfl ?_
    refine J_iload_n dc_Mo_takeEscape_110 (Eq.refl 111) 0 rfl ?_
    refine J_callVV (As := [.int s0]) (st := []) dc_Mo_takeEscape_111 (Eq.refl 114) lk_Mo_324 mi_Mo_keep rfl (Nat.le_of_ble_eq_true rfl) rfl rfl (Nat.le_of_ble_eq_true rfl) rfl (Nat.le_of_ble_eq_true rfl) (CV.mono h (fun σ3 h => ?_))
    refine J_iconst (v := (1 : Int32)) dc_Mo_takeEscape_114 (Eq.refl 115) rfl ?_
    exact J_zret dc_Mo_takeEscape_115 rfl rfl h
theorem b_Mo_takeEscape_176 {E : En_t} {d : Nat} {σ : S_t} {Q : Option Value → S_t → Prop} {x1 : Int32}
    (h : ((gI σ 0 56) < (55296 : Int32) → JE E (d + 1) m_Mo_takeEscape 196 [(0, pv E 0)] [] σ Q) ∧ (¬ (gI σ 0 56) < (55296 : Int32) → ((gI σ 0 56) < (57344 : Int32) → CI E d m_Mo_here [pv E 0, .int x1] σ (fun r2 σ1 => (r2 = (92 : Int32) → CI E d m_Mo_here [pv E 0, .int x1] (sI σ1 0 9 ((gI σ1 0 9) + (1 : Int32))) (fun r4 σ3 => (r4 = (117 : Int32) → CI E d m_Mo_takeFour [pv E 0, .int x1] (sI σ3 0 9 ((gI σ3 0 9) + (1 : Int32))) (fun r6 σ5 => (¬ r6 = 0 → ((gI σ5 0 56) < (56320 : Int32) → JE E (d + 1) m_Mo_takeEscape 286 [(0, pv E 0)] [] σ5 Q) ∧ (¬ (gI σ5 0 56) < (56320 : Int32) → ((gI σ5 0 56) < (57344 : Int32) → ∀ v7, v7 = (((65536 : Int32) + (((gI σ 0 56) - (55296 : Int32)) <<< ((10 : Int32) &&& 31))) + (gI σ5 0 56)) - (56320 : Int32) → (CV E d m_Mo_keep [pv E 0, .int v7] σ5 (fun σ8 => Q (some (.int (1 : Int32))) σ8))) ∧ (¬ (gI σ5 0 56) < (57344 : Int32) → JE E (d + 1) m_Mo_takeEscape 286 [(0, pv E 0)] [] σ5 Q))) ∧ (r6 = 0 → Q (some (.int (0 : Int32))) σ5))) ∧ (¬ r4 = (117 : Int32) → Q (some (.int (0 : Int32))) σ3))) ∧ (¬ r2 = (92 : Int32) → Q (some (.int (0 : Int32))) σ1))) ∧ (¬ (gI σ 0 56) < (57344 : Int32) → JE E (d + 1) m_Mo_takeEscape 196 [(0, pv E 0)] [] σ Q))) :
    JE E (d + 1) m_Mo_takeEscape 176 [(0, pv E 0), (1, .int x1)] [] σ Q := by
  refine J_aload_n dc_Mo_takeEscape_176 (Eq.refl 177) 0 rfl ?_
  refine J_getI dc_Mo_takeEscape_177 (Eq.refl 180) fl_Mo_327 (Nat.le_of_ble_eq_true rfl) rfl (Or.inl rfl) ?_
  refine J_ldcw dc_Mo_takeEscape_180 (Eq.refl 183) kc_Mo_295 ?_
  refine J_icmp_lt dc_Mo_takeEscape_183 (Eq.refl 186) rfl (fun hc => ?_) (fun hc => ?_)
  · have h := h.1 hc
    refine J_sub [0] rfl ?_
    exact h
  · have h := h.2 hc
    refine J_aload_n dc_Mo_takeEscape_186 (Eq.refl 187) 0 rfl ?_
    refine J_getI dc_Mo_takeEscape_187 (Eq.refl 190) fl_Mo_327 (Nat.le_of_ble_eq_true rfl) rfl (Or.inl rfl) ?_
    refine J_ldcw dc_Mo_takeEscape_190 (Eq.refl 193) kc_Mo_336 ?_
    refine J_icmp_lt dc_Mo_takeEscape_193 (Eq.refl 196) rfl (fun hc => ?_) (fun hc => ?_)
    · have h := h.1 hc
      refine J_aload_n dc_Mo_takeEscape_206 (Eq.refl 207) 0 rfl ?_
      refine J_getI dc_Mo_takeEscape_207 (Eq.refl 210) fl_Mo_327 (Nat.le_of_ble_eq_true rfl) rfl (Or.inl rfl) ?_
      refine J_istore (L' := [(4, .int (gI σ 0 56)), (0, pv E 0), (1, .int x1)]) dc_Mo_takeEscape_210 (Eq.refl 212) (Nat.le_of_ble_eq_true rfl) rfl ?_
      refine J_aload_n dc_Mo_takeEscape_212 (Eq.refl 213) 1 rfl ?_
      refine J_iload_n dc_Mo_takeEscape_213 (Eq.refl 214) 2 rfl ?_
      refine J_callVI (As := [.int x1]) (st := []) dc_Mo_takeEscape_214 (Eq.refl 217) lk_Mo_213 mi_Mo_here rfl (Nat.le_of_ble_eq_true rfl) rfl rfl (Nat.le_of_ble_eq_true rfl) rfl (Nat.le_of_ble_eq_true rfl) (CI.mono h (fun r2 σ1 h => ?_))
      refine J_bipush (v := (92 : Int32)) dc_Mo_takeEscape_217 (Eq.refl 219) rfl ?_
      refine J_icmp_eq dc_Mo_takeEscape_219 (Eq.refl 222) rfl (fun hc => ?_) (fun hc => ?_)
      · have h := h.1 hc
        refine J_aload_n dc_Mo_takeEscape_224 (Eq.refl 225) 1 rfl ?_
        refine J_dup dc_Mo_takeEscape_225 (Eq.refl 226) rfl ?_
        refine J_getI dc_Mo_takeEscape_226 (Eq.refl 229) fl_Mo_210 (Nat.le_of_ble_eq_true rfl) rfl (Or.inl rfl) ?_
        refine J_iconst (v := (1 : Int32)) dc_Mo_takeEscape_229 (Eq.refl 230) rfl ?_
        refine J_iadd dc_Mo_takeEscape_230 (Eq.refl 231) ?_
        refine J_putI dc_Mo_takeEscape_231 (Eq.refl 234) pl_Mo_210 (Nat.le_of_ble_eq_true rfl) rfl rfl ?_
        refine J_aload_n dc_Mo_takeEscape_234 (Eq.refl 235) 1 rfl ?_
        refine J_iload_n dc_Mo_takeEscape_235 (Eq.refl 236) 2 rfl ?_
        refine J_callVI (As := [.int x1]) (st := []) dc_Mo_takeEscape_236 (Eq.refl 239) lk_Mo_213 mi_Mo_here rfl (Nat.le_of_ble_eq_true rfl) rfl rfl (Nat.le_of_ble_eq_true rfl) rfl (Nat.le_of_ble_eq_true rfl) (CI.mono h (fun r4 σ3 h => ?_))
        refine J_bipush (v := (117 : Int32)) dc_Mo_takeEscape_239 (Eq.refl 241) rfl ?_
        refine J_icmp_eq dc_Mo_takeEscape_241 (Eq.refl 244) rfl (fun hc => ?_) (fun hc => ?_)
        · have h := h.1 hc
          refine J_aload_n dc_Mo_takeEscape_246 (Eq.refl 247) 1 rfl ?_
          refine J_dup dc_Mo_takeEscape_247 (Eq.refl 248) rfl ?_
          refine J_getI dc_Mo_takeEscape_248 (Eq.refl 251) fl_Mo_210 (Nat.le_of_ble_eq_true rfl) rfl (Or.inl rfl) ?_
          refine J_iconst (v := (1 : Int32)) dc_Mo_takeEscape_251 (Eq.refl 252) rfl ?_
          refine J_iadd dc_Mo_takeEscape_252 (Eq.refl 253) ?_
          refine J_putI dc_Mo_takeEscape_253 (Eq.refl 256) pl_Mo_210 (Nat.le_of_ble_eq_true rfl) rfl rfl ?_
          refine J_aload_n dc_Mo_takeEscape_256 (Eq.refl 257) 1 rfl ?_
          refine J_iload_n dc_Mo_takeEscape_257 (Eq.refl 258) 2 rfl ?_
          refine J_callVI (As := [.int x1]) (st := []) dc_Mo_takeEscape_258 (Eq.refl 261) lk_Mo_332 mi_Mo_takeFour rfl (Nat.le_of_ble_eq_true rfl) rfl rfl (Nat.le_of_ble_eq_true rfl) rfl (Nat.le_of_ble_eq_true rfl) (CI.mono h (fun r6 σ5 h => ?_))
          refine J_if_ne dc_Mo_takeEscape_261 (Eq.refl 264) rfl (fun hc => ?_) (fun hc => ?_)
          · have h := h.1 hc
            refine J_aload_n dc_Mo_takeEscape_266 (Eq.refl 267) 1 rfl ?_
            refine J_getI dc_Mo_takeEscape_267 (Eq.refl 270) fl_Mo_327 (Nat.le_of_ble_eq_true rfl) rfl (Or.inl rfl) ?_
            refine J_ldcw dc_Mo_takeEscape_270 (Eq.refl 273) kc_Mo_335 ?_
            refine J_icmp_lt dc_Mo_takeEscape_273 (Eq.refl 276) rfl (fun hc => ?_) (fun hc => ?_)
            · have h := h.1 hc
              refine J_sub [1] rfl ?_
              exact h
            · have h := h.2 hc
              refine J_aload_n dc_Mo_takeEscape_276 (Eq.refl 277) 1 rfl ?_
              refine J_getI dc_Mo_takeEscape_277 (Eq.refl 280) fl_Mo_327 (Nat.le_of_ble_eq_true rfl) rfl (Or.inl rfl) ?_
              refine J_ldcw dc_Mo_takeEscape_280 (Eq.refl 283) kc_Mo_336 ?_
              refine J_icmp_lt dc_Mo_takeEscape_283 (Eq.refl 286) rfl (fun hc => ?_) (fun hc => ?_)
              · have h := h.1 hc
                refine J_aload_n dc_Mo_takeEscape_298 (Eq.refl 299) 1 rfl ?_
                refine J_ldcw dc_Mo_takeEscape_299 (Eq.refl 302) kc_Mo_294 ?_
                refine J_iload dc_Mo_takeEscape_302 (Eq.refl 304) 0 rfl ?_
                refine J_ldcw dc_Mo_takeEscape_304 (Eq.refl 307) kc_Mo_295 ?_
                refine J_isub dc_Mo_takeEscape_307 (Eq.refl 308) ?_
                refine J_bipush (v := (10 : Int32)) dc_Mo_takeEscape_308 (Eq.refl 310) rfl ?_
                refine J_ishl dc_Mo_takeEscape_310 (Eq.refl 311) ?_
                refine J_iadd dc_Mo_takeEscape_311 (Eq.refl 312) ?_
                refine J_aload_n dc_Mo_takeEscape_312 (Eq.refl 313) 1 rfl ?_
                refine J_getI dc_Mo_takeEscape_313 (Eq.refl 316) fl_Mo_327 (Nat.le_of_ble_eq_true rfl) rfl (Or.inl rfl) ?_
                refine J_iadd dc_Mo_takeEscape_316 (Eq.refl 317) ?_
                refine J_ldcw dc_Mo_takeEscape_317 (Eq.refl 320) kc_Mo_335 ?_
                refine J_isub dc_Mo_takeEscape_320 (Eq.refl 321) ?_
                refine J_topi (fun v7 ev7 => ?_)
                have h := h v7 ev7
                refine J_callVV (As := [.int v7]) (st := []) dc_Mo_takeEscape_321 (Eq.refl 324) lk_Mo_324 mi_Mo_keep rfl (Nat.le_of_ble_eq_true rfl) rfl rfl (Nat.le_of_ble_eq_true rfl) rfl (Nat.le_of_ble_eq_true rfl) (CV.mono h (fun σ8 h => ?_))
                refine J_iconst (v := (1 : Int32)) dc_Mo_takeEscape_324 (Eq.refl 325) rfl ?_
                exact J_zret dc_Mo_takeEscape_325 rfl rfl h
              · have h := h.2 hc
                refine J_sub [1] rfl ?_
                exact h
          · have h := h.2 hc
            refine J_iconst (v := (0 : Int32)) dc_Mo_takeEscape_264 (Eq.refl 265) rfl ?_
            exact J_zret dc_Mo_takeEscape_265 rfl rfl h
        · have h := h.2 hc
          refine J_iconst (v := (0 : Int32)) dc_Mo_takeEscape_244 (Eq.refl 245) rfl ?_
          exact J_zret dc_Mo_takeEscape_245 rfl rfl h
      · have h := h.2 hc
        refine J_iconst (v := (0 : Int32)) dc_Mo_takeEscape_222 (Eq.refl 223) rfl ?_
        exact J_zret dc_Mo_takeEscape_223 rfl rfl h
    · have h := h.2 hc
      refine J_sub [0] rfl ?_
      exact h
theorem b_Mo_takeEscape_196 {E : En_t} {d : Nat} {σ : S_t} {Q : Option Value → S_t → Prop}
    (h : CV E d m_Mo_keep [pv E 0, .int (gI σ 0 56)] σ (fun σ1 => Q (some (.int (1 : Int32))) σ1)) :
    JE E (d + 1) m_Mo_takeEscape 196 [(0, pv E 0)] [] σ Q := by
  refine J_aload_n dc_Mo_takeEscape_196 (Eq.refl 197) 0 rfl ?_
  refine J_aload_n dc_Mo_takeEscape_197 (Eq.refl 198) 0 rfl ?_
  refine J_getI dc_Mo_takeEscape_198 (Eq.refl 201) fl_Mo_327 (Nat.le_of_ble_eq_true rfl) rfl (Or.inl rfl) ?_
  refine J_callVV (As := [.int (gI σ 0 56)]) (st := []) dc_Mo_takeEscape_201 (Eq.refl 204) lk_Mo_324 mi_Mo_keep rfl (Nat.le_of_ble_eq_true rfl) rfl rfl (Nat.le_of_ble_eq_true rfl) rfl (Nat.le_of_ble_eq_true rfl) (CV.mono h (fun σ1 h => ?_))
  refine J_iconst (v := (1 : Int32)) dc_Mo_takeEscape_204 (Eq.refl 205) rfl ?_
  exact J_zret dc_Mo_takeEscape_205 rfl rfl h
theorem b_Mo_takeEscape_286 {E : En_t} {d : Nat} {σ : S_t} {Q : Option Value → S_t → Prop}
    (h : Q (some (.int (0 : Int32))) (sI σ 0 9 ((gI σ 0 9) - (1 : Int32)))) :
    JE E (d + 1) m_Mo_takeEscape 286 [(0, pv E 0)] [] σ Q := by
  refine J_aload_n dc_Mo_takeEscape_286 (Eq.refl 287) 0 rfl ?_
  refine J_dup dc_Mo_takeEscape_287 (Eq.refl 288) rfl ?_
  refine J_getI dc_Mo_takeEscape_288 (Eq.refl 291) fl_Mo_210 (Nat.le_of_ble_eq_true rfl) rfl (Or.inl rfl) ?_
  refine J_iconst (v := (1 : Int32)) dc_Mo_takeEscape_291 (Eq.refl 292) rfl ?_
  refine J_isub dc_Mo_takeEscape_292 (Eq.refl 293) ?_
  refine J_putI dc_Mo_takeEscape_293 (Eq.refl 296) pl_Mo_210 (Nat.le_of_ble_eq_true rfl) rfl rfl ?_
  refine J_iconst (v := (0 : Int32)) dc_Mo_takeEscape_296 (Eq.refl 297) rfl ?_
  exact J_zret dc_Mo_takeEscape_297 rfl rfl h
theorem dc_Mo_keep_0 : decode m_Mo_keep.2.1 0 = .ok (.aload_n 0, 1) := by decide +kernel
theorem dc_Mo_keep_1 : decode m_Mo_keep.2.1 1 = .ok (.getfield 132, 3) := by decide +kernel
theorem dc_Mo_keep_4 : decode m_Mo_keep.2.1 4 = .ok (.aload_n 0, 1) := by decide +kernel
theorem dc_Mo_keep_5 : decode m_Mo_keep.2.1 5 = .ok (.getfield 321, 3) := by decide +kernel
theorem dc_Mo_keep_8 : decode m_Mo_keep.2.1 8 = .ok (.iload_n 1, 1) := by decide +kernel
theorem dc_Mo_keep_9 : decode m_Mo_keep.2.1 9 = .ok (.iastore, 1) := by decide +kernel
theorem dc_Mo_keep_10 : decode m_Mo_keep.2.1 10 = .ok (.aload_n 0, 1) := by decide +kernel
theorem dc_Mo_keep_11 : decode m_Mo_keep.2.1 11 = .ok (.dup, 1) := by decide +kernel
theorem dc_Mo_keep_12 : decode m_Mo_keep.2.1 12 = .ok (.getfield 321, 3) := by decide +kernel
theorem dc_Mo_keep_15 : decode m_Mo_keep.2.1 15 = .ok (.iconst 1, 1) := by decide +kernel
theorem dc_Mo_keep_16 : decode m_Mo_keep.2.1 16 = .ok (.iadd, 1) := by decide +kernel
theorem dc_Mo_keep_17 : decode m_Mo_keep.2.1 17 = .ok (.putfield 321, 3) := by decide +kernel
theorem dc_Mo_keep_20 : decode m_Mo_keep.2.1 20 = .ok (.return_, 1) := by decide +kernel
theorem b_Mo_keep_0 {E : En_t} {d : Nat} {σ : S_t} {Q : Option Value → S_t → Prop} {x1 : Int32}
    (h : vp_in (gI σ 0 44) 2100 ∧ (Q none (sI (sI σ 39 (gI σ 0 44).toNatClampNeg x1) 0 44 ((gI (sI σ 39 (gI σ 0 44).toNatClampNeg x1) 0 44) + (1 : Int32))))) :
    JE E d m_Mo_keep 0 [(0, pv E 0), (1, .int x1)] [] σ Q := by
  refine J_aload_n dc_Mo_keep_0 (Eq.refl 1) 0 rfl ?_
  refine J_getF (y := 39) dc_Mo_keep_1 (Eq.refl 4) fl_Mo_132 (Nat.le_of_ble_eq_true rfl) rfl (Or.inl rfl) rfl ?_
  refine J_aload_n dc_Mo_keep_4 (Eq.refl 5) 0 rfl ?_
  refine J_getI dc_Mo_keep_5 (Eq.refl 8) fl_Mo_321 (Nat.le_of_ble_eq_true rfl) rfl (Or.inl rfl) ?_
  refine J_iload_n dc_Mo_keep_8 (Eq.refl 9) 1 rfl ?_
  obtain ⟨hg, h⟩ := h
  refine J_iast dc_Mo_keep_9 (Eq.refl 10) rfl rfl hg ?_
  refine J_aload_n dc_Mo_keep_10 (Eq.refl 11) 0 rfl ?_
  refine J_dup dc_Mo_keep_11 (Eq.refl 12) rfl ?_
  refine J_getI dc_Mo_keep_12 (Eq.refl 15) fl_Mo_321 (Nat.le_of_ble_eq_true rfl) rfl (Or.inl rfl) ?_
  refine J_iconst (v := (1 : Int32)) dc_Mo_keep_15 (Eq.refl 16) rfl ?_
  refine J_iadd dc_Mo_keep_16 (Eq.refl 17) ?_
  refine J_putI dc_Mo_keep_17 (Eq.refl 20) pl_Mo_321 (Nat.le_of_ble_eq_true rfl) rfl rfl ?_
  exact J_vret dc_Mo_keep_20 rfl h
theorem dc_Mo_takeFour_0 : decode m_Mo_takeFour.2.1 0 = .ok (.aload_n 0, 1) := by decide +kernel
theorem dc_Mo_takeFour_1 : decode m_Mo_takeFour.2.1 1 = .ok (.iconst 0, 1) := by decide +kernel
theorem dc_Mo_takeFour_2 : decode m_Mo_takeFour.2.1 2 = .ok (.putfield 327, 3) := by decide +kernel
theorem dc_Mo_takeFour_5 : decode m_Mo_takeFour.2.1 5 = .ok (.iconst 0, 1) := by decide +kernel
theorem dc_Mo_takeFour_6 : decode m_Mo_takeFour.2.1 6 = .ok (.istore_n 2, 1) := by decide +kernel
theorem dc_Mo_takeFour_7 : decode m_Mo_takeFour.2.1 7 = .ok (.iload_n 2, 1) := by decide +kernel
theorem dc_Mo_takeFour_8 : decode m_Mo_takeFour.2.1 8 = .ok (.iconst 4, 1) := by decide +kernel
theorem dc_Mo_takeFour_9 : decode m_Mo_takeFour.2.1 9 = .ok (.if_icmp .ge 47, 3) := by decide +kernel
theorem dc_Mo_takeFour_12 : decode m_Mo_takeFour.2.1 12 = .ok (.aload_n 0, 1) := by decide +kernel
theorem dc_Mo_takeFour_13 : decode m_Mo_takeFour.2.1 13 = .ok (.iload_n 1, 1) := by decide +kernel
theorem dc_Mo_takeFour_14 : decode m_Mo_takeFour.2.1 14 = .ok (.invokevirtual 213, 3) := by decide +kernel
theorem dc_Mo_takeFour_17 : decode m_Mo_takeFour.2.1 17 = .ok (.invokestatic 329, 3) := by decide +kernel
theorem dc_Mo_takeFour_20 : decode m_Mo_takeFour.2.1 20 = .ok (.istore_n 3, 1) := by decide +kernel
theorem dc_Mo_takeFour_21 : decode m_Mo_takeFour.2.1 21 = .ok (.iload_n 3, 1) := by decide +kernel
theorem dc_Mo_takeFour_22 : decode m_Mo_takeFour.2.1 22 = .ok (.ifCond .ge 5, 3) := by decide +kernel
theorem dc_Mo_takeFour_25 : decode m_Mo_takeFour.2.1 25 = .ok (.iconst 0, 1) := by decide +kernel
theorem dc_Mo_takeFour_26 : decode m_Mo_takeFour.2.1 26 = .ok (.ireturn, 1) := by decide +kernel
theorem dc_Mo_takeFour_27 : decode m_Mo_takeFour.2.1 27 = .ok (.aload_n 0, 1) := by decide +kernel
theorem dc_Mo_takeFour_28 : decode m_Mo_takeFour.2.1 28 = .ok (.bipush 16, 2) := by decide +kernel
theorem dc_Mo_takeFour_30 : decode m_Mo_takeFour.2.1 30 = .ok (.aload_n 0, 1) := by decide +kernel
theorem dc_Mo_takeFour_31 : decode m_Mo_takeFour.2.1 31 = .ok (.getfield 327, 3) := by decide +kernel
theorem dc_Mo_takeFour_34 : decode m_Mo_takeFour.2.1 34 = .ok (.imul, 1) := by decide +kernel
theorem dc_Mo_takeFour_35 : decode m_Mo_takeFour.2.1 35 = .ok (.iload_n 3, 1) := by decide +kernel
theorem dc_Mo_takeFour_36 : decode m_Mo_takeFour.2.1 36 = .ok (.iadd, 1) := by decide +kernel
theorem dc_Mo_takeFour_37 : decode m_Mo_takeFour.2.1 37 = .ok (.putfield 327, 3) := by decide +kernel
theorem dc_Mo_takeFour_40 : decode m_Mo_takeFour.2.1 40 = .ok (.aload_n 0, 1) := by decide +kernel
theorem dc_Mo_takeFour_41 : decode m_Mo_takeFour.2.1 41 = .ok (.dup, 1) := by decide +kernel
theorem dc_Mo_takeFour_42 : decode m_Mo_takeFour.2.1 42 = .ok (.getfield 210, 3) := by decide +kernel
theorem dc_Mo_takeFour_45 : decode m_Mo_takeFour.2.1 45 = .ok (.iconst 1, 1) := by decide +kernel
theorem dc_Mo_takeFour_46 : decode m_Mo_takeFour.2.1 46 = .ok (.iadd, 1) := by decide +kernel
theorem dc_Mo_takeFour_47 : decode m_Mo_takeFour.2.1 47 = .ok (.putfield 210, 3) := by decide +kernel
theorem dc_Mo_takeFour_50 : decode m_Mo_takeFour.2.1 50 = .ok (.iinc 2 1, 3) := by decide +kernel
theorem dc_Mo_takeFour_53 : decode m_Mo_takeFour.2.1 53 = .ok (.goto (-46), 3) := by decide +kernel
theorem dc_Mo_takeFour_56 : decode m_Mo_takeFour.2.1 56 = .ok (.iconst 1, 1) := by decide +kernel
theorem dc_Mo_takeFour_57 : decode m_Mo_takeFour.2.1 57 = .ok (.ireturn, 1) := by decide +kernel
theorem b_Mo_takeFour_0 {E : En_t} {d : Nat} {σ : S_t} {Q : Option Value → S_t → Prop} {x1 : Int32}
    (h : JE E (d + 1) m_Mo_takeFour 7 [(0, pv E 0), (1, .int x1), (2, .int (0 : Int32))] [] (sI σ 0 56 (0 : Int32)) Q) :
    JE E (d + 1) m_Mo_takeFour 0 [(0, pv E 0), (1, .int x1)] [] σ Q := by
  refine J_aload_n dc_Mo_takeFour_0 (Eq.refl 1) 0 rfl ?_
  refine J_iconst (v := (0 : Int32)) dc_Mo_takeFour_1 (Eq.refl 2) rfl ?_
  refine J_putI dc_Mo_takeFour_2 (Eq.refl 5) pl_Mo_327 (Nat.le_of_ble_eq_true rfl) rfl rfl ?_
  refine J_iconst (v := (0 : Int32)) dc_Mo_takeFour_5 (Eq.refl 6) rfl ?_
  refine J_istore_n (L' := [(2, .int (0 : Int32)), (0, pv E 0), (1, .int x1)]) dc_Mo_takeFour_6 (Eq.refl 7) (Nat.le_of_ble_eq_true rfl) rfl ?_
  refine J_sub [1, 2, 0] rfl ?_
  exact h
theorem b_Mo_takeFour_7 {E : En_t} {d : Nat} {σ : S_t} {Q : Option Value → S_t → Prop} {x1 : Int32} {x2 : Int32}
    (h : ((4 : Int32) ≤ x2 → Q (some (.int (1 : Int32))) σ) ∧ (¬ (4 : Int32) ≤ x2 → CI E d m_Mo_here [pv E 0, .int x1] σ (fun r2 σ1 => CI E d m_Mo_hex [.int r2] σ1 (fun r4 σ3 => (0 ≤ r4 → JE E (d + 1) m_Mo_takeFour 7 [(0, pv E 0), (1, .int x1), (2, .int (x2 + (1 : Int32)))] [] (sI (sI σ3 0 56 (((16 : Int32) * (gI σ3 0 56)) + r4)) 0 9 ((gI (sI σ3 0 56 (((16 : Int32) * (gI σ3 0 56)) + r4)) 0 9) + (1 : Int32))) Q) ∧ (¬ 0 ≤ r4 → Q (some (.int (0 : Int32))) σ3))))) :
    JE E (d + 1) m_Mo_takeFour 7 [(0, pv E 0), (1, .int x1), (2, .int x2)] [] σ Q := by
  refine J_iload_n dc_Mo_takeFour_7 (Eq.refl 8) 2 rfl ?_
  refine J_iconst (v := (4 : Int32)) dc_Mo_takeFour_8 (Eq.refl 9) rfl ?_
  refine J_icmp_ge dc_Mo_takeFour_9 (Eq.refl 12) rfl (fun hc => ?_) (fun hc => ?_)
  · have h := h.1 hc
    refine J_iconst (v := (1 : Int32)) dc_Mo_takeFour_56 (Eq.refl 57) rfl ?_
    exact J_zret dc_Mo_takeFour_57 rfl rfl h
  · have h := h.2 hc
    refine J_aload_n dc_Mo_takeFour_12 (Eq.refl 13) 0 rfl ?_
    refine J_iload_n dc_Mo_takeFour_13 (Eq.refl 14) 1 rfl ?_
    refine J_callVI (As := [.int x1]) (st := []) dc_Mo_takeFour_14 (Eq.refl 17) lk_Mo_213 mi_Mo_here rfl (Nat.le_of_ble_eq_true rfl) rfl rfl (Nat.le_of_ble_eq_true rfl) rfl (Nat.le_of_ble_eq_true rfl) (CI.mono h (fun r2 σ1 h => ?_))
    refine J_callSI (As := [.int r2]) (st := []) dc_Mo_takeFour_17 (Eq.refl 20) lk_Mo_329 mi_Mo_hex (Nat.le_of_ble_eq_true rfl) rfl (Nat.le_of_ble_eq_true rfl) (CI.mono h (fun r4 σ3 h => ?_))
    refine J_istore_n (L' := [(3, .int r4), (0, pv E 0), (1, .int x1), (2, .int x2)]) dc_Mo_takeFour_20 (Eq.refl 21) (Nat.le_of_ble_eq_true rfl) rfl ?_
    refine J_iload_n dc_Mo_takeFour_21 (Eq.refl 22) 0 rfl ?_
    refine J_if_ge dc_Mo_takeFour_22 (Eq.refl 25) rfl (fun hc => ?_) (fun hc => ?_)
    · have h := h.1 hc
      refine J_aload_n dc_Mo_takeFour_27 (Eq.refl 28) 1 rfl ?_
      refine J_bipush (v := (16 : Int32)) dc_Mo_takeFour_28 (Eq.refl 30) rfl ?_
      refine J_aload_n dc_Mo_takeFour_30 (Eq.refl 31) 1 rfl ?_
      refine J_getI dc_Mo_takeFour_31 (Eq.refl 34) fl_Mo_327 (Nat.le_of_ble_eq_true rfl) rfl (Or.inl rfl) ?_
      refine J_imul dc_Mo_takeFour_34 (Eq.refl 35) ?_
      refine J_iload_n dc_Mo_takeFour_35 (Eq.refl 36) 0 rfl ?_
      refine J_iadd dc_Mo_takeFour_36 (Eq.refl 37) ?_
      refine J_putI dc_Mo_takeFour_37 (Eq.refl 40) pl_Mo_327 (Nat.le_of_ble_eq_true rfl) rfl rfl ?_
      refine J_aload_n dc_Mo_takeFour_40 (Eq.refl 41) 1 rfl ?_
      refine J_dup dc_Mo_takeFour_41 (Eq.refl 42) rfl ?_
      refine J_getI dc_Mo_takeFour_42 (Eq.refl 45) fl_Mo_210 (Nat.le_of_ble_eq_true rfl) rfl (Or.inl rfl) ?_
      refine J_iconst (v := (1 : Int32)) dc_Mo_takeFour_45 (Eq.refl 46) rfl ?_
      refine J_iadd dc_Mo_takeFour_46 (Eq.refl 47) ?_
      refine J_putI dc_Mo_takeFour_47 (Eq.refl 50) pl_Mo_210 (Nat.le_of_ble_eq_true rfl) rfl rfl ?_
      refine J_iinc (v := x2 + (1 : Int32)) (L' := [(2, .int (x2 + (1 : Int32))), (3, .int r4), (0, pv E 0), (1, .int x1)]) dc_Mo_takeFour_50 (Eq.refl 53) 3 rfl rfl (Nat.le_of_ble_eq_true rfl) rfl ?_
      refine J_goto dc_Mo_takeFour_53 rfl ?_
      refine J_sub [2, 3, 0] rfl ?_
      exact h
    · have h := h.2 hc
      refine J_iconst (v := (0 : Int32)) dc_Mo_takeFour_25 (Eq.refl 26) rfl ?_
      exact J_zret dc_Mo_takeFour_26 rfl rfl h
theorem dc_Mo_hex_0 : decode m_Mo_hex.2.1 0 = .ok (.iload_n 0, 1) := by decide +kernel
theorem dc_Mo_hex_1 : decode m_Mo_hex.2.1 1 = .ok (.bipush 48, 2) := by decide +kernel
theorem dc_Mo_hex_3 : decode m_Mo_hex.2.1 3 = .ok (.if_icmp .lt 16, 3) := by decide +kernel
theorem dc_Mo_hex_6 : decode m_Mo_hex.2.1 6 = .ok (.iload_n 0, 1) := by decide +kernel
theorem dc_Mo_hex_7 : decode m_Mo_hex.2.1 7 = .ok (.bipush 57, 2) := by decide +kernel
theorem dc_Mo_hex_9 : decode m_Mo_hex.2.1 9 = .ok (.if_icmp .gt 10, 3) := by decide +kernel
theorem dc_Mo_hex_12 : decode m_Mo_hex.2.1 12 = .ok (.iload_n 0, 1) := by decide +kernel
theorem dc_Mo_hex_13 : decode m_Mo_hex.2.1 13 = .ok (.bipush 48, 2) := by decide +kernel
theorem dc_Mo_hex_15 : decode m_Mo_hex.2.1 15 = .ok (.isub, 1) := by decide +kernel
theorem dc_Mo_hex_16 : decode m_Mo_hex.2.1 16 = .ok (.goto 48, 3) := by decide +kernel
theorem dc_Mo_hex_19 : decode m_Mo_hex.2.1 19 = .ok (.iload_n 0, 1) := by decide +kernel
theorem dc_Mo_hex_20 : decode m_Mo_hex.2.1 20 = .ok (.bipush 97, 2) := by decide +kernel
theorem dc_Mo_hex_22 : decode m_Mo_hex.2.1 22 = .ok (.if_icmp .lt 19, 3) := by decide +kernel
theorem dc_Mo_hex_25 : decode m_Mo_hex.2.1 25 = .ok (.iload_n 0, 1) := by decide +kernel
theorem dc_Mo_hex_26 : decode m_Mo_hex.2.1 26 = .ok (.bipush 102, 2) := by decide +kernel
theorem dc_Mo_hex_28 : decode m_Mo_hex.2.1 28 = .ok (.if_icmp .gt 13, 3) := by decide +kernel
theorem dc_Mo_hex_31 : decode m_Mo_hex.2.1 31 = .ok (.iload_n 0, 1) := by decide +kernel
theorem dc_Mo_hex_32 : decode m_Mo_hex.2.1 32 = .ok (.bipush 97, 2) := by decide +kernel
theorem dc_Mo_hex_34 : decode m_Mo_hex.2.1 34 = .ok (.isub, 1) := by decide +kernel
theorem dc_Mo_hex_35 : decode m_Mo_hex.2.1 35 = .ok (.bipush 10, 2) := by decide +kernel
theorem dc_Mo_hex_37 : decode m_Mo_hex.2.1 37 = .ok (.iadd, 1) := by decide +kernel
theorem dc_Mo_hex_38 : decode m_Mo_hex.2.1 38 = .ok (.goto 26, 3) := by decide +kernel
theorem dc_Mo_hex_41 : decode m_Mo_hex.2.1 41 = .ok (.iload_n 0, 1) := by decide +kernel
theorem dc_Mo_hex_42 : decode m_Mo_hex.2.1 42 = .ok (.bipush 65, 2) := by decide +kernel
theorem dc_Mo_hex_44 : decode m_Mo_hex.2.1 44 = .ok (.if_icmp .lt 19, 3) := by decide +kernel
theorem dc_Mo_hex_47 : decode m_Mo_hex.2.1 47 = .ok (.iload_n 0, 1) := by decide +kernel
theorem dc_Mo_hex_48 : decode m_Mo_hex.2.1 48 = .ok (.bipush 70, 2) := by decide +kernel
theorem dc_Mo_hex_50 : decode m_Mo_hex.2.1 50 = .ok (.if_icmp .gt 13, 3) := by decide +kernel
theorem dc_Mo_hex_53 : decode m_Mo_hex.2.1 53 = .ok (.iload_n 0, 1) := by decide +kernel
theorem dc_Mo_hex_54 : decode m_Mo_hex.2.1 54 = .ok (.bipush 65, 2) := by decide +kernel
theorem dc_Mo_hex_56 : decode m_Mo_hex.2.1 56 = .ok (.isub, 1) := by decide +kernel
theorem dc_Mo_hex_57 : decode m_Mo_hex.2.1 57 = .ok (.bipush 10, 2) := by decide +kernel
theorem dc_Mo_hex_59 : decode m_Mo_hex.2.1 59 = .ok (.iadd, 1) := by decide +kernel
theorem dc_Mo_hex_60 : decode m_Mo_hex.2.1 60 = .ok (.goto 4, 3) := by decide +kernel
theorem dc_Mo_hex_63 : decode m_Mo_hex.2.1 63 = .ok (.iconst (-1), 1) := by decide +kernel
theorem dc_Mo_hex_64 : decode m_Mo_hex.2.1 64 = .ok (.ireturn, 1) := by decide +kernel
theorem b_Mo_hex_0 {E : En_t} {d : Nat} {σ : S_t} {Q : Option Value → S_t → Prop} {x0 : Int32}
    (h : (x0 < (48 : Int32) → JE E d m_Mo_hex 19 [(0, .int x0)] [] σ Q) ∧ (¬ x0 < (48 : Int32) → ((57 : Int32) < x0 → JE E d m_Mo_hex 19 [(0, .int x0)] [] σ Q) ∧ (¬ (57 : Int32) < x0 → Q (some (.int (x0 - (48 : Int32)))) σ))) :
    JE E d m_Mo_hex 0 [(0, .int x0)] [] σ Q := by
  refine J_iload_n dc_Mo_hex_0 (Eq.refl 1) 0 rfl ?_
  refine J_bipush (v := (48 : Int32)) dc_Mo_hex_1 (Eq.refl 3) rfl ?_
  refine J_icmp_lt dc_Mo_hex_3 (Eq.refl 6) rfl (fun hc => ?_) (fun hc => ?_)
  · have h := h.1 hc
    exact h
  · have h := h.2 hc
    refine J_iload_n dc_Mo_hex_6 (Eq.refl 7) 0 rfl ?_
    refine J_bipush (v := (57 : Int32)) dc_Mo_hex_7 (Eq.refl 9) rfl ?_
    refine J_icmp_gt dc_Mo_hex_9 (Eq.refl 12) rfl (fun hc => ?_) (fun hc => ?_)
    · have h := h.1 hc
      exact h
    · have h := h.2 hc
      refine J_iload_n dc_Mo_hex_12 (Eq.refl 13) 0 rfl ?_
      refine J_bipush (v := (48 : Int32)) dc_Mo_hex_13 (Eq.refl 15) rfl ?_
      refine J_isub dc_Mo_hex_15 (Eq.refl 16) ?_
      refine J_goto dc_Mo_hex_16 rfl ?_
      exact J_iret dc_Mo_hex_64 rfl h
theorem b_Mo_hex_19 {E : En_t} {d : Nat} {σ : S_t} {Q : Option Value → S_t → Prop} {x0 : Int32}
    (h : (x0 < (97 : Int32) → JE E d m_Mo_hex 41 [(0, .int x0)] [] σ Q) ∧ (¬ x0 < (97 : Int32) → ((102 : Int32) < x0 → JE E d m_Mo_hex 41 [(0, .int x0)] [] σ Q) ∧ (¬ (102 : Int32) < x0 → Q (some (.int ((x0 - (97 : Int32)) + (10 : Int32)))) σ))) :
    JE E d m_Mo_hex 19 [(0, .int x0)] [] σ Q := by
  refine J_iload_n dc_Mo_hex_19 (Eq.refl 20) 0 rfl ?_
  refine J_bipush (v := (97 : Int32)) dc_Mo_hex_20 (Eq.refl 22) rfl ?_
  refine J_icmp_lt dc_Mo_hex_22 (Eq.refl 25) rfl (fun hc => ?_) (fun hc => ?_)
  · have h := h.1 hc
    exact h
  · have h := h.2 hc
    refine J_iload_n dc_Mo_hex_25 (Eq.refl 26) 0 rfl ?_
    refine J_bipush (v := (102 : Int32)) dc_Mo_hex_26 (Eq.refl 28) rfl ?_
    refine J_icmp_gt dc_Mo_hex_28 (Eq.refl 31) rfl (fun hc => ?_) (fun hc => ?_)
    · have h := h.1 hc
      exact h
    · have h := h.2 hc
      refine J_iload_n dc_Mo_hex_31 (Eq.refl 32) 0 rfl ?_
      refine J_bipush (v := (97 : Int32)) dc_Mo_hex_32 (Eq.refl 34) rfl ?_
      refine J_isub dc_Mo_hex_34 (Eq.refl 35) ?_
      refine J_bipush (v := (10 : Int32)) dc_Mo_hex_35 (Eq.refl 37) rfl ?_
      refine J_iadd dc_Mo_hex_37 (Eq.refl 38) ?_
      refine J_goto dc_Mo_hex_38 rfl ?_
      exact J_iret dc_Mo_hex_64 rfl h
theorem b_Mo_hex_41 {E : En_t} {d : Nat} {σ : S_t} {Q : Option Value → S_t → Prop} {x0 : Int32}
    (h : (x0 < (65 : Int32) → Q (some (.int (-1 : Int32))) σ) ∧ (¬ x0 < (65 : Int32) → ((70 : Int32) < x0 → Q (some (.int (-1 : Int32))) σ) ∧ (¬ (70 : Int32) < x0 → Q (some (.int ((x0 - (65 : Int32)) + (10 : Int32)))) σ))) :
    JE E d m_Mo_hex 41 [(0, .int x0)] [] σ Q := by
  refine J_iload_n dc_Mo_hex_41 (Eq.refl 42) 0 rfl ?_
  refine J_bipush (v := (65 : Int32)) dc_Mo_hex_42 (Eq.refl 44) rfl ?_
  refine J_icmp_lt dc_Mo_hex_44 (Eq.refl 47) rfl (fun hc => ?_) (fun hc => ?_)
  · have h := h.1 hc
    refine J_iconst (v := (-1 : Int32)) dc_Mo_hex_63 (Eq.refl 64) rfl ?_
    exact J_iret dc_Mo_hex_64 rfl h
  · have h := h.2 hc
    refine J_iload_n dc_Mo_hex_47 (Eq.refl 48) 0 rfl ?_
    refine J_bipush (v := (70 : Int32)) dc_Mo_hex_48 (Eq.refl 50) rfl ?_
    refine J_icmp_gt dc_Mo_hex_50 (Eq.refl 53) rfl (fun hc => ?_) (fun hc => ?_)
    · have h := h.1 hc
      refine J_iconst (v := (-1 : Int32)) dc_Mo_hex_63 (Eq.refl 64) rfl ?_
      exact J_iret dc_Mo_hex_64 rfl h
    · have h := h.2 hc
      refine J_iload_n dc_Mo_hex_53 (Eq.refl 54) 0 rfl ?_
      refine J_bipush (v := (65 : Int32)) dc_Mo_hex_54 (Eq.refl 56) rfl ?_
      refine J_isub dc_Mo_hex_56 (Eq.refl 57) ?_
      refine J_bipush (v := (10 : Int32)) dc_Mo_hex_57 (Eq.refl 59) rfl ?_
      refine J_iadd dc_Mo_hex_59 (Eq.refl 60) ?_
      refine J_goto dc_Mo_hex_60 rfl ?_
      exact J_iret dc_Mo_hex_64 rfl h
theorem dc_Mo_takeWide_0 : decode m_Mo_takeWide.2.1 0 = .ok (.aload_n 0, 1) := by decide +kernel
theorem dc_Mo_takeWide_1 : decode m_Mo_takeWide.2.1 1 = .ok (.iload_n 1, 1) := by decide +kernel
theorem dc_Mo_takeWide_2 : decode m_Mo_takeWide.2.1 2 = .ok (.invokevirtual 213, 3) := by decide +kernel
theorem dc_Mo_takeWide_5 : decode m_Mo_takeWide.2.1 5 = .ok (.istore_n 2, 1) := by decide +kernel
theorem dc_Mo_takeWide_6 : decode m_Mo_takeWide.2.1 6 = .ok (.iload_n 2, 1) := by decide +kernel
theorem dc_Mo_takeWide_7 : decode m_Mo_takeWide.2.1 7 = .ok (.sipush 194, 3) := by decide +kernel
theorem dc_Mo_takeWide_10 : decode m_Mo_takeWide.2.1 10 = .ok (.if_icmp .lt 14, 3) := by decide +kernel
theorem dc_Mo_takeWide_13 : decode m_Mo_takeWide.2.1 13 = .ok (.iload_n 2, 1) := by decide +kernel
theorem dc_Mo_takeWide_14 : decode m_Mo_takeWide.2.1 14 = .ok (.sipush 224, 3) := by decide +kernel
theorem dc_Mo_takeWide_17 : decode m_Mo_takeWide.2.1 17 = .ok (.if_icmp .ge 7, 3) := by decide +kernel
theorem dc_Mo_takeWide_20 : decode m_Mo_takeWide.2.1 20 = .ok (.iconst 1, 1) := by decide +kernel
theorem dc_Mo_takeWide_21 : decode m_Mo_takeWide.2.1 21 = .ok (.goto 40, 3) := by decide +kernel
theorem dc_Mo_takeWide_24 : decode m_Mo_takeWide.2.1 24 = .ok (.iload_n 2, 1) := by decide +kernel
theorem dc_Mo_takeWide_25 : decode m_Mo_takeWide.2.1 25 = .ok (.sipush 224, 3) := by decide +kernel
theorem dc_Mo_takeWide_28 : decode m_Mo_takeWide.2.1 28 = .ok (.if_icmp .lt 14, 3) := by decide +kernel
theorem dc_Mo_takeWide_31 : decode m_Mo_takeWide.2.1 31 = .ok (.iload_n 2, 1) := by decide +kernel
theorem dc_Mo_takeWide_32 : decode m_Mo_takeWide.2.1 32 = .ok (.sipush 240, 3) := by decide +kernel
theorem dc_Mo_takeWide_35 : decode m_Mo_takeWide.2.1 35 = .ok (.if_icmp .ge 7, 3) := by decide +kernel
theorem dc_Mo_takeWide_38 : decode m_Mo_takeWide.2.1 38 = .ok (.iconst 2, 1) := by decide +kernel
theorem dc_Mo_takeWide_39 : decode m_Mo_takeWide.2.1 39 = .ok (.goto 22, 3) := by decide +kernel
theorem dc_Mo_takeWide_42 : decode m_Mo_takeWide.2.1 42 = .ok (.iload_n 2, 1) := by decide +kernel
theorem dc_Mo_takeWide_43 : decode m_Mo_takeWide.2.1 43 = .ok (.sipush 240, 3) := by decide +kernel
theorem dc_Mo_takeWide_46 : decode m_Mo_takeWide.2.1 46 = .ok (.if_icmp .lt 14, 3) := by decide +kernel
theorem dc_Mo_takeWide_49 : decode m_Mo_takeWide.2.1 49 = .ok (.iload_n 2, 1) := by decide +kernel
theorem dc_Mo_takeWide_50 : decode m_Mo_takeWide.2.1 50 = .ok (.sipush 245, 3) := by decide +kernel
theorem dc_Mo_takeWide_53 : decode m_Mo_takeWide.2.1 53 = .ok (.if_icmp .ge 7, 3) := by decide +kernel
theorem dc_Mo_takeWide_56 : decode m_Mo_takeWide.2.1 56 = .ok (.iconst 3, 1) := by decide +kernel
theorem dc_Mo_takeWide_57 : decode m_Mo_takeWide.2.1 57 = .ok (.goto 4, 3) := by decide +kernel
theorem dc_Mo_takeWide_60 : decode m_Mo_takeWide.2.1 60 = .ok (.iconst 0, 1) := by decide +kernel
theorem dc_Mo_takeWide_61 : decode m_Mo_takeWide.2.1 61 = .ok (.istore_n 3, 1) := by decide +kernel
theorem dc_Mo_takeWide_62 : decode m_Mo_takeWide.2.1 62 = .ok (.iload_n 3, 1) := by decide +kernel
theorem dc_Mo_takeWide_63 : decode m_Mo_takeWide.2.1 63 = .ok (.ifCond .ne 5, 3) := by decide +kernel
theorem dc_Mo_takeWide_66 : decode m_Mo_takeWide.2.1 66 = .ok (.iconst 0, 1) := by decide +kernel
theorem dc_Mo_takeWide_67 : decode m_Mo_takeWide.2.1 67 = .ok (.ireturn, 1) := by decide +kernel
theorem dc_Mo_takeWide_68 : decode m_Mo_takeWide.2.1 68 = .ok (.iload_n 2, 1) := by decide +kernel
theorem dc_Mo_takeWide_69 : decode m_Mo_takeWide.2.1 69 = .ok (.sipush 224, 3) := by decide +kernel
theorem dc_Mo_takeWide_72 : decode m_Mo_takeWide.2.1 72 = .ok (.if_icmp .ne 9, 3) := by decide +kernel
theorem dc_Mo_takeWide_75 : decode m_Mo_takeWide.2.1 75 = .ok (.sipush 160, 3) := by decide +kernel
theorem dc_Mo_takeWide_78 : decode m_Mo_takeWide.2.1 78 = .ok (.goto 19, 3) := by decide +kernel
theorem dc_Mo_takeWide_81 : decode m_Mo_takeWide.2.1 81 = .ok (.iload_n 2, 1) := by decide +kernel
theorem dc_Mo_takeWide_82 : decode m_Mo_takeWide.2.1 82 = .ok (.sipush 240, 3) := by decide +kernel
theorem dc_Mo_takeWide_85 : decode m_Mo_takeWide.2.1 85 = .ok (.if_icmp .ne 9, 3) := by decide +kernel
theorem dc_Mo_takeWide_88 : decode m_Mo_takeWide.2.1 88 = .ok (.sipush 144, 3) := by decide +kernel
theorem dc_Mo_takeWide_91 : decode m_Mo_takeWide.2.1 91 = .ok (.goto 6, 3) := by decide +kernel
theorem dc_Mo_takeWide_94 : decode m_Mo_takeWide.2.1 94 = .ok (.sipush 128, 3) := by decide +kernel
theorem dc_Mo_takeWide_97 : decode m_Mo_takeWide.2.1 97 = .ok (.istore 4, 2) := by decide +kernel
theorem dc_Mo_takeWide_99 : decode m_Mo_takeWide.2.1 99 = .ok (.iload_n 2, 1) := by decide +kernel
theorem dc_Mo_takeWide_100 : decode m_Mo_takeWide.2.1 100 = .ok (.sipush 237, 3) := by decide +kernel
theorem dc_Mo_takeWide_103 : decode m_Mo_takeWide.2.1 103 = .ok (.if_icmp .ne 9, 3) := by decide +kernel
theorem dc_Mo_takeWide_106 : decode m_Mo_takeWide.2.1 106 = .ok (.sipush 159, 3) := by decide +kernel
theorem dc_Mo_takeWide_109 : decode m_Mo_takeWide.2.1 109 = .ok (.goto 19, 3) := by decide +kernel
theorem dc_Mo_takeWide_112 : decode m_Mo_takeWide.2.1 112 = .ok (.iload_n 2, 1) := by decide +kernel
theorem dc_Mo_takeWide_113 : decode m_Mo_takeWide.2.1 113 = .ok (.sipush 244, 3) := by decide +kernel
theorem dc_Mo_takeWide_116 : decode m_Mo_takeWide.2.1 116 = .ok (.if_icmp .ne 9, 3) := by decide +kernel
theorem dc_Mo_takeWide_119 : decode m_Mo_takeWide.2.1 119 = .ok (.sipush 143, 3) := by decide +kernel
theorem dc_Mo_takeWide_122 : decode m_Mo_takeWide.2.1 122 = .ok (.goto 6, 3) := by decide +kernel
theorem dc_Mo_takeWide_125 : decode m_Mo_takeWide.2.1 125 = .ok (.sipush 191, 3) := by decide +kernel
theorem dc_Mo_takeWide_128 : decode m_Mo_takeWide.2.1 128 = .ok (.istore 5, 2) := by decide +kernel
theorem dc_Mo_takeWide_130 : decode m_Mo_takeWide.2.1 130 = .ok (.iload_n 2, 1) := by decide +kernel
theorem dc_Mo_takeWide_131 : decode m_Mo_takeWide.2.1 131 = .ok (.iload_n 3, 1) := by decide +kernel
theorem dc_Mo_takeWide_132 : decode m_Mo_takeWide.2.1 132 = .ok (.iconst 1, 1) := by decide +kernel
theorem dc_Mo_takeWide_133 : decode m_Mo_takeWide.2.1 133 = .ok (.if_icmp .ne 8, 3) := by decide +kernel
theorem dc_Mo_takeWide_136 : decode m_Mo_takeWide.2.1 136 = .ok (.bipush 31, 2) := by decide +kernel
theorem dc_Mo_takeWide_138 : decode m_Mo_takeWide.2.1 138 = .ok (.goto 15, 3) := by decide +kernel
theorem dc_Mo_takeWide_141 : decode m_Mo_takeWide.2.1 141 = .ok (.iload_n 3, 1) := by decide +kernel
theorem dc_Mo_takeWide_142 : decode m_Mo_takeWide.2.1 142 = .ok (.iconst 2, 1) := by decide +kernel
theorem dc_Mo_takeWide_143 : decode m_Mo_takeWide.2.1 143 = .ok (.if_icmp .ne 8, 3) := by decide +kernel
theorem dc_Mo_takeWide_146 : decode m_Mo_takeWide.2.1 146 = .ok (.bipush 15, 2) := by decide +kernel
theorem dc_Mo_takeWide_148 : decode m_Mo_takeWide.2.1 148 = .ok (.goto 5, 3) := by decide +kernel
theorem dc_Mo_takeWide_151 : decode m_Mo_takeWide.2.1 151 = .ok (.bipush 7, 2) := by decide +kernel
theorem dc_Mo_takeWide_153 : decode m_Mo_takeWide.2.1 153 = .ok (.iand, 1) := by decide +kernel
theorem dc_Mo_takeWide_154 : decode m_Mo_takeWide.2.1 154 = .ok (.istore 6, 2) := by decide +kernel
theorem dc_Mo_takeWide_156 : decode m_Mo_takeWide.2.1 156 = .ok (.aload_n 0, 1) := by decide +kernel
theorem dc_Mo_takeWide_157 : decode m_Mo_takeWide.2.1 157 = .ok (.dup, 1) := by decide +kernel
theorem dc_Mo_takeWide_158 : decode m_Mo_takeWide.2.1 158 = .ok (.getfield 210, 3) := by decide +kernel
theorem dc_Mo_takeWide_161 : decode m_Mo_takeWide.2.1 161 = .ok (.iconst 1, 1) := by decide +kernel
theorem dc_Mo_takeWide_162 : decode m_Mo_takeWide.2.1 162 = .ok (.iadd, 1) := by decide +kernel
theorem dc_Mo_takeWide_163 : decode m_Mo_takeWide.2.1 163 = .ok (.putfield 210, 3) := by decide +kernel
theorem dc_Mo_takeWide_166 : decode m_Mo_takeWide.2.1 166 = .ok (.iconst 0, 1) := by decide +kernel
theorem dc_Mo_takeWide_167 : decode m_Mo_takeWide.2.1 167 = .ok (.istore 7, 2) := by decide +kernel
theorem dc_Mo_takeWide_169 : decode m_Mo_takeWide.2.1 169 = .ok (.iload 7, 2) := by decide +kernel
theorem dc_Mo_takeWide_171 : decode m_Mo_takeWide.2.1 171 = .ok (.iload_n 3, 1) := by decide +kernel
theorem dc_Mo_takeWide_172 : decode m_Mo_takeWide.2.1 172 = .ok (.if_icmp .ge 65, 3) := by decide +kernel
theorem dc_Mo_takeWide_175 : decode m_Mo_takeWide.2.1 175 = .ok (.aload_n 0, 1) := by decide +kernel
theorem dc_Mo_takeWide_176 : decode m_Mo_takeWide.2.1 176 = .ok (.iload_n 1, 1) := by decide +kernel
theorem dc_Mo_takeWide_177 : decode m_Mo_takeWide.2.1 177 = .ok (.invokevirtual 213, 3) := by decide +kernel
theorem dc_Mo_takeWide_180 : decode m_Mo_takeWide.2.1 180 = .ok (.istore 8, 2) := by decide +kernel
theorem dc_Mo_takeWide_182 : decode m_Mo_takeWide.2.1 182 = .ok (.iload 8, 2) := by decide +kernel
theorem dc_Mo_takeWide_184 : decode m_Mo_takeWide.2.1 184 = .ok (.iload 4, 2) := by decide +kernel
theorem dc_Mo_takeWide_186 : decode m_Mo_takeWide.2.1 186 = .ok (.if_icmp .lt 10, 3) := by decide +kernel
theorem dc_Mo_takeWide_189 : decode m_Mo_takeWide.2.1 189 = .ok (.iload 8, 2) := by decide +kernel
theorem dc_Mo_takeWide_191 : decode m_Mo_takeWide.2.1 191 = .ok (.iload 5, 2) := by decide +kernel
theorem dc_Mo_takeWide_193 : decode m_Mo_takeWide.2.1 193 = .ok (.if_icmp .le 5, 3) := by decide +kernel
theorem dc_Mo_takeWide_196 : decode m_Mo_takeWide.2.1 196 = .ok (.iconst 0, 1) := by decide +kernel
theorem dc_Mo_takeWide_197 : decode m_Mo_takeWide.2.1 197 = .ok (.ireturn, 1) := by decide +kernel
theorem dc_Mo_takeWide_198 : decode m_Mo_takeWide.2.1 198 = .ok (.iload 6, 2) := by decide +kernel
theorem dc_Mo_takeWide_200 : decode m_Mo_takeWide.2.1 200 = .ok (.bipush 6, 2) := by decide +kernel
theorem dc_Mo_takeWide_202 : decode m_Mo_takeWide.2.1 202 = .ok (.ishl, 1) := by decide +kernel
theorem dc_Mo_takeWide_203 : decode m_Mo_takeWide.2.1 203 = .ok (.iload 8, 2) := by decide +kernel
theorem dc_Mo_takeWide_205 : decode m_Mo_takeWide.2.1 205 = .ok (.bipush 63, 2) := by decide +kernel
theorem dc_Mo_takeWide_207 : decode m_Mo_takeWide.2.1 207 = .ok (.iand, 1) := by decide +kernel
theorem dc_Mo_takeWide_208 : decode m_Mo_takeWide.2.1 208 = .ok (.ior, 1) := by decide +kernel
theorem dc_Mo_takeWide_209 : decode m_Mo_takeWide.2.1 209 = .ok (.istore 6, 2) := by decide +kernel
theorem dc_Mo_takeWide_211 : decode m_Mo_takeWide.2.1 211 = .ok (.sipush 128, 3) := by decide +kernel
theorem dc_Mo_takeWide_214 : decode m_Mo_takeWide.2.1 214 = .ok (.istore 4, 2) := by decide +kernel
theorem dc_Mo_takeWide_216 : decode m_Mo_takeWide.2.1 216 = .ok (.sipush 191, 3) := by decide +kernel
theorem dc_Mo_takeWide_219 : decode m_Mo_takeWide.2.1 219 = .ok (.istore 5, 2) := by decide +kernel
theorem dc_Mo_takeWide_221 : decode m_Mo_takeWide.2.1 221 = .ok (.aload_n 0, 1) := by decide +kernel
theorem dc_Mo_takeWide_222 : decode m_Mo_takeWide.2.1 222 = .ok (.dup, 1) := by decide +kernel
theorem dc_Mo_takeWide_223 : decode m_Mo_takeWide.2.1 223 = .ok (.getfield 210, 3) := by decide +kernel
theorem dc_Mo_takeWide_226 : decode m_Mo_takeWide.2.1 226 = .ok (.iconst 1, 1) := by decide +kernel
theorem dc_Mo_takeWide_227 : decode m_Mo_takeWide.2.1 227 = .ok (.iadd, 1) := by decide +kernel
theorem dc_Mo_takeWide_228 : decode m_Mo_takeWide.2.1 228 = .ok (.putfield 210, 3) := by decide +kernel
theorem dc_Mo_takeWide_231 : decode m_Mo_takeWide.2.1 231 = .ok (.iinc 7 1, 3) := by decide +kernel
theorem dc_Mo_takeWide_234 : decode m_Mo_takeWide.2.1 234 = .ok (.goto (-65), 3) := by decide +kernel
theorem dc_Mo_takeWide_237 : decode m_Mo_takeWide.2.1 237 = .ok (.aload_n 0, 1) := by decide +kernel
theorem dc_Mo_takeWide_238 : decode m_Mo_takeWide.2.1 238 = .ok (.iload 6, 2) := by decide +kernel
theorem dc_Mo_takeWide_240 : decode m_Mo_takeWide.2.1 240 = .ok (.invokevirtual 324, 3) := by decide +kernel
theorem dc_Mo_takeWide_243 : decode m_Mo_takeWide.2.1 243 = .ok (.iconst 1, 1) := by decide +kernel
theorem dc_Mo_takeWide_244 : decode m_Mo_takeWide.2.1 244 = .ok (.ireturn, 1) := by decide +kernel
theorem b_Mo_takeWide_0 {E : En_t} {d : Nat} {σ : S_t} {Q : Option Value → S_t → Prop} {x1 : Int32}
    (h : CI E d m_Mo_here [pv E 0, .int x1] σ (fun r2 σ1 => (r2 < (194 : Int32) → JE E (d + 1) m_Mo_takeWide 24 [(0, pv E 0), (1, .int x1), (2, .int r2)] [] σ1 Q) ∧ (¬ r2 < (194 : Int32) → ((224 : Int32) ≤ r2 → JE E (d + 1) m_Mo_takeWide 24 [(0, pv E 0), (1, .int x1), (2, .int r2)] [] σ1 Q) ∧ (¬ (224 : Int32) ≤ r2 → JE E (d + 1) m_Mo_takeWide 61 [(0, pv E 0), (1, .int x1), (2, .int r2)] [.int (1 : Int32)] σ1 Q)))) :
    JE E (d + 1) m_Mo_takeWide 0 [(0, pv E 0), (1, .int x1)] [] σ Q := by
  refine J_aload_n dc_Mo_takeWide_0 (Eq.refl 1) 0 rfl ?_
  refine J_iload_n dc_Mo_takeWide_1 (Eq.refl 2) 1 rfl ?_
  refine J_callVI (As := [.int x1]) (st := []) dc_Mo_takeWide_2 (Eq.refl 5) lk_Mo_213 mi_Mo_here rfl (Nat.le_of_ble_eq_true rfl) rfl rfl (Nat.le_of_ble_eq_true rfl) rfl (Nat.le_of_ble_eq_true rfl) (CI.mono h (fun r2 σ1 h => ?_))
  refine J_istore_n (L' := [(2, .int r2), (0, pv E 0), (1, .int x1)]) dc_Mo_takeWide_5 (Eq.refl 6) (Nat.le_of_ble_eq_true rfl) rfl ?_
  refine J_iload_n dc_Mo_takeWide_6 (Eq.refl 7) 0 rfl ?_
  refine J_sipush (v := (194 : Int32)) dc_Mo_takeWide_7 (Eq.refl 10) rfl ?_
  refine J_icmp_lt dc_Mo_takeWide_10 (Eq.refl 13) rfl (fun hc => ?_) (fun hc => ?_)
  · have h := h.1 hc
    refine J_sub [1, 2, 0] rfl ?_
    exact h
  · have h := h.2 hc
    refine J_iload_n dc_Mo_takeWide_13 (Eq.refl 14) 0 rfl ?_
    refine J_sipush (v := (224 : Int32)) dc_Mo_takeWide_14 (Eq.refl 17) rfl ?_
    refine J_icmp_ge dc_Mo_takeWide_17 (Eq.refl 20) rfl (fun hc => ?_) (fun hc => ?_)
    · have h := h.1 hc
      refine J_sub [1, 2, 0] rfl ?_
      exact h
    · have h := h.2 hc
      refine J_iconst (v := (1 : Int32)) dc_Mo_takeWide_20 (Eq.refl 21) rfl ?_
      refine J_goto dc_Mo_takeWide_21 rfl ?_
      refine J_sub [1, 2, 0] rfl ?_
      exact h
theorem b_Mo_takeWide_24 {E : En_t} {d : Nat} {σ : S_t} {Q : Option Value → S_t → Prop} {x1 : Int32} {x2 : Int32}
    (h : (x2 < (224 : Int32) → JE E (d + 1) m_Mo_takeWide 42 [(0, pv E 0), (1, .int x1), (2, .int x2)] [] σ Q) ∧ (¬ x2 < (224 : Int32) → ((240 : Int32) ≤ x2 → JE E (d + 1) m_Mo_takeWide 42 [(0, pv E 0), (1, .int x1), (2, .int x2)] [] σ Q) ∧ (¬ (240 : Int32) ≤ x2 → JE E (d + 1) m_Mo_takeWide 61 [(0, pv E 0), (1, .int x1), (2, .int x2)] [.int (2 : Int32)] σ Q))) :
    JE E (d + 1) m_Mo_takeWide 24 [(0, pv E 0), (1, .int x1), (2, .int x2)] [] σ Q := by
  refine J_iload_n dc_Mo_takeWide_24 (Eq.refl 25) 2 rfl ?_
  refine J_sipush (v := (224 : Int32)) dc_Mo_takeWide_25 (Eq.refl 28) rfl ?_
  refine J_icmp_lt dc_Mo_takeWide_28 (Eq.refl 31) rfl (fun hc => ?_) (fun hc => ?_)
  · have h := h.1 hc
    exact h
  · have h := h.2 hc
    refine J_iload_n dc_Mo_takeWide_31 (Eq.refl 32) 2 rfl ?_
    refine J_sipush (v := (240 : Int32)) dc_Mo_takeWide_32 (Eq.refl 35) rfl ?_
    refine J_icmp_ge dc_Mo_takeWide_35 (Eq.refl 38) rfl (fun hc => ?_) (fun hc => ?_)
    · have h := h.1 hc
      exact h
    · have h := h.2 hc
      refine J_iconst (v := (2 : Int32)) dc_Mo_takeWide_38 (Eq.refl 39) rfl ?_
      refine J_goto dc_Mo_takeWide_39 rfl ?_
      exact h
theorem b_Mo_takeWide_42 {E : En_t} {d : Nat} {σ : S_t} {Q : Option Value → S_t → Prop} {x1 : Int32} {x2 : Int32}
    (h : (x2 < (240 : Int32) → JE E (d + 1) m_Mo_takeWide 60 [(0, pv E 0), (1, .int x1), (2, .int x2)] [] σ Q) ∧ (¬ x2 < (240 : Int32) → ((245 : Int32) ≤ x2 → JE E (d + 1) m_Mo_takeWide 60 [(0, pv E 0), (1, .int x1), (2, .int x2)] [] σ Q) ∧ (¬ (245 : Int32) ≤ x2 → JE E (d + 1) m_Mo_takeWide 61 [(0, pv E 0), (1, .int x1), (2, .int x2)] [.int (3 : Int32)] σ Q))) :
    JE E (d + 1) m_Mo_takeWide 42 [(0, pv E 0), (1, .int x1), (2, .int x2)] [] σ Q := by
  refine J_iload_n dc_Mo_takeWide_42 (Eq.refl 43) 2 rfl ?_
  refine J_sipush (v := (240 : Int32)) dc_Mo_takeWide_43 (Eq.refl 46) rfl ?_
  refine J_icmp_lt dc_Mo_takeWide_46 (Eq.refl 49) rfl (fun hc => ?_) (fun hc => ?_)
  · have h := h.1 hc
    exact h
  · have h := h.2 hc
    refine J_iload_n dc_Mo_takeWide_49 (Eq.refl 50) 2 rfl ?_
    refine J_sipush (v := (245 : Int32)) dc_Mo_takeWide_50 (Eq.refl 53) rfl ?_
    refine J_icmp_ge dc_Mo_takeWide_53 (Eq.refl 56) rfl (fun hc => ?_) (fun hc => ?_)
    · have h := h.1 hc
      exact h
    · have h := h.2 hc
      refine J_iconst (v := (3 : Int32)) dc_Mo_takeWide_56 (Eq.refl 57) rfl ?_
      refine J_goto dc_Mo_takeWide_57 rfl ?_
      exact h
theorem b_Mo_takeWide_60 {E : En_t} {d : Nat} {σ : S_t} {Q : Option Value → S_t → Prop} {x1 : Int32} {x2 : Int32}
    (h : JE E (d + 1) m_Mo_takeWide 61 [(0, pv E 0), (1, .int x1), (2, .int x2)] [.int (0 : Int32)] σ Q) :
    JE E (d + 1) m_Mo_takeWide 60 [(0, pv E 0), (1, .int x1), (2, .int x2)] [] σ Q := by
  refine J_iconst (v := (0 : Int32)) dc_Mo_takeWide_60 (Eq.refl 61) rfl ?_
  exact h
theorem b_Mo_takeWide_61 {E : En_t} {d : Nat} {σ : S_t} {Q : Option Value → S_t → Prop} {x1 : Int32} {x2 : Int32} {s0 : Int32}
    (h : (¬ s0 = 0 → (¬ x2 = (224 : Int32) → (¬ x2 = (240 : Int32) → JE E (d + 1) m_Mo_takeWide 97 [(0, pv E 0), (1, .int x1), (2, .int x2), (3, .int s0)] [.int (128 : Int32)] σ Q) ∧ (x2 = (240 : Int32) → JE E (d + 1) m_Mo_takeWide 97 [(0, pv E 0), (1, .int x1), (2, .int x2), (3, .int s0)] [.int (144 : Int32)] σ Q)) ∧ (x2 = (224 : Int32) → JE E (d + 1) m_Mo_takeWide 97 [(0, pv E 0), (1, .int x1), (2, .int x2), (3, .int s0)] [.int (160 : Int32)] σ Q)) ∧ (s0 = 0 → Q (some (.int (0 : Int32))) σ)) :
    JE E (d + 1) m_Mo_takeWide 61 [(0, pv E 0), (1, .int x1), (2, .int x2)] [.int s0] σ Q := by
  refine J_istore_n (L' := [(3, .int s0), (0, pv E 0), (1, .int x1), (2, .int x2)]) dc_Mo_takeWide_61 (Eq.refl 62) (Nat.le_of_ble_eq_true rfl) rfl ?_
  refine J_iload_n dc_Mo_takeWide_62 (Eq.refl 63) 0 rfl ?_
  refine J_if_ne dc_Mo_takeWide_63 (Eq.refl 66) rfl (fun hc => ?_) (fun hc => ?_)
  · have h := h.1 hc
    refine J_iload_n dc_Mo_takeWide_68 (Eq.refl 69) 3 rfl ?_
    refine J_sipush (v := (224 : Int32)) dc_Mo_takeWide_69 (Eq.refl 72) rfl ?_
    refine J_icmp_ne dc_Mo_takeWide_72 (Eq.refl 75) rfl (fun hc => ?_) (fun hc => ?_)
    · have h := h.1 hc
      refine J_iload_n dc_Mo_takeWide_81 (Eq.refl 82) 3 rfl ?_
      refine J_sipush (v := (240 : Int32)) dc_Mo_takeWide_82 (Eq.refl 85) rfl ?_
      refine J_icmp_ne dc_Mo_takeWide_85 (Eq.refl 88) rfl (fun hc => ?_) (fun hc => ?_)
      · have h := h.1 hc
        refine J_sipush (v := (128 : Int32)) dc_Mo_takeWide_94 (Eq.refl 97) rfl ?_
        refine J_sub [1, 2, 3, 0] rfl ?_
        exact h
      · have h := h.2 hc
        refine J_sipush (v := (144 : Int32)) dc_Mo_takeWide_88 (Eq.refl 91) rfl ?_
        refine J_goto dc_Mo_takeWide_91 rfl ?_
        refine J_sub [1, 2, 3, 0] rfl ?_
        exact h
    · have h := h.2 hc
      refine J_sipush (v := (160 : Int32)) dc_Mo_takeWide_75 (Eq.refl 78) rfl ?_
      refine J_goto dc_Mo_takeWide_78 rfl ?_
      refine J_sub [1, 2, 3, 0] rfl ?_
      exact h
  · have h := h.2 hc
    refine J_iconst (v := (0 : Int32)) dc_Mo_takeWide_66 (Eq.refl 67) rfl ?_
    exact J_zret dc_Mo_takeWide_67 rfl rfl h
theorem b_Mo_takeWide_97 {E : En_t} {d : Nat} {σ : S_t} {Q : Option Value → S_t → Prop} {x1 : Int32} {x2 : Int32} {x3 : Int32} {s0 : Int32}
    (h : (¬ x2 = (237 : Int32) → (¬ x2 = (244 : Int32) → JE E (d + 1) m_Mo_takeWide 128 [(0, pv E 0), (1, .int x1), (2, .int x2), (3, .int x3), (4, .int s0)] [.int (191 : Int32)] σ Q) ∧ (x2 = (244 : Int32) → JE E (d + 1) m_Mo_takeWide 128 [(0, pv E 0), (1, .int x1), (2, .int x2), (3, .int x3), (4, .int s0)] [.int (143 : Int32)] σ Q)) ∧ (x2 = (237 : Int32) → JE E (d + 1) m_Mo_takeWide 128 [(0, pv E 0), (1, .int x1), (2, .int x2), (3, .int x3), (4, .int s0)] [.int (159 : Int32)] σ Q)) :
    JE E (d + 1) m_Mo_takeWide 97 [(0, pv E 0), (1, .int x1), (2, .int x2), (3, .int x3)] [.int s0] σ Q := by
  refine J_istore (L' := [(4, .int s0), (0, pv E 0), (1, .int x1), (2, .int x2), (3, .int x3)]) dc_Mo_takeWide_97 (Eq.refl 99) (Nat.le_of_ble_eq_true rfl) rfl ?_
  refine J_iload_n dc_Mo_takeWide_99 (Eq.refl 100) 3 rfl ?_
  refine J_sipush (v := (237 : Int32)) dc_Mo_takeWide_100 (Eq.refl 103) rfl ?_
  refine J_icmp_ne dc_Mo_takeWide_103 (Eq.refl 106) rfl (fun hc => ?_) (fun hc => ?_)
  · have h := h.1 hc
    refine J_iload_n dc_Mo_takeWide_112 (Eq.refl 113) 3 rfl ?_
    refine J_sipush (v := (244 : Int32)) dc_Mo_takeWide_113 (Eq.refl 116) rfl ?_
    refine J_icmp_ne dc_Mo_takeWide_116 (Eq.refl 119) rfl (fun hc => ?_) (fun hc => ?_)
    · have h := h.1 hc
      refine J_sipush (v := (191 : Int32)) dc_Mo_takeWide_125 (Eq.refl 128) rfl ?_
      refine J_sub [1, 2, 3, 4, 0] rfl ?_
      exact h
    · have h := h.2 hc
      refine J_sipush (v := (143 : Int32)) dc_Mo_takeWide_119 (Eq.refl 122) rfl ?_
      refine J_goto dc_Mo_takeWide_122 rfl ?_
      refine J_sub [1, 2, 3, 4, 0] rfl ?_
      exact h
  · have h := h.2 hc
    refine J_sipush (v := (159 : Int32)) dc_Mo_takeWide_106 (Eq.refl 109) rfl ?_
    refine J_goto dc_Mo_takeWide_109 rfl ?_
    refine J_sub [1, 2, 3, 4, 0] rfl ?_
    exact h
theorem b_Mo_takeWide_128 {E : En_t} {d : Nat} {σ : S_t} {Q : Option Value → S_t → Prop} {x1 : Int32} {x2 : Int32} {x3 : Int32} {x4 : Int32} {s0 : Int32}
    (h : (¬ x3 = (1 : Int32) → (¬ x3 = (2 : Int32) → JE E (d + 1) m_Mo_takeWide 153 [(0, pv E 0), (1, .int x1), (3, .int x3), (4, .int x4), (5, .int s0)] [.int (7 : Int32), .int x2] σ Q) ∧ (x3 = (2 : Int32) → JE E (d + 1) m_Mo_takeWide 153 [(0, pv E 0), (1, .int x1), (3, .int x3), (4, .int x4), (5, .int s0)] [.int (15 : Int32), .int x2] σ Q)) ∧ (x3 = (1 : Int32) → JE E (d + 1) m_Mo_takeWide 153 [(0, pv E 0), (1, .int x1), (3, .int x3), (4, .int x4), (5, .int s0)] [.int (31 : Int32), .int x2] σ Q)) :
    JE E (d + 1) m_Mo_takeWide 128 [(0, pv E 0), (1, .int x1), (2, .int x2), (3, .int x3), (4, .int x4)] [.int s0] σ Q := by
  refine J_istore (L' := [(5, .int s0), (0, pv E 0), (1, .int x1), (2, .int x2), (3, .int x3), (4, .int x4)]) dc_Mo_takeWide_128 (Eq.refl 130) (Nat.le_of_ble_eq_true rfl) rfl ?_
  refine J_iload_n dc_Mo_takeWide_130 (Eq.refl 131) 3 rfl ?_
  refine J_iload_n dc_Mo_takeWide_131 (Eq.refl 132) 4 rfl ?_
  refine J_iconst (v := (1 : Int32)) dc_Mo_takeWide_132 (Eq.refl 133) rfl ?_
  refine J_icmp_ne dc_Mo_takeWide_133 (Eq.refl 136) rfl (fun hc => ?_) (fun hc => ?_)
  · have h := h.1 hc
    refine J_iload_n dc_Mo_takeWide_141 (Eq.refl 142) 4 rfl ?_
    refine J_iconst (v := (2 : Int32)) dc_Mo_takeWide_142 (Eq.refl 143) rfl ?_
    refine J_icmp_ne dc_Mo_takeWide_143 (Eq.refl 146) rfl (fun hc => ?_) (fun hc => ?_)
    · have h := h.1 hc
      refine J_bipush (v := (7 : Int32)) dc_Mo_takeWide_151 (Eq.refl 153) rfl ?_
      refine J_sub [1, 2, 4, 5, 0] rfl ?_
      exact h
    · have h := h.2 hc
      refine J_bipush (v := (15 : Int32)) dc_Mo_takeWide_146 (Eq.refl 148) rfl ?_
      refine J_goto dc_Mo_takeWide_148 rfl ?_
      refine J_sub [1, 2, 4, 5, 0] rfl ?_
      exact h
  · have h := h.2 hc
    refine J_bipush (v := (31 : Int32)) dc_Mo_takeWide_136 (Eq.refl 138) rfl ?_
    refine J_goto dc_Mo_takeWide_138 rfl ?_
    refine J_sub [1, 2, 4, 5, 0] rfl ?_
    exact h
theorem b_Mo_takeWide_153 {E : En_t} {d : Nat} {σ : S_t} {Q : Option Value → S_t → Prop} {x1 : Int32} {x3 : Int32} {x4 : Int32} {x5 : Int32} {s0 : Int32} {s1 : Int32}
    (h : JE E (d + 1) m_Mo_takeWide 169 [(0, pv E 0), (1, .int x1), (3, .int x3), (4, .int x4), (5, .int x5), (6, .int (s1 &&& s0)), (7, .int (0 : Int32))] [] (sI σ 0 9 ((gI σ 0 9) + (1 : Int32))) Q) :
    JE E (d + 1) m_Mo_takeWide 153 [(0, pv E 0), (1, .int x1), (3, .int x3), (4, .int x4), (5, .int x5)] [.int s0, .int s1] σ Q := by
  refine J_iand dc_Mo_takeWide_153 (Eq.refl 154) ?_
  refine J_istore (L' := [(6, .int (s1 &&& s0)), (0, pv E 0), (1, .int x1), (3, .int x3), (4, .int x4), (5, .int x5)]) dc_Mo_takeWide_154 (Eq.refl 156) (Nat.le_of_ble_eq_true rfl) rfl ?_
  refine J_aload_n dc_Mo_takeWide_156 (Eq.refl 157) 1 rfl ?_
  refine J_dup dc_Mo_takeWide_157 (Eq.refl 158) rfl ?_
  refine J_getI dc_Mo_takeWide_158 (Eq.refl 161) fl_Mo_210 (Nat.le_of_ble_eq_true rfl) rfl (Or.inl rfl) ?_
  refine J_iconst (v := (1 : Int32)) dc_Mo_takeWide_161 (Eq.refl 162) rfl ?_
  refine J_iadd dc_Mo_takeWide_162 (Eq.refl 163) ?_
  refine J_putI dc_Mo_takeWide_163 (Eq.refl 166) pl_Mo_210 (Nat.le_of_ble_eq_true rfl) rfl rfl ?_
  refine J_iconst (v := (0 : Int32)) dc_Mo_takeWide_166 (Eq.refl 167) rfl ?_
  refine J_istore (L' := [(7, .int (0 : Int32)), (6, .int (s1 &&& s0)), (0, pv E 0), (1, .int x1), (3, .int x3), (4, .int x4), (5, .int x5)]) dc_Mo_takeWide_167 (Eq.refl 169) (Nat.le_of_ble_eq_true rfl) rfl ?_
  refine J_sub [2, 3, 4, 5, 6, 1, 0] rfl ?_
  exact h
theorem b_Mo_takeWide_169 {E : En_t} {d : Nat} {σ : S_t} {Q : Option Value → S_t → Prop} {x1 : Int32} {x3 : Int32} {x4 : Int32} {x5 : Int32} {x6 : Int32} {x7 : Int32}
    (h : (x3 ≤ x7 → CV E d m_Mo_keep [pv E 0, .int x6] σ (fun σ1 => Q (some (.int (1 : Int32))) σ1)) ∧ (¬ x3 ≤ x7 → CI E d m_Mo_here [pv E 0, .int x1] σ (fun r3 σ2 => (r3 < x4 → Q (some (.int (0 : Int32))) σ2) ∧ (¬ r3 < x4 → (r3 ≤ x5 → JE E (d + 1) m_Mo_takeWide 169 [(0, pv E 0), (1, .int x1), (3, .int x3), (4, .int (128 : Int32)), (5, .int (191 : Int32)), (6, .int ((x6 <<< ((6 : Int32) &&& 31)) ||| (r3 &&& (63 : Int32)))), (7, .int (x7 + (1 : Int32)))] [] (sI σ2 0 9 ((gI σ2 0 9) + (1 : Int32))) Q) ∧ (¬ r3 ≤ x5 → Q (some (.int (0 : Int32))) σ2))))) :
    JE E (d + 1) m_Mo_takeWide 169 [(0, pv E 0), (1, .int x1), (3, .int x3), (4, .int x4), (5, .int x5), (6, .int x6), (7, .int x7)] [] σ Q := by
  refine J_iload dc_Mo_takeWide_169 (Eq.refl 171) 6 rfl ?_
  refine J_iload_n dc_Mo_takeWide_171 (Eq.refl 172) 2 rfl ?_
  refine J_icmp_ge dc_Mo_takeWide_172 (Eq.refl 175) rfl (fun hc => ?_) (fun hc => ?_)
  · have h := h.1 hc
    refine J_aload_n dc_Mo_takeWide_237 (Eq.refl 238) 0 rfl ?_
    refine J_iload dc_Mo_takeWide_238 (Eq.refl 240) 5 rfl ?_
    refine J_callVV (As := [.int x6]) (st := []) dc_Mo_takeWide_240 (Eq.refl 243) lk_Mo_324 mi_Mo_keep rfl (Nat.le_of_ble_eq_true rfl) rfl rfl (Nat.le_of_ble_eq_true rfl) rfl (Nat.le_of_ble_eq_true rfl) (CV.mono h (fun σ1 h => ?_))
    refine J_iconst (v := (1 : Int32)) dc_Mo_takeWide_243 (Eq.refl 244) rfl ?_
    exact J_zret dc_Mo_takeWide_244 rfl rfl h
  · have h := h.2 hc
    refine J_aload_n dc_Mo_takeWide_175 (Eq.refl 176) 0 rfl ?_
    refine J_iload_n dc_Mo_takeWide_176 (Eq.refl 177) 1 rfl ?_
    refine J_callVI (As := [.int x1]) (st := []) dc_Mo_takeWide_177 (Eq.refl 180) lk_Mo_213 mi_Mo_here rfl (Nat.le_of_ble_eq_true rfl) rfl rfl (Nat.le_of_ble_eq_true rfl) rfl (Nat.le_of_ble_eq_true rfl) (CI.mono h (fun r3 σ2 h => ?_))
    refine J_istore (L' := [(8, .int r3), (0, pv E 0), (1, .int x1), (3, .int x3), (4, .int x4), (5, .int x5), (6, .int x6), (7, .int x7)]) dc_Mo_takeWide_180 (Eq.refl 182) (Nat.le_of_ble_eq_true rfl) rfl ?_
    refine J_iload dc_Mo_takeWide_182 (Eq.refl 184) 0 rfl ?_
    refine J_iload dc_Mo_takeWide_184 (Eq.refl 186) 4 rfl ?_
    refine J_icmp_lt dc_Mo_takeWide_186 (Eq.refl 189) rfl (fun hc => ?_) (fun hc => ?_)
    · have h := h.1 hc
      refine J_iconst (v := (0 : Int32)) dc_Mo_takeWide_196 (Eq.refl 197) rfl ?_
      exact J_zret dc_Mo_takeWide_197 rfl rfl h
    · have h := h.2 hc
      refine J_iload dc_Mo_takeWide_189 (Eq.refl 191) 0 rfl ?_
      refine J_iload dc_Mo_takeWide_191 (Eq.refl 193) 5 rfl ?_
      refine J_icmp_le dc_Mo_takeWide_193 (Eq.refl 196) rfl (fun hc => ?_) (fun hc => ?_)
      · have h := h.1 hc
        refine J_iload dc_Mo_takeWide_198 (Eq.refl 200) 6 rfl ?_
        refine J_bipush (v := (6 : Int32)) dc_Mo_takeWide_200 (Eq.refl 202) rfl ?_
        refine J_ishl dc_Mo_takeWide_202 (Eq.refl 203) ?_
        refine J_iload dc_Mo_takeWide_203 (Eq.refl 205) 0 rfl ?_
        refine J_bipush (v := (63 : Int32)) dc_Mo_takeWide_205 (Eq.refl 207) rfl ?_
        refine J_iand dc_Mo_takeWide_207 (Eq.refl 208) ?_
        refine J_ior dc_Mo_takeWide_208 (Eq.refl 209) ?_
        refine J_istore (L' := [(6, .int ((x6 <<< ((6 : Int32) &&& 31)) ||| (r3 &&& (63 : Int32)))), (8, .int r3), (0, pv E 0), (1, .int x1), (3, .int x3), (4, .int x4), (5, .int x5), (7, .int x7)]) dc_Mo_takeWide_209 (Eq.refl 211) (Nat.le_of_ble_eq_true rfl) rfl ?_
        refine J_sipush (v := (128 : Int32)) dc_Mo_takeWide_211 (Eq.refl 214) rfl ?_
        refine J_istore (L' := [(4, .int (128 : Int32)), (6, .int ((x6 <<< ((6 : Int32) &&& 31)) ||| (r3 &&& (63 : Int32)))), (8, .int r3), (0, pv E 0), (1, .int x1), (3, .int x3), (5, .int x5), (7, .int x7)]) dc_Mo_takeWide_214 (Eq.refl 216) (Nat.le_of_ble_eq_true rfl) rfl ?_
        refine J_sipush (v := (191 : Int32)) dc_Mo_takeWide_216 (Eq.refl 219) rfl ?_
        refine J_istore (L' := [(5, .int (191 : Int32)), (4, .int (128 : Int32)), (6, .int ((x6 <<< ((6 : Int32) &&& 31)) ||| (r3 &&& (63 : Int32)))), (8, .int r3), (0, pv E 0), (1, .int x1), (3, .int x3), (7, .int x7)]) dc_Mo_takeWide_219 (Eq.refl 221) (Nat.le_of_ble_eq_true rfl) rfl ?_
        refine J_aload_n dc_Mo_takeWide_221 (Eq.refl 222) 4 rfl ?_
        refine J_dup dc_Mo_takeWide_222 (Eq.refl 223) rfl ?_
        refine J_getI dc_Mo_takeWide_223 (Eq.refl 226) fl_Mo_210 (Nat.le_of_ble_eq_true rfl) rfl (Or.inl rfl) ?_
        refine J_iconst (v := (1 : Int32)) dc_Mo_takeWide_226 (Eq.refl 227) rfl ?_
        refine J_iadd dc_Mo_takeWide_227 (Eq.refl 228) ?_
        refine J_putI dc_Mo_takeWide_228 (Eq.refl 231) pl_Mo_210 (Nat.le_of_ble_eq_true rfl) rfl rfl ?_
        refine J_iinc (v := x7 + (1 : Int32)) (L' := [(7, .int (x7 + (1 : Int32))), (5, .int (191 : Int32)), (4, .int (128 : Int32)), (6, .int ((x6 <<< ((6 : Int32) &&& 31)) ||| (r3 &&& (63 : Int32)))), (8, .int r3), (0, pv E 0), (1, .int x1), (3, .int x3)]) dc_Mo_takeWide_231 (Eq.refl 234) 7 rfl rfl (Nat.le_of_ble_eq_true rfl) rfl ?_
        refine J_goto dc_Mo_takeWide_234 rfl ?_
        refine J_sub [5, 6, 7, 2, 1, 3, 0] rfl ?_
        exact h
      · have h := h.2 hc
        refine J_iconst (v := (0 : Int32)) dc_Mo_takeWide_196 (Eq.refl 197) rfl ?_
        exact J_zret dc_Mo_takeWide_197 rfl rfl h
theorem dc_Mo_isNamed_0 : decode m_Mo_isNamed.2.1 0 = .ok (.aload_n 0, 1) := by decide +kernel
theorem dc_Mo_isNamed_1 : decode m_Mo_isNamed.2.1 1 = .ok (.getfield 108, 3) := by decide +kernel
theorem dc_Mo_isNamed_4 : decode m_Mo_isNamed.2.1 4 = .ok (.iload_n 1, 1) := by decide +kernel
theorem dc_Mo_isNamed_5 : decode m_Mo_isNamed.2.1 5 = .ok (.iaload, 1) := by decide +kernel
theorem dc_Mo_isNamed_6 : decode m_Mo_isNamed.2.1 6 = .ok (.istore 4, 2) := by decide +kernel
theorem dc_Mo_isNamed_8 : decode m_Mo_isNamed.2.1 8 = .ok (.iload 4, 2) := by decide +kernel
theorem dc_Mo_isNamed_10 : decode m_Mo_isNamed.2.1 10 = .ok (.ifCond .lt 57, 3) := by decide +kernel
theorem dc_Mo_isNamed_13 : decode m_Mo_isNamed.2.1 13 = .ok (.aload_n 0, 1) := by decide +kernel
theorem dc_Mo_isNamed_14 : decode m_Mo_isNamed.2.1 14 = .ok (.getfield 120, 3) := by decide +kernel
theorem dc_Mo_isNamed_17 : decode m_Mo_isNamed.2.1 17 = .ok (.iload 4, 2) := by decide +kernel
theorem dc_Mo_isNamed_19 : decode m_Mo_isNamed.2.1 19 = .ok (.iaload, 1) := by decide +kernel
theorem dc_Mo_isNamed_20 : decode m_Mo_isNamed.2.1 20 = .ok (.ifCond .lt 35, 3) := by decide +kernel
theorem dc_Mo_isNamed_23 : decode m_Mo_isNamed.2.1 23 = .ok (.aload_n 0, 1) := by decide +kernel
theorem dc_Mo_isNamed_24 : decode m_Mo_isNamed.2.1 24 = .ok (.getfield 132, 3) := by decide +kernel
theorem dc_Mo_isNamed_27 : decode m_Mo_isNamed.2.1 27 = .ok (.aload_n 0, 1) := by decide +kernel
theorem dc_Mo_isNamed_28 : decode m_Mo_isNamed.2.1 28 = .ok (.getfield 117, 3) := by decide +kernel
theorem dc_Mo_isNamed_31 : decode m_Mo_isNamed.2.1 31 = .ok (.iload 4, 2) := by decide +kernel
theorem dc_Mo_isNamed_33 : decode m_Mo_isNamed.2.1 33 = .ok (.iaload, 1) := by decide +kernel
theorem dc_Mo_isNamed_34 : decode m_Mo_isNamed.2.1 34 = .ok (.aload_n 0, 1) := by decide +kernel
theorem dc_Mo_isNamed_35 : decode m_Mo_isNamed.2.1 35 = .ok (.getfield 120, 3) := by decide +kernel
theorem dc_Mo_isNamed_38 : decode m_Mo_isNamed.2.1 38 = .ok (.iload 4, 2) := by decide +kernel
theorem dc_Mo_isNamed_40 : decode m_Mo_isNamed.2.1 40 = .ok (.iaload, 1) := by decide +kernel
theorem dc_Mo_isNamed_41 : decode m_Mo_isNamed.2.1 41 = .ok (.aload_n 0, 1) := by decide +kernel
theorem dc_Mo_isNamed_42 : decode m_Mo_isNamed.2.1 42 = .ok (.getfield 132, 3) := by decide +kernel
theorem dc_Mo_isNamed_45 : decode m_Mo_isNamed.2.1 45 = .ok (.iload_n 2, 1) := by decide +kernel
theorem dc_Mo_isNamed_46 : decode m_Mo_isNamed.2.1 46 = .ok (.iload_n 3, 1) := by decide +kernel
theorem dc_Mo_isNamed_47 : decode m_Mo_isNamed.2.1 47 = .ok (.invokestatic 356, 3) := by decide +kernel
theorem dc_Mo_isNamed_50 : decode m_Mo_isNamed.2.1 50 = .ok (.ifCond .ne 5, 3) := by decide +kernel
theorem dc_Mo_isNamed_53 : decode m_Mo_isNamed.2.1 53 = .ok (.iconst 1, 1) := by decide +kernel
theorem dc_Mo_isNamed_54 : decode m_Mo_isNamed.2.1 54 = .ok (.ireturn, 1) := by decide +kernel
theorem dc_Mo_isNamed_55 : decode m_Mo_isNamed.2.1 55 = .ok (.aload_n 0, 1) := by decide +kernel
theorem dc_Mo_isNamed_56 : decode m_Mo_isNamed.2.1 56 = .ok (.getfield 114, 3) := by decide +kernel
theorem dc_Mo_isNamed_59 : decode m_Mo_isNamed.2.1 59 = .ok (.iload 4, 2) := by decide +kernel
theorem dc_Mo_isNamed_61 : decode m_Mo_isNamed.2.1 61 = .ok (.iaload, 1) := by decide +kernel
theorem dc_Mo_isNamed_62 : decode m_Mo_isNamed.2.1 62 = .ok (.istore 4, 2) := by decide +kernel
theorem dc_Mo_isNamed_64 : decode m_Mo_isNamed.2.1 64 = .ok (.goto (-56), 3) := by decide +kernel
theorem dc_Mo_isNamed_67 : decode m_Mo_isNamed.2.1 67 = .ok (.iconst 0, 1) := by decide +kernel
theorem dc_Mo_isNamed_68 : decode m_Mo_isNamed.2.1 68 = .ok (.ireturn, 1) := by decide +kernel
theorem b_Mo_isNamed_0 {E : En_t} {d : Nat} {σ : S_t} {Q : Option Value → S_t → Prop} {x1 : Int32} {x2 : Int32} {x3 : Int32}
    (h : vp_in x1 500 ∧ (JE E (d + 1) m_Mo_isNamed 8 [(0, pv E 0), (2, .int x2), (3, .int x3), (4, .int (gI σ 31 x1.toNatClampNeg))] [] σ Q)) :
    JE E (d + 1) m_Mo_isNamed 0 [(0, pv E 0), (1, .int x1), (2, .int x2), (3, .int x3)] [] σ Q := by
  refine J_aload_n dc_Mo_isNamed_0 (Eq.refl 1) 0 rfl ?_
  refine J_getF (y := 31) dc_Mo_isNamed_1 (Eq.refl 4) fl_Mo_108 (Nat.le_of_ble_eq_true rfl) rfl (Or.inl rfl) rfl ?_
  refine J_iload_n dc_Mo_isNamed_4 (Eq.refl 5) 1 rfl ?_
  obtain ⟨hg, h⟩ := h
  refine J_iald dc_Mo_isNamed_5 (Eq.refl 6) rfl rfl hg ?_
  refine J_istore (L' := [(4, .int (gI σ 31 x1.toNatClampNeg)), (0, pv E 0), (1, .int x1), (2, .int x2), (3, .int x3)]) dc_Mo_isNamed_6 (Eq.refl 8) (Nat.le_of_ble_eq_true rfl) rfl ?_
  refine J_sub [1, 3, 4, 0] rfl ?_
  exact h
theorem b_Mo_isNamed_8 {E : En_t} {d : Nat} {σ : S_t} {Q : Option Value → S_t → Prop} {x2 : Int32} {x3 : Int32} {x4 : Int32}
    (h : (x4 < 0 → Q (some (.int (0 : Int32))) σ) ∧ (¬ x4 < 0 → vp_in x4 500 ∧ (((gI σ 35 x4.toNatClampNeg) < 0 → JE E (d + 1) m_Mo_isNamed 55 [(0, pv E 0), (2, .int x2), (3, .int x3), (4, .int x4)] [] σ Q) ∧ (¬ (gI σ 35 x4.toNatClampNeg) < 0 → vp_in x4 500 ∧ (vp_in x4 500 ∧ (CI E d m_Mo_compared [pv E 39, .int (gI σ 34 x4.toNatClampNeg), .int (gI σ 35 x4.toNatClampNeg), pv E 39, .int x2, .int x3] σ (fun r2 σ1 => (¬ r2 = 0 → JE E (d + 1) m_Mo_isNamed 55 [(0, pv E 0), (2, .int x2), (3, .int x3), (4, .int x4)] [] σ1 Q) ∧ (r2 = 0 → Q (some (.int (1 : Int32))) σ1)))))))) :
    JE E (d + 1) m_Mo_isNamed 8 [(0, pv E 0), (2, .int x2), (3, .int x3), (4, .int x4)] [] σ Q := by
  refine J_iload dc_Mo_isNamed_8 (Eq.refl 10) 3 rfl ?_
  refine J_if_lt dc_Mo_isNamed_10 (Eq.refl 13) rfl (fun hc => ?_) (fun hc => ?_)
  · have h := h.1 hc
    refine J_iconst (v := (0 : Int32)) dc_Mo_isNamed_67 (Eq.refl 68) rfl ?_
    exact J_zret dc_Mo_isNamed_68 rfl rfl h
  · have h := h.2 hc
    refine J_aload_n dc_Mo_isNamed_13 (Eq.refl 14) 0 rfl ?_
    refine J_getF (y := 35) dc_Mo_isNamed_14 (Eq.refl 17) fl_Mo_120 (Nat.le_of_ble_eq_true rfl) rfl (Or.inl rfl) rfl ?_
    refine J_iload dc_Mo_isNamed_17 (Eq.refl 19) 3 rfl ?_
    obtain ⟨hg, h⟩ := h
    refine J_iald dc_Mo_isNamed_19 (Eq.refl 20) rfl rfl hg ?_
    refine J_if_lt dc_Mo_isNamed_20 (Eq.refl 23) rfl (fun hc => ?_) (fun hc => ?_)
    · have h := h.1 hc
      exact h
    · have h := h.2 hc
      refine J_aload_n dc_Mo_isNamed_23 (Eq.refl 24) 0 rfl ?_
      refine J_getF (y := 39) dc_Mo_isNamed_24 (Eq.refl 27) fl_Mo_132 (Nat.le_of_ble_eq_true rfl) rfl (Or.inl rfl) rfl ?_
      refine J_aload_n dc_Mo_isNamed_27 (Eq.refl 28) 0 rfl ?_
      refine J_getF (y := 34) dc_Mo_isNamed_28 (Eq.refl 31) fl_Mo_117 (Nat.le_of_ble_eq_true rfl) rfl (Or.inl rfl) rfl ?_
      refine J_iload dc_Mo_isNamed_31 (Eq.refl 33) 3 rfl ?_
      obtain ⟨hg, h⟩ := h
      refine J_iald dc_Mo_isNamed_33 (Eq.refl 34) rfl rfl hg ?_
      refine J_aload_n dc_Mo_isNamed_34 (Eq.refl 35) 0 rfl ?_
      refine J_getF (y := 35) dc_Mo_isNamed_35 (Eq.refl 38) fl_Mo_120 (Nat.le_of_ble_eq_true rfl) rfl (Or.inl rfl) rfl ?_
      refine J_iload dc_Mo_isNamed_38 (Eq.refl 40) 3 rfl ?_
      obtain ⟨hg, h⟩ := h
      refine J_iald dc_Mo_isNamed_40 (Eq.refl 41) rfl rfl hg ?_
      refine J_aload_n dc_Mo_isNamed_41 (Eq.refl 42) 0 rfl ?_
      refine J_getF (y := 39) dc_Mo_isNamed_42 (Eq.refl 45) fl_Mo_132 (Nat.le_of_ble_eq_true rfl) rfl (Or.inl rfl) rfl ?_
      refine J_iload_n dc_Mo_isNamed_45 (Eq.refl 46) 1 rfl ?_
      refine J_iload_n dc_Mo_isNamed_46 (Eq.refl 47) 2 rfl ?_
      refine J_callSI (As := [pv E 39, .int (gI σ 34 x4.toNatClampNeg), .int (gI σ 35 x4.toNatClampNeg), pv E 39, .int x2, .int x3]) (st := []) dc_Mo_isNamed_47 (Eq.refl 50) lk_Mo_356 mi_Mo_compared (Nat.le_of_ble_eq_true rfl) rfl (Nat.le_of_ble_eq_true rfl) (CI.mono h (fun r2 σ1 h => ?_))
      refine J_if_ne dc_Mo_isNamed_50 (Eq.refl 53) rfl (fun hc => ?_) (fun hc => ?_)
      · have h := h.1 hc
        exact h
      · have h := h.2 hc
        refine J_iconst (v := (1 : Int32)) dc_Mo_isNamed_53 (Eq.refl 54) rfl ?_
        exact J_zret dc_Mo_isNamed_54 rfl rfl h
theorem b_Mo_isNamed_55 {E : En_t} {d : Nat} {σ : S_t} {Q : Option Value → S_t → Prop} {x2 : Int32} {x3 : Int32} {x4 : Int32}
    (h : vp_in x4 500 ∧ (JE E (d + 1) m_Mo_isNamed 8 [(0, pv E 0), (2, .int x2), (3, .int x3), (4, .int (gI σ 33 x4.toNatClampNeg))] [] σ Q)) :
    JE E (d + 1) m_Mo_isNamed 55 [(0, pv E 0), (2, .int x2), (3, .int x3), (4, .int x4)] [] σ Q := by
  refine J_aload_n dc_Mo_isNamed_55 (Eq.refl 56) 0 rfl ?_
  refine J_getF (y := 33) dc_Mo_isNamed_56 (Eq.refl 59) fl_Mo_114 (Nat.le_of_ble_eq_true rfl) rfl (Or.inl rfl) rfl ?_
  refine J_iload dc_Mo_isNamed_59 (Eq.refl 61) 3 rfl ?_
  obtain ⟨hg, h⟩ := h
  refine J_iald dc_Mo_isNamed_61 (Eq.refl 62) rfl rfl hg ?_
  refine J_istore (L' := [(4, .int (gI σ 33 x4.toNatClampNeg)), (0, pv E 0), (2, .int x2), (3, .int x3)]) dc_Mo_isNamed_62 (Eq.refl 64) (Nat.le_of_ble_eq_true rfl) rfl ?_
  refine J_goto dc_Mo_isNamed_64 rfl ?_
  refine J_sub [1, 2, 3, 0] rfl ?_
  exact h
theorem dc_Mo_compared_0 : decode m_Mo_compared.2.1 0 = .ok (.iconst 0, 1) := by decide +kernel
theorem dc_Mo_compared_1 : decode m_Mo_compared.2.1 1 = .ok (.istore 6, 2) := by decide +kernel
theorem dc_Mo_compared_3 : decode m_Mo_compared.2.1 3 = .ok (.iload 6, 2) := by decide +kernel
theorem dc_Mo_compared_5 : decode m_Mo_compared.2.1 5 = .ok (.iload_n 2, 1) := by decide +kernel
theorem dc_Mo_compared_6 : decode m_Mo_compared.2.1 6 = .ok (.if_icmp .ge 73, 3) := by decide +kernel
theorem dc_Mo_compared_9 : decode m_Mo_compared.2.1 9 = .ok (.iload 6, 2) := by decide +kernel
theorem dc_Mo_compared_11 : decode m_Mo_compared.2.1 11 = .ok (.iload 5, 2) := by decide +kernel
theorem dc_Mo_compared_13 : decode m_Mo_compared.2.1 13 = .ok (.if_icmp .ge 66, 3) := by decide +kernel
theorem dc_Mo_compared_16 : decode m_Mo_compared.2.1 16 = .ok (.aload_n 0, 1) := by decide +kernel
theorem dc_Mo_compared_17 : decode m_Mo_compared.2.1 17 = .ok (.iload_n 1, 1) := by decide +kernel
theorem dc_Mo_compared_18 : decode m_Mo_compared.2.1 18 = .ok (.iload 6, 2) := by decide +kernel
theorem dc_Mo_compared_20 : decode m_Mo_compared.2.1 20 = .ok (.iadd, 1) := by decide +kernel
theorem dc_Mo_compared_21 : decode m_Mo_compared.2.1 21 = .ok (.iaload, 1) := by decide +kernel
theorem dc_Mo_compared_22 : decode m_Mo_compared.2.1 22 = .ok (.istore 7, 2) := by decide +kernel
theorem dc_Mo_compared_24 : decode m_Mo_compared.2.1 24 = .ok (.aload_n 3, 1) := by decide +kernel
theorem dc_Mo_compared_25 : decode m_Mo_compared.2.1 25 = .ok (.iload 4, 2) := by decide +kernel
theorem dc_Mo_compared_27 : decode m_Mo_compared.2.1 27 = .ok (.iload 6, 2) := by decide +kernel
theorem dc_Mo_compared_29 : decode m_Mo_compared.2.1 29 = .ok (.iadd, 1) := by decide +kernel
theorem dc_Mo_compared_30 : decode m_Mo_compared.2.1 30 = .ok (.iaload, 1) := by decide +kernel
theorem dc_Mo_compared_31 : decode m_Mo_compared.2.1 31 = .ok (.istore 8, 2) := by decide +kernel
theorem dc_Mo_compared_33 : decode m_Mo_compared.2.1 33 = .ok (.iload 7, 2) := by decide +kernel
theorem dc_Mo_compared_35 : decode m_Mo_compared.2.1 35 = .ok (.iload 8, 2) := by decide +kernel
theorem dc_Mo_compared_37 : decode m_Mo_compared.2.1 37 = .ok (.if_icmp .eq 36, 3) := by decide +kernel
theorem dc_Mo_compared_40 : decode m_Mo_compared.2.1 40 = .ok (.iload 7, 2) := by decide +kernel
theorem dc_Mo_compared_42 : decode m_Mo_compared.2.1 42 = .ok (.invokestatic 296, 3) := by decide +kernel
theorem dc_Mo_compared_45 : decode m_Mo_compared.2.1 45 = .ok (.iload 8, 2) := by decide +kernel
theorem dc_Mo_compared_47 : decode m_Mo_compared.2.1 47 = .ok (.invokestatic 296, 3) := by decide +kernel
theorem dc_Mo_compared_50 : decode m_Mo_compared.2.1 50 = .ok (.if_icmp .eq 17, 3) := by decide +kernel
theorem dc_Mo_compared_53 : decode m_Mo_compared.2.1 53 = .ok (.iload 7, 2) := by decide +kernel
theorem dc_Mo_compared_55 : decode m_Mo_compared.2.1 55 = .ok (.invokestatic 296, 3) := by decide +kernel
theorem dc_Mo_compared_58 : decode m_Mo_compared.2.1 58 = .ok (.iload 8, 2) := by decide +kernel
theorem dc_Mo_compared_60 : decode m_Mo_compared.2.1 60 = .ok (.invokestatic 296, 3) := by decide +kernel
theorem dc_Mo_compared_63 : decode m_Mo_compared.2.1 63 = .ok (.isub, 1) := by decide +kernel
theorem dc_Mo_compared_64 : decode m_Mo_compared.2.1 64 = .ok (.goto 8, 3) := by decide +kernel
theorem dc_Mo_compared_67 : decode m_Mo_compared.2.1 67 = .ok (.iload 7, 2) := by decide +kernel
theorem dc_Mo_compared_69 : decode m_Mo_compared.2.1 69 = .ok (.iload 8, 2) := by decide +kernel
theorem dc_Mo_compared_71 : decode m_Mo_compared.2.1 71 = .ok (.isub, 1) := by decide +kernel
theorem dc_Mo_compared_72 : decode m_Mo_compared.2.1 72 = .ok (.ireturn, 1) := by decide +kernel
theorem dc_Mo_compared_73 : decode m_Mo_compared.2.1 73 = .ok (.iinc 6 1, 3) := by decide +kernel
theorem dc_Mo_compared_76 : decode m_Mo_compared.2.1 76 = .ok (.goto (-73), 3) := by decide +kernel
theorem dc_Mo_compared_79 : decode m_Mo_compared.2.1 79 = .ok (.iload_n 2, 1) := by decide +kernel
theorem dc_Mo_compared_80 : decode m_Mo_compared.2.1 80 = .ok (.iload 5, 2) := by decide +kernel
theorem dc_Mo_compared_82 : decode m_Mo_compared.2.1 82 = .ok (.isub, 1) := by decide +kernel
theorem dc_Mo_compared_83 : decode m_Mo_compared.2.1 83 = .ok (.ireturn, 1) := by decide +kernel
theorem b_Mo_compared_0 {E : En_t} {d : Nat} {σ : S_t} {Q : Option Value → S_t → Prop} {o0 : Nat} {x1 : Int32} {x2 : Int32} {o3 : Nat} {x4 : Int32} {x5 : Int32} (hk_o0 : kindP o0 = 20) (hk_o3 : kindP o3 = 20)
    (h : JE E (d + 1) m_Mo_compared 3 [(0, pv E o0), (1, .int x1), (2, .int x2), (3, pv E o3), (4, .int x4), (5, .int x5), (6, .int (0 : Int32))] [] σ Q) :
    JE E (d + 1) m_Mo_compared 0 [(0, pv E o0), (1, .int x1), (2, .int x2), (3, pv E o3), (4, .int x4), (5, .int x5)] [] σ Q := by
  refine J_iconst (v := (0 : Int32)) dc_Mo_compared_0 (Eq.refl 1) rfl ?_
  refine J_istore (L' := [(6, .int (0 : Int32)), (0, pv E o0), (1, .int x1), (2, .int x2), (3, pv E o3), (4, .int x4), (5, .int x5)]) dc_Mo_compared_1 (Eq.refl 3) (Nat.le_of_ble_eq_true rfl) rfl ?_
  refine J_sub [1, 2, 3, 4, 5, 6, 0] rfl ?_
  exact h
theorem b_Mo_compared_3 {E : En_t} {d : Nat} {σ : S_t} {Q : Option Value → S_t → Prop} {o0 : Nat} {x1 : Int32} {x2 : Int32} {o3 : Nat} {x4 : Int32} {x5 : Int32} {x6 : Int32} (hk_o0 : kindP o0 = 20) (hk_o3 : kindP o3 = 20)
    (h : (x2 ≤ x6 → Q (some (.int (x2 - x5))) σ) ∧ (¬ x2 ≤ x6 → (x5 ≤ x6 → Q (some (.int (x2 - x5))) σ) ∧ (¬ x5 ≤ x6 → vp_in (x1 + x6) (lenP o0) ∧ (vp_in (x4 + x6) (lenP o3) ∧ (((gI σ o0 (x1 + x6).toNatClampNeg) = (gI σ o3 (x4 + x6).toNatClampNeg) → JE E (d + 1) m_Mo_compared 3 [(0, pv E o0), (1, .int x1), (2, .int x2), (3, pv E o3), (4, .int x4), (5, .int x5), (6, .int (x6 + (1 : Int32)))] [] σ Q) ∧ (¬ (gI σ o0 (x1 + x6).toNatClampNeg) = (gI σ o3 (x4 + x6).toNatClampNeg) → CI E d m_Mo_unit [.int (gI σ o0 (x1 + x6).toNatClampNeg)] σ (fun r2 σ1 => CI E d m_Mo_unit [.int (gI σ o3 (x4 + x6).toNatClampNeg)] σ1 (fun r4 σ3 => (r2 = r4 → Q (some (.int ((gI σ o0 (x1 + x6).toNatClampNeg) - (gI σ o3 (x4 + x6).toNatClampNeg)))) σ3) ∧ (¬ r2 = r4 → CI E d m_Mo_unit [.int (gI σ o0 (x1 + x6).toNatClampNeg)] σ3 (fun r6 σ5 => CI E d m_Mo_unit [.int (gI σ o3 (x4 + x6).toNatClampNeg)] σ5 (fun r8 σ7 => Q (some (.int (r6 - r8))) σ7))))))))))) :
    JE E (d + 1) m_Mo_compared 3 [(0, pv E o0), (1, .int x1), (2, .int x2), (3, pv E o3), (4, .int x4), (5, .int x5), (6, .int x6)] [] σ Q := by
  refine J_iload dc_Mo_compared_3 (Eq.refl 5) 6 rfl ?_
  refine J_iload_n dc_Mo_compared_5 (Eq.refl 6) 2 rfl ?_
  refine J_icmp_ge dc_Mo_compared_6 (Eq.refl 9) rfl (fun hc => ?_) (fun hc => ?_)
  · have h := h.1 hc
    refine J_iload_n dc_Mo_compared_79 (Eq.refl 80) 2 rfl ?_
    refine J_iload dc_Mo_compared_80 (Eq.refl 82) 5 rfl ?_
    refine J_isub dc_Mo_compared_82 (Eq.refl 83) ?_
    exact J_iret dc_Mo_compared_83 rfl h
  · have h := h.2 hc
    refine J_iload dc_Mo_compared_9 (Eq.refl 11) 6 rfl ?_
    refine J_iload dc_Mo_compared_11 (Eq.refl 13) 5 rfl ?_
    refine J_icmp_ge dc_Mo_compared_13 (Eq.refl 16) rfl (fun hc => ?_) (fun hc => ?_)
    · have h := h.1 hc
      refine J_iload_n dc_Mo_compared_79 (Eq.refl 80) 2 rfl ?_
      refine J_iload dc_Mo_compared_80 (Eq.refl 82) 5 rfl ?_
      refine J_isub dc_Mo_compared_82 (Eq.refl 83) ?_
      exact J_iret dc_Mo_compared_83 rfl h
    · have h := h.2 hc
      refine J_aload_n dc_Mo_compared_16 (Eq.refl 17) 0 rfl ?_
      refine J_iload_n dc_Mo_compared_17 (Eq.refl 18) 1 rfl ?_
      refine J_iload dc_Mo_compared_18 (Eq.refl 20) 6 rfl ?_
      refine J_iadd dc_Mo_compared_20 (Eq.refl 21) ?_
      obtain ⟨hg, h⟩ := h
      refine J_iald dc_Mo_compared_21 (Eq.refl 22) hk_o0 rfl hg ?_
      refine J_istore (L' := [(7, .int (gI σ o0 (x1 + x6).toNatClampNeg)), (0, pv E o0), (1, .int x1), (2, .int x2), (3, pv E o3), (4, .int x4), (5, .int x5), (6, .int x6)]) dc_Mo_compared_22 (Eq.refl 24) (Nat.le_of_ble_eq_true rfl) rfl ?_
      refine J_aload_n dc_Mo_compared_24 (Eq.refl 25) 4 rfl ?_
      refine J_iload dc_Mo_compared_25 (Eq.refl 27) 5 rfl ?_
      refine J_iload dc_Mo_compared_27 (Eq.refl 29) 7 rfl ?_
      refine J_iadd dc_Mo_compared_29 (Eq.refl 30) ?_
      obtain ⟨hg, h⟩ := h
      refine J_iald dc_Mo_compared_30 (Eq.refl 31) hk_o3 rfl hg ?_
      refine J_istore (L' := [(8, .int (gI σ o3 (x4 + x6).toNatClampNeg)), (7, .int (gI σ o0 (x1 + x6).toNatClampNeg)), (0, pv E o0), (1, .int x1), (2, .int x2), (3, pv E o3), (4, .int x4), (5, .int x5), (6, .int x6)]) dc_Mo_compared_31 (Eq.refl 33) (Nat.le_of_ble_eq_true rfl) rfl ?_
      refine J_iload dc_Mo_compared_33 (Eq.refl 35) 1 rfl ?_
      refine J_iload dc_Mo_compared_35 (Eq.refl 37) 0 rfl ?_
      refine J_icmp_eq dc_Mo_compared_37 (Eq.refl 40) rfl (fun hc => ?_) (fun hc => ?_)
      · have h := h.1 hc
        refine J_iinc (v := x6 + (1 : Int32)) (L' := [(6, .int (x6 + (1 : Int32))), (8, .int (gI σ o3 (x4 + x6).toNatClampNeg)), (7, .int (gI σ o0 (x1 + x6).toNatClampNeg)), (0, pv E o0), (1, .int x1), (2, .int x2), (3, pv E o3), (4, .int x4), (5, .int x5)]) dc_Mo_compared_73 (Eq.refl 76) 8 rfl rfl (Nat.le_of_ble_eq_true rfl) rfl ?_
        refine J_goto dc_Mo_compared_76 rfl ?_
        refine J_sub [3, 4, 5, 6, 7, 8, 0] rfl ?_
        exact h
      · have h := h.2 hc
        refine J_iload dc_Mo_compared_40 (Eq.refl 42) 1 rfl ?_
        refine J_callSI (As := [.int (gI σ o0 (x1 + x6).toNatClampNeg)]) (st := []) dc_Mo_compared_42 (Eq.refl 45) lk_Mo_296 mi_Mo_unit (Nat.le_of_ble_eq_true rfl) rfl (Nat.le_of_ble_eq_true rfl) (CI.mono h (fun r2 σ1 h => ?_))
        refine J_iload dc_Mo_compared_45 (Eq.refl 47) 0 rfl ?_
        refine J_callSI (As := [.int (gI σ o3 (x4 + x6).toNatClampNeg)]) (st := [.int r2]) dc_Mo_compared_47 (Eq.refl 50) lk_Mo_296 mi_Mo_unit (Nat.le_of_ble_eq_true rfl) rfl (Nat.le_of_ble_eq_true rfl) (CI.mono h (fun r4 σ3 h => ?_))
        refine J_icmp_eq dc_Mo_compared_50 (Eq.refl 53) rfl (fun hc => ?_) (fun hc => ?_)
        · have h := h.1 hc
          refine J_iload dc_Mo_compared_67 (Eq.refl 69) 1 rfl ?_
          refine J_iload dc_Mo_compared_69 (Eq.refl 71) 0 rfl ?_
          refine J_isub dc_Mo_compared_71 (Eq.refl 72) ?_
          exact J_iret dc_Mo_compared_72 rfl h
        · have h := h.2 hc
          refine J_iload dc_Mo_compared_53 (Eq.refl 55) 1 rfl ?_
          refine J_callSI (As := [.int (gI σ o0 (x1 + x6).toNatClampNeg)]) (st := []) dc_Mo_compared_55 (Eq.refl 58) lk_Mo_296 mi_Mo_unit (Nat.le_of_ble_eq_true rfl) rfl (Nat.le_of_ble_eq_true rfl) (CI.mono h (fun r6 σ5 h => ?_))
          refine J_iload dc_Mo_compared_58 (Eq.refl 60) 0 rfl ?_
          refine J_callSI (As := [.int (gI σ o3 (x4 + x6).toNatClampNeg)]) (st := [.int r6]) dc_Mo_compared_60 (Eq.refl 63) lk_Mo_296 mi_Mo_unit (Nat.le_of_ble_eq_true rfl) rfl (Nat.le_of_ble_eq_true rfl) (CI.mono h (fun r8 σ7 h => ?_))
          refine J_isub dc_Mo_compared_63 (Eq.refl 64) ?_
          refine J_goto dc_Mo_compared_64 rfl ?_
          exact J_iret dc_Mo_compared_72 rfl h
theorem dc_Mo_unit_0 : decode m_Mo_unit.2.1 0 = .ok (.iload_n 0, 1) := by decide +kernel
theorem dc_Mo_unit_1 : decode m_Mo_unit.2.1 1 = .ok (.ldc_w 294, 3) := by decide +kernel
theorem dc_Mo_unit_4 : decode m_Mo_unit.2.1 4 = .ok (.if_icmp .ge 7, 3) := by decide +kernel
theorem dc_Mo_unit_7 : decode m_Mo_unit.2.1 7 = .ok (.iload_n 0, 1) := by decide +kernel
theorem dc_Mo_unit_8 : decode m_Mo_unit.2.1 8 = .ok (.goto 15, 3) := by decide +kernel
theorem dc_Mo_unit_11 : decode m_Mo_unit.2.1 11 = .ok (.ldc_w 295, 3) := by decide +kernel
theorem dc_Mo_unit_14 : decode m_Mo_unit.2.1 14 = .ok (.iload_n 0, 1) := by decide +kernel
theorem dc_Mo_unit_15 : decode m_Mo_unit.2.1 15 = .ok (.ldc_w 294, 3) := by decide +kernel
theorem dc_Mo_unit_18 : decode m_Mo_unit.2.1 18 = .ok (.isub, 1) := by decide +kernel
theorem dc_Mo_unit_19 : decode m_Mo_unit.2.1 19 = .ok (.bipush 10, 2) := by decide +kernel
theorem dc_Mo_unit_21 : decode m_Mo_unit.2.1 21 = .ok (.ishr, 1) := by decide +kernel
theorem dc_Mo_unit_22 : decode m_Mo_unit.2.1 22 = .ok (.iadd, 1) := by decide +kernel
theorem dc_Mo_unit_23 : decode m_Mo_unit.2.1 23 = .ok (.ireturn, 1) := by decide +kernel
theorem b_Mo_unit_0 {E : En_t} {d : Nat} {σ : S_t} {Q : Option Value → S_t → Prop} {x0 : Int32}
    (h : ((65536 : Int32) ≤ x0 → Q (some (.int ((55296 : Int32) + ((x0 - (65536 : Int32)) >>> ((10 : Int32) &&& 31))))) σ) ∧ (¬ (65536 : Int32) ≤ x0 → Q (some (.int x0)) σ)) :
    JE E d m_Mo_unit 0 [(0, .int x0)] [] σ Q := by
  refine J_iload_n dc_Mo_unit_0 (Eq.refl 1) 0 rfl ?_
  refine J_ldcw dc_Mo_unit_1 (Eq.refl 4) kc_Mo_294 ?_
  refine J_icmp_ge dc_Mo_unit_4 (Eq.refl 7) rfl (fun hc => ?_) (fun hc => ?_)
  · have h := h.1 hc
    refine J_ldcw dc_Mo_unit_11 (Eq.refl 14) kc_Mo_295 ?_
    refine J_iload_n dc_Mo_unit_14 (Eq.refl 15) 0 rfl ?_
    refine J_ldcw dc_Mo_unit_15 (Eq.refl 18) kc_Mo_294 ?_
    refine J_isub dc_Mo_unit_18 (Eq.refl 19) ?_
    refine J_bipush (v := (10 : Int32)) dc_Mo_unit_19 (Eq.refl 21) rfl ?_
    refine J_ishr dc_Mo_unit_21 (Eq.refl 22) ?_
    refine J_iadd dc_Mo_unit_22 (Eq.refl 23) ?_
    exact J_iret dc_Mo_unit_23 rfl h
  · have h := h.2 hc
    refine J_iload_n dc_Mo_unit_7 (Eq.refl 8) 0 rfl ?_
    refine J_goto dc_Mo_unit_8 rfl ?_
    exact J_iret dc_Mo_unit_23 rfl h
theorem dc_Mo_kindAt_0 : decode m_Mo_kindAt.2.1 0 = .ok (.iload_n 0, 1) := by decide +kernel
theorem dc_Mo_kindAt_1 : decode m_Mo_kindAt.2.1 1 = .ok (.bipush 34, 2) := by decide +kernel
theorem dc_Mo_kindAt_3 : decode m_Mo_kindAt.2.1 3 = .ok (.if_icmp .ne 7, 3) := by decide +kernel
theorem dc_Mo_kindAt_6 : decode m_Mo_kindAt.2.1 6 = .ok (.iconst 4, 1) := by decide +kernel
theorem dc_Mo_kindAt_7 : decode m_Mo_kindAt.2.1 7 = .ok (.goto 72, 3) := by decide +kernel
theorem dc_Mo_kindAt_10 : decode m_Mo_kindAt.2.1 10 = .ok (.iload_n 0, 1) := by decide +kernel
theorem dc_Mo_kindAt_11 : decode m_Mo_kindAt.2.1 11 = .ok (.bipush 91, 2) := by decide +kernel
theorem dc_Mo_kindAt_13 : decode m_Mo_kindAt.2.1 13 = .ok (.if_icmp .ne 7, 3) := by decide +kernel
theorem dc_Mo_kindAt_16 : decode m_Mo_kindAt.2.1 16 = .ok (.iconst 5, 1) := by decide +kernel
theorem dc_Mo_kindAt_17 : decode m_Mo_kindAt.2.1 17 = .ok (.goto 62, 3) := by decide +kernel
theorem dc_Mo_kindAt_20 : decode m_Mo_kindAt.2.1 20 = .ok (.iload_n 0, 1) := by decide +kernel
theorem dc_Mo_kindAt_21 : decode m_Mo_kindAt.2.1 21 = .ok (.bipush 123, 2) := by decide +kernel
theorem dc_Mo_kindAt_23 : decode m_Mo_kindAt.2.1 23 = .ok (.if_icmp .ne 8, 3) := by decide +kernel
theorem dc_Mo_kindAt_26 : decode m_Mo_kindAt.2.1 26 = .ok (.bipush 6, 2) := by decide +kernel
theorem dc_Mo_kindAt_28 : decode m_Mo_kindAt.2.1 28 = .ok (.goto 51, 3) := by decide +kernel
theorem dc_Mo_kindAt_31 : decode m_Mo_kindAt.2.1 31 = .ok (.iload_n 0, 1) := by decide +kernel
theorem dc_Mo_kindAt_32 : decode m_Mo_kindAt.2.1 32 = .ok (.bipush 110, 2) := by decide +kernel
theorem dc_Mo_kindAt_34 : decode m_Mo_kindAt.2.1 34 = .ok (.if_icmp .ne 7, 3) := by decide +kernel
theorem dc_Mo_kindAt_37 : decode m_Mo_kindAt.2.1 37 = .ok (.iconst 0, 1) := by decide +kernel
theorem dc_Mo_kindAt_38 : decode m_Mo_kindAt.2.1 38 = .ok (.goto 41, 3) := by decide +kernel
theorem dc_Mo_kindAt_41 : decode m_Mo_kindAt.2.1 41 = .ok (.iload_n 0, 1) := by decide +kernel
theorem dc_Mo_kindAt_42 : decode m_Mo_kindAt.2.1 42 = .ok (.bipush 102, 2) := by decide +kernel
theorem dc_Mo_kindAt_44 : decode m_Mo_kindAt.2.1 44 = .ok (.if_icmp .ne 7, 3) := by decide +kernel
theorem dc_Mo_kindAt_47 : decode m_Mo_kindAt.2.1 47 = .ok (.iconst 1, 1) := by decide +kernel
theorem dc_Mo_kindAt_48 : decode m_Mo_kindAt.2.1 48 = .ok (.goto 31, 3) := by decide +kernel
theorem dc_Mo_kindAt_51 : decode m_Mo_kindAt.2.1 51 = .ok (.iload_n 0, 1) := by decide +kernel
theorem dc_Mo_kindAt_52 : decode m_Mo_kindAt.2.1 52 = .ok (.bipush 116, 2) := by decide +kernel
theorem dc_Mo_kindAt_54 : decode m_Mo_kindAt.2.1 54 = .ok (.if_icmp .ne 7, 3) := by decide +kernel
theorem dc_Mo_kindAt_57 : decode m_Mo_kindAt.2.1 57 = .ok (.iconst 2, 1) := by decide +kernel
theorem dc_Mo_kindAt_58 : decode m_Mo_kindAt.2.1 58 = .ok (.goto 21, 3) := by decide +kernel
theorem dc_Mo_kindAt_61 : decode m_Mo_kindAt.2.1 61 = .ok (.iload_n 0, 1) := by decide +kernel
theorem dc_Mo_kindAt_62 : decode m_Mo_kindAt.2.1 62 = .ok (.bipush 45, 2) := by decide +kernel
theorem dc_Mo_kindAt_64 : decode m_Mo_kindAt.2.1 64 = .ok (.if_icmp .eq 10, 3) := by decide +kernel
theorem dc_Mo_kindAt_67 : decode m_Mo_kindAt.2.1 67 = .ok (.iload_n 0, 1) := by decide +kernel
theorem dc_Mo_kindAt_68 : decode m_Mo_kindAt.2.1 68 = .ok (.invokestatic 217, 3) := by decide +kernel
theorem dc_Mo_kindAt_71 : decode m_Mo_kindAt.2.1 71 = .ok (.ifCond .eq 7, 3) := by decide +kernel
theorem dc_Mo_kindAt_74 : decode m_Mo_kindAt.2.1 74 = .ok (.iconst 3, 1) := by decide +kernel
theorem dc_Mo_kindAt_75 : decode m_Mo_kindAt.2.1 75 = .ok (.goto 4, 3) := by decide +kernel
theorem dc_Mo_kindAt_78 : decode m_Mo_kindAt.2.1 78 = .ok (.iconst (-1), 1) := by decide +kernel
theorem dc_Mo_kindAt_79 : decode m_Mo_kindAt.2.1 79 = .ok (.ireturn, 1) := by decide +kernel
theorem b_Mo_kindAt_0 {E : En_t} {d : Nat} {σ : S_t} {Q : Option Value → S_t → Prop} {x0 : Int32}
    (h : (¬ x0 = (34 : Int32) → (¬ x0 = (91 : Int32) → (¬ x0 = (123 : Int32) → (¬ x0 = (110 : Int32) → (¬ x0 = (102 : Int32) → (¬ x0 = (116 : Int32) → (x0 = (45 : Int32) → JE E (d + 1) m_Mo_kindAt 74 [] [] σ Q) ∧ (¬ x0 = (45 : Int32) → CI E d m_Mo_isDigit [.int x0] σ (fun r2 σ1 => (r2 = 0 → Q (some (.int (-1 : Int32))) σ1) ∧ (¬ r2 = 0 → JE E (d + 1) m_Mo_kindAt 74 [] [] σ1 Q)))) ∧ (x0 = (116 : Int32) → Q (some (.int (2 : Int32))) σ)) ∧ (x0 = (102 : Int32) → Q (some (.int (1 : Int32))) σ)) ∧ (x0 = (110 : Int32) → Q (some (.int (0 : Int32))) σ)) ∧ (x0 = (123 : Int32) → Q (some (.int (6 : Int32))) σ)) ∧ (x0 = (91 : Int32) → Q (some (.int (5 : Int32))) σ)) ∧ (x0 = (34 : Int32) → Q (some (.int (4 : Int32))) σ)) :
    JE E (d + 1) m_Mo_kindAt 0 [(0, .int x0)] [] σ Q := by
  refine J_iload_n dc_Mo_kindAt_0 (Eq.refl 1) 0 rfl ?_
  refine J_bipush (v := (34 : Int32)) dc_Mo_kindAt_1 (Eq.refl 3) rfl ?_
  refine J_icmp_ne dc_Mo_kindAt_3 (Eq.refl 6) rfl (fun hc => ?_) (fun hc => ?_)
  · have h := h.1 hc
    refine J_iload_n dc_Mo_kindAt_10 (Eq.refl 11) 0 rfl ?_
    refine J_bipush (v := (91 : Int32)) dc_Mo_kindAt_11 (Eq.refl 13) rfl ?_
    refine J_icmp_ne dc_Mo_kindAt_13 (Eq.refl 16) rfl (fun hc => ?_) (fun hc => ?_)
    · have h := h.1 hc
      refine J_iload_n dc_Mo_kindAt_20 (Eq.refl 21) 0 rfl ?_
      refine J_bipush (v := (123 : Int32)) dc_Mo_kindAt_21 (Eq.refl 23) rfl ?_
      refine J_icmp_ne dc_Mo_kindAt_23 (Eq.refl 26) rfl (fun hc => ?_) (fun hc => ?_)
      · have h := h.1 hc
        refine J_iload_n dc_Mo_kindAt_31 (Eq.refl 32) 0 rfl ?_
        refine J_bipush (v := (110 : Int32)) dc_Mo_kindAt_32 (Eq.refl 34) rfl ?_
        refine J_icmp_ne dc_Mo_kindAt_34 (Eq.refl 37) rfl (fun hc => ?_) (fun hc => ?_)
        · have h := h.1 hc
          refine J_iload_n dc_Mo_kindAt_41 (Eq.refl 42) 0 rfl ?_
          refine J_bipush (v := (102 : Int32)) dc_Mo_kindAt_42 (Eq.refl 44) rfl ?_
          refine J_icmp_ne dc_Mo_kindAt_44 (Eq.refl 47) rfl (fun hc => ?_) (fun hc => ?_)
          · have h := h.1 hc
            refine J_iload_n dc_Mo_kindAt_51 (Eq.refl 52) 0 rfl ?_
            refine J_bipush (v := (116 : Int32)) dc_Mo_kindAt_52 (Eq.refl 54) rfl ?_
            refine J_icmp_ne dc_Mo_kindAt_54 (Eq.refl 57) rfl (fun hc => ?_) (fun hc => ?_)
            · have h := h.1 hc
              refine J_iload_n dc_Mo_kindAt_61 (Eq.refl 62) 0 rfl ?_
              refine J_bipush (v := (45 : Int32)) dc_Mo_kindAt_62 (Eq.refl 64) rfl ?_
              refine J_icmp_eq dc_Mo_kindAt_64 (Eq.refl 67) rfl (fun hc => ?_) (fun hc => ?_)
              · have h := h.1 hc
                refine J_sub [] rfl ?_
                exact h
              · have h := h.2 hc
                refine J_iload_n dc_Mo_kindAt_67 (Eq.refl 68) 0 rfl ?_
                refine J_callSI (As := [.int x0]) (st := []) dc_Mo_kindAt_68 (Eq.refl 71) lk_Mo_217 mi_Mo_isDigit (Nat.le_of_ble_eq_true rfl) rfl (Nat.le_of_ble_eq_true rfl) (CI.mono h (fun r2 σ1 h => ?_))
                refine J_if_eq dc_Mo_kindAt_71 (Eq.refl 74) rfl (fun hc => ?_) (fun hc => ?_)
                · have h := h.1 hc
                  refine J_iconst (v := (-1 : Int32)) dc_Mo_kindAt_78 (Eq.refl 79) rfl ?_
                  exact J_iret dc_Mo_kindAt_79 rfl h
                · have h := h.2 hc
                  refine J_sub [] rfl ?_
                  exact h
            · have h := h.2 hc
              refine J_iconst (v := (2 : Int32)) dc_Mo_kindAt_57 (Eq.refl 58) rfl ?_
              refine J_goto dc_Mo_kindAt_58 rfl ?_
              exact J_iret dc_Mo_kindAt_79 rfl h
          · have h := h.2 hc
            refine J_iconst (v := (1 : Int32)) dc_Mo_kindAt_47 (Eq.refl 48) rfl ?_
            refine J_goto dc_Mo_kindAt_48 rfl ?_
            exact J_iret dc_Mo_kindAt_79 rfl h
        · have h := h.2 hc
          refine J_iconst (v := (0 : Int32)) dc_Mo_kindAt_37 (Eq.refl 38) rfl ?_
          refine J_goto dc_Mo_kindAt_38 rfl ?_
          exact J_iret dc_Mo_kindAt_79 rfl h
      · have h := h.2 hc
        refine J_bipush (v := (6 : Int32)) dc_Mo_kindAt_26 (Eq.refl 28) rfl ?_
        refine J_goto dc_Mo_kindAt_28 rfl ?_
        exact J_iret dc_Mo_kindAt_79 rfl h
    · have h := h.2 hc
      refine J_iconst (v := (5 : Int32)) dc_Mo_kindAt_16 (Eq.refl 17) rfl ?_
      refine J_goto dc_Mo_kindAt_17 rfl ?_
      exact J_iret dc_Mo_kindAt_79 rfl h
  · have h := h.2 hc
    refine J_iconst (v := (4 : Int32)) dc_Mo_kindAt_6 (Eq.refl 7) rfl ?_
    refine J_goto dc_Mo_kindAt_7 rfl ?_
    exact J_iret dc_Mo_kindAt_79 rfl h
theorem b_Mo_kindAt_74 {E : En_t} {d : Nat} {σ : S_t} {Q : Option Value → S_t → Prop}
    (h : Q (some (.int (3 : Int32))) σ) :
    JE E (d + 1) m_Mo_kindAt 74 [] [] σ Q := by
  refine J_iconst (v := (3 : Int32)) dc_Mo_kindAt_74 (Eq.refl 75) rfl ?_
  refine J_goto dc_Mo_kindAt_75 rfl ?_
  exact J_iret dc_Mo_kindAt_79 rfl h
