theorem dc_Re_read_0 : decode m_Re_read.2.1 0 = .ok (.aload_n 0, 1) := by decide +kernel
theorem dc_Re_read_1 : decode m_Re_read.2.1 1 = .ok (.invokevirtual 39, 3) := by decide +kernel
theorem dc_Re_read_4 : decode m_Re_read.2.1 4 = .ok (.iconst 0, 1) := by decide +kernel
theorem dc_Re_read_5 : decode m_Re_read.2.1 5 = .ok (.istore_n 2, 1) := by decide +kernel
theorem dc_Re_read_6 : decode m_Re_read.2.1 6 = .ok (.iload_n 2, 1) := by decide +kernel
theorem dc_Re_read_7 : decode m_Re_read.2.1 7 = .ok (.sipush 4000, 3) := by decide +kernel
theorem dc_Re_read_10 : decode m_Re_read.2.1 10 = .ok (.if_icmp .gt 68, 3) := by decide +kernel
theorem dc_Re_read_13 : decode m_Re_read.2.1 13 = .ok (.aload_n 0, 1) := by decide +kernel
theorem dc_Re_read_14 : decode m_Re_read.2.1 14 = .ok (.getfield 42, 3) := by decide +kernel
theorem dc_Re_read_17 : decode m_Re_read.2.1 17 = .ok (.bipush 7, 2) := by decide +kernel
theorem dc_Re_read_19 : decode m_Re_read.2.1 19 = .ok (.if_icmp .eq 59, 3) := by decide +kernel
theorem dc_Re_read_22 : decode m_Re_read.2.1 22 = .ok (.aload_n 0, 1) := by decide +kernel
theorem dc_Re_read_23 : decode m_Re_read.2.1 23 = .ok (.getfield 46, 3) := by decide +kernel
theorem dc_Re_read_26 : decode m_Re_read.2.1 26 = .ok (.ifCond .ne 52, 3) := by decide +kernel
theorem dc_Re_read_29 : decode m_Re_read.2.1 29 = .ok (.aload_n 0, 1) := by decide +kernel
theorem dc_Re_read_30 : decode m_Re_read.2.1 30 = .ok (.getfield 42, 3) := by decide +kernel
theorem dc_Re_read_33 : decode m_Re_read.2.1 33 = .ok (.bipush 6, 2) := by decide +kernel
theorem dc_Re_read_35 : decode m_Re_read.2.1 35 = .ok (.if_icmp .ne 19, 3) := by decide +kernel
theorem dc_Re_read_38 : decode m_Re_read.2.1 38 = .ok (.aload_n 0, 1) := by decide +kernel
theorem dc_Re_read_39 : decode m_Re_read.2.1 39 = .ok (.aload_n 0, 1) := by decide +kernel
theorem dc_Re_read_40 : decode m_Re_read.2.1 40 = .ok (.getfield 12, 3) := by decide +kernel
theorem dc_Re_read_43 : decode m_Re_read.2.1 43 = .ok (.getfield 49, 3) := by decide +kernel
theorem dc_Re_read_46 : decode m_Re_read.2.1 46 = .ok (.iconst 1, 1) := by decide +kernel
theorem dc_Re_read_47 : decode m_Re_read.2.1 47 = .ok (.isub, 1) := by decide +kernel
theorem dc_Re_read_48 : decode m_Re_read.2.1 48 = .ok (.invokevirtual 52, 3) := by decide +kernel
theorem dc_Re_read_51 : decode m_Re_read.2.1 51 = .ok (.goto 21, 3) := by decide +kernel
theorem dc_Re_read_54 : decode m_Re_read.2.1 54 = .ok (.aload_n 0, 1) := by decide +kernel
theorem dc_Re_read_55 : decode m_Re_read.2.1 55 = .ok (.getfield 31, 3) := by decide +kernel
theorem dc_Re_read_58 : decode m_Re_read.2.1 58 = .ok (.invokevirtual 56, 3) := by decide +kernel
theorem dc_Re_read_61 : decode m_Re_read.2.1 61 = .ok (.aload_n 0, 1) := by decide +kernel
theorem dc_Re_read_62 : decode m_Re_read.2.1 62 = .ok (.aload_n 0, 1) := by decide +kernel
theorem dc_Re_read_63 : decode m_Re_read.2.1 63 = .ok (.getfield 31, 3) := by decide +kernel
theorem dc_Re_read_66 : decode m_Re_read.2.1 66 = .ok (.invokevirtual 61, 3) := by decide +kernel
theorem dc_Re_read_69 : decode m_Re_read.2.1 69 = .ok (.invokevirtual 65, 3) := by decide +kernel
theorem dc_Re_read_72 : decode m_Re_read.2.1 72 = .ok (.iinc 2 1, 3) := by decide +kernel
theorem dc_Re_read_75 : decode m_Re_read.2.1 75 = .ok (.goto (-69), 3) := by decide +kernel
theorem dc_Re_read_78 : decode m_Re_read.2.1 78 = .ok (.aload_n 0, 1) := by decide +kernel
theorem dc_Re_read_79 : decode m_Re_read.2.1 79 = .ok (.getfield 31, 3) := by decide +kernel
theorem dc_Re_read_82 : decode m_Re_read.2.1 82 = .ok (.invokevirtual 56, 3) := by decide +kernel
theorem dc_Re_read_85 : decode m_Re_read.2.1 85 = .ok (.aload_n 0, 1) := by decide +kernel
theorem dc_Re_read_86 : decode m_Re_read.2.1 86 = .ok (.getfield 46, 3) := by decide +kernel
theorem dc_Re_read_89 : decode m_Re_read.2.1 89 = .ok (.ifCond .ne 41, 3) := by decide +kernel
theorem dc_Re_read_92 : decode m_Re_read.2.1 92 = .ok (.aload_n 0, 1) := by decide +kernel
theorem dc_Re_read_93 : decode m_Re_read.2.1 93 = .ok (.getfield 42, 3) := by decide +kernel
theorem dc_Re_read_96 : decode m_Re_read.2.1 96 = .ok (.bipush 7, 2) := by decide +kernel
theorem dc_Re_read_98 : decode m_Re_read.2.1 98 = .ok (.if_icmp .ne 20, 3) := by decide +kernel
theorem dc_Re_read_101 : decode m_Re_read.2.1 101 = .ok (.aload_n 0, 1) := by decide +kernel
theorem dc_Re_read_102 : decode m_Re_read.2.1 102 = .ok (.getfield 31, 3) := by decide +kernel
theorem dc_Re_read_105 : decode m_Re_read.2.1 105 = .ok (.getfield 68, 3) := by decide +kernel
theorem dc_Re_read_108 : decode m_Re_read.2.1 108 = .ok (.aload_n 0, 1) := by decide +kernel
theorem dc_Re_read_109 : decode m_Re_read.2.1 109 = .ok (.getfield 31, 3) := by decide +kernel
theorem dc_Re_read_112 : decode m_Re_read.2.1 112 = .ok (.getfield 71, 3) := by decide +kernel
theorem dc_Re_read_115 : decode m_Re_read.2.1 115 = .ok (.if_icmp .ge 15, 3) := by decide +kernel
theorem dc_Re_read_118 : decode m_Re_read.2.1 118 = .ok (.aload_n 0, 1) := by decide +kernel
theorem dc_Re_read_119 : decode m_Re_read.2.1 119 = .ok (.iconst 1, 1) := by decide +kernel
theorem dc_Re_read_120 : decode m_Re_read.2.1 120 = .ok (.aload_n 0, 1) := by decide +kernel
theorem dc_Re_read_121 : decode m_Re_read.2.1 121 = .ok (.getfield 31, 3) := by decide +kernel
theorem dc_Re_read_124 : decode m_Re_read.2.1 124 = .ok (.getfield 68, 3) := by decide +kernel
theorem dc_Re_read_127 : decode m_Re_read.2.1 127 = .ok (.invokevirtual 74, 3) := by decide +kernel
theorem dc_Re_read_130 : decode m_Re_read.2.1 130 = .ok (.aload_n 0, 1) := by decide +kernel
theorem dc_Re_read_131 : decode m_Re_read.2.1 131 = .ok (.getfield 46, 3) := by decide +kernel
theorem dc_Re_read_134 : decode m_Re_read.2.1 134 = .ok (.ifCond .ne 8, 3) := by decide +kernel
theorem dc_Re_read_137 : decode m_Re_read.2.1 137 = .ok (.aload_n 0, 1) := by decide +kernel
theorem dc_Re_read_138 : decode m_Re_read.2.1 138 = .ok (.aload_n 1, 1) := by decide +kernel
theorem dc_Re_read_139 : decode m_Re_read.2.1 139 = .ok (.invokevirtual 78, 3) := by decide +kernel
theorem dc_Re_read_142 : decode m_Re_read.2.1 142 = .ok (.aload_n 0, 1) := by decide +kernel
theorem dc_Re_read_143 : decode m_Re_read.2.1 143 = .ok (.getfield 46, 3) := by decide +kernel
theorem dc_Re_read_146 : decode m_Re_read.2.1 146 = .ok (.ireturn, 1) := by decide +kernel
theorem b_Re_read_0 {E : En_t} {d : Nat} {σ : S_t} {Q : Option Value → S_t → Prop} {o1 : Nat} (hk_o1 : kindP o1 = 11)
    (h : CV E d m_Re_begin [pv E 63] σ (fun σ1 => JE E (d + 1) m_Re_read 6 [(0, pv E 63), (1, pv E o1), (2, .int (0 : Int32))] [] σ1 Q)) :
    JE E (d + 1) m_Re_read 0 [(0, pv E 63), (1, pv E o1)] [] σ Q := by
  refine J_aload_n dc_Re_read_0 (Eq.refl 1) 0 rfl ?_
  refine J_callVV (As := []) (st := []) dc_Re_read_1 (Eq.refl 4) lk_Re_39 mi_Re_begin rfl (Nat.le_of_ble_eq_true rfl) rfl rfl (Nat.le_of_ble_eq_true rfl) rfl (Nat.le_of_ble_eq_true rfl) (CV.mono h (fun σ1 h => ?_))
  refine J_iconst (v := (0 : Int32)) dc_Re_read_4 (Eq.refl 5) rfl ?_
  refine J_istore_n (L' := [(2, .int (0 : Int32)), (0, pv E 63), (1, pv E o1)]) dc_Re_read_5 (Eq.refl 6) (Nat.le_of_ble_eq_true rfl) rfl ?_
  refine J_sub [1, 2, 0] rfl ?_
  exact h
theorem b_Re_read_6 {E : En_t} {d : Nat} {σ : S_t} {Q : Option Value → S_t → Prop} {o1 : Nat} {x2 : Int32} (hk_o1 : kindP o1 = 11)
    (h : ((4000 : Int32) < x2 → JE E (d + 1) m_Re_read 78 [(0, pv E 63), (1, pv E o1)] [] σ Q) ∧ (¬ (4000 : Int32) < x2 → ((gI σ 63 7) = (7 : Int32) → JE E (d + 1) m_Re_read 78 [(0, pv E 63), (1, pv E o1)] [] σ Q) ∧ (¬ (gI σ 63 7) = (7 : Int32) → (¬ (gI σ 63 13) = 0 → JE E (d + 1) m_Re_read 78 [(0, pv E 63), (1, pv E o1)] [] σ Q) ∧ ((gI σ 63 13) = 0 → (¬ (gI σ 63 7) = (6 : Int32) → CV E d m_Te_skipBlanks [pv E 51] σ (fun σ1 => CI E d m_Te_here [pv E 51] σ1 (fun r3 σ2 => CV E d m_Re_readNext [pv E 63, .int r3] σ2 (fun σ4 => JE E (d + 1) m_Re_read 72 [(0, pv E 63), (1, pv E o1), (2, .int x2)] [] σ4 Q)))) ∧ ((gI σ 63 7) = (6 : Int32) → CV E d m_Re_readRest [pv E 63, .int ((gI σ 180 13) - (1 : Int32))] σ (fun σ5 => JE E (d + 1) m_Re_read 72 [(0, pv E 63), (1, pv E o1), (2, .int x2)] [] σ5 Q)))))) :
    JE E (d + 1) m_Re_read 6 [(0, pv E 63), (1, pv E o1), (2, .int x2)] [] σ Q := by
  refine J_iload_n dc_Re_read_6 (Eq.refl 7) 2 rfl ?_
  refine J_sipush (v := (4000 : Int32)) dc_Re_read_7 (Eq.refl 10) rfl ?_
  refine J_icmp_gt dc_Re_read_10 (Eq.refl 13) rfl (fun hc => ?_) (fun hc => ?_)
  · have h := h.1 hc
    refine J_sub [0, 1] rfl ?_
    exact h
  · have h := h.2 hc
    refine J_aload_n dc_Re_read_13 (Eq.refl 14) 0 rfl ?_
    refine J_getI dc_Re_read_14 (Eq.refl 17) fl_Re_42 (Nat.le_of_ble_eq_true rfl) rfl (Or.inl rfl) ?_
    refine J_bipush (v := (7 : Int32)) dc_Re_read_17 (Eq.refl 19) rfl ?_
    refine J_icmp_eq dc_Re_read_19 (Eq.refl 22) rfl (fun hc => ?_) (fun hc => ?_)
    · have h := h.1 hc
      refine J_sub [0, 1] rfl ?_
      exact h
    · have h := h.2 hc
      refine J_aload_n dc_Re_read_22 (Eq.refl 23) 0 rfl ?_
      refine J_getI dc_Re_read_23 (Eq.refl 26) fl_Re_46 (Nat.le_of_ble_eq_true rfl) rfl (Or.inl rfl) ?_
      refine J_if_ne dc_Re_read_26 (Eq.refl 29) rfl (fun hc => ?_) (fun hc => ?_)
      · have h := h.1 hc
        refine J_sub [0, 1] rfl ?_
        exact h
      · have h := h.2 hc
        refine J_aload_n dc_Re_read_29 (Eq.refl 30) 0 rfl ?_
        refine J_getI dc_Re_read_30 (Eq.refl 33) fl_Re_42 (Nat.le_of_ble_eq_true rfl) rfl (Or.inl rfl) ?_
        refine J_bipush (v := (6 : Int32)) dc_Re_read_33 (Eq.refl 35) rfl ?_
        refine J_icmp_ne dc_Re_read_35 (Eq.refl 38) rfl (fun hc => ?_) (fun hc => ?_)
        · have h := h.1 hc
          refine J_aload_n dc_Re_read_54 (Eq.refl 55) 0 rfl ?_
          refine J_getF (y := 51) dc_Re_read_55 (Eq.refl 58) fl_Re_31 (Nat.le_of_ble_eq_true rfl) rfl (Or.inr rfl) rfl ?_
          refine J_callVV (As := []) (st := []) dc_Re_read_58 (Eq.refl 61) lk_Re_56 mi_Te_skipBlanks rfl (Nat.le_of_ble_eq_true rfl) rfl rfl (Nat.le_of_ble_eq_true rfl) rfl (Nat.le_of_ble_eq_true rfl) (CV.mono h (fun σ1 h => ?_))
          refine J_aload_n dc_Re_read_61 (Eq.refl 62) 0 rfl ?_
          refine J_aload_n dc_Re_read_62 (Eq.refl 63) 0 rfl ?_
          refine J_getF (y := 51) dc_Re_read_63 (Eq.refl 66) fl_Re_31 (Nat.le_of_ble_eq_true rfl) rfl (Or.inr rfl) rfl ?_
          refine J_callVI (As := []) (st := [pv E 63]) dc_Re_read_66 (Eq.refl 69) lk_Re_61 mi_Te_here rfl (Nat.le_of_ble_eq_true rfl) rfl rfl (Nat.le_of_ble_eq_true rfl) rfl (Nat.le_of_ble_eq_true rfl) (CI.mono h (fun r3 σ2 h => ?_))
          refine J_callVV (As := [.int r3]) (st := []) dc_Re_read_69 (Eq.refl 72) lk_Re_65 mi_Re_readNext rfl (Nat.le_of_ble_eq_true rfl) rfl rfl (Nat.le_of_ble_eq_true rfl) rfl (Nat.le_of_ble_eq_true rfl) (CV.mono h (fun σ4 h => ?_))
          exact h
        · have h := h.2 hc
          refine J_aload_n dc_Re_read_38 (Eq.refl 39) 0 rfl ?_
          refine J_aload_n dc_Re_read_39 (Eq.refl 40) 0 rfl ?_
          refine J_getF (y := 180) dc_Re_read_40 (Eq.refl 43) fl_Re_12 (Nat.le_of_ble_eq_true rfl) rfl (Or.inr rfl) rfl ?_
          refine J_getI dc_Re_read_43 (Eq.refl 46) fl_Re_49 (Nat.le_of_ble_eq_true rfl) rfl (Or.inl rfl) ?_
          refine J_iconst (v := (1 : Int32)) dc_Re_read_46 (Eq.refl 47) rfl ?_
          refine J_isub dc_Re_read_47 (Eq.refl 48) ?_
          refine J_callVV (As := [.int ((gI σ 180 13) - (1 : Int32))]) (st := []) dc_Re_read_48 (Eq.refl 51) lk_Re_52 mi_Re_readRest rfl (Nat.le_of_ble_eq_true rfl) rfl rfl (Nat.le_of_ble_eq_true rfl) rfl (Nat.le_of_ble_eq_true rfl) (CV.mono h (fun σ5 h => ?_))
          refine J_goto dc_Re_read_51 rfl ?_
          exact h
theorem b_Re_read_72 {E : En_t} {d : Nat} {σ : S_t} {Q : Option Value → S_t → Prop} {o1 : Nat} {x2 : Int32} (hk_o1 : kindP o1 = 11)
    (h : JE E (d + 1) m_Re_read 6 [(0, pv E 63), (1, pv E o1), (2, .int (x2 + (1 : Int32)))] [] σ Q) :
    JE E (d + 1) m_Re_read 72 [(0, pv E 63), (1, pv E o1), (2, .int x2)] [] σ Q := by
  refine J_iinc (v := x2 + (1 : Int32)) (L' := [(2, .int (x2 + (1 : Int32))), (0, pv E 63), (1, pv E o1)]) dc_Re_read_72 (Eq.refl 75) 2 rfl rfl (Nat.le_of_ble_eq_true rfl) rfl ?_
  refine J_goto dc_Re_read_75 rfl ?_
  refine J_sub [1, 2, 0] rfl ?_
  exact h
theorem b_Re_read_78 {E : En_t} {d : Nat} {σ : S_t} {Q : Option Value → S_t → Prop} {o1 : Nat} (hk_o1 : kindP o1 = 11)
    (h : CV E d m_Te_skipBlanks [pv E 51] σ (fun σ1 => (¬ (gI σ1 63 13) = 0 → JE E (d + 1) m_Re_read 130 [(0, pv E 63), (1, pv E o1)] [] σ1 Q) ∧ ((gI σ1 63 13) = 0 → (¬ (gI σ1 63 7) = (7 : Int32) → JE E (d + 1) m_Re_read 118 [(0, pv E 63), (1, pv E o1)] [] σ1 Q) ∧ ((gI σ1 63 7) = (7 : Int32) → ((gI σ1 51 1) ≤ (gI σ1 51 2) → JE E (d + 1) m_Re_read 130 [(0, pv E 63), (1, pv E o1)] [] σ1 Q) ∧ (¬ (gI σ1 51 1) ≤ (gI σ1 51 2) → JE E (d + 1) m_Re_read 118 [(0, pv E 63), (1, pv E o1)] [] σ1 Q))))) :
    JE E (d + 1) m_Re_read 78 [(0, pv E 63), (1, pv E o1)] [] σ Q := by
  refine J_aload_n dc_Re_read_78 (Eq.refl 79) 0 rfl ?_
  refine J_getF (y := 51) dc_Re_read_79 (Eq.refl 82) fl_Re_31 (Nat.le_of_ble_eq_true rfl) rfl (Or.inr rfl) rfl ?_
  refine J_callVV (As := []) (st := []) dc_Re_read_82 (Eq.refl 85) lk_Re_56 mi_Te_skipBlanks rfl (Nat.le_of_ble_eq_true rfl) rfl rfl (Nat.le_of_ble_eq_true rfl) rfl (Nat.le_of_ble_eq_true rfl) (CV.mono h (fun σ1 h => ?_))
  refine J_aload_n dc_Re_read_85 (Eq.refl 86) 0 rfl ?_
  refine J_getI dc_Re_read_86 (Eq.refl 89) fl_Re_46 (Nat.le_of_ble_eq_true rfl) rfl (Or.inl rfl) ?_
  refine J_if_ne dc_Re_read_89 (Eq.refl 92) rfl (fun hc => ?_) (fun hc => ?_)
  · have h := h.1 hc
    exact h
  · have h := h.2 hc
    refine J_aload_n dc_Re_read_92 (Eq.refl 93) 0 rfl ?_
    refine J_getI dc_Re_read_93 (Eq.refl 96) fl_Re_42 (Nat.le_of_ble_eq_true rfl) rfl (Or.inl rfl) ?_
    refine J_bipush (v := (7 : Int32)) dc_Re_read_96 (Eq.refl 98) rfl ?_
    refine J_icmp_ne dc_Re_read_98 (Eq.refl 101) rfl (fun hc => ?_) (fun hc => ?_)
    · have h := h.1 hc
      exact h
    · have h := h.2 hc
      refine J_aload_n dc_Re_read_101 (Eq.refl 102) 0 rfl ?_
      refine J_getF (y := 51) dc_Re_read_102 (Eq.refl 105) fl_Re_31 (Nat.le_of_ble_eq_true rfl) rfl (Or.inr rfl) rfl ?_
      refine J_getI dc_Re_read_105 (Eq.refl 108) fl_Re_68 (Nat.le_of_ble_eq_true rfl) rfl (Or.inl rfl) ?_
      refine J_aload_n dc_Re_read_108 (Eq.refl 109) 0 rfl ?_
      refine J_getF (y := 51) dc_Re_read_109 (Eq.refl 112) fl_Re_31 (Nat.le_of_ble_eq_true rfl) rfl (Or.inr rfl) rfl ?_
      refine J_getI dc_Re_read_112 (Eq.refl 115) fl_Re_71 (Nat.le_of_ble_eq_true rfl) rfl (Or.inl rfl) ?_
      refine J_icmp_ge dc_Re_read_115 (Eq.refl 118) rfl (fun hc => ?_) (fun hc => ?_)
      · have h := h.1 hc
        exact h
      · have h := h.2 hc
        exact h
theorem b_Re_read_118 {E : En_t} {d : Nat} {σ : S_t} {Q : Option Value → S_t → Prop} {o1 : Nat} (hk_o1 : kindP o1 = 11)
    (h : CV E d m_Re_blame [pv E 63, .int (1 : Int32), .int (gI σ 51 2)] σ (fun σ1 => JE E (d + 1) m_Re_read 130 [(0, pv E 63), (1, pv E o1)] [] σ1 Q)) :
    JE E (d + 1) m_Re_read 118 [(0, pv E 63), (1, pv E o1)] [] σ Q := by
  refine J_aload_n dc_Re_read_118 (Eq.refl 119) 0 rfl ?_
  refine J_iconst (v := (1 : Int32)) dc_Re_read_119 (Eq.refl 120) rfl ?_
  refine J_aload_n dc_Re_read_120 (Eq.refl 121) 0 rfl ?_
  refine J_getF (y := 51) dc_Re_read_121 (Eq.refl 124) fl_Re_31 (Nat.le_of_ble_eq_true rfl) rfl (Or.inr rfl) rfl ?_
  refine J_getI dc_Re_read_124 (Eq.refl 127) fl_Re_68 (Nat.le_of_ble_eq_true rfl) rfl (Or.inl rfl) ?_
  refine J_callVV (As := [.int (1 : Int32), .int (gI σ 51 2)]) (st := []) dc_Re_read_127 (Eq.refl 130) lk_Re_74 mi_Re_blame rfl (Nat.le_of_ble_eq_true rfl) rfl rfl (Nat.le_of_ble_eq_true rfl) rfl (Nat.le_of_ble_eq_true rfl) (CV.mono h (fun σ1 h => ?_))
  exact h
theorem b_Re_read_130 {E : En_t} {d : Nat} {σ : S_t} {Q : Option Value → S_t → Prop} {o1 : Nat} (hk_o1 : kindP o1 = 11)
    (h : (¬ (gI σ 63 13) = 0 → Q (some (.int (gI σ 63 13))) σ) ∧ ((gI σ 63 13) = 0 → CV E d m_Re_arrange [pv E 63, pv E o1] σ (fun σ1 => Q (some (.int (gI σ1 63 13))) σ1))) :
    JE E (d + 1) m_Re_read 130 [(0, pv E 63), (1, pv E o1)] [] σ Q := by
  refine J_aload_n dc_Re_read_130 (Eq.refl 131) 0 rfl ?_
  refine J_getI dc_Re_read_131 (Eq.refl 134) fl_Re_46 (Nat.le_of_ble_eq_true rfl) rfl (Or.inl rfl) ?_
  refine J_if_ne dc_Re_read_134 (Eq.refl 137) rfl (fun hc => ?_) (fun hc => ?_)
  · have h := h.1 hc
    refine J_aload_n dc_Re_read_142 (Eq.refl 143) 0 rfl ?_
    refine J_getI dc_Re_read_143 (Eq.refl 146) fl_Re_46 (Nat.le_of_ble_eq_true rfl) rfl (Or.inl rfl) ?_
    exact J_iret dc_Re_read_146 rfl h
  · have h := h.2 hc
    refine J_aload_n dc_Re_read_137 (Eq.refl 138) 0 rfl ?_
    refine J_aload_n dc_Re_read_138 (Eq.refl 139) 1 rfl ?_
    refine J_callVV (As := [pv E o1]) (st := []) dc_Re_read_139 (Eq.refl 142) lk_Re_78 mi_Re_arrange rfl (Nat.le_of_ble_eq_true rfl) rfl rfl (Nat.le_of_ble_eq_true rfl) rfl (Nat.le_of_ble_eq_true rfl) (CV.mono h (fun σ1 h => ?_))
    refine J_aload_n dc_Re_read_142 (Eq.refl 143) 0 rfl ?_
    refine J_getI dc_Re_read_143 (Eq.refl 146) fl_Re_46 (Nat.le_of_ble_eq_true rfl) rfl (Or.inl rfl) ?_
    exact J_iret dc_Re_read_146 rfl h
theorem dc_Re_begin_0 : decode m_Re_begin.2.1 0 = .ok (.aload_n 0, 1) := by decide +kernel
theorem dc_Re_begin_1 : decode m_Re_begin.2.1 1 = .ok (.getfield 31, 3) := by decide +kernel
theorem dc_Re_begin_4 : decode m_Re_begin.2.1 4 = .ok (.iconst 0, 1) := by decide +kernel
theorem dc_Re_begin_5 : decode m_Re_begin.2.1 5 = .ok (.putfield 68, 3) := by decide +kernel
theorem dc_Re_begin_8 : decode m_Re_begin.2.1 8 = .ok (.aload_n 0, 1) := by decide +kernel
theorem dc_Re_begin_9 : decode m_Re_begin.2.1 9 = .ok (.getfield 12, 3) := by decide +kernel
theorem dc_Re_begin_12 : decode m_Re_begin.2.1 12 = .ok (.invokevirtual 82, 3) := by decide +kernel
theorem dc_Re_begin_15 : decode m_Re_begin.2.1 15 = .ok (.aload_n 0, 1) := by decide +kernel
theorem dc_Re_begin_16 : decode m_Re_begin.2.1 16 = .ok (.iconst 0, 1) := by decide +kernel
theorem dc_Re_begin_17 : decode m_Re_begin.2.1 17 = .ok (.putfield 42, 3) := by decide +kernel
theorem dc_Re_begin_20 : decode m_Re_begin.2.1 20 = .ok (.aload_n 0, 1) := by decide +kernel
theorem dc_Re_begin_21 : decode m_Re_begin.2.1 21 = .ok (.iconst (-1), 1) := by decide +kernel
theorem dc_Re_begin_22 : decode m_Re_begin.2.1 22 = .ok (.putfield 85, 3) := by decide +kernel
theorem dc_Re_begin_25 : decode m_Re_begin.2.1 25 = .ok (.aload_n 0, 1) := by decide +kernel
theorem dc_Re_begin_26 : decode m_Re_begin.2.1 26 = .ok (.iconst 0, 1) := by decide +kernel
theorem dc_Re_begin_27 : decode m_Re_begin.2.1 27 = .ok (.putfield 88, 3) := by decide +kernel
theorem dc_Re_begin_30 : decode m_Re_begin.2.1 30 = .ok (.aload_n 0, 1) := by decide +kernel
theorem dc_Re_begin_31 : decode m_Re_begin.2.1 31 = .ok (.iconst (-1), 1) := by decide +kernel
theorem dc_Re_begin_32 : decode m_Re_begin.2.1 32 = .ok (.putfield 91, 3) := by decide +kernel
theorem dc_Re_begin_35 : decode m_Re_begin.2.1 35 = .ok (.aload_n 0, 1) := by decide +kernel
theorem dc_Re_begin_36 : decode m_Re_begin.2.1 36 = .ok (.iconst 0, 1) := by decide +kernel
theorem dc_Re_begin_37 : decode m_Re_begin.2.1 37 = .ok (.putfield 94, 3) := by decide +kernel
theorem dc_Re_begin_40 : decode m_Re_begin.2.1 40 = .ok (.aload_n 0, 1) := by decide +kernel
theorem dc_Re_begin_41 : decode m_Re_begin.2.1 41 = .ok (.iconst 0, 1) := by decide +kernel
theorem dc_Re_begin_42 : decode m_Re_begin.2.1 42 = .ok (.putfield 97, 3) := by decide +kernel
theorem dc_Re_begin_45 : decode m_Re_begin.2.1 45 = .ok (.aload_n 0, 1) := by decide +kernel
theorem dc_Re_begin_46 : decode m_Re_begin.2.1 46 = .ok (.iconst 0, 1) := by decide +kernel
theorem dc_Re_begin_47 : decode m_Re_begin.2.1 47 = .ok (.putfield 46, 3) := by decide +kernel
theorem dc_Re_begin_50 : decode m_Re_begin.2.1 50 = .ok (.aload_n 0, 1) := by decide +kernel
theorem dc_Re_begin_51 : decode m_Re_begin.2.1 51 = .ok (.iconst (-1), 1) := by decide +kernel
theorem dc_Re_begin_52 : decode m_Re_begin.2.1 52 = .ok (.putfield 100, 3) := by decide +kernel
theorem dc_Re_begin_55 : decode m_Re_begin.2.1 55 = .ok (.return_, 1) := by decide +kernel
theorem b_Re_begin_0 {E : En_t} {d : Nat} {σ : S_t} {Q : Option Value → S_t → Prop}
    (h : CV E d m_Tr_clear [pv E 180] (sI σ 51 2 (0 : Int32)) (fun σ1 => ∀ σ2, σ2 = sI (sI (sI (sI (sI (sI (sI σ1 63 7 (0 : Int32)) 63 8 (-1 : Int32)) 63 9 (0 : Int32)) 63 12 (-1 : Int32)) 63 10 (0 : Int32)) 63 11 (0 : Int32)) 63 13 (0 : Int32) → (Q none (sI σ2 63 14 (-1 : Int32))))) :
    JE E (d + 1) m_Re_begin 0 [(0, pv E 63)] [] σ Q := by
  refine J_aload_n dc_Re_begin_0 (Eq.refl 1) 0 rfl ?_
  refine J_getF (y := 51) dc_Re_begin_1 (Eq.refl 4) fl_Re_31 (Nat.le_of_ble_eq_true rfl) rfl (Or.inr rfl) rfl ?_
  refine J_iconst (v := (0 : Int32)) dc_Re_begin_4 (Eq.refl 5) rfl ?_
  refine J_putI dc_Re_begin_5 (Eq.refl 8) pl_Re_68 (Nat.le_of_ble_eq_true rfl) rfl rfl ?_
  refine J_aload_n dc_Re_begin_8 (Eq.refl 9) 0 rfl ?_
  refine J_getF (y := 180) dc_Re_begin_9 (Eq.refl 12) fl_Re_12 (Nat.le_of_ble_eq_true rfl) rfl (Or.inr rfl) rfl ?_
  refine J_callVV (As := []) (st := []) dc_Re_begin_12 (Eq.refl 15) lk_Re_82 mi_Tr_clear rfl (Nat.le_of_ble_eq_true rfl) rfl rfl (Nat.le_of_ble_eq_true rfl) rfl (Nat.le_of_ble_eq_true rfl) (CV.mono h (fun σ1 h => ?_))
  refine J_aload_n dc_Re_begin_15 (Eq.refl 16) 0 rfl ?_
  refine J_iconst (v := (0 : Int32)) dc_Re_begin_16 (Eq.refl 17) rfl ?_
  refine J_putI dc_Re_begin_17 (Eq.refl 20) pl_Re_42 (Nat.le_of_ble_eq_true rfl) rfl rfl ?_
  refine J_aload_n dc_Re_begin_20 (Eq.refl 21) 0 rfl ?_
  refine J_iconst (v := (-1 : Int32)) dc_Re_begin_21 (Eq.refl 22) rfl ?_
  refine J_putI dc_Re_begin_22 (Eq.refl 25) pl_Re_85 (Nat.le_of_ble_eq_true rfl) rfl rfl ?_
  refine J_aload_n dc_Re_begin_25 (Eq.refl 26) 0 rfl ?_
  refine J_iconst (v := (0 : Int32)) dc_Re_begin_26 (Eq.refl 27) rfl ?_
  refine J_putI dc_Re_begin_27 (Eq.refl 30) pl_Re_88 (Nat.le_of_ble_eq_true rfl) rfl rfl ?_
  refine J_aload_n dc_Re_begin_30 (Eq.refl 31) 0 rfl ?_
  refine J_iconst (v := (-1 : Int32)) dc_Re_begin_31 (Eq.refl 32) rfl ?_
  refine J_putI dc_Re_begin_32 (Eq.refl 35) pl_Re_91 (Nat.le_of_ble_eq_true rfl) rfl rfl ?_
  refine J_aload_n dc_Re_begin_35 (Eq.refl 36) 0 rfl ?_
  refine J_iconst (v := (0 : Int32)) dc_Re_begin_36 (Eq.refl 37) rfl ?_
  refine J_putI dc_Re_begin_37 (Eq.refl 40) pl_Re_94 (Nat.le_of_ble_eq_true rfl) rfl rfl ?_
  refine J_aload_n dc_Re_begin_40 (Eq.refl 41) 0 rfl ?_
  refine J_iconst (v := (0 : Int32)) dc_Re_begin_41 (Eq.refl 42) rfl ?_
  refine J_putI dc_Re_begin_42 (Eq.refl 45) pl_Re_97 (Nat.le_of_ble_eq_true rfl) rfl rfl ?_
  refine J_aload_n dc_Re_begin_45 (Eq.refl 46) 0 rfl ?_
  refine J_iconst (v := (0 : Int32)) dc_Re_begin_46 (Eq.refl 47) rfl ?_
  refine J_putI dc_Re_begin_47 (Eq.refl 50) pl_Re_46 (Nat.le_of_ble_eq_true rfl) rfl rfl ?_
  refine J_st (fun σ2 eσ2 => ?_)
  have h := h σ2 eσ2
  refine J_aload_n dc_Re_begin_50 (Eq.refl 51) 0 rfl ?_
  refine J_iconst (v := (-1 : Int32)) dc_Re_begin_51 (Eq.refl 52) rfl ?_
  refine J_putI dc_Re_begin_52 (Eq.refl 55) pl_Re_100 (Nat.le_of_ble_eq_true rfl) rfl rfl ?_
  exact J_vret dc_Re_begin_55 rfl h
theorem dc_Re_wantBehindValue_0 : decode m_Re_wantBehindValue.2.1 0 = .ok (.aload_n 0, 1) := by decide +kernel
theorem dc_Re_wantBehindValue_1 : decode m_Re_wantBehindValue.2.1 1 = .ok (.aload_n 0, 1) := by decide +kernel
theorem dc_Re_wantBehindValue_2 : decode m_Re_wantBehindValue.2.1 2 = .ok (.getfield 85, 3) := by decide +kernel
theorem dc_Re_wantBehindValue_5 : decode m_Re_wantBehindValue.2.1 5 = .ok (.iconst (-1), 1) := by decide +kernel
theorem dc_Re_wantBehindValue_6 : decode m_Re_wantBehindValue.2.1 6 = .ok (.if_icmp .ne 8, 3) := by decide +kernel
theorem dc_Re_wantBehindValue_9 : decode m_Re_wantBehindValue.2.1 9 = .ok (.bipush 7, 2) := by decide +kernel
theorem dc_Re_wantBehindValue_11 : decode m_Re_wantBehindValue.2.1 11 = .ok (.goto 4, 3) := by decide +kernel
theorem dc_Re_wantBehindValue_14 : decode m_Re_wantBehindValue.2.1 14 = .ok (.iconst 5, 1) := by decide +kernel
theorem dc_Re_wantBehindValue_15 : decode m_Re_wantBehindValue.2.1 15 = .ok (.putfield 42, 3) := by decide +kernel
theorem dc_Re_wantBehindValue_18 : decode m_Re_wantBehindValue.2.1 18 = .ok (.return_, 1) := by decide +kernel
theorem b_Re_wantBehindValue_0 {E : En_t} {d : Nat} {σ : S_t} {Q : Option Value → S_t → Prop}
    (h : (¬ (gI σ 63 8) = (-1 : Int32) → Q none (sI σ 63 7 (5 : Int32))) ∧ ((gI σ 63 8) = (-1 : Int32) → Q none (sI σ 63 7 (7 : Int32)))) :
    JE E d m_Re_wantBehindValue 0 [(0, pv E 63)] [] σ Q := by
  refine J_aload_n dc_Re_wantBehindValue_0 (Eq.refl 1) 0 rfl ?_
  refine J_aload_n dc_Re_wantBehindValue_1 (Eq.refl 2) 0 rfl ?_
  refine J_getI dc_Re_wantBehindValue_2 (Eq.refl 5) fl_Re_85 (Nat.le_of_ble_eq_true rfl) rfl (Or.inl rfl) ?_
  refine J_iconst (v := (-1 : Int32)) dc_Re_wantBehindValue_5 (Eq.refl 6) rfl ?_
  refine J_icmp_ne dc_Re_wantBehindValue_6 (Eq.refl 9) rfl (fun hc => ?_) (fun hc => ?_)
  · have h := h.1 hc
    refine J_iconst (v := (5 : Int32)) dc_Re_wantBehindValue_14 (Eq.refl 15) rfl ?_
    refine J_putI dc_Re_wantBehindValue_15 (Eq.refl 18) pl_Re_42 (Nat.le_of_ble_eq_true rfl) rfl rfl ?_
    exact J_vret dc_Re_wantBehindValue_18 rfl h
  · have h := h.2 hc
    refine J_bipush (v := (7 : Int32)) dc_Re_wantBehindValue_9 (Eq.refl 11) rfl ?_
    refine J_goto dc_Re_wantBehindValue_11 rfl ?_
    refine J_putI dc_Re_wantBehindValue_15 (Eq.refl 18) pl_Re_42 (Nat.le_of_ble_eq_true rfl) rfl rfl ?_
    exact J_vret dc_Re_wantBehindValue_18 rfl h
theorem dc_Re_blame_0 : decode m_Re_blame.2.1 0 = .ok (.aload_n 0, 1) := by decide +kernel
theorem dc_Re_blame_1 : decode m_Re_blame.2.1 1 = .ok (.iload_n 1, 1) := by decide +kernel
theorem dc_Re_blame_2 : decode m_Re_blame.2.1 2 = .ok (.putfield 46, 3) := by decide +kernel
theorem dc_Re_blame_5 : decode m_Re_blame.2.1 5 = .ok (.aload_n 0, 1) := by decide +kernel
theorem dc_Re_blame_6 : decode m_Re_blame.2.1 6 = .ok (.iload_n 2, 1) := by decide +kernel
theorem dc_Re_blame_7 : decode m_Re_blame.2.1 7 = .ok (.putfield 100, 3) := by decide +kernel
theorem dc_Re_blame_10 : decode m_Re_blame.2.1 10 = .ok (.return_, 1) := by decide +kernel
theorem b_Re_blame_0 {E : En_t} {d : Nat} {σ : S_t} {Q : Option Value → S_t → Prop} {x1 : Int32} {x2 : Int32}
    (h : Q none (sI (sI σ 63 13 x1) 63 14 x2)) :
    JE E d m_Re_blame 0 [(0, pv E 63), (1, .int x1), (2, .int x2)] [] σ Q := by
  refine J_aload_n dc_Re_blame_0 (Eq.refl 1) 0 rfl ?_
  refine J_iload_n dc_Re_blame_1 (Eq.refl 2) 1 rfl ?_
  refine J_putI dc_Re_blame_2 (Eq.refl 5) pl_Re_46 (Nat.le_of_ble_eq_true rfl) rfl rfl ?_
  refine J_aload_n dc_Re_blame_5 (Eq.refl 6) 0 rfl ?_
  refine J_iload_n dc_Re_blame_6 (Eq.refl 7) 2 rfl ?_
  refine J_putI dc_Re_blame_7 (Eq.refl 10) pl_Re_100 (Nat.le_of_ble_eq_true rfl) rfl rfl ?_
  exact J_vret dc_Re_blame_10 rfl h
theorem dc_Re_readNumber_0 : decode m_Re_readNumber.2.1 0 = .ok (.aload_n 0, 1) := by decide +kernel
theorem dc_Re_readNumber_1 : decode m_Re_readNumber.2.1 1 = .ok (.getfield 31, 3) := by decide +kernel
theorem dc_Re_readNumber_4 : decode m_Re_readNumber.2.1 4 = .ok (.getfield 68, 3) := by decide +kernel
theorem dc_Re_readNumber_7 : decode m_Re_readNumber.2.1 7 = .ok (.istore_n 2, 1) := by decide +kernel
theorem dc_Re_readNumber_8 : decode m_Re_readNumber.2.1 8 = .ok (.aload_n 0, 1) := by decide +kernel
theorem dc_Re_readNumber_9 : decode m_Re_readNumber.2.1 9 = .ok (.getfield 35, 3) := by decide +kernel
theorem dc_Re_readNumber_12 : decode m_Re_readNumber.2.1 12 = .ok (.aload_n 0, 1) := by decide +kernel
theorem dc_Re_readNumber_13 : decode m_Re_readNumber.2.1 13 = .ok (.getfield 31, 3) := by decide +kernel
theorem dc_Re_readNumber_16 : decode m_Re_readNumber.2.1 16 = .ok (.invokevirtual 178, 3) := by decide +kernel
theorem dc_Re_readNumber_19 : decode m_Re_readNumber.2.1 19 = .ok (.ifCond .ne 16, 3) := by decide +kernel
theorem dc_Re_readNumber_22 : decode m_Re_readNumber.2.1 22 = .ok (.aload_n 0, 1) := by decide +kernel
theorem dc_Re_readNumber_23 : decode m_Re_readNumber.2.1 23 = .ok (.iconst 1, 1) := by decide +kernel
theorem dc_Re_readNumber_24 : decode m_Re_readNumber.2.1 24 = .ok (.aload_n 0, 1) := by decide +kernel
theorem dc_Re_readNumber_25 : decode m_Re_readNumber.2.1 25 = .ok (.getfield 31, 3) := by decide +kernel
theorem dc_Re_readNumber_28 : decode m_Re_readNumber.2.1 28 = .ok (.getfield 68, 3) := by decide +kernel
theorem dc_Re_readNumber_31 : decode m_Re_readNumber.2.1 31 = .ok (.invokevirtual 74, 3) := by decide +kernel
theorem dc_Re_readNumber_34 : decode m_Re_readNumber.2.1 34 = .ok (.return_, 1) := by decide +kernel
theorem dc_Re_readNumber_35 : decode m_Re_readNumber.2.1 35 = .ok (.aload_n 0, 1) := by decide +kernel
theorem dc_Re_readNumber_36 : decode m_Re_readNumber.2.1 36 = .ok (.getfield 12, 3) := by decide +kernel
theorem dc_Re_readNumber_39 : decode m_Re_readNumber.2.1 39 = .ok (.getfield 184, 3) := by decide +kernel
theorem dc_Re_readNumber_42 : decode m_Re_readNumber.2.1 42 = .ok (.iload_n 1, 1) := by decide +kernel
theorem dc_Re_readNumber_43 : decode m_Re_readNumber.2.1 43 = .ok (.aload_n 0, 1) := by decide +kernel
theorem dc_Re_readNumber_44 : decode m_Re_readNumber.2.1 44 = .ok (.getfield 35, 3) := by decide +kernel
theorem dc_Re_readNumber_47 : decode m_Re_readNumber.2.1 47 = .ok (.invokevirtual 188, 3) := by decide +kernel
theorem dc_Re_readNumber_50 : decode m_Re_readNumber.2.1 50 = .ok (.lastore, 1) := by decide +kernel
theorem dc_Re_readNumber_51 : decode m_Re_readNumber.2.1 51 = .ok (.aload_n 0, 1) := by decide +kernel
theorem dc_Re_readNumber_52 : decode m_Re_readNumber.2.1 52 = .ok (.getfield 12, 3) := by decide +kernel
theorem dc_Re_readNumber_55 : decode m_Re_readNumber.2.1 55 = .ok (.getfield 184, 3) := by decide +kernel
theorem dc_Re_readNumber_58 : decode m_Re_readNumber.2.1 58 = .ok (.iload_n 1, 1) := by decide +kernel
theorem dc_Re_readNumber_59 : decode m_Re_readNumber.2.1 59 = .ok (.laload, 1) := by decide +kernel
theorem dc_Re_readNumber_60 : decode m_Re_readNumber.2.1 60 = .ok (.invokestatic 192, 3) := by decide +kernel
theorem dc_Re_readNumber_63 : decode m_Re_readNumber.2.1 63 = .ok (.ifCond .ne 9, 3) := by decide +kernel
theorem dc_Re_readNumber_66 : decode m_Re_readNumber.2.1 66 = .ok (.aload_n 0, 1) := by decide +kernel
theorem dc_Re_readNumber_67 : decode m_Re_readNumber.2.1 67 = .ok (.iconst 2, 1) := by decide +kernel
theorem dc_Re_readNumber_68 : decode m_Re_readNumber.2.1 68 = .ok (.iload_n 2, 1) := by decide +kernel
theorem dc_Re_readNumber_69 : decode m_Re_readNumber.2.1 69 = .ok (.invokevirtual 74, 3) := by decide +kernel
theorem dc_Re_readNumber_72 : decode m_Re_readNumber.2.1 72 = .ok (.return_, 1) := by decide +kernel
theorem b_Re_readNumber_0 {E : En_t} {d : Nat} {σ : S_t} {Q : Option Value → S_t → Prop} {x1 : Int32}
    (h : CI E d m_Nu_scan [pv E 55, pv E 51] σ (fun r2 σ1 => (¬ r2 = 0 → CL E d m_Nu_toBits [pv E 55] σ1 (fun r4 σ3 => vp_in x1 500 ∧ (vp_in x1 500 ∧ (CI E d m_Cp_isNumber [.long (gL (sL σ3 187 x1.toNatClampNeg r4) 187 x1.toNatClampNeg)] (sL σ3 187 x1.toNatClampNeg r4) (fun r6 σ5 => (¬ r6 = 0 → Q none σ5) ∧ (r6 = 0 → CV E d m_Re_blame [pv E 63, .int (2 : Int32), .int (gI σ 51 2)] σ5 (fun σ7 => Q none σ7))))))) ∧ (r2 = 0 → CV E d m_Re_blame [pv E 63, .int (1 : Int32), .int (gI σ1 51 2)] σ1 (fun σ8 => Q none σ8)))) :
    JE E (d + 1) m_Re_readNumber 0 [(0, pv E 63), (1, .int x1)] [] σ Q := by
  refine J_aload_n dc_Re_readNumber_0 (Eq.refl 1) 0 rfl ?_
  refine J_getF (y := 51) dc_Re_readNumber_1 (Eq.refl 4) fl_Re_31 (Nat.le_of_ble_eq_true rfl) rfl (Or.inr rfl) rfl ?_
  refine J_getI dc_Re_readNumber_4 (Eq.refl 7) fl_Re_68 (Nat.le_of_ble_eq_true rfl) rfl (Or.inl rfl) ?_
  refine J_istore_n (L' := [(2, .int (gI σ 51 2)), (0, pv E 63), (1, .int x1)]) dc_Re_readNumber_7 (Eq.refl 8) (Nat.le_of_ble_eq_true rfl) rfl ?_
  refine J_aload_n dc_Re_readNumber_8 (Eq.refl 9) 1 rfl ?_
  refine J_getF (y := 55) dc_Re_readNumber_9 (Eq.refl 12) fl_Re_35 (Nat.le_of_ble_eq_true rfl) rfl (Or.inr rfl) rfl ?_
  refine J_aload_n dc_Re_readNumber_12 (Eq.refl 13) 1 rfl ?_
  refine J_getF (y := 51) dc_Re_readNumber_13 (Eq.refl 16) fl_Re_31 (Nat.le_of_ble_eq_true rfl) rfl (Or.inr rfl) rfl ?_
  refine J_callVI (As := [pv E 51]) (st := []) dc_Re_readNumber_16 (Eq.refl 19) lk_Re_178 mi_Nu_scan rfl (Nat.le_of_ble_eq_true rfl) rfl rfl (Nat.le_of_ble_eq_true rfl) rfl (Nat.le_of_ble_eq_true rfl) (CI.mono h (fun r2 σ1 h => ?_))
  refine J_if_ne dc_Re_readNumber_19 (Eq.refl 22) rfl (fun hc => ?_) (fun hc => ?_)
  · have h := h.1 hc
    refine J_aload_n dc_Re_readNumber_35 (Eq.refl 36) 1 rfl ?_
    refine J_getF (y := 180) dc_Re_readNumber_36 (Eq.refl 39) fl_Re_12 (Nat.le_of_ble_eq_true rfl) rfl (Or.inr rfl) rfl ?_
    refine J_getF (y := 187) dc_Re_readNumber_39 (Eq.refl 42) fl_Re_184 (Nat.le_of_ble_eq_true rfl) rfl (Or.inl rfl) rfl ?_
    refine J_iload_n dc_Re_readNumber_42 (Eq.refl 43) 2 rfl ?_
    refine J_aload_n dc_Re_readNumber_43 (Eq.refl 44) 1 rfl ?_
    refine J_getF (y := 55) dc_Re_readNumber_44 (Eq.refl 47) fl_Re_35 (Nat.le_of_ble_eq_true rfl) rfl (Or.inr rfl) rfl ?_
    refine J_callVL (As := []) (st := [.int x1, pv E 187]) dc_Re_readNumber_47 (Eq.refl 50) lk_Re_188 mi_Nu_toBits rfl (Nat.le_of_ble_eq_true rfl) rfl rfl (Nat.le_of_ble_eq_true rfl) rfl (Nat.le_of_ble_eq_true rfl) (CL.mono h (fun r4 σ3 h => ?_))
    obtain ⟨hg, h⟩ := h
    refine J_last dc_Re_readNumber_50 (Eq.refl 51) rfl rfl hg ?_
    refine J_aload_n dc_Re_readNumber_51 (Eq.refl 52) 1 rfl ?_
    refine J_getF (y := 180) dc_Re_readNumber_52 (Eq.refl 55) fl_Re_12 (Nat.le_of_ble_eq_true rfl) rfl (Or.inr rfl) rfl ?_
    refine J_getF (y := 187) dc_Re_readNumber_55 (Eq.refl 58) fl_Re_184 (Nat.le_of_ble_eq_true rfl) rfl (Or.inl rfl) rfl ?_
    refine J_iload_n dc_Re_readNumber_58 (Eq.refl 59) 2 rfl ?_
    obtain ⟨hg, h⟩ := h
    refine J_lald dc_Re_readNumber_59 (Eq.refl 60) rfl rfl hg ?_
    refine J_callSNI (As := [.long (gL (sL σ3 187 x1.toNatClampNeg r4) 187 x1.toNatClampNeg)]) (st := []) dc_Re_readNumber_60 (Eq.refl 63) (fun _ _ h => h.2.2.2.2.1) mi_Cp_isNumber (Nat.le_of_ble_eq_true rfl) rfl (Nat.le_of_ble_eq_true rfl) (CI.mono h (fun r6 σ5 h => ?_))
    refine J_if_ne dc_Re_readNumber_63 (Eq.refl 66) rfl (fun hc => ?_) (fun hc => ?_)
    · have h := h.1 hc
      exact J_vret dc_Re_readNumber_72 rfl h
    · have h := h.2 hc
      refine J_aload_n dc_Re_readNumber_66 (Eq.refl 67) 1 rfl ?_
      refine J_iconst (v := (2 : Int32)) dc_Re_readNumber_67 (Eq.refl 68) rfl ?_
      refine J_iload_n dc_Re_readNumber_68 (Eq.refl 69) 0 rfl ?_
      refine J_callVV (As := [.int (2 : Int32), .int (gI σ 51 2)]) (st := []) dc_Re_readNumber_69 (Eq.refl 72) lk_Re_74 mi_Re_blame rfl (Nat.le_of_ble_eq_true rfl) rfl rfl (Nat.le_of_ble_eq_true rfl) rfl (Nat.le_of_ble_eq_true rfl) (CV.mono h (fun σ7 h => ?_))
      exact J_vret dc_Re_readNumber_72 rfl h
  · have h := h.2 hc
    refine J_aload_n dc_Re_readNumber_22 (Eq.refl 23) 1 rfl ?_
    refine J_iconst (v := (1 : Int32)) dc_Re_readNumber_23 (Eq.refl 24) rfl ?_
    refine J_aload_n dc_Re_readNumber_24 (Eq.refl 25) 1 rfl ?_
    refine J_getF (y := 51) dc_Re_readNumber_25 (Eq.refl 28) fl_Re_31 (Nat.le_of_ble_eq_true rfl) rfl (Or.inr rfl) rfl ?_
    refine J_getI dc_Re_readNumber_28 (Eq.refl 31) fl_Re_68 (Nat.le_of_ble_eq_true rfl) rfl (Or.inl rfl) ?_
    refine J_callVV (As := [.int (1 : Int32), .int (gI σ1 51 2)]) (st := []) dc_Re_readNumber_31 (Eq.refl 34) lk_Re_74 mi_Re_blame rfl (Nat.le_of_ble_eq_true rfl) rfl rfl (Nat.le_of_ble_eq_true rfl) rfl (Nat.le_of_ble_eq_true rfl) (CV.mono h (fun σ8 h => ?_))
    exact J_vret dc_Re_readNumber_34 rfl h
theorem dc_Re_readString_0 : decode m_Re_readString.2.1 0 = .ok (.aload_n 0, 1) := by decide +kernel
theorem dc_Re_readString_1 : decode m_Re_readString.2.1 1 = .ok (.getfield 31, 3) := by decide +kernel
theorem dc_Re_readString_4 : decode m_Re_readString.2.1 4 = .ok (.dup, 1) := by decide +kernel
theorem dc_Re_readString_5 : decode m_Re_readString.2.1 5 = .ok (.getfield 68, 3) := by decide +kernel
theorem dc_Re_readString_8 : decode m_Re_readString.2.1 8 = .ok (.iconst 1, 1) := by decide +kernel
theorem dc_Re_readString_9 : decode m_Re_readString.2.1 9 = .ok (.iadd, 1) := by decide +kernel
theorem dc_Re_readString_10 : decode m_Re_readString.2.1 10 = .ok (.putfield 68, 3) := by decide +kernel
theorem dc_Re_readString_13 : decode m_Re_readString.2.1 13 = .ok (.iconst 0, 1) := by decide +kernel
theorem dc_Re_readString_14 : decode m_Re_readString.2.1 14 = .ok (.istore_n 1, 1) := by decide +kernel
theorem dc_Re_readString_15 : decode m_Re_readString.2.1 15 = .ok (.iconst 0, 1) := by decide +kernel
theorem dc_Re_readString_16 : decode m_Re_readString.2.1 16 = .ok (.istore_n 2, 1) := by decide +kernel
theorem dc_Re_readString_17 : decode m_Re_readString.2.1 17 = .ok (.iload_n 2, 1) := by decide +kernel
theorem dc_Re_readString_18 : decode m_Re_readString.2.1 18 = .ok (.sipush 2000, 3) := by decide +kernel
theorem dc_Re_readString_21 : decode m_Re_readString.2.1 21 = .ok (.if_icmp .ge 85, 3) := by decide +kernel
theorem dc_Re_readString_24 : decode m_Re_readString.2.1 24 = .ok (.iload_n 1, 1) := by decide +kernel
theorem dc_Re_readString_25 : decode m_Re_readString.2.1 25 = .ok (.iconst (-1), 1) := by decide +kernel
theorem dc_Re_readString_26 : decode m_Re_readString.2.1 26 = .ok (.if_icmp .eq 80, 3) := by decide +kernel
theorem dc_Re_readString_29 : decode m_Re_readString.2.1 29 = .ok (.aload_n 0, 1) := by decide +kernel
theorem dc_Re_readString_30 : decode m_Re_readString.2.1 30 = .ok (.getfield 31, 3) := by decide +kernel
theorem dc_Re_readString_33 : decode m_Re_readString.2.1 33 = .ok (.invokevirtual 61, 3) := by decide +kernel
theorem dc_Re_readString_36 : decode m_Re_readString.2.1 36 = .ok (.istore_n 3, 1) := by decide +kernel
theorem dc_Re_readString_37 : decode m_Re_readString.2.1 37 = .ok (.iload_n 3, 1) := by decide +kernel
theorem dc_Re_readString_38 : decode m_Re_readString.2.1 38 = .ok (.bipush 34, 2) := by decide +kernel
theorem dc_Re_readString_40 : decode m_Re_readString.2.1 40 = .ok (.if_icmp .ne 17, 3) := by decide +kernel
theorem dc_Re_readString_43 : decode m_Re_readString.2.1 43 = .ok (.aload_n 0, 1) := by decide +kernel
theorem dc_Re_readString_44 : decode m_Re_readString.2.1 44 = .ok (.getfield 31, 3) := by decide +kernel
theorem dc_Re_readString_47 : decode m_Re_readString.2.1 47 = .ok (.dup, 1) := by decide +kernel
theorem dc_Re_readString_48 : decode m_Re_readString.2.1 48 = .ok (.getfield 68, 3) := by decide +kernel
theorem dc_Re_readString_51 : decode m_Re_readString.2.1 51 = .ok (.iconst 1, 1) := by decide +kernel
theorem dc_Re_readString_52 : decode m_Re_readString.2.1 52 = .ok (.iadd, 1) := by decide +kernel
theorem dc_Re_readString_53 : decode m_Re_readString.2.1 53 = .ok (.putfield 68, 3) := by decide +kernel
theorem dc_Re_readString_56 : decode m_Re_readString.2.1 56 = .ok (.return_, 1) := by decide +kernel
theorem dc_Re_readString_57 : decode m_Re_readString.2.1 57 = .ok (.iconst (-1), 1) := by decide +kernel
theorem dc_Re_readString_58 : decode m_Re_readString.2.1 58 = .ok (.istore_n 1, 1) := by decide +kernel
theorem dc_Re_readString_59 : decode m_Re_readString.2.1 59 = .ok (.iload_n 3, 1) := by decide +kernel
theorem dc_Re_readString_60 : decode m_Re_readString.2.1 60 = .ok (.bipush 92, 2) := by decide +kernel
theorem dc_Re_readString_62 : decode m_Re_readString.2.1 62 = .ok (.if_icmp .ne 11, 3) := by decide +kernel
theorem dc_Re_readString_65 : decode m_Re_readString.2.1 65 = .ok (.aload_n 0, 1) := by decide +kernel
theorem dc_Re_readString_66 : decode m_Re_readString.2.1 66 = .ok (.invokevirtual 203, 3) := by decide +kernel
theorem dc_Re_readString_69 : decode m_Re_readString.2.1 69 = .ok (.istore_n 1, 1) := by decide +kernel
theorem dc_Re_readString_70 : decode m_Re_readString.2.1 70 = .ok (.goto 17, 3) := by decide +kernel
theorem dc_Re_readString_73 : decode m_Re_readString.2.1 73 = .ok (.iload_n 3, 1) := by decide +kernel
theorem dc_Re_readString_74 : decode m_Re_readString.2.1 74 = .ok (.bipush 32, 2) := by decide +kernel
theorem dc_Re_readString_76 : decode m_Re_readString.2.1 76 = .ok (.if_icmp .lt 11, 3) := by decide +kernel
theorem dc_Re_readString_79 : decode m_Re_readString.2.1 79 = .ok (.aload_n 0, 1) := by decide +kernel
theorem dc_Re_readString_80 : decode m_Re_readString.2.1 80 = .ok (.getfield 31, 3) := by decide +kernel
theorem dc_Re_readString_83 : decode m_Re_readString.2.1 83 = .ok (.invokevirtual 206, 3) := by decide +kernel
theorem dc_Re_readString_86 : decode m_Re_readString.2.1 86 = .ok (.istore_n 1, 1) := by decide +kernel
theorem dc_Re_readString_87 : decode m_Re_readString.2.1 87 = .ok (.iload_n 1, 1) := by decide +kernel
theorem dc_Re_readString_88 : decode m_Re_readString.2.1 88 = .ok (.iconst (-1), 1) := by decide +kernel
theorem dc_Re_readString_89 : decode m_Re_readString.2.1 89 = .ok (.if_icmp .eq 11, 3) := by decide +kernel
theorem dc_Re_readString_92 : decode m_Re_readString.2.1 92 = .ok (.aload_n 0, 1) := by decide +kernel
theorem dc_Re_readString_93 : decode m_Re_readString.2.1 93 = .ok (.getfield 12, 3) := by decide +kernel
theorem dc_Re_readString_96 : decode m_Re_readString.2.1 96 = .ok (.iload_n 1, 1) := by decide +kernel
theorem dc_Re_readString_97 : decode m_Re_readString.2.1 97 = .ok (.invokevirtual 209, 3) := by decide +kernel
theorem dc_Re_readString_100 : decode m_Re_readString.2.1 100 = .ok (.iinc 2 1, 3) := by decide +kernel
theorem dc_Re_readString_103 : decode m_Re_readString.2.1 103 = .ok (.goto (-86), 3) := by decide +kernel
theorem dc_Re_readString_106 : decode m_Re_readString.2.1 106 = .ok (.aload_n 0, 1) := by decide +kernel
theorem dc_Re_readString_107 : decode m_Re_readString.2.1 107 = .ok (.iconst 1, 1) := by decide +kernel
theorem dc_Re_readString_108 : decode m_Re_readString.2.1 108 = .ok (.aload_n 0, 1) := by decide +kernel
theorem dc_Re_readString_109 : decode m_Re_readString.2.1 109 = .ok (.getfield 31, 3) := by decide +kernel
theorem dc_Re_readString_112 : decode m_Re_readString.2.1 112 = .ok (.getfield 68, 3) := by decide +kernel
theorem dc_Re_readString_115 : decode m_Re_readString.2.1 115 = .ok (.invokevirtual 74, 3) := by decide +kernel
theorem dc_Re_readString_118 : decode m_Re_readString.2.1 118 = .ok (.return_, 1) := by decide +kernel
theorem b_Re_readString_0 {E : En_t} {d : Nat} {σ : S_t} {Q : Option Value → S_t → Prop}
    (h : JE E (d + 1) m_Re_readString 17 [(0, pv E 63), (1, .int (0 : Int32)), (2, .int (0 : Int32))] [] (sI σ 51 2 ((gI σ 51 2) + (1 : Int32))) Q) :
    JE E (d + 1) m_Re_readString 0 [(0, pv E 63)] [] σ Q := by
  refine J_aload_n dc_Re_readString_0 (Eq.refl 1) 0 rfl ?_
  refine J_getF (y := 51) dc_Re_readString_1 (Eq.refl 4) fl_Re_31 (Nat.le_of_ble_eq_true rfl) rfl (Or.inr rfl) rfl ?_
  refine J_dup dc_Re_readString_4 (Eq.refl 5) rfl ?_
  refine J_getI dc_Re_readString_5 (Eq.refl 8) fl_Re_68 (Nat.le_of_ble_eq_true rfl) rfl (Or.inl rfl) ?_
  refine J_iconst (v := (1 : Int32)) dc_Re_readString_8 (Eq.refl 9) rfl ?_
  refine J_iadd dc_Re_readString_9 (Eq.refl 10) ?_
  refine J_putI dc_Re_readString_10 (Eq.refl 13) pl_Re_68 (Nat.le_of_ble_eq_true rfl) rfl rfl ?_
  refine J_iconst (v := (0 : Int32)) dc_Re_readString_13 (Eq.refl 14) rfl ?_
  refine J_istore_n (L' := [(1, .int (0 : Int32)), (0, pv E 63)]) dc_Re_readString_14 (Eq.refl 15) (Nat.le_of_ble_eq_true rfl) rfl ?_
  refine J_iconst (v := (0 : Int32)) dc_Re_readString_15 (Eq.refl 16) rfl ?_
  refine J_istore_n (L' := [(2, .int (0 : Int32)), (1, .int (0 : Int32)), (0, pv E 63)]) dc_Re_readString_16 (Eq.refl 17) (Nat.le_of_ble_eq_true rfl) rfl ?_
  refine J_sub [2, 1, 0] rfl ?_
  exact h
theorem b_Re_readString_17 {E : En_t} {d : Nat} {σ : S_t} {Q : Option Value → S_t → Prop} {x1 : Int32} {x2 : Int32}
    (h : ((2000 : Int32) ≤ x2 → JE E (d + 1) m_Re_readString 106 [(0, pv E 63)] [] σ Q) ∧ (¬ (2000 : Int32) ≤ x2 → (x1 = (-1 : Int32) → JE E (d + 1) m_Re_readString 106 [(0, pv E 63)] [] σ Q) ∧ (¬ x1 = (-1 : Int32) → CI E d m_Te_here [pv E 51] σ (fun r2 σ1 => (¬ r2 = (34 : Int32) → (¬ r2 = (92 : Int32) → (r2 < (32 : Int32) → JE E (d + 1) m_Re_readString 87 [(0, pv E 63), (1, .int (-1 : Int32)), (2, .int x2)] [] σ1 Q) ∧ (¬ r2 < (32 : Int32) → CI E d m_Te_nextCharacter [pv E 51] σ1 (fun r4 σ3 => JE E (d + 1) m_Re_readString 87 [(0, pv E 63), (1, .int r4), (2, .int x2)] [] σ3 Q))) ∧ (r2 = (92 : Int32) → CI E d m_Re_readEscape [pv E 63] σ1 (fun r6 σ5 => JE E (d + 1) m_Re_readString 87 [(0, pv E 63), (1, .int r6), (2, .int x2)] [] σ5 Q))) ∧ (r2 = (34 : Int32) → Q none (sI σ1 51 2 ((gI σ1 51 2) + (1 : Int32)))))))) :
    JE E (d + 1) m_Re_readString 17 [(0, pv E 63), (1, .int x1), (2, .int x2)] [] σ Q := by
  refine J_iload_n dc_Re_readString_17 (Eq.refl 18) 2 rfl ?_
  refine J_sipush (v := (2000 : Int32)) dc_Re_readString_18 (Eq.refl 21) rfl ?_
  refine J_icmp_ge dc_Re_readString_21 (Eq.refl 24) rfl (fun hc => ?_) (fun hc => ?_)
  · have h := h.1 hc
    refine J_sub [0] rfl ?_
    exact h
  · have h := h.2 hc
    refine J_iload_n dc_Re_readString_24 (Eq.refl 25) 1 rfl ?_
    refine J_iconst (v := (-1 : Int32)) dc_Re_readString_25 (Eq.refl 26) rfl ?_
    refine J_icmp_eq dc_Re_readString_26 (Eq.refl 29) rfl (fun hc => ?_) (fun hc => ?_)
    · have h := h.1 hc
      refine J_sub [0] rfl ?_
      exact h
    · have h := h.2 hc
      refine J_aload_n dc_Re_readString_29 (Eq.refl 30) 0 rfl ?_
      refine J_getF (y := 51) dc_Re_readString_30 (Eq.refl 33) fl_Re_31 (Nat.le_of_ble_eq_true rfl) rfl (Or.inr rfl) rfl ?_
      refine J_callVI (As := []) (st := []) dc_Re_readString_33 (Eq.refl 36) lk_Re_61 mi_Te_here rfl (Nat.le_of_ble_eq_true rfl) rfl rfl (Nat.le_of_ble_eq_true rfl) rfl (Nat.le_of_ble_eq_true rfl) (CI.mono h (fun r2 σ1 h => ?_))
      refine J_istore_n (L' := [(3, .int r2), (0, pv E 63), (1, .int x1), (2, .int x2)]) dc_Re_readString_36 (Eq.refl 37) (Nat.le_of_ble_eq_true rfl) rfl ?_
      refine J_iload_n dc_Re_readString_37 (Eq.refl 38) 0 rfl ?_
      refine J_bipush (v := (34 : Int32)) dc_Re_readString_38 (Eq.refl 40) rfl ?_
      refine J_icmp_ne dc_Re_readString_40 (Eq.refl 43) rfl (fun hc => ?_) (fun hc => ?_)
      · have h := h.1 hc
        refine J_iconst (v := (-1 : Int32)) dc_Re_readString_57 (Eq.refl 58) rfl ?_
        refine J_istore_n (L' := [(1, .int (-1 : Int32)), (3, .int r2), (0, pv E 63), (2, .int x2)]) dc_Re_readString_58 (Eq.refl 59) (Nat.le_of_ble_eq_true rfl) rfl ?_
        refine J_iload_n dc_Re_readString_59 (Eq.refl 60) 1 rfl ?_
        refine J_bipush (v := (92 : Int32)) dc_Re_readString_60 (Eq.refl 62) rfl ?_
        refine J_icmp_ne dc_Re_readString_62 (Eq.refl 65) rfl (fun hc => ?_) (fun hc => ?_)
        · have h := h.1 hc
          refine J_iload_n dc_Re_readString_73 (Eq.refl 74) 1 rfl ?_
          refine J_bipush (v := (32 : Int32)) dc_Re_readString_74 (Eq.refl 76) rfl ?_
          refine J_icmp_lt dc_Re_readString_76 (Eq.refl 79) rfl (fun hc => ?_) (fun hc => ?_)
          · have h := h.1 hc
            refine J_sub [2, 0, 3] rfl ?_
            exact h
          · have h := h.2 hc
            refine J_aload_n dc_Re_readString_79 (Eq.refl 80) 2 rfl ?_
            refine J_getF (y := 51) dc_Re_readString_80 (Eq.refl 83) fl_Re_31 (Nat.le_of_ble_eq_true rfl) rfl (Or.inr rfl) rfl ?_
            refine J_callVI (As := []) (st := []) dc_Re_readString_83 (Eq.refl 86) lk_Re_206 mi_Te_nextCharacter rfl (Nat.le_of_ble_eq_true rfl) rfl rfl (Nat.le_of_ble_eq_true rfl) rfl (Nat.le_of_ble_eq_true rfl) (CI.mono h (fun r4 σ3 h => ?_))
            refine J_istore_n (L' := [(1, .int r4), (3, .int r2), (0, pv E 63), (2, .int x2)]) dc_Re_readString_86 (Eq.refl 87) (Nat.le_of_ble_eq_true rfl) rfl ?_
            refine J_sub [2, 0, 3] rfl ?_
            exact h
        · have h := h.2 hc
          refine J_aload_n dc_Re_readString_65 (Eq.refl 66) 2 rfl ?_
          refine J_callVI (As := []) (st := []) dc_Re_readString_66 (Eq.refl 69) lk_Re_203 mi_Re_readEscape rfl (Nat.le_of_ble_eq_true rfl) rfl rfl (Nat.le_of_ble_eq_true rfl) rfl (Nat.le_of_ble_eq_true rfl) (CI.mono h (fun r6 σ5 h => ?_))
          refine J_istore_n (L' := [(1, .int r6), (3, .int r2), (0, pv E 63), (2, .int x2)]) dc_Re_readString_69 (Eq.refl 70) (Nat.le_of_ble_eq_true rfl) rfl ?_
          refine J_goto dc_Re_readString_70 rfl ?_
          refine J_sub [2, 0, 3] rfl ?_
          exact h
      · have h := h.2 hc
        refine J_aload_n dc_Re_readString_43 (Eq.refl 44) 1 rfl ?_
        refine J_getF (y := 51) dc_Re_readString_44 (Eq.refl 47) fl_Re_31 (Nat.le_of_ble_eq_true rfl) rfl (Or.inr rfl) rfl ?_
        refine J_dup dc_Re_readString_47 (Eq.refl 48) rfl ?_
        refine J_getI dc_Re_readString_48 (Eq.refl 51) fl_Re_68 (Nat.le_of_ble_eq_true rfl) rfl (Or.inl rfl) ?_
        refine J_iconst (v := (1 : Int32)) dc_Re_readString_51 (Eq.refl 52) rfl ?_
        refine J_iadd dc_Re_readString_52 (Eq.refl 53) ?_
        refine J_putI dc_Re_readString_53 (Eq.refl 56) pl_Re_68 (Nat.le_of_ble_eq_true rfl) rfl rfl ?_
        exact J_vret dc_Re_readString_56 rfl h
theorem b_Re_readString_87 {E : En_t} {d : Nat} {σ : S_t} {Q : Option Value → S_t → Prop} {x1 : Int32} {x2 : Int32}
    (h : (x1 = (-1 : Int32) → JE E (d + 1) m_Re_readString 100 [(0, pv E 63), (1, .int x1), (2, .int x2)] [] σ Q) ∧ (¬ x1 = (-1 : Int32) → CV E d m_Tr_addCharacter [pv E 180, .int x1] σ (fun σ1 => JE E (d + 1) m_Re_readString 100 [(0, pv E 63), (1, .int x1), (2, .int x2)] [] σ1 Q))) :
    JE E (d + 1) m_Re_readString 87 [(0, pv E 63), (1, .int x1), (2, .int x2)] [] σ Q := by
  refine J_iload_n dc_Re_readString_87 (Eq.refl 88) 1 rfl ?_
  refine J_iconst (v := (-1 : Int32)) dc_Re_readString_88 (Eq.refl 89) rfl ?_
  refine J_icmp_eq dc_Re_readString_89 (Eq.refl 92) rfl (fun hc => ?_) (fun hc => ?_)
  · have h := h.1 hc
    exact h
  · have h := h.2 hc
    refine J_aload_n dc_Re_readString_92 (Eq.refl 93) 0 rfl ?_
    refine J_getF (y := 180) dc_Re_readString_93 (Eq.refl 96) fl_Re_12 (Nat.le_of_ble_eq_true rfl) rfl (Or.inr rfl) rfl ?_
    refine J_iload_n dc_Re_readString_96 (Eq.refl 97) 1 rfl ?_
    refine J_callVV (As := [.int x1]) (st := []) dc_Re_readString_97 (Eq.refl 100) lk_Re_209 mi_Tr_addCharacter rfl (Nat.le_of_ble_eq_true rfl) rfl rfl (Nat.le_of_ble_eq_true rfl) rfl (Nat.le_of_ble_eq_true rfl) (CV.mono h (fun σ1 h => ?_))
    exact h
theorem b_Re_readString_100 {E : En_t} {d : Nat} {σ : S_t} {Q : Option Value → S_t → Prop} {x1 : Int32} {x2 : Int32}
    (h : JE E (d + 1) m_Re_readString 17 [(0, pv E 63), (1, .int x1), (2, .int (x2 + (1 : Int32)))] [] σ Q) :
    JE E (d + 1) m_Re_readString 100 [(0, pv E 63), (1, .int x1), (2, .int x2)] [] σ Q := by
  refine J_iinc (v := x2 + (1 : Int32)) (L' := [(2, .int (x2 + (1 : Int32))), (0, pv E 63), (1, .int x1)]) dc_Re_readString_100 (Eq.refl 103) 2 rfl rfl (Nat.le_of_ble_eq_true rfl) rfl ?_
  refine J_goto dc_Re_readString_103 rfl ?_
  refine J_sub [1, 2, 0] rfl ?_
  exact h
theorem b_Re_readString_106 {E : En_t} {d : Nat} {σ : S_t} {Q : Option Value → S_t → Prop}
    (h : CV E d m_Re_blame [pv E 63, .int (1 : Int32), .int (gI σ 51 2)] σ (fun σ1 => Q none σ1)) :
    JE E (d + 1) m_Re_readString 106 [(0, pv E 63)] [] σ Q := by
  refine J_aload_n dc_Re_readString_106 (Eq.refl 107) 0 rfl ?_
  refine J_iconst (v := (1 : Int32)) dc_Re_readString_107 (Eq.refl 108) rfl ?_
  refine J_aload_n dc_Re_readString_108 (Eq.refl 109) 0 rfl ?_
  refine J_getF (y := 51) dc_Re_readString_109 (Eq.refl 112) fl_Re_31 (Nat.le_of_ble_eq_true rfl) rfl (Or.inr rfl) rfl ?_
  refine J_getI dc_Re_readString_112 (Eq.refl 115) fl_Re_68 (Nat.le_of_ble_eq_true rfl) rfl (Or.inl rfl) ?_
  refine J_callVV (As := [.int (1 : Int32), .int (gI σ 51 2)]) (st := []) dc_Re_readString_115 (Eq.refl 118) lk_Re_74 mi_Re_blame rfl (Nat.le_of_ble_eq_true rfl) rfl rfl (Nat.le_of_ble_eq_true rfl) rfl (Nat.le_of_ble_eq_true rfl) (CV.mono h (fun σ1 h => ?_))
  exact J_vret dc_Re_readString_118 rfl h
theorem dc_Re_readEscape_0 : decode m_Re_readEscape.2.1 0 = .ok (.aload_n 0, 1) := by decide +kernel
theorem dc_Re_readEscape_1 : decode m_Re_readEscape.2.1 1 = .ok (.getfield 31, 3) := by decide +kernel
theorem dc_Re_readEscape_4 : decode m_Re_readEscape.2.1 4 = .ok (.dup, 1) := by decide +kernel
theorem dc_Re_readEscape_5 : decode m_Re_readEscape.2.1 5 = .ok (.getfield 68, 3) := by decide +kernel
theorem dc_Re_readEscape_8 : decode m_Re_readEscape.2.1 8 = .ok (.iconst 1, 1) := by decide +kernel
theorem dc_Re_readEscape_9 : decode m_Re_readEscape.2.1 9 = .ok (.iadd, 1) := by decide +kernel
theorem dc_Re_readEscape_10 : decode m_Re_readEscape.2.1 10 = .ok (.putfield 68, 3) := by decide +kernel
theorem dc_Re_readEscape_13 : decode m_Re_readEscape.2.1 13 = .ok (.aload_n 0, 1) := by decide +kernel
theorem dc_Re_readEscape_14 : decode m_Re_readEscape.2.1 14 = .ok (.getfield 31, 3) := by decide +kernel
theorem dc_Re_readEscape_17 : decode m_Re_readEscape.2.1 17 = .ok (.bipush 117, 2) := by decide +kernel
theorem dc_Re_readEscape_19 : decode m_Re_readEscape.2.1 19 = .ok (.invokevirtual 119, 3) := by decide +kernel
theorem dc_Re_readEscape_22 : decode m_Re_readEscape.2.1 22 = .ok (.ifCond .ne 15, 3) := by decide +kernel
theorem dc_Re_readEscape_25 : decode m_Re_readEscape.2.1 25 = .ok (.aload_n 0, 1) := by decide +kernel
theorem dc_Re_readEscape_26 : decode m_Re_readEscape.2.1 26 = .ok (.aload_n 0, 1) := by decide +kernel
theorem dc_Re_readEscape_27 : decode m_Re_readEscape.2.1 27 = .ok (.getfield 31, 3) := by decide +kernel
theorem dc_Re_readEscape_30 : decode m_Re_readEscape.2.1 30 = .ok (.invokevirtual 61, 3) := by decide +kernel
theorem dc_Re_readEscape_33 : decode m_Re_readEscape.2.1 33 = .ok (.invokevirtual 212, 3) := by decide +kernel
theorem dc_Re_readEscape_36 : decode m_Re_readEscape.2.1 36 = .ok (.ireturn, 1) := by decide +kernel
theorem dc_Re_readEscape_37 : decode m_Re_readEscape.2.1 37 = .ok (.aload_n 0, 1) := by decide +kernel
theorem dc_Re_readEscape_38 : decode m_Re_readEscape.2.1 38 = .ok (.invokevirtual 215, 3) := by decide +kernel
theorem dc_Re_readEscape_41 : decode m_Re_readEscape.2.1 41 = .ok (.istore_n 1, 1) := by decide +kernel
theorem dc_Re_readEscape_42 : decode m_Re_readEscape.2.1 42 = .ok (.iload_n 1, 1) := by decide +kernel
theorem dc_Re_readEscape_43 : decode m_Re_readEscape.2.1 43 = .ok (.ldc 218, 2) := by decide +kernel
theorem dc_Re_readEscape_45 : decode m_Re_readEscape.2.1 45 = .ok (.if_icmp .lt 9, 3) := by decide +kernel
theorem dc_Re_readEscape_48 : decode m_Re_readEscape.2.1 48 = .ok (.iload_n 1, 1) := by decide +kernel
theorem dc_Re_readEscape_49 : decode m_Re_readEscape.2.1 49 = .ok (.ldc 219, 2) := by decide +kernel
theorem dc_Re_readEscape_51 : decode m_Re_readEscape.2.1 51 = .ok (.if_icmp .le 5, 3) := by decide +kernel
theorem dc_Re_readEscape_54 : decode m_Re_readEscape.2.1 54 = .ok (.iload_n 1, 1) := by decide +kernel
theorem dc_Re_readEscape_55 : decode m_Re_readEscape.2.1 55 = .ok (.ireturn, 1) := by decide +kernel
theorem dc_Re_readEscape_56 : decode m_Re_readEscape.2.1 56 = .ok (.iload_n 1, 1) := by decide +kernel
theorem dc_Re_readEscape_57 : decode m_Re_readEscape.2.1 57 = .ok (.ldc 220, 2) := by decide +kernel
theorem dc_Re_readEscape_59 : decode m_Re_readEscape.2.1 59 = .ok (.if_icmp .lt 18, 3) := by decide +kernel
theorem dc_Re_readEscape_62 : decode m_Re_readEscape.2.1 62 = .ok (.aload_n 0, 1) := by decide +kernel
theorem dc_Re_readEscape_63 : decode m_Re_readEscape.2.1 63 = .ok (.getfield 31, 3) := by decide +kernel
theorem dc_Re_readEscape_66 : decode m_Re_readEscape.2.1 66 = .ok (.dup, 1) := by decide +kernel
theorem dc_Re_readEscape_67 : decode m_Re_readEscape.2.1 67 = .ok (.getfield 68, 3) := by decide +kernel
theorem dc_Re_readEscape_70 : decode m_Re_readEscape.2.1 70 = .ok (.iconst 1, 1) := by decide +kernel
theorem dc_Re_readEscape_71 : decode m_Re_readEscape.2.1 71 = .ok (.isub, 1) := by decide +kernel
theorem dc_Re_readEscape_72 : decode m_Re_readEscape.2.1 72 = .ok (.putfield 68, 3) := by decide +kernel
theorem dc_Re_readEscape_75 : decode m_Re_readEscape.2.1 75 = .ok (.iconst (-1), 1) := by decide +kernel
theorem dc_Re_readEscape_76 : decode m_Re_readEscape.2.1 76 = .ok (.ireturn, 1) := by decide +kernel
theorem dc_Re_readEscape_77 : decode m_Re_readEscape.2.1 77 = .ok (.aload_n 0, 1) := by decide +kernel
theorem dc_Re_readEscape_78 : decode m_Re_readEscape.2.1 78 = .ok (.getfield 31, 3) := by decide +kernel
theorem dc_Re_readEscape_81 : decode m_Re_readEscape.2.1 81 = .ok (.bipush 92, 2) := by decide +kernel
theorem dc_Re_readEscape_83 : decode m_Re_readEscape.2.1 83 = .ok (.invokevirtual 119, 3) := by decide +kernel
theorem dc_Re_readEscape_86 : decode m_Re_readEscape.2.1 86 = .ok (.ifCond .eq 15, 3) := by decide +kernel
theorem dc_Re_readEscape_89 : decode m_Re_readEscape.2.1 89 = .ok (.aload_n 0, 1) := by decide +kernel
theorem dc_Re_readEscape_90 : decode m_Re_readEscape.2.1 90 = .ok (.getfield 31, 3) := by decide +kernel
theorem dc_Re_readEscape_93 : decode m_Re_readEscape.2.1 93 = .ok (.bipush 117, 2) := by decide +kernel
theorem dc_Re_readEscape_95 : decode m_Re_readEscape.2.1 95 = .ok (.invokevirtual 119, 3) := by decide +kernel
theorem dc_Re_readEscape_98 : decode m_Re_readEscape.2.1 98 = .ok (.ifCond .ne 5, 3) := by decide +kernel
theorem dc_Re_readEscape_101 : decode m_Re_readEscape.2.1 101 = .ok (.iconst (-1), 1) := by decide +kernel
theorem dc_Re_readEscape_102 : decode m_Re_readEscape.2.1 102 = .ok (.ireturn, 1) := by decide +kernel
theorem dc_Re_readEscape_103 : decode m_Re_readEscape.2.1 103 = .ok (.aload_n 0, 1) := by decide +kernel
theorem dc_Re_readEscape_104 : decode m_Re_readEscape.2.1 104 = .ok (.iload_n 1, 1) := by decide +kernel
theorem dc_Re_readEscape_105 : decode m_Re_readEscape.2.1 105 = .ok (.aload_n 0, 1) := by decide +kernel
theorem dc_Re_readEscape_106 : decode m_Re_readEscape.2.1 106 = .ok (.invokevirtual 215, 3) := by decide +kernel
theorem dc_Re_readEscape_109 : decode m_Re_readEscape.2.1 109 = .ok (.invokevirtual 221, 3) := by decide +kernel
theorem dc_Re_readEscape_112 : decode m_Re_readEscape.2.1 112 = .ok (.ireturn, 1) := by decide +kernel
theorem b_Re_readEscape_0 {E : En_t} {d : Nat} {σ : S_t} {Q : Option Value → S_t → Prop}
    (h : CI E d m_Te_pass [pv E 51, .int (117 : Int32)] (sI σ 51 2 ((gI σ 51 2) + (1 : Int32))) (fun r2 σ1 => (¬ r2 = 0 → CI E d m_Re_readUnit [pv E 63] σ1 (fun r4 σ3 => (r4 < (55296 : Int32) → Q (some (.int r4)) σ3) ∧ (¬ r4 < (55296 : Int32) → (r4 ≤ (57343 : Int32) → (r4 < (56320 : Int32) → CI E d m_Te_pass [pv E 51, .int (92 : Int32)] σ3 (fun r6 σ5 => (r6 = 0 → Q (some (.int (-1 : Int32))) σ5) ∧ (¬ r6 = 0 → CI E d m_Te_pass [pv E 51, .int (117 : Int32)] σ5 (fun r8 σ7 => (¬ r8 = 0 → CI E d m_Re_readUnit [pv E 63] σ7 (fun r10 σ9 => CI E d m_Re_joined [pv E 63, .int r4, .int r10] σ9 (fun r12 σ11 => Q (some (.int r12)) σ11))) ∧ (r8 = 0 → Q (some (.int (-1 : Int32))) σ7))))) ∧ (¬ r4 < (56320 : Int32) → Q (some (.int (-1 : Int32))) (sI σ3 51 2 ((gI σ3 51 2) - (1 : Int32))))) ∧ (¬ r4 ≤ (57343 : Int32) → Q (some (.int r4)) σ3)))) ∧ (r2 = 0 → CI E d m_Te_here [pv E 51] σ1 (fun r14 σ13 => CI E d m_Re_readShortEscape [pv E 63, .int r14] σ13 (fun r16 σ15 => Q (some (.int r16)) σ15))))) :
    JE E (d + 1) m_Re_readEscape 0 [(0, pv E 63)] [] σ Q := by
  refine J_aload_n dc_Re_readEscape_0 (Eq.refl 1) 0 rfl ?_
  refine J_getF (y := 51) dc_Re_readEscape_1 (Eq.refl 4) fl_Re_31 (Nat.le_of_ble_eq_true rfl) rfl (Or.inr rfl) rfl ?_
  refine J_dup dc_Re_readEscape_4 (Eq.refl 5) rfl ?_
  refine J_getI dc_Re_readEscape_5 (Eq.refl 8) fl_Re_68 (Nat.le_of_ble_eq_true rfl) rfl (Or.inl rfl) ?_
  refine J_iconst (v := (1 : Int32)) dc_Re_readEscape_8 (Eq.refl 9) rfl ?_
  refine J_iadd dc_Re_readEscape_9 (Eq.refl 10) ?_
  refine J_putI dc_Re_readEscape_10 (Eq.refl 13) pl_Re_68 (Nat.le_of_ble_eq_true rfl) rfl rfl ?_
  refine J_aload_n dc_Re_readEscape_13 (Eq.refl 14) 0 rfl ?_
  refine J_getF (y := 51) dc_Re_readEscape_14 (Eq.refl 17) fl_Re_31 (Nat.le_of_ble_eq_true rfl) rfl (Or.inr rfl) rfl ?_
  refine J_bipush (v := (117 : Int32)) dc_Re_readEscape_17 (Eq.refl 19) rfl ?_
  refine J_callVI (As := [.int (117 : Int32)]) (st := []) dc_Re_readEscape_19 (Eq.refl 22) lk_Re_119 mi_Te_pass rfl (Nat.le_of_ble_eq_true rfl) rfl rfl (Nat.le_of_ble_eq_true rfl) rfl (Nat.le_of_ble_eq_true rfl) (CI.mono h (fun r2 σ1 h => ?_))
  refine J_if_ne dc_Re_readEscape_22 (Eq.refl 25) rfl (fun hc => ?_) (fun hc => ?_)
  · have h := h.1 hc
    refine J_aload_n dc_Re_readEscape_37 (Eq.refl 38) 0 rfl ?_
    refine J_callVI (As := []) (st := []) dc_Re_readEscape_38 (Eq.refl 41) lk_Re_215 mi_Re_readUnit rfl (Nat.le_of_ble_eq_true rfl) rfl rfl (Nat.le_of_ble_eq_true rfl) rfl (Nat.le_of_ble_eq_true rfl) (CI.mono h (fun r4 σ3 h => ?_))
    refine J_istore_n (L' := [(1, .int r4), (0, pv E 63)]) dc_Re_readEscape_41 (Eq.refl 42) (Nat.le_of_ble_eq_true rfl) rfl ?_
    refine J_iload_n dc_Re_readEscape_42 (Eq.refl 43) 0 rfl ?_
    refine J_ldc dc_Re_readEscape_43 (Eq.refl 45) kc_Re_218 ?_
    refine J_icmp_lt dc_Re_readEscape_45 (Eq.refl 48) rfl (fun hc => ?_) (fun hc => ?_)
    · have h := h.1 hc
      refine J_iload_n dc_Re_readEscape_54 (Eq.refl 55) 0 rfl ?_
      exact J_iret dc_Re_readEscape_55 rfl h
    · have h := h.2 hc
      refine J_iload_n dc_Re_readEscape_48 (Eq.refl 49) 0 rfl ?_
      refine J_ldc dc_Re_readEscape_49 (Eq.refl 51) kc_Re_219 ?_
      refine J_icmp_le dc_Re_readEscape_51 (Eq.refl 54) rfl (fun hc => ?_) (fun hc => ?_)
      · have h := h.1 hc
        refine J_iload_n dc_Re_readEscape_56 (Eq.refl 57) 0 rfl ?_
        refine J_ldc dc_Re_readEscape_57 (Eq.refl 59) kc_Re_220 ?_
        refine J_icmp_lt dc_Re_readEscape_59 (Eq.refl 62) rfl (fun hc => ?_) (fun hc => ?_)
        · have h := h.1 hc
          refine J_aload_n dc_Re_readEscape_77 (Eq.refl 78) 1 rfl ?_
          refine J_getF (y := 51) dc_Re_readEscape_78 (Eq.refl 81) fl_Re_31 (Nat.le_of_ble_eq_true rfl) rfl (Or.inr rfl) rfl ?_
          refine J_bipush (v := (92 : Int32)) dc_Re_readEscape_81 (Eq.refl 83) rfl ?_
          refine J_callVI (As := [.int (92 : Int32)]) (st := []) dc_Re_readEscape_83 (Eq.refl 86) lk_Re_119 mi_Te_pass rfl (Nat.le_of_ble_eq_true rfl) rfl rfl (Nat.le_of_ble_eq_true rfl) rfl (Nat.le_of_ble_eq_true rfl) (CI.mono h (fun r6 σ5 h => ?_))
          refine J_if_eq dc_Re_readEscape_86 (Eq.refl 89) rfl (fun hc => ?_) (fun hc => ?_)
          · have h := h.1 hc
            refine J_iconst (v := (-1 : Int32)) dc_Re_readEscape_101 (Eq.refl 102) rfl ?_
            exact J_iret dc_Re_readEscape_102 rfl h
          · have h := h.2 hc
            refine J_aload_n dc_Re_readEscape_89 (Eq.refl 90) 1 rfl ?_
            refine J_getF (y := 51) dc_Re_readEscape_90 (Eq.refl 93) fl_Re_31 (Nat.le_of_ble_eq_true rfl) rfl (Or.inr rfl) rfl ?_
            refine J_bipush (v := (117 : Int32)) dc_Re_readEscape_93 (Eq.refl 95) rfl ?_
            refine J_callVI (As := [.int (117 : Int32)]) (st := []) dc_Re_readEscape_95 (Eq.refl 98) lk_Re_119 mi_Te_pass rfl (Nat.le_of_ble_eq_true rfl) rfl rfl (Nat.le_of_ble_eq_true rfl) rfl (Nat.le_of_ble_eq_true rfl) (CI.mono h (fun r8 σ7 h => ?_))
            refine J_if_ne dc_Re_readEscape_98 (Eq.refl 101) rfl (fun hc => ?_) (fun hc => ?_)
            · have h := h.1 hc
              refine J_aload_n dc_Re_readEscape_103 (Eq.refl 104) 1 rfl ?_
              refine J_iload_n dc_Re_readEscape_104 (Eq.refl 105) 0 rfl ?_
              refine J_aload_n dc_Re_readEscape_105 (Eq.refl 106) 1 rfl ?_
              refine J_callVI (As := []) (st := [.int r4, pv E 63]) dc_Re_readEscape_106 (Eq.refl 109) lk_Re_215 mi_Re_readUnit rfl (Nat.le_of_ble_eq_true rfl) rfl rfl (Nat.le_of_ble_eq_true rfl) rfl (Nat.le_of_ble_eq_true rfl) (CI.mono h (fun r10 σ9 h => ?_))
              refine J_callVI (As := [.int r4, .int r10]) (st := []) dc_Re_readEscape_109 (Eq.refl 112) lk_Re_221 mi_Re_joined rfl (Nat.le_of_ble_eq_true rfl) rfl rfl (Nat.le_of_ble_eq_true rfl) rfl (Nat.le_of_ble_eq_true rfl) (CI.mono h (fun r12 σ11 h => ?_))
              exact J_iret dc_Re_readEscape_112 rfl h
            · have h := h.2 hc
              refine J_iconst (v := (-1 : Int32)) dc_Re_readEscape_101 (Eq.refl 102) rfl ?_
              exact J_iret dc_Re_readEscape_102 rfl h
        · have h := h.2 hc
          refine J_aload_n dc_Re_readEscape_62 (Eq.refl 63) 1 rfl ?_
          refine J_getF (y := 51) dc_Re_readEscape_63 (Eq.refl 66) fl_Re_31 (Nat.le_of_ble_eq_true rfl) rfl (Or.inr rfl) rfl ?_
          refine J_dup dc_Re_readEscape_66 (Eq.refl 67) rfl ?_
          refine J_getI dc_Re_readEscape_67 (Eq.refl 70) fl_Re_68 (Nat.le_of_ble_eq_true rfl) rfl (Or.inl rfl) ?_
          refine J_iconst (v := (1 : Int32)) dc_Re_readEscape_70 (Eq.refl 71) rfl ?_
          refine J_isub dc_Re_readEscape_71 (Eq.refl 72) ?_
          refine J_putI dc_Re_readEscape_72 (Eq.refl 75) pl_Re_68 (Nat.le_of_ble_eq_true rfl) rfl rfl ?_
          refine J_iconst (v := (-1 : Int32)) dc_Re_readEscape_75 (Eq.refl 76) rfl ?_
          exact J_iret dc_Re_readEscape_76 rfl h
      · have h := h.2 hc
        refine J_iload_n dc_Re_readEscape_54 (Eq.refl 55) 0 rfl ?_
        exact J_iret dc_Re_readEscape_55 rfl h
  · have h := h.2 hc
    refine J_aload_n dc_Re_readEscape_25 (Eq.refl 26) 0 rfl ?_
    refine J_aload_n dc_Re_readEscape_26 (Eq.refl 27) 0 rfl ?_
    refine J_getF (y := 51) dc_Re_readEscape_27 (Eq.refl 30) fl_Re_31 (Nat.le_of_ble_eq_true rfl) rfl (Or.inr rfl) rfl ?_
    refine J_callVI (As := []) (st := [pv E 63]) dc_Re_readEscape_30 (Eq.refl 33) lk_Re_61 mi_Te_here rfl (Nat.le_of_ble_eq_true rfl) rfl rfl (Nat.le_of_ble_eq_true rfl) rfl (Nat.le_of_ble_eq_true rfl) (CI.mono h (fun r14 σ13 h => ?_))
    refine J_callVI (As := [.int r14]) (st := []) dc_Re_readEscape_33 (Eq.refl 36) lk_Re_212 mi_Re_readShortEscape rfl (Nat.le_of_ble_eq_true rfl) rfl rfl (Nat.le_of_ble_eq_true rfl) rfl (Nat.le_of_ble_eq_true rfl) (CI.mono h (fun r16 σ15 h => ?_))
    exact J_iret dc_Re_readEscape_36 rfl h
theorem dc_Re_readUnit_0 : decode m_Re_readUnit.2.1 0 = .ok (.iconst 0, 1) := by decide +kernel
theorem dc_Re_readUnit_1 : decode m_Re_readUnit.2.1 1 = .ok (.istore_n 1, 1) := by decide +kernel
theorem dc_Re_readUnit_2 : decode m_Re_readUnit.2.1 2 = .ok (.iconst 0, 1) := by decide +kernel
theorem dc_Re_readUnit_3 : decode m_Re_readUnit.2.1 3 = .ok (.istore_n 2, 1) := by decide +kernel
theorem dc_Re_readUnit_4 : decode m_Re_readUnit.2.1 4 = .ok (.iload_n 2, 1) := by decide +kernel
theorem dc_Re_readUnit_5 : decode m_Re_readUnit.2.1 5 = .ok (.iconst 4, 1) := by decide +kernel
theorem dc_Re_readUnit_6 : decode m_Re_readUnit.2.1 6 = .ok (.if_icmp .ge 46, 3) := by decide +kernel
theorem dc_Re_readUnit_9 : decode m_Re_readUnit.2.1 9 = .ok (.aload_n 0, 1) := by decide +kernel
theorem dc_Re_readUnit_10 : decode m_Re_readUnit.2.1 10 = .ok (.getfield 31, 3) := by decide +kernel
theorem dc_Re_readUnit_13 : decode m_Re_readUnit.2.1 13 = .ok (.invokevirtual 61, 3) := by decide +kernel
theorem dc_Re_readUnit_16 : decode m_Re_readUnit.2.1 16 = .ok (.invokestatic 235, 3) := by decide +kernel
theorem dc_Re_readUnit_19 : decode m_Re_readUnit.2.1 19 = .ok (.istore_n 3, 1) := by decide +kernel
theorem dc_Re_readUnit_20 : decode m_Re_readUnit.2.1 20 = .ok (.iload_n 3, 1) := by decide +kernel
theorem dc_Re_readUnit_21 : decode m_Re_readUnit.2.1 21 = .ok (.iconst (-1), 1) := by decide +kernel
theorem dc_Re_readUnit_22 : decode m_Re_readUnit.2.1 22 = .ok (.if_icmp .ne 5, 3) := by decide +kernel
theorem dc_Re_readUnit_25 : decode m_Re_readUnit.2.1 25 = .ok (.iconst (-1), 1) := by decide +kernel
theorem dc_Re_readUnit_26 : decode m_Re_readUnit.2.1 26 = .ok (.ireturn, 1) := by decide +kernel
theorem dc_Re_readUnit_27 : decode m_Re_readUnit.2.1 27 = .ok (.iload_n 1, 1) := by decide +kernel
theorem dc_Re_readUnit_28 : decode m_Re_readUnit.2.1 28 = .ok (.iconst 4, 1) := by decide +kernel
theorem dc_Re_readUnit_29 : decode m_Re_readUnit.2.1 29 = .ok (.ishl, 1) := by decide +kernel
theorem dc_Re_readUnit_30 : decode m_Re_readUnit.2.1 30 = .ok (.iload_n 3, 1) := by decide +kernel
theorem dc_Re_readUnit_31 : decode m_Re_readUnit.2.1 31 = .ok (.ior, 1) := by decide +kernel
theorem dc_Re_readUnit_32 : decode m_Re_readUnit.2.1 32 = .ok (.istore_n 1, 1) := by decide +kernel
theorem dc_Re_readUnit_33 : decode m_Re_readUnit.2.1 33 = .ok (.aload_n 0, 1) := by decide +kernel
theorem dc_Re_readUnit_34 : decode m_Re_readUnit.2.1 34 = .ok (.getfield 31, 3) := by decide +kernel
theorem dc_Re_readUnit_37 : decode m_Re_readUnit.2.1 37 = .ok (.dup, 1) := by decide +kernel
theorem dc_Re_readUnit_38 : decode m_Re_readUnit.2.1 38 = .ok (.getfield 68, 3) := by decide +kernel
theorem dc_Re_readUnit_41 : decode m_Re_readUnit.2.1 41 = .ok (.iconst 1, 1) := by decide +kernel
theorem dc_Re_readUnit_42 : decode m_Re_readUnit.2.1 42 = .ok (.iadd, 1) := by decide +kernel
theorem dc_Re_readUnit_43 : decode m_Re_readUnit.2.1 43 = .ok (.putfield 68, 3) := by decide +kernel
theorem dc_Re_readUnit_46 : decode m_Re_readUnit.2.1 46 = .ok (.iinc 2 1, 3) := by decide +kernel
theorem dc_Re_readUnit_49 : decode m_Re_readUnit.2.1 49 = .ok (.goto (-45), 3) := by decide +kernel
theorem dc_Re_readUnit_52 : decode m_Re_readUnit.2.1 52 = .ok (.iload_n 1, 1) := by decide +kernel
theorem dc_Re_readUnit_53 : decode m_Re_readUnit.2.1 53 = .ok (.ireturn, 1) := by decide +kernel
theorem b_Re_readUnit_0 {E : En_t} {d : Nat} {σ : S_t} {Q : Option Value → S_t → Prop}
    (h : JE E (d + 1) m_Re_readUnit 4 [(0, pv E 63), (1, .int (0 : Int32)), (2, .int (0 : Int32))] [] σ Q) :
    JE E (d + 1) m_Re_readUnit 0 [(0, pv E 63)] [] σ Q := by
  refine J_iconst (v := (0 : Int32)) dc_Re_readUnit_0 (Eq.refl 1) rfl ?_
  refine J_istore_n (L' := [(1, .int (0 : Int32)), (0, pv E 63)]) dc_Re_readUnit_1 (Eq.refl 2) (Nat.le_of_ble_eq_true rfl) rfl ?_
  refine J_iconst (v := (0 : Int32)) dc_Re_readUnit_2 (Eq.refl 3) rfl ?_
  refine J_istore_n (L' := [(2, .int (0 : Int32)), (1, .int (0 : Int32)), (0, pv E 63)]) dc_Re_readUnit_3 (Eq.refl 4) (Nat.le_of_ble_eq_true rfl) rfl ?_
  refine J_sub [2, 1, 0] rfl ?_
  exact h
theorem b_Re_readUnit_4 {E : En_t} {d : Nat} {σ : S_t} {Q : Option Value → S_t → Prop} {x1 : Int32} {x2 : Int32}
    (h : ((4 : Int32) ≤ x2 → Q (some (.int x1)) σ) ∧ (¬ (4 : Int32) ≤ x2 → CI E d m_Te_here [pv E 51] σ (fun r2 σ1 => CI E d m_Re_hexadecimal [.int r2] σ1 (fun r4 σ3 => (¬ r4 = (-1 : Int32) → JE E (d + 1) m_Re_readUnit 4 [(0, pv E 63), (1, .int ((x1 <<< ((4 : Int32) &&& 31)) ||| r4)), (2, .int (x2 + (1 : Int32)))] [] (sI σ3 51 2 ((gI σ3 51 2) + (1 : Int32))) Q) ∧ (r4 = (-1 : Int32) → Q (some (.int (-1 : Int32))) σ3))))) :
    JE E (d + 1) m_Re_readUnit 4 [(0, pv E 63), (1, .int x1), (2, .int x2)] [] σ Q := by
  refine J_iload_n dc_Re_readUnit_4 (Eq.refl 5) 2 rfl ?_
  refine J_iconst (v := (4 : Int32)) dc_Re_readUnit_5 (Eq.refl 6) rfl ?_
  refine J_icmp_ge dc_Re_readUnit_6 (Eq.refl 9) rfl (fun hc => ?_) (fun hc => ?_)
  · have h := h.1 hc
    refine J_iload_n dc_Re_readUnit_52 (Eq.refl 53) 1 rfl ?_
    exact J_iret dc_Re_readUnit_53 rfl h
  · have h := h.2 hc
    refine J_aload_n dc_Re_readUnit_9 (Eq.refl 10) 0 rfl ?_
    refine J_getF (y := 51) dc_Re_readUnit_10 (Eq.refl 13) fl_Re_31 (Nat.le_of_ble_eq_true rfl) rfl (Or.inr rfl) rfl ?_
    refine J_callVI (As := []) (st := []) dc_Re_readUnit_13 (Eq.refl 16) lk_Re_61 mi_Te_here rfl (Nat.le_of_ble_eq_true rfl) rfl rfl (Nat.le_of_ble_eq_true rfl) rfl (Nat.le_of_ble_eq_true rfl) (CI.mono h (fun r2 σ1 h => ?_))
    refine J_callSI (As := [.int r2]) (st := []) dc_Re_readUnit_16 (Eq.refl 19) lk_Re_235 mi_Re_hexadecimal (Nat.le_of_ble_eq_true rfl) rfl (Nat.le_of_ble_eq_true rfl) (CI.mono h (fun r4 σ3 h => ?_))
    refine J_istore_n (L' := [(3, .int r4), (0, pv E 63), (1, .int x1), (2, .int x2)]) dc_Re_readUnit_19 (Eq.refl 20) (Nat.le_of_ble_eq_true rfl) rfl ?_
    refine J_iload_n dc_Re_readUnit_20 (Eq.refl 21) 0 rfl ?_
    refine J_iconst (v := (-1 : Int32)) dc_Re_readUnit_21 (Eq.refl 22) rfl ?_
    refine J_icmp_ne dc_Re_readUnit_22 (Eq.refl 25) rfl (fun hc => ?_) (fun hc => ?_)
    · have h := h.1 hc
      refine J_iload_n dc_Re_readUnit_27 (Eq.refl 28) 2 rfl ?_
      refine J_iconst (v := (4 : Int32)) dc_Re_readUnit_28 (Eq.refl 29) rfl ?_
      refine J_ishl dc_Re_readUnit_29 (Eq.refl 30) ?_
      refine J_iload_n dc_Re_readUnit_30 (Eq.refl 31) 0 rfl ?_
      refine J_ior dc_Re_readUnit_31 (Eq.refl 32) ?_
      refine J_istore_n (L' := [(1, .int ((x1 <<< ((4 : Int32) &&& 31)) ||| r4)), (3, .int r4), (0, pv E 63), (2, .int x2)]) dc_Re_readUnit_32 (Eq.refl 33) (Nat.le_of_ble_eq_true rfl) rfl ?_
      refine J_aload_n dc_Re_readUnit_33 (Eq.refl 34) 2 rfl ?_
      refine J_getF (y := 51) dc_Re_readUnit_34 (Eq.refl 37) fl_Re_31 (Nat.le_of_ble_eq_true rfl) rfl (Or.inr rfl) rfl ?_
      refine J_dup dc_Re_readUnit_37 (Eq.refl 38) rfl ?_
      refine J_getI dc_Re_readUnit_38 (Eq.refl 41) fl_Re_68 (Nat.le_of_ble_eq_true rfl) rfl (Or.inl rfl) ?_
      refine J_iconst (v := (1 : Int32)) dc_Re_readUnit_41 (Eq.refl 42) rfl ?_
      refine J_iadd dc_Re_readUnit_42 (Eq.refl 43) ?_
      refine J_putI dc_Re_readUnit_43 (Eq.refl 46) pl_Re_68 (Nat.le_of_ble_eq_true rfl) rfl rfl ?_
      refine J_iinc (v := x2 + (1 : Int32)) (L' := [(2, .int (x2 + (1 : Int32))), (1, .int ((x1 <<< ((4 : Int32) &&& 31)) ||| r4)), (3, .int r4), (0, pv E 63)]) dc_Re_readUnit_46 (Eq.refl 49) 3 rfl rfl (Nat.le_of_ble_eq_true rfl) rfl ?_
      refine J_goto dc_Re_readUnit_49 rfl ?_
      refine J_sub [3, 1, 0] rfl ?_
      exact h
    · have h := h.2 hc
      refine J_iconst (v := (-1 : Int32)) dc_Re_readUnit_25 (Eq.refl 26) rfl ?_
      exact J_iret dc_Re_readUnit_26 rfl h
theorem dc_Re_hexadecimal_0 : decode m_Re_hexadecimal.2.1 0 = .ok (.iload_n 0, 1) := by decide +kernel
theorem dc_Re_hexadecimal_1 : decode m_Re_hexadecimal.2.1 1 = .ok (.bipush 48, 2) := by decide +kernel
theorem dc_Re_hexadecimal_3 : decode m_Re_hexadecimal.2.1 3 = .ok (.if_icmp .lt 14, 3) := by decide +kernel
theorem dc_Re_hexadecimal_6 : decode m_Re_hexadecimal.2.1 6 = .ok (.iload_n 0, 1) := by decide +kernel
theorem dc_Re_hexadecimal_7 : decode m_Re_hexadecimal.2.1 7 = .ok (.bipush 57, 2) := by decide +kernel
theorem dc_Re_hexadecimal_9 : decode m_Re_hexadecimal.2.1 9 = .ok (.if_icmp .gt 8, 3) := by decide +kernel
theorem dc_Re_hexadecimal_12 : decode m_Re_hexadecimal.2.1 12 = .ok (.iload_n 0, 1) := by decide +kernel
theorem dc_Re_hexadecimal_13 : decode m_Re_hexadecimal.2.1 13 = .ok (.bipush 48, 2) := by decide +kernel
theorem dc_Re_hexadecimal_15 : decode m_Re_hexadecimal.2.1 15 = .ok (.isub, 1) := by decide +kernel
theorem dc_Re_hexadecimal_16 : decode m_Re_hexadecimal.2.1 16 = .ok (.ireturn, 1) := by decide +kernel
theorem dc_Re_hexadecimal_17 : decode m_Re_hexadecimal.2.1 17 = .ok (.iload_n 0, 1) := by decide +kernel
theorem dc_Re_hexadecimal_18 : decode m_Re_hexadecimal.2.1 18 = .ok (.bipush 97, 2) := by decide +kernel
theorem dc_Re_hexadecimal_20 : decode m_Re_hexadecimal.2.1 20 = .ok (.if_icmp .lt 17, 3) := by decide +kernel
theorem dc_Re_hexadecimal_23 : decode m_Re_hexadecimal.2.1 23 = .ok (.iload_n 0, 1) := by decide +kernel
theorem dc_Re_hexadecimal_24 : decode m_Re_hexadecimal.2.1 24 = .ok (.bipush 102, 2) := by decide +kernel
theorem dc_Re_hexadecimal_26 : decode m_Re_hexadecimal.2.1 26 = .ok (.if_icmp .gt 11, 3) := by decide +kernel
theorem dc_Re_hexadecimal_29 : decode m_Re_hexadecimal.2.1 29 = .ok (.iload_n 0, 1) := by decide +kernel
theorem dc_Re_hexadecimal_30 : decode m_Re_hexadecimal.2.1 30 = .ok (.bipush 97, 2) := by decide +kernel
theorem dc_Re_hexadecimal_32 : decode m_Re_hexadecimal.2.1 32 = .ok (.isub, 1) := by decide +kernel
theorem dc_Re_hexadecimal_33 : decode m_Re_hexadecimal.2.1 33 = .ok (.bipush 10, 2) := by decide +kernel
theorem dc_Re_hexadecimal_35 : decode m_Re_hexadecimal.2.1 35 = .ok (.iadd, 1) := by decide +kernel
theorem dc_Re_hexadecimal_36 : decode m_Re_hexadecimal.2.1 36 = .ok (.ireturn, 1) := by decide +kernel
theorem dc_Re_hexadecimal_37 : decode m_Re_hexadecimal.2.1 37 = .ok (.iload_n 0, 1) := by decide +kernel
theorem dc_Re_hexadecimal_38 : decode m_Re_hexadecimal.2.1 38 = .ok (.bipush 65, 2) := by decide +kernel
theorem dc_Re_hexadecimal_40 : decode m_Re_hexadecimal.2.1 40 = .ok (.if_icmp .lt 19, 3) := by decide +kernel
theorem dc_Re_hexadecimal_43 : decode m_Re_hexadecimal.2.1 43 = .ok (.iload_n 0, 1) := by decide +kernel
theorem dc_Re_hexadecimal_44 : decode m_Re_hexadecimal.2.1 44 = .ok (.bipush 70, 2) := by decide +kernel
theorem dc_Re_hexadecimal_46 : decode m_Re_hexadecimal.2.1 46 = .ok (.if_icmp .gt 13, 3) := by decide +kernel
theorem dc_Re_hexadecimal_49 : decode m_Re_hexadecimal.2.1 49 = .ok (.iload_n 0, 1) := by decide +kernel
theorem dc_Re_hexadecimal_50 : decode m_Re_hexadecimal.2.1 50 = .ok (.bipush 65, 2) := by decide +kernel
theorem dc_Re_hexadecimal_52 : decode m_Re_hexadecimal.2.1 52 = .ok (.isub, 1) := by decide +kernel
theorem dc_Re_hexadecimal_53 : decode m_Re_hexadecimal.2.1 53 = .ok (.bipush 10, 2) := by decide +kernel
theorem dc_Re_hexadecimal_55 : decode m_Re_hexadecimal.2.1 55 = .ok (.iadd, 1) := by decide +kernel
theorem dc_Re_hexadecimal_56 : decode m_Re_hexadecimal.2.1 56 = .ok (.goto 4, 3) := by decide +kernel
theorem dc_Re_hexadecimal_59 : decode m_Re_hexadecimal.2.1 59 = .ok (.iconst (-1), 1) := by decide +kernel
theorem dc_Re_hexadecimal_60 : decode m_Re_hexadecimal.2.1 60 = .ok (.ireturn, 1) := by decide +kernel
theorem b_Re_hexadecimal_0 {E : En_t} {d : Nat} {σ : S_t} {Q : Option Value → S_t → Prop} {x0 : Int32}
    (h : (x0 < (48 : Int32) → JE E d m_Re_hexadecimal 17 [(0, .int x0)] [] σ Q) ∧ (¬ x0 < (48 : Int32) → ((57 : Int32) < x0 → JE E d m_Re_hexadecimal 17 [(0, .int x0)] [] σ Q) ∧ (¬ (57 : Int32) < x0 → Q (some (.int (x0 - (48 : Int32)))) σ))) :
    JE E d m_Re_hexadecimal 0 [(0, .int x0)] [] σ Q := by
  refine J_iload_n dc_Re_hexadecimal_0 (Eq.refl 1) 0 rfl ?_
  refine J_bipush (v := (48 : Int32)) dc_Re_hexadecimal_1 (Eq.refl 3) rfl ?_
  refine J_icmp_lt dc_Re_hexadecimal_3 (Eq.refl 6) rfl (fun hc => ?_) (fun hc => ?_)
  · have h := h.1 hc
    exact h
  · have h := h.2 hc
    refine J_iload_n dc_Re_hexadecimal_6 (Eq.refl 7) 0 rfl ?_
    refine J_bipush (v := (57 : Int32)) dc_Re_hexadecimal_7 (Eq.refl 9) rfl ?_
    refine J_icmp_gt dc_Re_hexadecimal_9 (Eq.refl 12) rfl (fun hc => ?_) (fun hc => ?_)
    · have h := h.1 hc
      exact h
    · have h := h.2 hc
      refine J_iload_n dc_Re_hexadecimal_12 (Eq.refl 13) 0 rfl ?_
      refine J_bipush (v := (48 : Int32)) dc_Re_hexadecimal_13 (Eq.refl 15) rfl ?_
      refine J_isub dc_Re_hexadecimal_15 (Eq.refl 16) ?_
      exact J_iret dc_Re_hexadecimal_16 rfl h
theorem b_Re_hexadecimal_17 {E : En_t} {d : Nat} {σ : S_t} {Q : Option Value → S_t → Prop} {x0 : Int32}
    (h : (x0 < (97 : Int32) → JE E d m_Re_hexadecimal 37 [(0, .int x0)] [] σ Q) ∧ (¬ x0 < (97 : Int32) → ((102 : Int32) < x0 → JE E d m_Re_hexadecimal 37 [(0, .int x0)] [] σ Q) ∧ (¬ (102 : Int32) < x0 → Q (some (.int ((x0 - (97 : Int32)) + (10 : Int32)))) σ))) :
    JE E d m_Re_hexadecimal 17 [(0, .int x0)] [] σ Q := by
  refine J_iload_n dc_Re_hexadecimal_17 (Eq.refl 18) 0 rfl ?_
  refine J_bipush (v := (97 : Int32)) dc_Re_hexadecimal_18 (Eq.refl 20) rfl ?_
  refine J_icmp_lt dc_Re_hexadecimal_20 (Eq.refl 23) rfl (fun hc => ?_) (fun hc => ?_)
  · have h := h.1 hc
    exact h
  · have h := h.2 hc
    refine J_iload_n dc_Re_hexadecimal_23 (Eq.refl 24) 0 rfl ?_
    refine J_bipush (v := (102 : Int32)) dc_Re_hexadecimal_24 (Eq.refl 26) rfl ?_
    refine J_icmp_gt dc_Re_hexadecimal_26 (Eq.refl 29) rfl (fun hc => ?_) (fun hc => ?_)
    · have h := h.1 hc
      exact h
    · have h := h.2 hc
      refine J_iload_n dc_Re_hexadecimal_29 (Eq.refl 30) 0 rfl ?_
      refine J_bipush (v := (97 : Int32)) dc_Re_hexadecimal_30 (Eq.refl 32) rfl ?_
      refine J_isub dc_Re_hexadecimal_32 (Eq.refl 33) ?_
      refine J_bipush (v := (10 : Int32)) dc_Re_hexadecimal_33 (Eq.refl 35) rfl ?_
      refine J_iadd dc_Re_hexadecimal_35 (Eq.refl 36) ?_
      exact J_iret dc_Re_hexadecimal_36 rfl h
theorem b_Re_hexadecimal_37 {E : En_t} {d : Nat} {σ : S_t} {Q : Option Value → S_t → Prop} {x0 : Int32}
    (h : (x0 < (65 : Int32) → Q (some (.int (-1 : Int32))) σ) ∧ (¬ x0 < (65 : Int32) → ((70 : Int32) < x0 → Q (some (.int (-1 : Int32))) σ) ∧ (¬ (70 : Int32) < x0 → Q (some (.int ((x0 - (65 : Int32)) + (10 : Int32)))) σ))) :
    JE E d m_Re_hexadecimal 37 [(0, .int x0)] [] σ Q := by
  refine J_iload_n dc_Re_hexadecimal_37 (Eq.refl 38) 0 rfl ?_
  refine J_bipush (v := (65 : Int32)) dc_Re_hexadecimal_38 (Eq.refl 40) rfl ?_
  refine J_icmp_lt dc_Re_hexadecimal_40 (Eq.refl 43) rfl (fun hc => ?_) (fun hc => ?_)
  · have h := h.1 hc
    refine J_iconst (v := (-1 : Int32)) dc_Re_hexadecimal_59 (Eq.refl 60) rfl ?_
    exact J_iret dc_Re_hexadecimal_60 rfl h
  · have h := h.2 hc
    refine J_iload_n dc_Re_hexadecimal_43 (Eq.refl 44) 0 rfl ?_
    refine J_bipush (v := (70 : Int32)) dc_Re_hexadecimal_44 (Eq.refl 46) rfl ?_
    refine J_icmp_gt dc_Re_hexadecimal_46 (Eq.refl 49) rfl (fun hc => ?_) (fun hc => ?_)
    · have h := h.1 hc
      refine J_iconst (v := (-1 : Int32)) dc_Re_hexadecimal_59 (Eq.refl 60) rfl ?_
      exact J_iret dc_Re_hexadecimal_60 rfl h
    · have h := h.2 hc
      refine J_iload_n dc_Re_hexadecimal_49 (Eq.refl 50) 0 rfl ?_
      refine J_bipush (v := (65 : Int32)) dc_Re_hexadecimal_50 (Eq.refl 52) rfl ?_
      refine J_isub dc_Re_hexadecimal_52 (Eq.refl 53) ?_
      refine J_bipush (v := (10 : Int32)) dc_Re_hexadecimal_53 (Eq.refl 55) rfl ?_
      refine J_iadd dc_Re_hexadecimal_55 (Eq.refl 56) ?_
      refine J_goto dc_Re_hexadecimal_56 rfl ?_
      exact J_iret dc_Re_hexadecimal_60 rfl h
theorem dc_Re_joined_0 : decode m_Re_joined.2.1 0 = .ok (.iload_n 2, 1) := by decide +kernel
theorem dc_Re_joined_1 : decode m_Re_joined.2.1 1 = .ok (.iconst (-1), 1) := by decide +kernel
theorem dc_Re_joined_2 : decode m_Re_joined.2.1 2 = .ok (.if_icmp .ne 5, 3) := by decide +kernel
theorem dc_Re_joined_5 : decode m_Re_joined.2.1 5 = .ok (.iconst (-1), 1) := by decide +kernel
theorem dc_Re_joined_6 : decode m_Re_joined.2.1 6 = .ok (.ireturn, 1) := by decide +kernel
theorem dc_Re_joined_7 : decode m_Re_joined.2.1 7 = .ok (.iload_n 2, 1) := by decide +kernel
theorem dc_Re_joined_8 : decode m_Re_joined.2.1 8 = .ok (.ldc 220, 2) := by decide +kernel
theorem dc_Re_joined_10 : decode m_Re_joined.2.1 10 = .ok (.if_icmp .lt 9, 3) := by decide +kernel
theorem dc_Re_joined_13 : decode m_Re_joined.2.1 13 = .ok (.iload_n 2, 1) := by decide +kernel
theorem dc_Re_joined_14 : decode m_Re_joined.2.1 14 = .ok (.ldc 219, 2) := by decide +kernel
theorem dc_Re_joined_16 : decode m_Re_joined.2.1 16 = .ok (.if_icmp .le 18, 3) := by decide +kernel
theorem dc_Re_joined_19 : decode m_Re_joined.2.1 19 = .ok (.aload_n 0, 1) := by decide +kernel
theorem dc_Re_joined_20 : decode m_Re_joined.2.1 20 = .ok (.getfield 31, 3) := by decide +kernel
theorem dc_Re_joined_23 : decode m_Re_joined.2.1 23 = .ok (.dup, 1) := by decide +kernel
theorem dc_Re_joined_24 : decode m_Re_joined.2.1 24 = .ok (.getfield 68, 3) := by decide +kernel
theorem dc_Re_joined_27 : decode m_Re_joined.2.1 27 = .ok (.iconst 1, 1) := by decide +kernel
theorem dc_Re_joined_28 : decode m_Re_joined.2.1 28 = .ok (.isub, 1) := by decide +kernel
theorem dc_Re_joined_29 : decode m_Re_joined.2.1 29 = .ok (.putfield 68, 3) := by decide +kernel
theorem dc_Re_joined_32 : decode m_Re_joined.2.1 32 = .ok (.iconst (-1), 1) := by decide +kernel
theorem dc_Re_joined_33 : decode m_Re_joined.2.1 33 = .ok (.ireturn, 1) := by decide +kernel
theorem dc_Re_joined_34 : decode m_Re_joined.2.1 34 = .ok (.ldc 234, 2) := by decide +kernel
theorem dc_Re_joined_36 : decode m_Re_joined.2.1 36 = .ok (.iload_n 1, 1) := by decide +kernel
theorem dc_Re_joined_37 : decode m_Re_joined.2.1 37 = .ok (.ldc 218, 2) := by decide +kernel
theorem dc_Re_joined_39 : decode m_Re_joined.2.1 39 = .ok (.isub, 1) := by decide +kernel
theorem dc_Re_joined_40 : decode m_Re_joined.2.1 40 = .ok (.bipush 10, 2) := by decide +kernel
theorem dc_Re_joined_42 : decode m_Re_joined.2.1 42 = .ok (.ishl, 1) := by decide +kernel
theorem dc_Re_joined_43 : decode m_Re_joined.2.1 43 = .ok (.iadd, 1) := by decide +kernel
theorem dc_Re_joined_44 : decode m_Re_joined.2.1 44 = .ok (.iload_n 2, 1) := by decide +kernel
theorem dc_Re_joined_45 : decode m_Re_joined.2.1 45 = .ok (.iadd, 1) := by decide +kernel
theorem dc_Re_joined_46 : decode m_Re_joined.2.1 46 = .ok (.ldc 220, 2) := by decide +kernel
theorem dc_Re_joined_48 : decode m_Re_joined.2.1 48 = .ok (.isub, 1) := by decide +kernel
theorem dc_Re_joined_49 : decode m_Re_joined.2.1 49 = .ok (.ireturn, 1) := by decide +kernel
theorem b_Re_joined_0 {E : En_t} {d : Nat} {σ : S_t} {Q : Option Value → S_t → Prop} {x1 : Int32} {x2 : Int32}
    (h : (¬ x2 = (-1 : Int32) → (x2 < (56320 : Int32) → JE E d m_Re_joined 19 [(0, pv E 63)] [] σ Q) ∧ (¬ x2 < (56320 : Int32) → (x2 ≤ (57343 : Int32) → Q (some (.int ((((65536 : Int32) + ((x1 - (55296 : Int32)) <<< ((10 : Int32) &&& 31))) + x2) - (56320 : Int32)))) σ) ∧ (¬ x2 ≤ (57343 : Int32) → JE E d m_Re_joined 19 [(0, pv E 63)] [] σ Q))) ∧ (x2 = (-1 : Int32) → Q (some (.int (-1 : Int32))) σ)) :
    JE E d m_Re_joined 0 [(0, pv E 63), (1, .int x1), (2, .int x2)] [] σ Q := by
  refine J_iload_n dc_Re_joined_0 (Eq.refl 1) 2 rfl ?_
  refine J_iconst (v := (-1 : Int32)) dc_Re_joined_1 (Eq.refl 2) rfl ?_
  refine J_icmp_ne dc_Re_joined_2 (Eq.refl 5) rfl (fun hc => ?_) (fun hc => ?_)
  · have h := h.1 hc
    refine J_iload_n dc_Re_joined_7 (Eq.refl 8) 2 rfl ?_
    refine J_ldc dc_Re_joined_8 (Eq.refl 10) kc_Re_220 ?_
    refine J_icmp_lt dc_Re_joined_10 (Eq.refl 13) rfl (fun hc => ?_) (fun hc => ?_)
    · have h := h.1 hc
      refine J_sub [0] rfl ?_
      exact h
    · have h := h.2 hc
      refine J_iload_n dc_Re_joined_13 (Eq.refl 14) 2 rfl ?_
      refine J_ldc dc_Re_joined_14 (Eq.refl 16) kc_Re_219 ?_
      refine J_icmp_le dc_Re_joined_16 (Eq.refl 19) rfl (fun hc => ?_) (fun hc => ?_)
      · have h := h.1 hc
        refine J_ldc dc_Re_joined_34 (Eq.refl 36) kc_Re_234 ?_
        refine J_iload_n dc_Re_joined_36 (Eq.refl 37) 1 rfl ?_
        refine J_ldc dc_Re_joined_37 (Eq.refl 39) kc_Re_218 ?_
        refine J_isub dc_Re_joined_39 (Eq.refl 40) ?_
        refine J_bipush (v := (10 : Int32)) dc_Re_joined_40 (Eq.refl 42) rfl ?_
        refine J_ishl dc_Re_joined_42 (Eq.refl 43) ?_
        refine J_iadd dc_Re_joined_43 (Eq.refl 44) ?_
        refine J_iload_n dc_Re_joined_44 (Eq.refl 45) 2 rfl ?_
        refine J_iadd dc_Re_joined_45 (Eq.refl 46) ?_
        refine J_ldc dc_Re_joined_46 (Eq.refl 48) kc_Re_220 ?_
        refine J_isub dc_Re_joined_48 (Eq.refl 49) ?_
        exact J_iret dc_Re_joined_49 rfl h
      · have h := h.2 hc
        refine J_sub [0] rfl ?_
        exact h
  · have h := h.2 hc
    refine J_iconst (v := (-1 : Int32)) dc_Re_joined_5 (Eq.refl 6) rfl ?_
    exact J_iret dc_Re_joined_6 rfl h
theorem b_Re_joined_19 {E : En_t} {d : Nat} {σ : S_t} {Q : Option Value → S_t → Prop}
    (h : Q (some (.int (-1 : Int32))) (sI σ 51 2 ((gI σ 51 2) - (1 : Int32)))) :
    JE E d m_Re_joined 19 [(0, pv E 63)] [] σ Q := by
  refine J_aload_n dc_Re_joined_19 (Eq.refl 20) 0 rfl ?_
  refine J_getF (y := 51) dc_Re_joined_20 (Eq.refl 23) fl_Re_31 (Nat.le_of_ble_eq_true rfl) rfl (Or.inr rfl) rfl ?_
  refine J_dup dc_Re_joined_23 (Eq.refl 24) rfl ?_
  refine J_getI dc_Re_joined_24 (Eq.refl 27) fl_Re_68 (Nat.le_of_ble_eq_true rfl) rfl (Or.inl rfl) ?_
  refine J_iconst (v := (1 : Int32)) dc_Re_joined_27 (Eq.refl 28) rfl ?_
  refine J_isub dc_Re_joined_28 (Eq.refl 29) ?_
  refine J_putI dc_Re_joined_29 (Eq.refl 32) pl_Re_68 (Nat.le_of_ble_eq_true rfl) rfl rfl ?_
  refine J_iconst (v := (-1 : Int32)) dc_Re_joined_32 (Eq.refl 33) rfl ?_
  exact J_iret dc_Re_joined_33 rfl h
theorem dc_Re_readNext_0 : decode m_Re_readNext.2.1 0 = .ok (.iload_n 1, 1) := by decide +kernel
theorem dc_Re_readNext_1 : decode m_Re_readNext.2.1 1 = .ok (.bipush 93, 2) := by decide +kernel
theorem dc_Re_readNext_3 : decode m_Re_readNext.2.1 3 = .ok (.if_icmp .ne 11, 3) := by decide +kernel
theorem dc_Re_readNext_6 : decode m_Re_readNext.2.1 6 = .ok (.aload_n 0, 1) := by decide +kernel
theorem dc_Re_readNext_7 : decode m_Re_readNext.2.1 7 = .ok (.getfield 42, 3) := by decide +kernel
theorem dc_Re_readNext_10 : decode m_Re_readNext.2.1 10 = .ok (.iconst 1, 1) := by decide +kernel
theorem dc_Re_readNext_11 : decode m_Re_readNext.2.1 11 = .ok (.if_icmp .eq 17, 3) := by decide +kernel
theorem dc_Re_readNext_14 : decode m_Re_readNext.2.1 14 = .ok (.iload_n 1, 1) := by decide +kernel
theorem dc_Re_readNext_15 : decode m_Re_readNext.2.1 15 = .ok (.bipush 125, 2) := by decide +kernel
theorem dc_Re_readNext_17 : decode m_Re_readNext.2.1 17 = .ok (.if_icmp .ne 18, 3) := by decide +kernel
theorem dc_Re_readNext_20 : decode m_Re_readNext.2.1 20 = .ok (.aload_n 0, 1) := by decide +kernel
theorem dc_Re_readNext_21 : decode m_Re_readNext.2.1 21 = .ok (.getfield 42, 3) := by decide +kernel
theorem dc_Re_readNext_24 : decode m_Re_readNext.2.1 24 = .ok (.iconst 3, 1) := by decide +kernel
theorem dc_Re_readNext_25 : decode m_Re_readNext.2.1 25 = .ok (.if_icmp .ne 10, 3) := by decide +kernel
theorem dc_Re_readNext_28 : decode m_Re_readNext.2.1 28 = .ok (.aload_n 0, 1) := by decide +kernel
theorem dc_Re_readNext_29 : decode m_Re_readNext.2.1 29 = .ok (.invokevirtual 103, 3) := by decide +kernel
theorem dc_Re_readNext_32 : decode m_Re_readNext.2.1 32 = .ok (.goto 101, 3) := by decide +kernel
theorem dc_Re_readNext_35 : decode m_Re_readNext.2.1 35 = .ok (.aload_n 0, 1) := by decide +kernel
theorem dc_Re_readNext_36 : decode m_Re_readNext.2.1 36 = .ok (.getfield 42, 3) := by decide +kernel
theorem dc_Re_readNext_39 : decode m_Re_readNext.2.1 39 = .ok (.ifCond .eq 11, 3) := by decide +kernel
theorem dc_Re_readNext_42 : decode m_Re_readNext.2.1 42 = .ok (.aload_n 0, 1) := by decide +kernel
theorem dc_Re_readNext_43 : decode m_Re_readNext.2.1 43 = .ok (.getfield 42, 3) := by decide +kernel
theorem dc_Re_readNext_46 : decode m_Re_readNext.2.1 46 = .ok (.iconst 1, 1) := by decide +kernel
theorem dc_Re_readNext_47 : decode m_Re_readNext.2.1 47 = .ok (.if_icmp .ne 14, 3) := by decide +kernel
theorem dc_Re_readNext_50 : decode m_Re_readNext.2.1 50 = .ok (.aload_n 0, 1) := by decide +kernel
theorem dc_Re_readNext_51 : decode m_Re_readNext.2.1 51 = .ok (.iload_n 1, 1) := by decide +kernel
theorem dc_Re_readNext_52 : decode m_Re_readNext.2.1 52 = .ok (.invokestatic 106, 3) := by decide +kernel
theorem dc_Re_readNext_55 : decode m_Re_readNext.2.1 55 = .ok (.invokevirtual 110, 3) := by decide +kernel
theorem dc_Re_readNext_58 : decode m_Re_readNext.2.1 58 = .ok (.goto 75, 3) := by decide +kernel
theorem dc_Re_readNext_61 : decode m_Re_readNext.2.1 61 = .ok (.aload_n 0, 1) := by decide +kernel
theorem dc_Re_readNext_62 : decode m_Re_readNext.2.1 62 = .ok (.getfield 42, 3) := by decide +kernel
theorem dc_Re_readNext_65 : decode m_Re_readNext.2.1 65 = .ok (.iconst 2, 1) := by decide +kernel
theorem dc_Re_readNext_66 : decode m_Re_readNext.2.1 66 = .ok (.if_icmp .eq 11, 3) := by decide +kernel
theorem dc_Re_readNext_69 : decode m_Re_readNext.2.1 69 = .ok (.aload_n 0, 1) := by decide +kernel
theorem dc_Re_readNext_70 : decode m_Re_readNext.2.1 70 = .ok (.getfield 42, 3) := by decide +kernel
theorem dc_Re_readNext_73 : decode m_Re_readNext.2.1 73 = .ok (.iconst 3, 1) := by decide +kernel
theorem dc_Re_readNext_74 : decode m_Re_readNext.2.1 74 = .ok (.if_icmp .ne 11, 3) := by decide +kernel
theorem dc_Re_readNext_77 : decode m_Re_readNext.2.1 77 = .ok (.aload_n 0, 1) := by decide +kernel
theorem dc_Re_readNext_78 : decode m_Re_readNext.2.1 78 = .ok (.iload_n 1, 1) := by decide +kernel
theorem dc_Re_readNext_79 : decode m_Re_readNext.2.1 79 = .ok (.invokevirtual 113, 3) := by decide +kernel
theorem dc_Re_readNext_82 : decode m_Re_readNext.2.1 82 = .ok (.goto 51, 3) := by decide +kernel
theorem dc_Re_readNext_85 : decode m_Re_readNext.2.1 85 = .ok (.aload_n 0, 1) := by decide +kernel
theorem dc_Re_readNext_86 : decode m_Re_readNext.2.1 86 = .ok (.getfield 42, 3) := by decide +kernel
theorem dc_Re_readNext_89 : decode m_Re_readNext.2.1 89 = .ok (.iconst 5, 1) := by decide +kernel
theorem dc_Re_readNext_90 : decode m_Re_readNext.2.1 90 = .ok (.if_icmp .ne 11, 3) := by decide +kernel
theorem dc_Re_readNext_93 : decode m_Re_readNext.2.1 93 = .ok (.aload_n 0, 1) := by decide +kernel
theorem dc_Re_readNext_94 : decode m_Re_readNext.2.1 94 = .ok (.iload_n 1, 1) := by decide +kernel
theorem dc_Re_readNext_95 : decode m_Re_readNext.2.1 95 = .ok (.invokevirtual 116, 3) := by decide +kernel
theorem dc_Re_readNext_98 : decode m_Re_readNext.2.1 98 = .ok (.goto 35, 3) := by decide +kernel
theorem dc_Re_readNext_101 : decode m_Re_readNext.2.1 101 = .ok (.aload_n 0, 1) := by decide +kernel
theorem dc_Re_readNext_102 : decode m_Re_readNext.2.1 102 = .ok (.getfield 31, 3) := by decide +kernel
theorem dc_Re_readNext_105 : decode m_Re_readNext.2.1 105 = .ok (.bipush 58, 2) := by decide +kernel
theorem dc_Re_readNext_107 : decode m_Re_readNext.2.1 107 = .ok (.invokevirtual 119, 3) := by decide +kernel
theorem dc_Re_readNext_110 : decode m_Re_readNext.2.1 110 = .ok (.ifCond .eq 11, 3) := by decide +kernel
theorem dc_Re_readNext_113 : decode m_Re_readNext.2.1 113 = .ok (.aload_n 0, 1) := by decide +kernel
theorem dc_Re_readNext_114 : decode m_Re_readNext.2.1 114 = .ok (.iconst 0, 1) := by decide +kernel
theorem dc_Re_readNext_115 : decode m_Re_readNext.2.1 115 = .ok (.putfield 42, 3) := by decide +kernel
theorem dc_Re_readNext_118 : decode m_Re_readNext.2.1 118 = .ok (.goto 15, 3) := by decide +kernel
theorem dc_Re_readNext_121 : decode m_Re_readNext.2.1 121 = .ok (.aload_n 0, 1) := by decide +kernel
theorem dc_Re_readNext_122 : decode m_Re_readNext.2.1 122 = .ok (.iconst 1, 1) := by decide +kernel
theorem dc_Re_readNext_123 : decode m_Re_readNext.2.1 123 = .ok (.aload_n 0, 1) := by decide +kernel
theorem dc_Re_readNext_124 : decode m_Re_readNext.2.1 124 = .ok (.getfield 31, 3) := by decide +kernel
theorem dc_Re_readNext_127 : decode m_Re_readNext.2.1 127 = .ok (.getfield 68, 3) := by decide +kernel
theorem dc_Re_readNext_130 : decode m_Re_readNext.2.1 130 = .ok (.invokevirtual 74, 3) := by decide +kernel
theorem dc_Re_readNext_133 : decode m_Re_readNext.2.1 133 = .ok (.return_, 1) := by decide +kernel
theorem b_Re_readNext_0 {E : En_t} {d : Nat} {σ : S_t} {Q : Option Value → S_t → Prop} {x1 : Int32}
    (h : (¬ x1 = (93 : Int32) → JE E (d + 1) m_Re_readNext 14 [(0, pv E 63), (1, .int x1)] [] σ Q) ∧ (x1 = (93 : Int32) → ((gI σ 63 7) = (1 : Int32) → JE E (d + 1) m_Re_readNext 28 [(0, pv E 63)] [] σ Q) ∧ (¬ (gI σ 63 7) = (1 : Int32) → JE E (d + 1) m_Re_readNext 14 [(0, pv E 63), (1, .int x1)] [] σ Q))) :
    JE E (d + 1) m_Re_readNext 0 [(0, pv E 63), (1, .int x1)] [] σ Q := by
  refine J_iload_n dc_Re_readNext_0 (Eq.refl 1) 1 rfl ?_
  refine J_bipush (v := (93 : Int32)) dc_Re_readNext_1 (Eq.refl 3) rfl ?_
  refine J_icmp_ne dc_Re_readNext_3 (Eq.refl 6) rfl (fun hc => ?_) (fun hc => ?_)
  · have h := h.1 hc
    exact h
  · have h := h.2 hc
    refine J_aload_n dc_Re_readNext_6 (Eq.refl 7) 0 rfl ?_
    refine J_getI dc_Re_readNext_7 (Eq.refl 10) fl_Re_42 (Nat.le_of_ble_eq_true rfl) rfl (Or.inl rfl) ?_
    refine J_iconst (v := (1 : Int32)) dc_Re_readNext_10 (Eq.refl 11) rfl ?_
    refine J_icmp_eq dc_Re_readNext_11 (Eq.refl 14) rfl (fun hc => ?_) (fun hc => ?_)
    · have h := h.1 hc
      refine J_sub [0] rfl ?_
      exact h
    · have h := h.2 hc
      exact h
theorem b_Re_readNext_14 {E : En_t} {d : Nat} {σ : S_t} {Q : Option Value → S_t → Prop} {x1 : Int32}
    (h : (¬ x1 = (125 : Int32) → JE E (d + 1) m_Re_readNext 35 [(0, pv E 63), (1, .int x1)] [] σ Q) ∧ (x1 = (125 : Int32) → (¬ (gI σ 63 7) = (3 : Int32) → JE E (d + 1) m_Re_readNext 35 [(0, pv E 63), (1, .int x1)] [] σ Q) ∧ ((gI σ 63 7) = (3 : Int32) → JE E (d + 1) m_Re_readNext 28 [(0, pv E 63)] [] σ Q))) :
    JE E (d + 1) m_Re_readNext 14 [(0, pv E 63), (1, .int x1)] [] σ Q := by
  refine J_iload_n dc_Re_readNext_14 (Eq.refl 15) 1 rfl ?_
  refine J_bipush (v := (125 : Int32)) dc_Re_readNext_15 (Eq.refl 17) rfl ?_
  refine J_icmp_ne dc_Re_readNext_17 (Eq.refl 20) rfl (fun hc => ?_) (fun hc => ?_)
  · have h := h.1 hc
    exact h
  · have h := h.2 hc
    refine J_aload_n dc_Re_readNext_20 (Eq.refl 21) 0 rfl ?_
    refine J_getI dc_Re_readNext_21 (Eq.refl 24) fl_Re_42 (Nat.le_of_ble_eq_true rfl) rfl (Or.inl rfl) ?_
    refine J_iconst (v := (3 : Int32)) dc_Re_readNext_24 (Eq.refl 25) rfl ?_
    refine J_icmp_ne dc_Re_readNext_25 (Eq.refl 28) rfl (fun hc => ?_) (fun hc => ?_)
    · have h := h.1 hc
      exact h
    · have h := h.2 hc
      refine J_sub [0] rfl ?_
      exact h
theorem b_Re_readNext_28 {E : En_t} {d : Nat} {σ : S_t} {Q : Option Value → S_t → Prop}
    (h : CV E d m_Re_close [pv E 63] σ (fun σ1 => Q none σ1)) :
    JE E (d + 1) m_Re_readNext 28 [(0, pv E 63)] [] σ Q := by
  refine J_aload_n dc_Re_readNext_28 (Eq.refl 29) 0 rfl ?_
  refine J_callVV (As := []) (st := []) dc_Re_readNext_29 (Eq.refl 32) lk_Re_103 mi_Re_close rfl (Nat.le_of_ble_eq_true rfl) rfl rfl (Nat.le_of_ble_eq_true rfl) rfl (Nat.le_of_ble_eq_true rfl) (CV.mono h (fun σ1 h => ?_))
  refine J_goto dc_Re_readNext_32 rfl ?_
  exact J_vret dc_Re_readNext_133 rfl h
theorem b_Re_readNext_35 {E : En_t} {d : Nat} {σ : S_t} {Q : Option Value → S_t → Prop} {x1 : Int32}
    (h : ((gI σ 63 7) = 0 → JE E (d + 1) m_Re_readNext 50 [(0, pv E 63), (1, .int x1)] [] σ Q) ∧ (¬ (gI σ 63 7) = 0 → (¬ (gI σ 63 7) = (1 : Int32) → ((gI σ 63 7) = (2 : Int32) → JE E (d + 1) m_Re_readNext 77 [(0, pv E 63), (1, .int x1)] [] σ Q) ∧ (¬ (gI σ 63 7) = (2 : Int32) → (¬ (gI σ 63 7) = (3 : Int32) → (¬ (gI σ 63 7) = (5 : Int32) → CI E d m_Te_pass [pv E 51, .int (58 : Int32)] σ (fun r2 σ1 => (r2 = 0 → CV E d m_Re_blame [pv E 63, .int (1 : Int32), .int (gI σ1 51 2)] σ1 (fun σ3 => Q none σ3)) ∧ (¬ r2 = 0 → Q none (sI σ1 63 7 (0 : Int32))))) ∧ ((gI σ 63 7) = (5 : Int32) → CV E d m_Re_readSeparator [pv E 63, .int x1] σ (fun σ4 => Q none σ4))) ∧ ((gI σ 63 7) = (3 : Int32) → JE E (d + 1) m_Re_readNext 77 [(0, pv E 63), (1, .int x1)] [] σ Q))) ∧ ((gI σ 63 7) = (1 : Int32) → JE E (d + 1) m_Re_readNext 50 [(0, pv E 63), (1, .int x1)] [] σ Q))) :
    JE E (d + 1) m_Re_readNext 35 [(0, pv E 63), (1, .int x1)] [] σ Q := by
  refine J_aload_n dc_Re_readNext_35 (Eq.refl 36) 0 rfl ?_
  refine J_getI dc_Re_readNext_36 (Eq.refl 39) fl_Re_42 (Nat.le_of_ble_eq_true rfl) rfl (Or.inl rfl) ?_
  refine J_if_eq dc_Re_readNext_39 (Eq.refl 42) rfl (fun hc => ?_) (fun hc => ?_)
  · have h := h.1 hc
    exact h
  · have h := h.2 hc
    refine J_aload_n dc_Re_readNext_42 (Eq.refl 43) 0 rfl ?_
    refine J_getI dc_Re_readNext_43 (Eq.refl 46) fl_Re_42 (Nat.le_of_ble_eq_true rfl) rfl (Or.inl rfl) ?_
    refine J_iconst (v := (1 : Int32)) dc_Re_readNext_46 (Eq.refl 47) rfl ?_
    refine J_icmp_ne dc_Re_readNext_47 (Eq.refl 50) rfl (fun hc => ?_) (fun hc => ?_)
    · have h := h.1 hc
      refine J_aload_n dc_Re_readNext_61 (Eq.refl 62) 0 rfl ?_
      refine J_getI dc_Re_readNext_62 (Eq.refl 65) fl_Re_42 (Nat.le_of_ble_eq_true rfl) rfl (Or.inl rfl) ?_
      refine J_iconst (v := (2 : Int32)) dc_Re_readNext_65 (Eq.refl 66) rfl ?_
      refine J_icmp_eq dc_Re_readNext_66 (Eq.refl 69) rfl (fun hc => ?_) (fun hc => ?_)
      · have h := h.1 hc
        exact h
      · have h := h.2 hc
        refine J_aload_n dc_Re_readNext_69 (Eq.refl 70) 0 rfl ?_
        refine J_getI dc_Re_readNext_70 (Eq.refl 73) fl_Re_42 (Nat.le_of_ble_eq_true rfl) rfl (Or.inl rfl) ?_
        refine J_iconst (v := (3 : Int32)) dc_Re_readNext_73 (Eq.refl 74) rfl ?_
        refine J_icmp_ne dc_Re_readNext_74 (Eq.refl 77) rfl (fun hc => ?_) (fun hc => ?_)
        · have h := h.1 hc
          refine J_aload_n dc_Re_readNext_85 (Eq.refl 86) 0 rfl ?_
          refine J_getI dc_Re_readNext_86 (Eq.refl 89) fl_Re_42 (Nat.le_of_ble_eq_true rfl) rfl (Or.inl rfl) ?_
          refine J_iconst (v := (5 : Int32)) dc_Re_readNext_89 (Eq.refl 90) rfl ?_
          refine J_icmp_ne dc_Re_readNext_90 (Eq.refl 93) rfl (fun hc => ?_) (fun hc => ?_)
          · have h := h.1 hc
            refine J_aload_n dc_Re_readNext_101 (Eq.refl 102) 0 rfl ?_
            refine J_getF (y := 51) dc_Re_readNext_102 (Eq.refl 105) fl_Re_31 (Nat.le_of_ble_eq_true rfl) rfl (Or.inr rfl) rfl ?_
            refine J_bipush (v := (58 : Int32)) dc_Re_readNext_105 (Eq.refl 107) rfl ?_
            refine J_callVI (As := [.int (58 : Int32)]) (st := []) dc_Re_readNext_107 (Eq.refl 110) lk_Re_119 mi_Te_pass rfl (Nat.le_of_ble_eq_true rfl) rfl rfl (Nat.le_of_ble_eq_true rfl) rfl (Nat.le_of_ble_eq_true rfl) (CI.mono h (fun r2 σ1 h => ?_))
            refine J_if_eq dc_Re_readNext_110 (Eq.refl 113) rfl (fun hc => ?_) (fun hc => ?_)
            · have h := h.1 hc
              refine J_aload_n dc_Re_readNext_121 (Eq.refl 122) 0 rfl ?_
              refine J_iconst (v := (1 : Int32)) dc_Re_readNext_122 (Eq.refl 123) rfl ?_
              refine J_aload_n dc_Re_readNext_123 (Eq.refl 124) 0 rfl ?_
              refine J_getF (y := 51) dc_Re_readNext_124 (Eq.refl 127) fl_Re_31 (Nat.le_of_ble_eq_true rfl) rfl (Or.inr rfl) rfl ?_
              refine J_getI dc_Re_readNext_127 (Eq.refl 130) fl_Re_68 (Nat.le_of_ble_eq_true rfl) rfl (Or.inl rfl) ?_
              refine J_callVV (As := [.int (1 : Int32), .int (gI σ1 51 2)]) (st := []) dc_Re_readNext_130 (Eq.refl 133) lk_Re_74 mi_Re_blame rfl (Nat.le_of_ble_eq_true rfl) rfl rfl (Nat.le_of_ble_eq_true rfl) rfl (Nat.le_of_ble_eq_true rfl) (CV.mono h (fun σ3 h => ?_))
              exact J_vret dc_Re_readNext_133 rfl h
            · have h := h.2 hc
              refine J_aload_n dc_Re_readNext_113 (Eq.refl 114) 0 rfl ?_
              refine J_iconst (v := (0 : Int32)) dc_Re_readNext_114 (Eq.refl 115) rfl ?_
              refine J_putI dc_Re_readNext_115 (Eq.refl 118) pl_Re_42 (Nat.le_of_ble_eq_true rfl) rfl rfl ?_
              refine J_goto dc_Re_readNext_118 rfl ?_
              exact J_vret dc_Re_readNext_133 rfl h
          · have h := h.2 hc
            refine J_aload_n dc_Re_readNext_93 (Eq.refl 94) 0 rfl ?_
            refine J_iload_n dc_Re_readNext_94 (Eq.refl 95) 1 rfl ?_
            refine J_callVV (As := [.int x1]) (st := []) dc_Re_readNext_95 (Eq.refl 98) lk_Re_116 mi_Re_readSeparator rfl (Nat.le_of_ble_eq_true rfl) rfl rfl (Nat.le_of_ble_eq_true rfl) rfl (Nat.le_of_ble_eq_true rfl) (CV.mono h (fun σ4 h => ?_))
            refine J_goto dc_Re_readNext_98 rfl ?_
            exact J_vret dc_Re_readNext_133 rfl h
        · have h := h.2 hc
          exact h
    · have h := h.2 hc
      exact h
theorem b_Re_readNext_50 {E : En_t} {d : Nat} {σ : S_t} {Q : Option Value → S_t → Prop} {x1 : Int32}
    (h : CI E d m_Re_kindBegunBy [.int x1] σ (fun r2 σ1 => CV E d m_Re_readValue [pv E 63, .int r2] σ1 (fun σ3 => Q none σ3))) :
    JE E (d + 1) m_Re_readNext 50 [(0, pv E 63), (1, .int x1)] [] σ Q := by
  refine J_aload_n dc_Re_readNext_50 (Eq.refl 51) 0 rfl ?_
  refine J_iload_n dc_Re_readNext_51 (Eq.refl 52) 1 rfl ?_
  refine J_callSI (As := [.int x1]) (st := [pv E 63]) dc_Re_readNext_52 (Eq.refl 55) lk_Re_106 mi_Re_kindBegunBy (Nat.le_of_ble_eq_true rfl) rfl (Nat.le_of_ble_eq_true rfl) (CI.mono h (fun r2 σ1 h => ?_))
  refine J_callVV (As := [.int r2]) (st := []) dc_Re_readNext_55 (Eq.refl 58) lk_Re_110 mi_Re_readValue rfl (Nat.le_of_ble_eq_true rfl) rfl rfl (Nat.le_of_ble_eq_true rfl) rfl (Nat.le_of_ble_eq_true rfl) (CV.mono h (fun σ3 h => ?_))
  refine J_goto dc_Re_readNext_58 rfl ?_
  exact J_vret dc_Re_readNext_133 rfl h
theorem b_Re_readNext_77 {E : En_t} {d : Nat} {σ : S_t} {Q : Option Value → S_t → Prop} {x1 : Int32}
    (h : CV E d m_Re_readName [pv E 63, .int x1] σ (fun σ1 => Q none σ1)) :
    JE E (d + 1) m_Re_readNext 77 [(0, pv E 63), (1, .int x1)] [] σ Q := by
  refine J_aload_n dc_Re_readNext_77 (Eq.refl 78) 0 rfl ?_
  refine J_iload_n dc_Re_readNext_78 (Eq.refl 79) 1 rfl ?_
  refine J_callVV (As := [.int x1]) (st := []) dc_Re_readNext_79 (Eq.refl 82) lk_Re_113 mi_Re_readName rfl (Nat.le_of_ble_eq_true rfl) rfl rfl (Nat.le_of_ble_eq_true rfl) rfl (Nat.le_of_ble_eq_true rfl) (CV.mono h (fun σ1 h => ?_))
  refine J_goto dc_Re_readNext_82 rfl ?_
  exact J_vret dc_Re_readNext_133 rfl h
theorem dc_Re_close_0 : decode m_Re_close.2.1 0 = .ok (.aload_n 0, 1) := by decide +kernel
theorem dc_Re_close_1 : decode m_Re_close.2.1 1 = .ok (.getfield 31, 3) := by decide +kernel
theorem dc_Re_close_4 : decode m_Re_close.2.1 4 = .ok (.dup, 1) := by decide +kernel
theorem dc_Re_close_5 : decode m_Re_close.2.1 5 = .ok (.getfield 68, 3) := by decide +kernel
theorem dc_Re_close_8 : decode m_Re_close.2.1 8 = .ok (.iconst 1, 1) := by decide +kernel
theorem dc_Re_close_9 : decode m_Re_close.2.1 9 = .ok (.iadd, 1) := by decide +kernel
theorem dc_Re_close_10 : decode m_Re_close.2.1 10 = .ok (.putfield 68, 3) := by decide +kernel
theorem dc_Re_close_13 : decode m_Re_close.2.1 13 = .ok (.aload_n 0, 1) := by decide +kernel
theorem dc_Re_close_14 : decode m_Re_close.2.1 14 = .ok (.dup, 1) := by decide +kernel
theorem dc_Re_close_15 : decode m_Re_close.2.1 15 = .ok (.getfield 88, 3) := by decide +kernel
theorem dc_Re_close_18 : decode m_Re_close.2.1 18 = .ok (.iconst 1, 1) := by decide +kernel
theorem dc_Re_close_19 : decode m_Re_close.2.1 19 = .ok (.isub, 1) := by decide +kernel
theorem dc_Re_close_20 : decode m_Re_close.2.1 20 = .ok (.putfield 88, 3) := by decide +kernel
theorem dc_Re_close_23 : decode m_Re_close.2.1 23 = .ok (.aload_n 0, 1) := by decide +kernel
theorem dc_Re_close_24 : decode m_Re_close.2.1 24 = .ok (.aload_n 0, 1) := by decide +kernel
theorem dc_Re_close_25 : decode m_Re_close.2.1 25 = .ok (.getfield 85, 3) := by decide +kernel
theorem dc_Re_close_28 : decode m_Re_close.2.1 28 = .ok (.ifCond .lt 18, 3) := by decide +kernel
theorem dc_Re_close_31 : decode m_Re_close.2.1 31 = .ok (.aload_n 0, 1) := by decide +kernel
theorem dc_Re_close_32 : decode m_Re_close.2.1 32 = .ok (.getfield 12, 3) := by decide +kernel
theorem dc_Re_close_35 : decode m_Re_close.2.1 35 = .ok (.getfield 130, 3) := by decide +kernel
theorem dc_Re_close_38 : decode m_Re_close.2.1 38 = .ok (.aload_n 0, 1) := by decide +kernel
theorem dc_Re_close_39 : decode m_Re_close.2.1 39 = .ok (.getfield 85, 3) := by decide +kernel
theorem dc_Re_close_42 : decode m_Re_close.2.1 42 = .ok (.iaload, 1) := by decide +kernel
theorem dc_Re_close_43 : decode m_Re_close.2.1 43 = .ok (.goto 4, 3) := by decide +kernel
theorem dc_Re_close_46 : decode m_Re_close.2.1 46 = .ok (.iconst (-1), 1) := by decide +kernel
theorem dc_Re_close_47 : decode m_Re_close.2.1 47 = .ok (.putfield 85, 3) := by decide +kernel
theorem dc_Re_close_50 : decode m_Re_close.2.1 50 = .ok (.aload_n 0, 1) := by decide +kernel
theorem dc_Re_close_51 : decode m_Re_close.2.1 51 = .ok (.invokevirtual 133, 3) := by decide +kernel
theorem dc_Re_close_54 : decode m_Re_close.2.1 54 = .ok (.return_, 1) := by decide +kernel
theorem b_Re_close_0 {E : En_t} {d : Nat} {σ : S_t} {Q : Option Value → S_t → Prop}
    (h : ∀ v1, v1 = gI (sI (sI σ 51 2 ((gI σ 51 2) + (1 : Int32))) 63 9 ((gI (sI σ 51 2 ((gI σ 51 2) + (1 : Int32))) 63 9) - (1 : Int32))) 63 8 → ((v1 < 0 → JE E (d + 1) m_Re_close 47 [(0, pv E 63)] [.int (-1 : Int32), pv E 63] (sI (sI σ 51 2 ((gI σ 51 2) + (1 : Int32))) 63 9 ((gI (sI σ 51 2 ((gI σ 51 2) + (1 : Int32))) 63 9) - (1 : Int32))) Q) ∧ (¬ v1 < 0 → ∀ v2, v2 = gI (sI (sI σ 51 2 ((gI σ 51 2) + (1 : Int32))) 63 9 ((gI (sI σ 51 2 ((gI σ 51 2) + (1 : Int32))) 63 9) - (1 : Int32))) 63 8 → (vp_in v2 500 ∧ (∀ v3, v3 = gI (sI (sI σ 51 2 ((gI σ 51 2) + (1 : Int32))) 63 9 ((gI (sI σ 51 2 ((gI σ 51 2) + (1 : Int32))) 63 9) - (1 : Int32))) 183 v2.toNatClampNeg → (JE E (d + 1) m_Re_close 47 [(0, pv E 63)] [.int v3, pv E 63] (sI (sI σ 51 2 ((gI σ 51 2) + (1 : Int32))) 63 9 ((gI (sI σ 51 2 ((gI σ 51 2) + (1 : Int32))) 63 9) - (1 : Int32))) Q)))))) :
    JE E (d + 1) m_Re_close 0 [(0, pv E 63)] [] σ Q := by
  refine J_aload_n dc_Re_close_0 (Eq.refl 1) 0 rfl ?_
  refine J_getF (y := 51) dc_Re_close_1 (Eq.refl 4) fl_Re_31 (Nat.le_of_ble_eq_true rfl) rfl (Or.inr rfl) rfl ?_
  refine J_dup dc_Re_close_4 (Eq.refl 5) rfl ?_
  refine J_getI dc_Re_close_5 (Eq.refl 8) fl_Re_68 (Nat.le_of_ble_eq_true rfl) rfl (Or.inl rfl) ?_
  refine J_iconst (v := (1 : Int32)) dc_Re_close_8 (Eq.refl 9) rfl ?_
  refine J_iadd dc_Re_close_9 (Eq.refl 10) ?_
  refine J_putI dc_Re_close_10 (Eq.refl 13) pl_Re_68 (Nat.le_of_ble_eq_true rfl) rfl rfl ?_
  refine J_aload_n dc_Re_close_13 (Eq.refl 14) 0 rfl ?_
  refine J_dup dc_Re_close_14 (Eq.refl 15) rfl ?_
  refine J_getI dc_Re_close_15 (Eq.refl 18) fl_Re_88 (Nat.le_of_ble_eq_true rfl) rfl (Or.inl rfl) ?_
  refine J_iconst (v := (1 : Int32)) dc_Re_close_18 (Eq.refl 19) rfl ?_
  refine J_isub dc_Re_close_19 (Eq.refl 20) ?_
  refine J_putI dc_Re_close_20 (Eq.refl 23) pl_Re_88 (Nat.le_of_ble_eq_true rfl) rfl rfl ?_
  refine J_aload_n dc_Re_close_23 (Eq.refl 24) 0 rfl ?_
  refine J_aload_n dc_Re_close_24 (Eq.refl 25) 0 rfl ?_
  refine J_getI dc_Re_close_25 (Eq.refl 28) fl_Re_85 (Nat.le_of_ble_eq_true rfl) rfl (Or.inl rfl) ?_
  refine J_topi (fun v1 ev1 => ?_)
  have h := h v1 ev1
  refine J_if_lt dc_Re_close_28 (Eq.refl 31) rfl (fun hc => ?_) (fun hc => ?_)
  · have h := h.1 hc
    refine J_iconst (v := (-1 : Int32)) dc_Re_close_46 (Eq.refl 47) rfl ?_
    exact h
  · have h := h.2 hc
    refine J_aload_n dc_Re_close_31 (Eq.refl 32) 0 rfl ?_
    refine J_getF (y := 180) dc_Re_close_32 (Eq.refl 35) fl_Re_12 (Nat.le_of_ble_eq_true rfl) rfl (Or.inr rfl) rfl ?_
    refine J_getF (y := 183) dc_Re_close_35 (Eq.refl 38) fl_Re_130 (Nat.le_of_ble_eq_true rfl) rfl (Or.inl rfl) rfl ?_
    refine J_aload_n dc_Re_close_38 (Eq.refl 39) 0 rfl ?_
    refine J_getI dc_Re_close_39 (Eq.refl 42) fl_Re_85 (Nat.le_of_ble_eq_true rfl) rfl (Or.inl rfl) ?_
    refine J_topi (fun v2 ev2 => ?_)
    have h := h v2 ev2
    obtain ⟨hg, h⟩ := h
    refine J_iald dc_Re_close_42 (Eq.refl 43) rfl rfl hg ?_
    refine J_topi (fun v3 ev3 => ?_)
    have h := h v3 ev3
    refine J_goto dc_Re_close_43 rfl ?_
    exact h
theorem b_Re_close_47 {E : En_t} {d : Nat} {σ : S_t} {Q : Option Value → S_t → Prop} {s0 : Int32}
    (h : CV E d m_Re_wantBehindValue [pv E 63] (sI σ 63 8 s0) (fun σ1 => Q none σ1)) :
    JE E (d + 1) m_Re_close 47 [(0, pv E 63)] [.int s0, pv E 63] σ Q := by
  refine J_putI dc_Re_close_47 (Eq.refl 50) pl_Re_85 (Nat.le_of_ble_eq_true rfl) rfl rfl ?_
  refine J_aload_n dc_Re_close_50 (Eq.refl 51) 0 rfl ?_
  refine J_callVV (As := []) (st := []) dc_Re_close_51 (Eq.refl 54) lk_Re_133 mi_Re_wantBehindValue rfl (Nat.le_of_ble_eq_true rfl) rfl rfl (Nat.le_of_ble_eq_true rfl) rfl (Nat.le_of_ble_eq_true rfl) (CV.mono h (fun σ1 h => ?_))
  exact J_vret dc_Re_close_54 rfl h
theorem dc_Re_kindBegunBy_0 : decode m_Re_kindBegunBy.2.1 0 = .ok (.iload_n 0, 1) := by decide +kernel
theorem dc_Re_kindBegunBy_1 : decode m_Re_kindBegunBy.2.1 1 = .ok (.lookupswitch 72 #[(34, 65), (91, 67), (102, 61), (110, 59), (116, 63), (123, 69)], 59) := by decide +kernel
theorem dc_Re_kindBegunBy_60 : decode m_Re_kindBegunBy.2.1 60 = .ok (.iconst 0, 1) := by decide +kernel
theorem dc_Re_kindBegunBy_61 : decode m_Re_kindBegunBy.2.1 61 = .ok (.ireturn, 1) := by decide +kernel
theorem dc_Re_kindBegunBy_62 : decode m_Re_kindBegunBy.2.1 62 = .ok (.iconst 1, 1) := by decide +kernel
theorem dc_Re_kindBegunBy_63 : decode m_Re_kindBegunBy.2.1 63 = .ok (.ireturn, 1) := by decide +kernel
theorem dc_Re_kindBegunBy_64 : decode m_Re_kindBegunBy.2.1 64 = .ok (.iconst 2, 1) := by decide +kernel
theorem dc_Re_kindBegunBy_65 : decode m_Re_kindBegunBy.2.1 65 = .ok (.ireturn, 1) := by decide +kernel
theorem dc_Re_kindBegunBy_66 : decode m_Re_kindBegunBy.2.1 66 = .ok (.iconst 4, 1) := by decide +kernel
theorem dc_Re_kindBegunBy_67 : decode m_Re_kindBegunBy.2.1 67 = .ok (.ireturn, 1) := by decide +kernel
theorem dc_Re_kindBegunBy_68 : decode m_Re_kindBegunBy.2.1 68 = .ok (.iconst 5, 1) := by decide +kernel
theorem dc_Re_kindBegunBy_69 : decode m_Re_kindBegunBy.2.1 69 = .ok (.ireturn, 1) := by decide +kernel
theorem dc_Re_kindBegunBy_70 : decode m_Re_kindBegunBy.2.1 70 = .ok (.bipush 6, 2) := by decide +kernel
theorem dc_Re_kindBegunBy_72 : decode m_Re_kindBegunBy.2.1 72 = .ok (.ireturn, 1) := by decide +kernel
theorem dc_Re_kindBegunBy_73 : decode m_Re_kindBegunBy.2.1 73 = .ok (.iload_n 0, 1) := by decide +kernel
theorem dc_Re_kindBegunBy_74 : decode m_Re_kindBegunBy.2.1 74 = .ok (.bipush 45, 2) := by decide +kernel
theorem dc_Re_kindBegunBy_76 : decode m_Re_kindBegunBy.2.1 76 = .ok (.if_icmp .eq 15, 3) := by decide +kernel
theorem dc_Re_kindBegunBy_79 : decode m_Re_kindBegunBy.2.1 79 = .ok (.iload_n 0, 1) := by decide +kernel
theorem dc_Re_kindBegunBy_80 : decode m_Re_kindBegunBy.2.1 80 = .ok (.bipush 48, 2) := by decide +kernel
theorem dc_Re_kindBegunBy_82 : decode m_Re_kindBegunBy.2.1 82 = .ok (.if_icmp .lt 13, 3) := by decide +kernel
theorem dc_Re_kindBegunBy_85 : decode m_Re_kindBegunBy.2.1 85 = .ok (.iload_n 0, 1) := by decide +kernel
theorem dc_Re_kindBegunBy_86 : decode m_Re_kindBegunBy.2.1 86 = .ok (.bipush 57, 2) := by decide +kernel
theorem dc_Re_kindBegunBy_88 : decode m_Re_kindBegunBy.2.1 88 = .ok (.if_icmp .gt 7, 3) := by decide +kernel
theorem dc_Re_kindBegunBy_91 : decode m_Re_kindBegunBy.2.1 91 = .ok (.iconst 3, 1) := by decide +kernel
theorem dc_Re_kindBegunBy_92 : decode m_Re_kindBegunBy.2.1 92 = .ok (.goto 4, 3) := by decide +kernel
theorem dc_Re_kindBegunBy_95 : decode m_Re_kindBegunBy.2.1 95 = .ok (.iconst (-1), 1) := by decide +kernel
theorem dc_Re_kindBegunBy_96 : decode m_Re_kindBegunBy.2.1 96 = .ok (.ireturn, 1) := by decide +kernel
theorem b_Re_kindBegunBy_0 {E : En_t} {d : Nat} {σ : S_t} {Q : Option Value → S_t → Prop} {x0 : Int32}
    (h : (x0 = (34 : Int32) → Q (some (.int (4 : Int32))) σ) ∧ (x0 = (91 : Int32) → Q (some (.int (5 : Int32))) σ) ∧ (x0 = (102 : Int32) → Q (some (.int (1 : Int32))) σ) ∧ (x0 = (110 : Int32) → Q (some (.int (0 : Int32))) σ) ∧ (x0 = (116 : Int32) → Q (some (.int (2 : Int32))) σ) ∧ (x0 = (123 : Int32) → Q (some (.int (6 : Int32))) σ) ∧ (¬ x0 = (34 : Int32) → ¬ x0 = (91 : Int32) → ¬ x0 = (102 : Int32) → ¬ x0 = (110 : Int32) → ¬ x0 = (116 : Int32) → ¬ x0 = (123 : Int32) → (x0 = (45 : Int32) → JE E d m_Re_kindBegunBy 91 [] [] σ Q) ∧ (¬ x0 = (45 : Int32) → (x0 < (48 : Int32) → Q (some (.int (-1 : Int32))) σ) ∧ (¬ x0 < (48 : Int32) → ((57 : Int32) < x0 → Q (some (.int (-1 : Int32))) σ) ∧ (¬ (57 : Int32) < x0 → JE E d m_Re_kindBegunBy 91 [] [] σ Q))))) :
    JE E d m_Re_kindBegunBy 0 [(0, .int x0)] [] σ Q := by
  refine J_iload_n dc_Re_kindBegunBy_0 (Eq.refl 1) 0 rfl ?_
  by_cases q34 : x0 = (34 : Int32)
  · have h := h.1 q34
    refine J_lookup (tgt := 66) dc_Re_kindBegunBy_1 (by decide) (by rw [q34]) rfl ?_
    refine J_iconst (v := (4 : Int32)) dc_Re_kindBegunBy_66 (Eq.refl 67) rfl ?_
    exact J_iret dc_Re_kindBegunBy_67 rfl h
  have h := h.2
  by_cases q91 : x0 = (91 : Int32)
  · have h := h.1 q91
    refine J_lookup (tgt := 68) dc_Re_kindBegunBy_1 (by decide) (by rw [q91]) rfl ?_
    refine J_iconst (v := (5 : Int32)) dc_Re_kindBegunBy_68 (Eq.refl 69) rfl ?_
    exact J_iret dc_Re_kindBegunBy_69 rfl h
  have h := h.2
  by_cases q102 : x0 = (102 : Int32)
  · have h := h.1 q102
    refine J_lookup (tgt := 62) dc_Re_kindBegunBy_1 (by decide) (by rw [q102]) rfl ?_
    refine J_iconst (v := (1 : Int32)) dc_Re_kindBegunBy_62 (Eq.refl 63) rfl ?_
    exact J_iret dc_Re_kindBegunBy_63 rfl h
  have h := h.2
  by_cases q110 : x0 = (110 : Int32)
  · have h := h.1 q110
    refine J_lookup (tgt := 60) dc_Re_kindBegunBy_1 (by decide) (by rw [q110]) rfl ?_
    refine J_iconst (v := (0 : Int32)) dc_Re_kindBegunBy_60 (Eq.refl 61) rfl ?_
    exact J_iret dc_Re_kindBegunBy_61 rfl h
  have h := h.2
  by_cases q116 : x0 = (116 : Int32)
  · have h := h.1 q116
    refine J_lookup (tgt := 64) dc_Re_kindBegunBy_1 (by decide) (by rw [q116]) rfl ?_
    refine J_iconst (v := (2 : Int32)) dc_Re_kindBegunBy_64 (Eq.refl 65) rfl ?_
    exact J_iret dc_Re_kindBegunBy_65 rfl h
  have h := h.2
  by_cases q123 : x0 = (123 : Int32)
  · have h := h.1 q123
    refine J_lookup (tgt := 70) dc_Re_kindBegunBy_1 (by decide) (by rw [q123]) rfl ?_
    refine J_bipush (v := (6 : Int32)) dc_Re_kindBegunBy_70 (Eq.refl 72) rfl ?_
    exact J_iret dc_Re_kindBegunBy_72 rfl h
  have h := h.2
  have h := h q34 q91 q102 q110 q116 q123
  refine J_lookup (tgt := 73) (off := 72) dc_Re_kindBegunBy_1 (by decide) (lk_out q34 q91 q102 q110 q116 q123) rfl ?_
  refine J_iload_n dc_Re_kindBegunBy_73 (Eq.refl 74) 0 rfl ?_
  refine J_bipush (v := (45 : Int32)) dc_Re_kindBegunBy_74 (Eq.refl 76) rfl ?_
  refine J_icmp_eq dc_Re_kindBegunBy_76 (Eq.refl 79) rfl (fun hc => ?_) (fun hc => ?_)
  · have h := h.1 hc
    refine J_sub [] rfl ?_
    exact h
  · have h := h.2 hc
    refine J_iload_n dc_Re_kindBegunBy_79 (Eq.refl 80) 0 rfl ?_
    refine J_bipush (v := (48 : Int32)) dc_Re_kindBegunBy_80 (Eq.refl 82) rfl ?_
    refine J_icmp_lt dc_Re_kindBegunBy_82 (Eq.refl 85) rfl (fun hc => ?_) (fun hc => ?_)
    · have h := h.1 hc
      refine J_iconst (v := (-1 : Int32)) dc_Re_kindBegunBy_95 (Eq.refl 96) rfl ?_
      exact J_iret dc_Re_kindBegunBy_96 rfl h
    · have h := h.2 hc
      refine J_iload_n dc_Re_kindBegunBy_85 (Eq.refl 86) 0 rfl ?_
      refine J_bipush (v := (57 : Int32)) dc_Re_kindBegunBy_86 (Eq.refl 88) rfl ?_
      refine J_icmp_gt dc_Re_kindBegunBy_88 (Eq.refl 91) rfl (fun hc => ?_) (fun hc => ?_)
      · have h := h.1 hc
        refine J_iconst (v := (-1 : Int32)) dc_Re_kindBegunBy_95 (Eq.refl 96) rfl ?_
        exact J_iret dc_Re_kindBegunBy_96 rfl h
      · have h := h.2 hc
        refine J_sub [] rfl ?_
        exact h
theorem b_Re_kindBegunBy_91 {E : En_t} {d : Nat} {σ : S_t} {Q : Option Value → S_t → Prop}
    (h : Q (some (.int (3 : Int32))) σ) :
    JE E d m_Re_kindBegunBy 91 [] [] σ Q := by
  refine J_iconst (v := (3 : Int32)) dc_Re_kindBegunBy_91 (Eq.refl 92) rfl ?_
  refine J_goto dc_Re_kindBegunBy_92 rfl ?_
  exact J_iret dc_Re_kindBegunBy_96 rfl h
theorem dc_Re_readValue_0 : decode m_Re_readValue.2.1 0 = .ok (.iload_n 1, 1) := by decide +kernel
theorem dc_Re_readValue_1 : decode m_Re_readValue.2.1 1 = .ok (.iconst (-1), 1) := by decide +kernel
theorem dc_Re_readValue_2 : decode m_Re_readValue.2.1 2 = .ok (.if_icmp .ne 16, 3) := by decide +kernel
theorem dc_Re_readValue_5 : decode m_Re_readValue.2.1 5 = .ok (.aload_n 0, 1) := by decide +kernel
theorem dc_Re_readValue_6 : decode m_Re_readValue.2.1 6 = .ok (.iconst 1, 1) := by decide +kernel
theorem dc_Re_readValue_7 : decode m_Re_readValue.2.1 7 = .ok (.aload_n 0, 1) := by decide +kernel
theorem dc_Re_readValue_8 : decode m_Re_readValue.2.1 8 = .ok (.getfield 31, 3) := by decide +kernel
theorem dc_Re_readValue_11 : decode m_Re_readValue.2.1 11 = .ok (.getfield 68, 3) := by decide +kernel
theorem dc_Re_readValue_14 : decode m_Re_readValue.2.1 14 = .ok (.invokevirtual 74, 3) := by decide +kernel
theorem dc_Re_readValue_17 : decode m_Re_readValue.2.1 17 = .ok (.return_, 1) := by decide +kernel
theorem dc_Re_readValue_18 : decode m_Re_readValue.2.1 18 = .ok (.iload_n 1, 1) := by decide +kernel
theorem dc_Re_readValue_19 : decode m_Re_readValue.2.1 19 = .ok (.iconst 5, 1) := by decide +kernel
theorem dc_Re_readValue_20 : decode m_Re_readValue.2.1 20 = .ok (.if_icmp .eq 9, 3) := by decide +kernel
theorem dc_Re_readValue_23 : decode m_Re_readValue.2.1 23 = .ok (.iload_n 1, 1) := by decide +kernel
theorem dc_Re_readValue_24 : decode m_Re_readValue.2.1 24 = .ok (.bipush 6, 2) := by decide +kernel
theorem dc_Re_readValue_26 : decode m_Re_readValue.2.1 26 = .ok (.if_icmp .ne 7, 3) := by decide +kernel
theorem dc_Re_readValue_29 : decode m_Re_readValue.2.1 29 = .ok (.iconst 1, 1) := by decide +kernel
theorem dc_Re_readValue_30 : decode m_Re_readValue.2.1 30 = .ok (.goto 4, 3) := by decide +kernel
theorem dc_Re_readValue_33 : decode m_Re_readValue.2.1 33 = .ok (.iconst 0, 1) := by decide +kernel
theorem dc_Re_readValue_34 : decode m_Re_readValue.2.1 34 = .ok (.istore_n 2, 1) := by decide +kernel
theorem dc_Re_readValue_35 : decode m_Re_readValue.2.1 35 = .ok (.iload_n 2, 1) := by decide +kernel
theorem dc_Re_readValue_36 : decode m_Re_readValue.2.1 36 = .ok (.ifCond .eq 25, 3) := by decide +kernel
theorem dc_Re_readValue_39 : decode m_Re_readValue.2.1 39 = .ok (.aload_n 0, 1) := by decide +kernel
theorem dc_Re_readValue_40 : decode m_Re_readValue.2.1 40 = .ok (.getfield 88, 3) := by decide +kernel
theorem dc_Re_readValue_43 : decode m_Re_readValue.2.1 43 = .ok (.bipush 30, 2) := by decide +kernel
theorem dc_Re_readValue_45 : decode m_Re_readValue.2.1 45 = .ok (.if_icmp .lt 16, 3) := by decide +kernel
theorem dc_Re_readValue_48 : decode m_Re_readValue.2.1 48 = .ok (.aload_n 0, 1) := by decide +kernel
theorem dc_Re_readValue_49 : decode m_Re_readValue.2.1 49 = .ok (.iconst 4, 1) := by decide +kernel
theorem dc_Re_readValue_50 : decode m_Re_readValue.2.1 50 = .ok (.aload_n 0, 1) := by decide +kernel
theorem dc_Re_readValue_51 : decode m_Re_readValue.2.1 51 = .ok (.getfield 31, 3) := by decide +kernel
theorem dc_Re_readValue_54 : decode m_Re_readValue.2.1 54 = .ok (.getfield 68, 3) := by decide +kernel
theorem dc_Re_readValue_57 : decode m_Re_readValue.2.1 57 = .ok (.invokevirtual 74, 3) := by decide +kernel
theorem dc_Re_readValue_60 : decode m_Re_readValue.2.1 60 = .ok (.return_, 1) := by decide +kernel
theorem dc_Re_readValue_61 : decode m_Re_readValue.2.1 61 = .ok (.aload_n 0, 1) := by decide +kernel
theorem dc_Re_readValue_62 : decode m_Re_readValue.2.1 62 = .ok (.getfield 12, 3) := by decide +kernel
theorem dc_Re_readValue_65 : decode m_Re_readValue.2.1 65 = .ok (.iload_n 1, 1) := by decide +kernel
theorem dc_Re_readValue_66 : decode m_Re_readValue.2.1 66 = .ok (.aload_n 0, 1) := by decide +kernel
theorem dc_Re_readValue_67 : decode m_Re_readValue.2.1 67 = .ok (.getfield 85, 3) := by decide +kernel
theorem dc_Re_readValue_70 : decode m_Re_readValue.2.1 70 = .ok (.invokevirtual 136, 3) := by decide +kernel
theorem dc_Re_readValue_73 : decode m_Re_readValue.2.1 73 = .ok (.istore_n 3, 1) := by decide +kernel
theorem dc_Re_readValue_74 : decode m_Re_readValue.2.1 74 = .ok (.iload_n 3, 1) := by decide +kernel
theorem dc_Re_readValue_75 : decode m_Re_readValue.2.1 75 = .ok (.iconst (-1), 1) := by decide +kernel
theorem dc_Re_readValue_76 : decode m_Re_readValue.2.1 76 = .ok (.if_icmp .ne 16, 3) := by decide +kernel
theorem dc_Re_readValue_79 : decode m_Re_readValue.2.1 79 = .ok (.aload_n 0, 1) := by decide +kernel
theorem dc_Re_readValue_80 : decode m_Re_readValue.2.1 80 = .ok (.iconst 5, 1) := by decide +kernel
theorem dc_Re_readValue_81 : decode m_Re_readValue.2.1 81 = .ok (.aload_n 0, 1) := by decide +kernel
theorem dc_Re_readValue_82 : decode m_Re_readValue.2.1 82 = .ok (.getfield 31, 3) := by decide +kernel
theorem dc_Re_readValue_85 : decode m_Re_readValue.2.1 85 = .ok (.getfield 68, 3) := by decide +kernel
theorem dc_Re_readValue_88 : decode m_Re_readValue.2.1 88 = .ok (.invokevirtual 74, 3) := by decide +kernel
theorem dc_Re_readValue_91 : decode m_Re_readValue.2.1 91 = .ok (.return_, 1) := by decide +kernel
theorem dc_Re_readValue_92 : decode m_Re_readValue.2.1 92 = .ok (.aload_n 0, 1) := by decide +kernel
theorem dc_Re_readValue_93 : decode m_Re_readValue.2.1 93 = .ok (.iload_n 3, 1) := by decide +kernel
theorem dc_Re_readValue_94 : decode m_Re_readValue.2.1 94 = .ok (.invokevirtual 140, 3) := by decide +kernel
theorem dc_Re_readValue_97 : decode m_Re_readValue.2.1 97 = .ok (.aload_n 0, 1) := by decide +kernel
theorem dc_Re_readValue_98 : decode m_Re_readValue.2.1 98 = .ok (.bipush 6, 2) := by decide +kernel
theorem dc_Re_readValue_100 : decode m_Re_readValue.2.1 100 = .ok (.putfield 42, 3) := by decide +kernel
theorem dc_Re_readValue_103 : decode m_Re_readValue.2.1 103 = .ok (.iload_n 2, 1) := by decide +kernel
theorem dc_Re_readValue_104 : decode m_Re_readValue.2.1 104 = .ok (.ifCond .eq 46, 3) := by decide +kernel
theorem dc_Re_readValue_107 : decode m_Re_readValue.2.1 107 = .ok (.aload_n 0, 1) := by decide +kernel
theorem dc_Re_readValue_108 : decode m_Re_readValue.2.1 108 = .ok (.getfield 31, 3) := by decide +kernel
theorem dc_Re_readValue_111 : decode m_Re_readValue.2.1 111 = .ok (.dup, 1) := by decide +kernel
theorem dc_Re_readValue_112 : decode m_Re_readValue.2.1 112 = .ok (.getfield 68, 3) := by decide +kernel
theorem dc_Re_readValue_115 : decode m_Re_readValue.2.1 115 = .ok (.iconst 1, 1) := by decide +kernel
theorem dc_Re_readValue_116 : decode m_Re_readValue.2.1 116 = .ok (.iadd, 1) := by decide +kernel
theorem dc_Re_readValue_117 : decode m_Re_readValue.2.1 117 = .ok (.putfield 68, 3) := by decide +kernel
theorem dc_Re_readValue_120 : decode m_Re_readValue.2.1 120 = .ok (.aload_n 0, 1) := by decide +kernel
theorem dc_Re_readValue_121 : decode m_Re_readValue.2.1 121 = .ok (.dup, 1) := by decide +kernel
theorem dc_Re_readValue_122 : decode m_Re_readValue.2.1 122 = .ok (.getfield 88, 3) := by decide +kernel
theorem dc_Re_readValue_125 : decode m_Re_readValue.2.1 125 = .ok (.iconst 1, 1) := by decide +kernel
theorem dc_Re_readValue_126 : decode m_Re_readValue.2.1 126 = .ok (.iadd, 1) := by decide +kernel
theorem dc_Re_readValue_127 : decode m_Re_readValue.2.1 127 = .ok (.putfield 88, 3) := by decide +kernel
theorem dc_Re_readValue_130 : decode m_Re_readValue.2.1 130 = .ok (.aload_n 0, 1) := by decide +kernel
theorem dc_Re_readValue_131 : decode m_Re_readValue.2.1 131 = .ok (.iload_n 3, 1) := by decide +kernel
theorem dc_Re_readValue_132 : decode m_Re_readValue.2.1 132 = .ok (.putfield 85, 3) := by decide +kernel
theorem dc_Re_readValue_135 : decode m_Re_readValue.2.1 135 = .ok (.aload_n 0, 1) := by decide +kernel
theorem dc_Re_readValue_136 : decode m_Re_readValue.2.1 136 = .ok (.iload_n 1, 1) := by decide +kernel
theorem dc_Re_readValue_137 : decode m_Re_readValue.2.1 137 = .ok (.bipush 6, 2) := by decide +kernel
theorem dc_Re_readValue_139 : decode m_Re_readValue.2.1 139 = .ok (.if_icmp .ne 7, 3) := by decide +kernel
theorem dc_Re_readValue_142 : decode m_Re_readValue.2.1 142 = .ok (.iconst 3, 1) := by decide +kernel
theorem dc_Re_readValue_143 : decode m_Re_readValue.2.1 143 = .ok (.goto 4, 3) := by decide +kernel
theorem dc_Re_readValue_146 : decode m_Re_readValue.2.1 146 = .ok (.iconst 1, 1) := by decide +kernel
theorem dc_Re_readValue_147 : decode m_Re_readValue.2.1 147 = .ok (.putfield 42, 3) := by decide +kernel
theorem dc_Re_readValue_150 : decode m_Re_readValue.2.1 150 = .ok (.return_, 1) := by decide +kernel
theorem b_Re_readValue_0 {E : En_t} {d : Nat} {σ : S_t} {Q : Option Value → S_t → Prop} {x1 : Int32}
    (h : (¬ x1 = (-1 : Int32) → (x1 = (5 : Int32) → JE E (d + 1) m_Re_readValue 29 [(0, pv E 63), (1, .int x1)] [] σ Q) ∧ (¬ x1 = (5 : Int32) → (¬ x1 = (6 : Int32) → JE E (d + 1) m_Re_readValue 34 [(0, pv E 63), (1, .int x1)] [.int (0 : Int32)] σ Q) ∧ (x1 = (6 : Int32) → JE E (d + 1) m_Re_readValue 29 [(0, pv E 63), (1, .int x1)] [] σ Q))) ∧ (x1 = (-1 : Int32) → CV E d m_Re_blame [pv E 63, .int (1 : Int32), .int (gI σ 51 2)] σ (fun σ1 => Q none σ1))) :
    JE E (d + 1) m_Re_readValue 0 [(0, pv E 63), (1, .int x1)] [] σ Q := by
  refine J_iload_n dc_Re_readValue_0 (Eq.refl 1) 1 rfl ?_
  refine J_iconst (v := (-1 : Int32)) dc_Re_readValue_1 (Eq.refl 2) rfl ?_
  refine J_icmp_ne dc_Re_readValue_2 (Eq.refl 5) rfl (fun hc => ?_) (fun hc => ?_)
  · have h := h.1 hc
    refine J_iload_n dc_Re_readValue_18 (Eq.refl 19) 1 rfl ?_
    refine J_iconst (v := (5 : Int32)) dc_Re_readValue_19 (Eq.refl 20) rfl ?_
    refine J_icmp_eq dc_Re_readValue_20 (Eq.refl 23) rfl (fun hc => ?_) (fun hc => ?_)
    · have h := h.1 hc
      exact h
    · have h := h.2 hc
      refine J_iload_n dc_Re_readValue_23 (Eq.refl 24) 1 rfl ?_
      refine J_bipush (v := (6 : Int32)) dc_Re_readValue_24 (Eq.refl 26) rfl ?_
      refine J_icmp_ne dc_Re_readValue_26 (Eq.refl 29) rfl (fun hc => ?_) (fun hc => ?_)
      · have h := h.1 hc
        refine J_iconst (v := (0 : Int32)) dc_Re_readValue_33 (Eq.refl 34) rfl ?_
        exact h
      · have h := h.2 hc
        exact h
  · have h := h.2 hc
    refine J_aload_n dc_Re_readValue_5 (Eq.refl 6) 0 rfl ?_
    refine J_iconst (v := (1 : Int32)) dc_Re_readValue_6 (Eq.refl 7) rfl ?_
    refine J_aload_n dc_Re_readValue_7 (Eq.refl 8) 0 rfl ?_
    refine J_getF (y := 51) dc_Re_readValue_8 (Eq.refl 11) fl_Re_31 (Nat.le_of_ble_eq_true rfl) rfl (Or.inr rfl) rfl ?_
    refine J_getI dc_Re_readValue_11 (Eq.refl 14) fl_Re_68 (Nat.le_of_ble_eq_true rfl) rfl (Or.inl rfl) ?_
    refine J_callVV (As := [.int (1 : Int32), .int (gI σ 51 2)]) (st := []) dc_Re_readValue_14 (Eq.refl 17) lk_Re_74 mi_Re_blame rfl (Nat.le_of_ble_eq_true rfl) rfl rfl (Nat.le_of_ble_eq_true rfl) rfl (Nat.le_of_ble_eq_true rfl) (CV.mono h (fun σ1 h => ?_))
    exact J_vret dc_Re_readValue_17 rfl h
theorem b_Re_readValue_29 {E : En_t} {d : Nat} {σ : S_t} {Q : Option Value → S_t → Prop} {x1 : Int32}
    (h : JE E (d + 1) m_Re_readValue 34 [(0, pv E 63), (1, .int x1)] [.int (1 : Int32)] σ Q) :
    JE E (d + 1) m_Re_readValue 29 [(0, pv E 63), (1, .int x1)] [] σ Q := by
  refine J_iconst (v := (1 : Int32)) dc_Re_readValue_29 (Eq.refl 30) rfl ?_
  refine J_goto dc_Re_readValue_30 rfl ?_
  exact h
theorem b_Re_readValue_34 {E : En_t} {d : Nat} {σ : S_t} {Q : Option Value → S_t → Prop} {x1 : Int32} {s0 : Int32}
    (h : (s0 = 0 → JE E (d + 1) m_Re_readValue 61 [(0, pv E 63), (1, .int x1), (2, .int s0)] [] σ Q) ∧ (¬ s0 = 0 → ((gI σ 63 9) < (30 : Int32) → JE E (d + 1) m_Re_readValue 61 [(0, pv E 63), (1, .int x1), (2, .int s0)] [] σ Q) ∧ (¬ (gI σ 63 9) < (30 : Int32) → CV E d m_Re_blame [pv E 63, .int (4 : Int32), .int (gI σ 51 2)] σ (fun σ1 => Q none σ1)))) :
    JE E (d + 1) m_Re_readValue 34 [(0, pv E 63), (1, .int x1)] [.int s0] σ Q := by
  refine J_istore_n (L' := [(2, .int s0), (0, pv E 63), (1, .int x1)]) dc_Re_readValue_34 (Eq.refl 35) (Nat.le_of_ble_eq_true rfl) rfl ?_
  refine J_iload_n dc_Re_readValue_35 (Eq.refl 36) 0 rfl ?_
  refine J_if_eq dc_Re_readValue_36 (Eq.refl 39) rfl (fun hc => ?_) (fun hc => ?_)
  · have h := h.1 hc
    refine J_sub [1, 2, 0] rfl ?_
    exact h
  · have h := h.2 hc
    refine J_aload_n dc_Re_readValue_39 (Eq.refl 40) 1 rfl ?_
    refine J_getI dc_Re_readValue_40 (Eq.refl 43) fl_Re_88 (Nat.le_of_ble_eq_true rfl) rfl (Or.inl rfl) ?_
    refine J_bipush (v := (30 : Int32)) dc_Re_readValue_43 (Eq.refl 45) rfl ?_
    refine J_icmp_lt dc_Re_readValue_45 (Eq.refl 48) rfl (fun hc => ?_) (fun hc => ?_)
    · have h := h.1 hc
      refine J_sub [1, 2, 0] rfl ?_
      exact h
    · have h := h.2 hc
      refine J_aload_n dc_Re_readValue_48 (Eq.refl 49) 1 rfl ?_
      refine J_iconst (v := (4 : Int32)) dc_Re_readValue_49 (Eq.refl 50) rfl ?_
      refine J_aload_n dc_Re_readValue_50 (Eq.refl 51) 1 rfl ?_
      refine J_getF (y := 51) dc_Re_readValue_51 (Eq.refl 54) fl_Re_31 (Nat.le_of_ble_eq_true rfl) rfl (Or.inr rfl) rfl ?_
      refine J_getI dc_Re_readValue_54 (Eq.refl 57) fl_Re_68 (Nat.le_of_ble_eq_true rfl) rfl (Or.inl rfl) ?_
      refine J_callVV (As := [.int (4 : Int32), .int (gI σ 51 2)]) (st := []) dc_Re_readValue_57 (Eq.refl 60) lk_Re_74 mi_Re_blame rfl (Nat.le_of_ble_eq_true rfl) rfl rfl (Nat.le_of_ble_eq_true rfl) rfl (Nat.le_of_ble_eq_true rfl) (CV.mono h (fun σ1 h => ?_))
      exact J_vret dc_Re_readValue_60 rfl h
theorem b_Re_readValue_61 {E : En_t} {d : Nat} {σ : S_t} {Q : Option Value → S_t → Prop} {x1 : Int32} {x2 : Int32}
    (h : CI E d m_Tr_add [pv E 180, .int x1, .int (gI σ 63 8)] σ (fun r2 σ1 => (¬ r2 = (-1 : Int32) → CV E d m_Re_link [pv E 63, .int r2] σ1 (fun σ3 => (x2 = 0 → Q none (sI σ3 63 7 (6 : Int32))) ∧ (¬ x2 = 0 → ∀ σ4, σ4 = sI (sI (sI σ3 63 7 (6 : Int32)) 51 2 ((gI (sI σ3 63 7 (6 : Int32)) 51 2) + (1 : Int32))) 63 9 ((gI (sI (sI σ3 63 7 (6 : Int32)) 51 2 ((gI (sI σ3 63 7 (6 : Int32)) 51 2) + (1 : Int32))) 63 9) + (1 : Int32)) → ((¬ x1 = (6 : Int32) → Q none (sI (sI σ4 63 8 r2) 63 7 (1 : Int32))) ∧ (x1 = (6 : Int32) → Q none (sI (sI σ4 63 8 r2) 63 7 (3 : Int32))))))) ∧ (r2 = (-1 : Int32) → CV E d m_Re_blame [pv E 63, .int (5 : Int32), .int (gI σ1 51 2)] σ1 (fun σ5 => Q none σ5)))) :
    JE E (d + 1) m_Re_readValue 61 [(0, pv E 63), (1, .int x1), (2, .int x2)] [] σ Q := by
  refine J_aload_n dc_Re_readValue_61 (Eq.refl 62) 0 rfl ?_
  refine J_getF (y := 180) dc_Re_readValue_62 (Eq.refl 65) fl_Re_12 (Nat.le_of_ble_eq_true rfl) rfl (Or.inr rfl) rfl ?_
  refine J_iload_n dc_Re_readValue_65 (Eq.refl 66) 1 rfl ?_
  refine J_aload_n dc_Re_readValue_66 (Eq.refl 67) 0 rfl ?_
  refine J_getI dc_Re_readValue_67 (Eq.refl 70) fl_Re_85 (Nat.le_of_ble_eq_true rfl) rfl (Or.inl rfl) ?_
  refine J_callVI (As := [.int x1, .int (gI σ 63 8)]) (st := []) dc_Re_readValue_70 (Eq.refl 73) lk_Re_136 mi_Tr_add rfl (Nat.le_of_ble_eq_true rfl) rfl rfl (Nat.le_of_ble_eq_true rfl) rfl (Nat.le_of_ble_eq_true rfl) (CI.mono h (fun r2 σ1 h => ?_))
  refine J_istore_n (L' := [(3, .int r2), (0, pv E 63), (1, .int x1), (2, .int x2)]) dc_Re_readValue_73 (Eq.refl 74) (Nat.le_of_ble_eq_true rfl) rfl ?_
  refine J_iload_n dc_Re_readValue_74 (Eq.refl 75) 0 rfl ?_
  refine J_iconst (v := (-1 : Int32)) dc_Re_readValue_75 (Eq.refl 76) rfl ?_
  refine J_icmp_ne dc_Re_readValue_76 (Eq.refl 79) rfl (fun hc => ?_) (fun hc => ?_)
  · have h := h.1 hc
    refine J_aload_n dc_Re_readValue_92 (Eq.refl 93) 1 rfl ?_
    refine J_iload_n dc_Re_readValue_93 (Eq.refl 94) 0 rfl ?_
    refine J_callVV (As := [.int r2]) (st := []) dc_Re_readValue_94 (Eq.refl 97) lk_Re_140 mi_Re_link rfl (Nat.le_of_ble_eq_true rfl) rfl rfl (Nat.le_of_ble_eq_true rfl) rfl (Nat.le_of_ble_eq_true rfl) (CV.mono h (fun σ3 h => ?_))
    refine J_aload_n dc_Re_readValue_97 (Eq.refl 98) 1 rfl ?_
    refine J_bipush (v := (6 : Int32)) dc_Re_readValue_98 (Eq.refl 100) rfl ?_
    refine J_putI dc_Re_readValue_100 (Eq.refl 103) pl_Re_42 (Nat.le_of_ble_eq_true rfl) rfl rfl ?_
    refine J_iload_n dc_Re_readValue_103 (Eq.refl 104) 3 rfl ?_
    refine J_if_eq dc_Re_readValue_104 (Eq.refl 107) rfl (fun hc => ?_) (fun hc => ?_)
    · have h := h.1 hc
      exact J_vret dc_Re_readValue_150 rfl h
    · have h := h.2 hc
      refine J_aload_n dc_Re_readValue_107 (Eq.refl 108) 1 rfl ?_
      refine J_getF (y := 51) dc_Re_readValue_108 (Eq.refl 111) fl_Re_31 (Nat.le_of_ble_eq_true rfl) rfl (Or.inr rfl) rfl ?_
      refine J_dup dc_Re_readValue_111 (Eq.refl 112) rfl ?_
      refine J_getI dc_Re_readValue_112 (Eq.refl 115) fl_Re_68 (Nat.le_of_ble_eq_true rfl) rfl (Or.inl rfl) ?_
      refine J_iconst (v := (1 : Int32)) dc_Re_readValue_115 (Eq.refl 116) rfl ?_
      refine J_iadd dc_Re_readValue_116 (Eq.refl 117) ?_
      refine J_putI dc_Re_readValue_117 (Eq.refl 120) pl_Re_68 (Nat.le_of_ble_eq_true rfl) rfl rfl ?_
      refine J_aload_n dc_Re_readValue_120 (Eq.refl 121) 1 rfl ?_
      refine J_dup dc_Re_readValue_121 (Eq.refl 122) rfl ?_
      refine J_getI dc_Re_readValue_122 (Eq.refl 125) fl_Re_88 (Nat.le_of_ble_eq_true rfl) rfl (Or.inl rfl) ?_
      refine J_iconst (v := (1 : Int32)) dc_Re_readValue_125 (Eq.refl 126) rfl ?_
      refine J_iadd dc_Re_readValue_126 (Eq.refl 127) ?_
      refine J_putI dc_Re_readValue_127 (Eq.refl 130) pl_Re_88 (Nat.le_of_ble_eq_true rfl) rfl rfl ?_
      refine J_st (fun σ4 eσ4 => ?_)
      have h := h σ4 eσ4
      refine J_aload_n dc_Re_readValue_130 (Eq.refl 131) 1 rfl ?_
      refine J_iload_n dc_Re_readValue_131 (Eq.refl 132) 0 rfl ?_
      refine J_putI dc_Re_readValue_132 (Eq.refl 135) pl_Re_85 (Nat.le_of_ble_eq_true rfl) rfl rfl ?_
      refine J_aload_n dc_Re_readValue_135 (Eq.refl 136) 1 rfl ?_
      refine J_iload_n dc_Re_readValue_136 (Eq.refl 137) 2 rfl ?_
      refine J_bipush (v := (6 : Int32)) dc_Re_readValue_137 (Eq.refl 139) rfl ?_
      refine J_icmp_ne dc_Re_readValue_139 (Eq.refl 142) rfl (fun hc => ?_) (fun hc => ?_)
      · have h := h.1 hc
        refine J_iconst (v := (1 : Int32)) dc_Re_readValue_146 (Eq.refl 147) rfl ?_
        refine J_putI dc_Re_readValue_147 (Eq.refl 150) pl_Re_42 (Nat.le_of_ble_eq_true rfl) rfl rfl ?_
        exact J_vret dc_Re_readValue_150 rfl h
      · have h := h.2 hc
        refine J_iconst (v := (3 : Int32)) dc_Re_readValue_142 (Eq.refl 143) rfl ?_
        refine J_goto dc_Re_readValue_143 rfl ?_
        refine J_putI dc_Re_readValue_147 (Eq.refl 150) pl_Re_42 (Nat.le_of_ble_eq_true rfl) rfl rfl ?_
        exact J_vret dc_Re_readValue_150 rfl h
  · have h := h.2 hc
    refine J_aload_n dc_Re_readValue_79 (Eq.refl 80) 1 rfl ?_
    refine J_iconst (v := (5 : Int32)) dc_Re_readValue_80 (Eq.refl 81) rfl ?_
    refine J_aload_n dc_Re_readValue_81 (Eq.refl 82) 1 rfl ?_
    refine J_getF (y := 51) dc_Re_readValue_82 (Eq.refl 85) fl_Re_31 (Nat.le_of_ble_eq_true rfl) rfl (Or.inr rfl) rfl ?_
    refine J_getI dc_Re_readValue_85 (Eq.refl 88) fl_Re_68 (Nat.le_of_ble_eq_true rfl) rfl (Or.inl rfl) ?_
    refine J_callVV (As := [.int (5 : Int32), .int (gI σ1 51 2)]) (st := []) dc_Re_readValue_88 (Eq.refl 91) lk_Re_74 mi_Re_blame rfl (Nat.le_of_ble_eq_true rfl) rfl rfl (Nat.le_of_ble_eq_true rfl) rfl (Nat.le_of_ble_eq_true rfl) (CV.mono h (fun σ5 h => ?_))
    exact J_vret dc_Re_readValue_91 rfl h
theorem dc_Re_link_0 : decode m_Re_link.2.1 0 = .ok (.aload_n 0, 1) := by decide +kernel
theorem dc_Re_link_1 : decode m_Re_link.2.1 1 = .ok (.getfield 18, 3) := by decide +kernel
theorem dc_Re_link_4 : decode m_Re_link.2.1 4 = .ok (.iload_n 1, 1) := by decide +kernel
theorem dc_Re_link_5 : decode m_Re_link.2.1 5 = .ok (.iconst (-1), 1) := by decide +kernel
theorem dc_Re_link_6 : decode m_Re_link.2.1 6 = .ok (.iastore, 1) := by decide +kernel
theorem dc_Re_link_7 : decode m_Re_link.2.1 7 = .ok (.aload_n 0, 1) := by decide +kernel
theorem dc_Re_link_8 : decode m_Re_link.2.1 8 = .ok (.getfield 22, 3) := by decide +kernel
theorem dc_Re_link_11 : decode m_Re_link.2.1 11 = .ok (.iload_n 1, 1) := by decide +kernel
theorem dc_Re_link_12 : decode m_Re_link.2.1 12 = .ok (.iconst (-1), 1) := by decide +kernel
theorem dc_Re_link_13 : decode m_Re_link.2.1 13 = .ok (.iastore, 1) := by decide +kernel
theorem dc_Re_link_14 : decode m_Re_link.2.1 14 = .ok (.aload_n 0, 1) := by decide +kernel
theorem dc_Re_link_15 : decode m_Re_link.2.1 15 = .ok (.getfield 25, 3) := by decide +kernel
theorem dc_Re_link_18 : decode m_Re_link.2.1 18 = .ok (.iload_n 1, 1) := by decide +kernel
theorem dc_Re_link_19 : decode m_Re_link.2.1 19 = .ok (.iconst (-1), 1) := by decide +kernel
theorem dc_Re_link_20 : decode m_Re_link.2.1 20 = .ok (.iastore, 1) := by decide +kernel
theorem dc_Re_link_21 : decode m_Re_link.2.1 21 = .ok (.aload_n 0, 1) := by decide +kernel
theorem dc_Re_link_22 : decode m_Re_link.2.1 22 = .ok (.getfield 12, 3) := by decide +kernel
theorem dc_Re_link_25 : decode m_Re_link.2.1 25 = .ok (.getfield 143, 3) := by decide +kernel
theorem dc_Re_link_28 : decode m_Re_link.2.1 28 = .ok (.iload_n 1, 1) := by decide +kernel
theorem dc_Re_link_29 : decode m_Re_link.2.1 29 = .ok (.aload_n 0, 1) := by decide +kernel
theorem dc_Re_link_30 : decode m_Re_link.2.1 30 = .ok (.getfield 94, 3) := by decide +kernel
theorem dc_Re_link_33 : decode m_Re_link.2.1 33 = .ok (.iastore, 1) := by decide +kernel
theorem dc_Re_link_34 : decode m_Re_link.2.1 34 = .ok (.aload_n 0, 1) := by decide +kernel
theorem dc_Re_link_35 : decode m_Re_link.2.1 35 = .ok (.getfield 12, 3) := by decide +kernel
theorem dc_Re_link_38 : decode m_Re_link.2.1 38 = .ok (.getfield 146, 3) := by decide +kernel
theorem dc_Re_link_41 : decode m_Re_link.2.1 41 = .ok (.iload_n 1, 1) := by decide +kernel
theorem dc_Re_link_42 : decode m_Re_link.2.1 42 = .ok (.aload_n 0, 1) := by decide +kernel
theorem dc_Re_link_43 : decode m_Re_link.2.1 43 = .ok (.getfield 97, 3) := by decide +kernel
theorem dc_Re_link_46 : decode m_Re_link.2.1 46 = .ok (.iastore, 1) := by decide +kernel
theorem dc_Re_link_47 : decode m_Re_link.2.1 47 = .ok (.aload_n 0, 1) := by decide +kernel
theorem dc_Re_link_48 : decode m_Re_link.2.1 48 = .ok (.getfield 85, 3) := by decide +kernel
theorem dc_Re_link_51 : decode m_Re_link.2.1 51 = .ok (.iconst (-1), 1) := by decide +kernel
theorem dc_Re_link_52 : decode m_Re_link.2.1 52 = .ok (.if_icmp .ne 4, 3) := by decide +kernel
theorem dc_Re_link_55 : decode m_Re_link.2.1 55 = .ok (.return_, 1) := by decide +kernel
theorem dc_Re_link_56 : decode m_Re_link.2.1 56 = .ok (.aload_n 0, 1) := by decide +kernel
theorem dc_Re_link_57 : decode m_Re_link.2.1 57 = .ok (.invokevirtual 126, 3) := by decide +kernel
theorem dc_Re_link_60 : decode m_Re_link.2.1 60 = .ok (.ifCond .eq 10, 3) := by decide +kernel
theorem dc_Re_link_63 : decode m_Re_link.2.1 63 = .ok (.aload_n 0, 1) := by decide +kernel
theorem dc_Re_link_64 : decode m_Re_link.2.1 64 = .ok (.getfield 91, 3) := by decide +kernel
theorem dc_Re_link_67 : decode m_Re_link.2.1 67 = .ok (.goto 12, 3) := by decide +kernel
theorem dc_Re_link_70 : decode m_Re_link.2.1 70 = .ok (.aload_n 0, 1) := by decide +kernel
theorem dc_Re_link_71 : decode m_Re_link.2.1 71 = .ok (.getfield 22, 3) := by decide +kernel
theorem dc_Re_link_74 : decode m_Re_link.2.1 74 = .ok (.aload_n 0, 1) := by decide +kernel
theorem dc_Re_link_75 : decode m_Re_link.2.1 75 = .ok (.getfield 85, 3) := by decide +kernel
theorem dc_Re_link_78 : decode m_Re_link.2.1 78 = .ok (.iaload, 1) := by decide +kernel
theorem dc_Re_link_79 : decode m_Re_link.2.1 79 = .ok (.istore_n 2, 1) := by decide +kernel
theorem dc_Re_link_80 : decode m_Re_link.2.1 80 = .ok (.iload_n 2, 1) := by decide +kernel
theorem dc_Re_link_81 : decode m_Re_link.2.1 81 = .ok (.iconst (-1), 1) := by decide +kernel
theorem dc_Re_link_82 : decode m_Re_link.2.1 82 = .ok (.if_icmp .ne 31, 3) := by decide +kernel
theorem dc_Re_link_85 : decode m_Re_link.2.1 85 = .ok (.aload_n 0, 1) := by decide +kernel
theorem dc_Re_link_86 : decode m_Re_link.2.1 86 = .ok (.getfield 25, 3) := by decide +kernel
theorem dc_Re_link_89 : decode m_Re_link.2.1 89 = .ok (.iload_n 1, 1) := by decide +kernel
theorem dc_Re_link_90 : decode m_Re_link.2.1 90 = .ok (.aload_n 0, 1) := by decide +kernel
theorem dc_Re_link_91 : decode m_Re_link.2.1 91 = .ok (.getfield 18, 3) := by decide +kernel
theorem dc_Re_link_94 : decode m_Re_link.2.1 94 = .ok (.aload_n 0, 1) := by decide +kernel
theorem dc_Re_link_95 : decode m_Re_link.2.1 95 = .ok (.getfield 85, 3) := by decide +kernel
theorem dc_Re_link_98 : decode m_Re_link.2.1 98 = .ok (.iaload, 1) := by decide +kernel
theorem dc_Re_link_99 : decode m_Re_link.2.1 99 = .ok (.iastore, 1) := by decide +kernel
theorem dc_Re_link_100 : decode m_Re_link.2.1 100 = .ok (.aload_n 0, 1) := by decide +kernel
theorem dc_Re_link_101 : decode m_Re_link.2.1 101 = .ok (.getfield 18, 3) := by decide +kernel
theorem dc_Re_link_104 : decode m_Re_link.2.1 104 = .ok (.aload_n 0, 1) := by decide +kernel
theorem dc_Re_link_105 : decode m_Re_link.2.1 105 = .ok (.getfield 85, 3) := by decide +kernel
theorem dc_Re_link_108 : decode m_Re_link.2.1 108 = .ok (.iload_n 1, 1) := by decide +kernel
theorem dc_Re_link_109 : decode m_Re_link.2.1 109 = .ok (.iastore, 1) := by decide +kernel
theorem dc_Re_link_110 : decode m_Re_link.2.1 110 = .ok (.goto 22, 3) := by decide +kernel
theorem dc_Re_link_113 : decode m_Re_link.2.1 113 = .ok (.aload_n 0, 1) := by decide +kernel
theorem dc_Re_link_114 : decode m_Re_link.2.1 114 = .ok (.getfield 25, 3) := by decide +kernel
theorem dc_Re_link_117 : decode m_Re_link.2.1 117 = .ok (.iload_n 1, 1) := by decide +kernel
theorem dc_Re_link_118 : decode m_Re_link.2.1 118 = .ok (.aload_n 0, 1) := by decide +kernel
theorem dc_Re_link_119 : decode m_Re_link.2.1 119 = .ok (.getfield 25, 3) := by decide +kernel
theorem dc_Re_link_122 : decode m_Re_link.2.1 122 = .ok (.iload_n 2, 1) := by decide +kernel
theorem dc_Re_link_123 : decode m_Re_link.2.1 123 = .ok (.iaload, 1) := by decide +kernel
theorem dc_Re_link_124 : decode m_Re_link.2.1 124 = .ok (.iastore, 1) := by decide +kernel
theorem dc_Re_link_125 : decode m_Re_link.2.1 125 = .ok (.aload_n 0, 1) := by decide +kernel
theorem dc_Re_link_126 : decode m_Re_link.2.1 126 = .ok (.getfield 25, 3) := by decide +kernel
theorem dc_Re_link_129 : decode m_Re_link.2.1 129 = .ok (.iload_n 2, 1) := by decide +kernel
theorem dc_Re_link_130 : decode m_Re_link.2.1 130 = .ok (.iload_n 1, 1) := by decide +kernel
theorem dc_Re_link_131 : decode m_Re_link.2.1 131 = .ok (.iastore, 1) := by decide +kernel
theorem dc_Re_link_132 : decode m_Re_link.2.1 132 = .ok (.aload_n 0, 1) := by decide +kernel
theorem dc_Re_link_133 : decode m_Re_link.2.1 133 = .ok (.getfield 22, 3) := by decide +kernel
theorem dc_Re_link_136 : decode m_Re_link.2.1 136 = .ok (.aload_n 0, 1) := by decide +kernel
theorem dc_Re_link_137 : decode m_Re_link.2.1 137 = .ok (.getfield 85, 3) := by decide +kernel
theorem dc_Re_link_140 : decode m_Re_link.2.1 140 = .ok (.iload_n 1, 1) := by decide +kernel
theorem dc_Re_link_141 : decode m_Re_link.2.1 141 = .ok (.iastore, 1) := by decide +kernel
theorem dc_Re_link_142 : decode m_Re_link.2.1 142 = .ok (.return_, 1) := by decide +kernel
theorem b_Re_link_0 {E : En_t} {d : Nat} {σ : S_t} {Q : Option Value → S_t → Prop} {x1 : Int32}
    (h : vp_in x1 500 ∧ (vp_in x1 500 ∧ (vp_in x1 500 ∧ (∀ v1, v1 = gI (sI (sI (sI σ 64 x1.toNatClampNeg (-1 : Int32)) 65 x1.toNatClampNeg (-1 : Int32)) 66 x1.toNatClampNeg (-1 : Int32)) 63 10 → (vp_in x1 500 ∧ (∀ σ2, σ2 = sI (sI (sI (sI σ 64 x1.toNatClampNeg (-1 : Int32)) 65 x1.toNatClampNeg (-1 : Int32)) 66 x1.toNatClampNeg (-1 : Int32)) 188 x1.toNatClampNeg v1 → (vp_in x1 500 ∧ ((¬ (gI (sI σ2 189 x1.toNatClampNeg (gI σ2 63 11)) 63 8) = (-1 : Int32) → CI E d m_Re_isInObject [pv E 63] (sI σ2 189 x1.toNatClampNeg (gI σ2 63 11)) (fun r4 σ3 => (r4 = 0 → vp_in (gI σ3 63 8) 500 ∧ (JE E (d + 1) m_Re_link 79 [(0, pv E 63), (1, .int x1)] [.int (gI σ3 65 (gI σ3 63 8).toNatClampNeg)] σ3 Q)) ∧ (¬ r4 = 0 → JE E (d + 1) m_Re_link 79 [(0, pv E 63), (1, .int x1)] [.int (gI σ3 63 12)] σ3 Q))) ∧ ((gI (sI σ2 189 x1.toNatClampNeg (gI σ2 63 11)) 63 8) = (-1 : Int32) → Q none (sI σ2 189 x1.toNatClampNeg (gI σ2 63 11))))))))))) :
    JE E (d + 1) m_Re_link 0 [(0, pv E 63), (1, .int x1)] [] σ Q := by
  refine J_aload_n dc_Re_link_0 (Eq.refl 1) 0 rfl ?_
  refine J_getF (y := 64) dc_Re_link_1 (Eq.refl 4) fl_Re_18 (Nat.le_of_ble_eq_true rfl) rfl (Or.inl rfl) rfl ?_
  refine J_iload_n dc_Re_link_4 (Eq.refl 5) 1 rfl ?_
  refine J_iconst (v := (-1 : Int32)) dc_Re_link_5 (Eq.refl 6) rfl ?_
  obtain ⟨hg, h⟩ := h
  refine J_iast dc_Re_link_6 (Eq.refl 7) rfl rfl hg ?_
  refine J_aload_n dc_Re_link_7 (Eq.refl 8) 0 rfl ?_
  refine J_getF (y := 65) dc_Re_link_8 (Eq.refl 11) fl_Re_22 (Nat.le_of_ble_eq_true rfl) rfl (Or.inl rfl) rfl ?_
  refine J_iload_n dc_Re_link_11 (Eq.refl 12) 1 rfl ?_
  refine J_iconst (v := (-1 : Int32)) dc_Re_link_12 (Eq.refl 13) rfl ?_
  obtain ⟨hg, h⟩ := h
  refine J_iast dc_Re_link_13 (Eq.refl 14) rfl rfl hg ?_
  refine J_aload_n dc_Re_link_14 (Eq.refl 15) 0 rfl ?_
  refine J_getF (y := 66) dc_Re_link_15 (Eq.refl 18) fl_Re_25 (Nat.le_of_ble_eq_true rfl) rfl (Or.inl rfl) rfl ?_
  refine J_iload_n dc_Re_link_18 (Eq.refl 19) 1 rfl ?_
  refine J_iconst (v := (-1 : Int32)) dc_Re_link_19 (Eq.refl 20) rfl ?_
  obtain ⟨hg, h⟩ := h
  refine J_iast dc_Re_link_20 (Eq.refl 21) rfl rfl hg ?_
  refine J_aload_n dc_Re_link_21 (Eq.refl 22) 0 rfl ?_
  refine J_getF (y := 180) dc_Re_link_22 (Eq.refl 25) fl_Re_12 (Nat.le_of_ble_eq_true rfl) rfl (Or.inr rfl) rfl ?_
  refine J_getF (y := 188) dc_Re_link_25 (Eq.refl 28) fl_Re_143 (Nat.le_of_ble_eq_true rfl) rfl (Or.inl rfl) rfl ?_
  refine J_iload_n dc_Re_link_28 (Eq.refl 29) 1 rfl ?_
  refine J_aload_n dc_Re_link_29 (Eq.refl 30) 0 rfl ?_
  refine J_getI dc_Re_link_30 (Eq.refl 33) fl_Re_94 (Nat.le_of_ble_eq_true rfl) rfl (Or.inl rfl) ?_
  refine J_topi (fun v1 ev1 => ?_)
  have h := h v1 ev1
  obtain ⟨hg, h⟩ := h
  refine J_iast dc_Re_link_33 (Eq.refl 34) rfl rfl hg ?_
  refine J_st (fun σ2 eσ2 => ?_)
  have h := h σ2 eσ2
  refine J_aload_n dc_Re_link_34 (Eq.refl 35) 0 rfl ?_
  refine J_getF (y := 180) dc_Re_link_35 (Eq.refl 38) fl_Re_12 (Nat.le_of_ble_eq_true rfl) rfl (Or.inr rfl) rfl ?_
  refine J_getF (y := 189) dc_Re_link_38 (Eq.refl 41) fl_Re_146 (Nat.le_of_ble_eq_true rfl) rfl (Or.inl rfl) rfl ?_
  refine J_iload_n dc_Re_link_41 (Eq.refl 42) 1 rfl ?_
  refine J_aload_n dc_Re_link_42 (Eq.refl 43) 0 rfl ?_
  refine J_getI dc_Re_link_43 (Eq.refl 46) fl_Re_97 (Nat.le_of_ble_eq_true rfl) rfl (Or.inl rfl) ?_
  obtain ⟨hg, h⟩ := h
  refine J_iast dc_Re_link_46 (Eq.refl 47) rfl rfl hg ?_
  refine J_aload_n dc_Re_link_47 (Eq.refl 48) 0 rfl ?_
  refine J_getI dc_Re_link_48 (Eq.refl 51) fl_Re_85 (Nat.le_of_ble_eq_true rfl) rfl (Or.inl rfl) ?_
  refine J_iconst (v := (-1 : Int32)) dc_Re_link_51 (Eq.refl 52) rfl ?_
  refine J_icmp_ne dc_Re_link_52 (Eq.refl 55) rfl (fun hc => ?_) (fun hc => ?_)
  · have h := h.1 hc
    refine J_aload_n dc_Re_link_56 (Eq.refl 57) 0 rfl ?_
    refine J_callVI (As := []) (st := []) dc_Re_link_57 (Eq.refl 60) lk_Re_126 mi_Re_isInObject rfl (Nat.le_of_ble_eq_true rfl) rfl rfl (Nat.le_of_ble_eq_true rfl) rfl (Nat.le_of_ble_eq_true rfl) (CI.mono h (fun r4 σ3 h => ?_))
    refine J_if_eq dc_Re_link_60 (Eq.refl 63) rfl (fun hc => ?_) (fun hc => ?_)
    · have h := h.1 hc
      refine J_aload_n dc_Re_link_70 (Eq.refl 71) 0 rfl ?_
      refine J_getF (y := 65) dc_Re_link_71 (Eq.refl 74) fl_Re_22 (Nat.le_of_ble_eq_true rfl) rfl (Or.inl rfl) rfl ?_
      refine J_aload_n dc_Re_link_74 (Eq.refl 75) 0 rfl ?_
      refine J_getI dc_Re_link_75 (Eq.refl 78) fl_Re_85 (Nat.le_of_ble_eq_true rfl) rfl (Or.inl rfl) ?_
      obtain ⟨hg, h⟩ := h
      refine J_iald dc_Re_link_78 (Eq.refl 79) rfl rfl hg ?_
      exact h
    · have h := h.2 hc
      refine J_aload_n dc_Re_link_63 (Eq.refl 64) 0 rfl ?_
      refine J_getI dc_Re_link_64 (Eq.refl 67) fl_Re_91 (Nat.le_of_ble_eq_true rfl) rfl (Or.inl rfl) ?_
      refine J_goto dc_Re_link_67 rfl ?_
      exact h
  · have h := h.2 hc
    exact J_vret dc_Re_link_55 rfl h
theorem b_Re_link_79 {E : En_t} {d : Nat} {σ : S_t} {Q : Option Value → S_t → Prop} {x1 : Int32} {s0 : Int32}
    (h : (¬ s0 = (-1 : Int32) → vp_in s0 500 ∧ (vp_in x1 500 ∧ (vp_in s0 500 ∧ (JE E (d + 1) m_Re_link 132 [(0, pv E 63), (1, .int x1)] [] (sI (sI σ 66 x1.toNatClampNeg (gI σ 66 s0.toNatClampNeg)) 66 s0.toNatClampNeg x1) Q)))) ∧ (s0 = (-1 : Int32) → vp_in (gI σ 63 8) 500 ∧ (vp_in x1 500 ∧ (vp_in (gI (sI σ 66 x1.toNatClampNeg (gI σ 64 (gI σ 63 8).toNatClampNeg)) 63 8) 500 ∧ (∀ σ1, σ1 = sI (sI σ 66 x1.toNatClampNeg (gI σ 64 (gI σ 63 8).toNatClampNeg)) 64 (gI (sI σ 66 x1.toNatClampNeg (gI σ 64 (gI σ 63 8).toNatClampNeg)) 63 8).toNatClampNeg x1 → (JE E (d + 1) m_Re_link 132 [(0, pv E 63), (1, .int x1)] [] σ1 Q)))))) :
    JE E (d + 1) m_Re_link 79 [(0, pv E 63), (1, .int x1)] [.int s0] σ Q := by
  refine J_istore_n (L' := [(2, .int s0), (0, pv E 63), (1, .int x1)]) dc_Re_link_79 (Eq.refl 80) (Nat.le_of_ble_eq_true rfl) rfl ?_
  refine J_iload_n dc_Re_link_80 (Eq.refl 81) 0 rfl ?_
  refine J_iconst (v := (-1 : Int32)) dc_Re_link_81 (Eq.refl 82) rfl ?_
  refine J_icmp_ne dc_Re_link_82 (Eq.refl 85) rfl (fun hc => ?_) (fun hc => ?_)
  · have h := h.1 hc
    refine J_aload_n dc_Re_link_113 (Eq.refl 114) 1 rfl ?_
    refine J_getF (y := 66) dc_Re_link_114 (Eq.refl 117) fl_Re_25 (Nat.le_of_ble_eq_true rfl) rfl (Or.inl rfl) rfl ?_
    refine J_iload_n dc_Re_link_117 (Eq.refl 118) 2 rfl ?_
    refine J_aload_n dc_Re_link_118 (Eq.refl 119) 1 rfl ?_
    refine J_getF (y := 66) dc_Re_link_119 (Eq.refl 122) fl_Re_25 (Nat.le_of_ble_eq_true rfl) rfl (Or.inl rfl) rfl ?_
    refine J_iload_n dc_Re_link_122 (Eq.refl 123) 0 rfl ?_
    obtain ⟨hg, h⟩ := h
    refine J_iald dc_Re_link_123 (Eq.refl 124) rfl rfl hg ?_
    obtain ⟨hg, h⟩ := h
    refine J_iast dc_Re_link_124 (Eq.refl 125) rfl rfl hg ?_
    refine J_aload_n dc_Re_link_125 (Eq.refl 126) 1 rfl ?_
    refine J_getF (y := 66) dc_Re_link_126 (Eq.refl 129) fl_Re_25 (Nat.le_of_ble_eq_true rfl) rfl (Or.inl rfl) rfl ?_
    refine J_iload_n dc_Re_link_129 (Eq.refl 130) 0 rfl ?_
    refine J_iload_n dc_Re_link_130 (Eq.refl 131) 2 rfl ?_
    obtain ⟨hg, h⟩ := h
    refine J_iast dc_Re_link_131 (Eq.refl 132) rfl rfl hg ?_
    refine J_sub [1, 2] rfl ?_
    exact h
  · have h := h.2 hc
    refine J_aload_n dc_Re_link_85 (Eq.refl 86) 1 rfl ?_
    refine J_getF (y := 66) dc_Re_link_86 (Eq.refl 89) fl_Re_25 (Nat.le_of_ble_eq_true rfl) rfl (Or.inl rfl) rfl ?_
    refine J_iload_n dc_Re_link_89 (Eq.refl 90) 2 rfl ?_
    refine J_aload_n dc_Re_link_90 (Eq.refl 91) 1 rfl ?_
    refine J_getF (y := 64) dc_Re_link_91 (Eq.refl 94) fl_Re_18 (Nat.le_of_ble_eq_true rfl) rfl (Or.inl rfl) rfl ?_
    refine J_aload_n dc_Re_link_94 (Eq.refl 95) 1 rfl ?_
    refine J_getI dc_Re_link_95 (Eq.refl 98) fl_Re_85 (Nat.le_of_ble_eq_true rfl) rfl (Or.inl rfl) ?_
    obtain ⟨hg, h⟩ := h
    refine J_iald dc_Re_link_98 (Eq.refl 99) rfl rfl hg ?_
    obtain ⟨hg, h⟩ := h
    refine J_iast dc_Re_link_99 (Eq.refl 100) rfl rfl hg ?_
    refine J_aload_n dc_Re_link_100 (Eq.refl 101) 1 rfl ?_
    refine J_getF (y := 64) dc_Re_link_101 (Eq.refl 104) fl_Re_18 (Nat.le_of_ble_eq_true rfl) rfl (Or.inl rfl) rfl ?_
    refine J_aload_n dc_Re_link_104 (Eq.refl 105) 1 rfl ?_
    refine J_getI dc_Re_link_105 (Eq.refl 108) fl_Re_85 (Nat.le_of_ble_eq_true rfl) rfl (Or.inl rfl) ?_
    refine J_iload_n dc_Re_link_108 (Eq.refl 109) 2 rfl ?_
    obtain ⟨hg, h⟩ := h
    refine J_iast dc_Re_link_109 (Eq.refl 110) rfl rfl hg ?_
    refine J_st (fun σ1 eσ1 => ?_)
    have h := h σ1 eσ1
    refine J_goto dc_Re_link_110 rfl ?_
    refine J_sub [1, 2] rfl ?_
    exact h
theorem b_Re_link_132 {E : En_t} {d : Nat} {σ : S_t} {Q : Option Value → S_t → Prop} {x1 : Int32}
    (h : vp_in (gI σ 63 8) 500 ∧ (Q none (sI σ 65 (gI σ 63 8).toNatClampNeg x1))) :
    JE E (d + 1) m_Re_link 132 [(0, pv E 63), (1, .int x1)] [] σ Q := by
  refine J_aload_n dc_Re_link_132 (Eq.refl 133) 0 rfl ?_
  refine J_getF (y := 65) dc_Re_link_133 (Eq.refl 136) fl_Re_22 (Nat.le_of_ble_eq_true rfl) rfl (Or.inl rfl) rfl ?_
  refine J_aload_n dc_Re_link_136 (Eq.refl 137) 0 rfl ?_
  refine J_getI dc_Re_link_137 (Eq.refl 140) fl_Re_85 (Nat.le_of_ble_eq_true rfl) rfl (Or.inl rfl) ?_
  refine J_iload_n dc_Re_link_140 (Eq.refl 141) 1 rfl ?_
  obtain ⟨hg, h⟩ := h
  refine J_iast dc_Re_link_141 (Eq.refl 142) rfl rfl hg ?_
  exact J_vret dc_Re_link_142 rfl h
theorem dc_Re_isInObject_0 : decode m_Re_isInObject.2.1 0 = .ok (.aload_n 0, 1) := by decide +kernel
theorem dc_Re_isInObject_1 : decode m_Re_isInObject.2.1 1 = .ok (.getfield 85, 3) := by decide +kernel
theorem dc_Re_isInObject_4 : decode m_Re_isInObject.2.1 4 = .ok (.ifCond .lt 24, 3) := by decide +kernel
theorem dc_Re_isInObject_7 : decode m_Re_isInObject.2.1 7 = .ok (.aload_n 0, 1) := by decide +kernel
theorem dc_Re_isInObject_8 : decode m_Re_isInObject.2.1 8 = .ok (.getfield 12, 3) := by decide +kernel
theorem dc_Re_isInObject_11 : decode m_Re_isInObject.2.1 11 = .ok (.getfield 123, 3) := by decide +kernel
theorem dc_Re_isInObject_14 : decode m_Re_isInObject.2.1 14 = .ok (.aload_n 0, 1) := by decide +kernel
theorem dc_Re_isInObject_15 : decode m_Re_isInObject.2.1 15 = .ok (.getfield 85, 3) := by decide +kernel
theorem dc_Re_isInObject_18 : decode m_Re_isInObject.2.1 18 = .ok (.iaload, 1) := by decide +kernel
theorem dc_Re_isInObject_19 : decode m_Re_isInObject.2.1 19 = .ok (.bipush 6, 2) := by decide +kernel
theorem dc_Re_isInObject_21 : decode m_Re_isInObject.2.1 21 = .ok (.if_icmp .ne 7, 3) := by decide +kernel
theorem dc_Re_isInObject_24 : decode m_Re_isInObject.2.1 24 = .ok (.iconst 1, 1) := by decide +kernel
theorem dc_Re_isInObject_25 : decode m_Re_isInObject.2.1 25 = .ok (.goto 4, 3) := by decide +kernel
theorem dc_Re_isInObject_28 : decode m_Re_isInObject.2.1 28 = .ok (.iconst 0, 1) := by decide +kernel
theorem dc_Re_isInObject_29 : decode m_Re_isInObject.2.1 29 = .ok (.ireturn, 1) := by decide +kernel
theorem b_Re_isInObject_0 {E : En_t} {d : Nat} {σ : S_t} {Q : Option Value → S_t → Prop}
    (h : ((gI σ 63 8) < 0 → Q (some (.int (0 : Int32))) σ) ∧ (¬ (gI σ 63 8) < 0 → vp_in (gI σ 63 8) 500 ∧ ((¬ (gI σ 181 (gI σ 63 8).toNatClampNeg) = (6 : Int32) → Q (some (.int (0 : Int32))) σ) ∧ ((gI σ 181 (gI σ 63 8).toNatClampNeg) = (6 : Int32) → Q (some (.int (1 : Int32))) σ)))) :
    JE E d m_Re_isInObject 0 [(0, pv E 63)] [] σ Q := by
  refine J_aload_n dc_Re_isInObject_0 (Eq.refl 1) 0 rfl ?_
  refine J_getI dc_Re_isInObject_1 (Eq.refl 4) fl_Re_85 (Nat.le_of_ble_eq_true rfl) rfl (Or.inl rfl) ?_
  refine J_if_lt dc_Re_isInObject_4 (Eq.refl 7) rfl (fun hc => ?_) (fun hc => ?_)
  · have h := h.1 hc
    refine J_iconst (v := (0 : Int32)) dc_Re_isInObject_28 (Eq.refl 29) rfl ?_
    exact J_zret dc_Re_isInObject_29 rfl rfl h
  · have h := h.2 hc
    refine J_aload_n dc_Re_isInObject_7 (Eq.refl 8) 0 rfl ?_
    refine J_getF (y := 180) dc_Re_isInObject_8 (Eq.refl 11) fl_Re_12 (Nat.le_of_ble_eq_true rfl) rfl (Or.inr rfl) rfl ?_
    refine J_getF (y := 181) dc_Re_isInObject_11 (Eq.refl 14) fl_Re_123 (Nat.le_of_ble_eq_true rfl) rfl (Or.inl rfl) rfl ?_
    refine J_aload_n dc_Re_isInObject_14 (Eq.refl 15) 0 rfl ?_
    refine J_getI dc_Re_isInObject_15 (Eq.refl 18) fl_Re_85 (Nat.le_of_ble_eq_true rfl) rfl (Or.inl rfl) ?_
    obtain ⟨hg, h⟩ := h
    refine J_iald dc_Re_isInObject_18 (Eq.refl 19) rfl rfl hg ?_
    refine J_bipush (v := (6 : Int32)) dc_Re_isInObject_19 (Eq.refl 21) rfl ?_
    refine J_icmp_ne dc_Re_isInObject_21 (Eq.refl 24) rfl (fun hc => ?_) (fun hc => ?_)
    · have h := h.1 hc
      refine J_iconst (v := (0 : Int32)) dc_Re_isInObject_28 (Eq.refl 29) rfl ?_
      exact J_zret dc_Re_isInObject_29 rfl rfl h
    · have h := h.2 hc
      refine J_iconst (v := (1 : Int32)) dc_Re_isInObject_24 (Eq.refl 25) rfl ?_
      refine J_goto dc_Re_isInObject_25 rfl ?_
      exact J_zret dc_Re_isInObject_29 rfl rfl h
theorem dc_Re_readName_0 : decode m_Re_readName.2.1 0 = .ok (.aload_n 0, 1) := by decide +kernel
theorem dc_Re_readName_1 : decode m_Re_readName.2.1 1 = .ok (.getfield 31, 3) := by decide +kernel
theorem dc_Re_readName_4 : decode m_Re_readName.2.1 4 = .ok (.getfield 68, 3) := by decide +kernel
theorem dc_Re_readName_7 : decode m_Re_readName.2.1 7 = .ok (.istore_n 2, 1) := by decide +kernel
theorem dc_Re_readName_8 : decode m_Re_readName.2.1 8 = .ok (.iload_n 1, 1) := by decide +kernel
theorem dc_Re_readName_9 : decode m_Re_readName.2.1 9 = .ok (.bipush 34, 2) := by decide +kernel
theorem dc_Re_readName_11 : decode m_Re_readName.2.1 11 = .ok (.if_icmp .eq 10, 3) := by decide +kernel
theorem dc_Re_readName_14 : decode m_Re_readName.2.1 14 = .ok (.aload_n 0, 1) := by decide +kernel
theorem dc_Re_readName_15 : decode m_Re_readName.2.1 15 = .ok (.iconst 1, 1) := by decide +kernel
theorem dc_Re_readName_16 : decode m_Re_readName.2.1 16 = .ok (.iload_n 2, 1) := by decide +kernel
theorem dc_Re_readName_17 : decode m_Re_readName.2.1 17 = .ok (.invokevirtual 74, 3) := by decide +kernel
theorem dc_Re_readName_20 : decode m_Re_readName.2.1 20 = .ok (.return_, 1) := by decide +kernel
theorem dc_Re_readName_21 : decode m_Re_readName.2.1 21 = .ok (.aload_n 0, 1) := by decide +kernel
theorem dc_Re_readName_22 : decode m_Re_readName.2.1 22 = .ok (.aload_n 0, 1) := by decide +kernel
theorem dc_Re_readName_23 : decode m_Re_readName.2.1 23 = .ok (.getfield 12, 3) := by decide +kernel
theorem dc_Re_readName_26 : decode m_Re_readName.2.1 26 = .ok (.getfield 165, 3) := by decide +kernel
theorem dc_Re_readName_29 : decode m_Re_readName.2.1 29 = .ok (.putfield 94, 3) := by decide +kernel
theorem dc_Re_readName_32 : decode m_Re_readName.2.1 32 = .ok (.aload_n 0, 1) := by decide +kernel
theorem dc_Re_readName_33 : decode m_Re_readName.2.1 33 = .ok (.invokevirtual 168, 3) := by decide +kernel
theorem dc_Re_readName_36 : decode m_Re_readName.2.1 36 = .ok (.aload_n 0, 1) := by decide +kernel
theorem dc_Re_readName_37 : decode m_Re_readName.2.1 37 = .ok (.aload_n 0, 1) := by decide +kernel
theorem dc_Re_readName_38 : decode m_Re_readName.2.1 38 = .ok (.getfield 12, 3) := by decide +kernel
theorem dc_Re_readName_41 : decode m_Re_readName.2.1 41 = .ok (.getfield 165, 3) := by decide +kernel
theorem dc_Re_readName_44 : decode m_Re_readName.2.1 44 = .ok (.aload_n 0, 1) := by decide +kernel
theorem dc_Re_readName_45 : decode m_Re_readName.2.1 45 = .ok (.getfield 94, 3) := by decide +kernel
theorem dc_Re_readName_48 : decode m_Re_readName.2.1 48 = .ok (.isub, 1) := by decide +kernel
theorem dc_Re_readName_49 : decode m_Re_readName.2.1 49 = .ok (.putfield 97, 3) := by decide +kernel
theorem dc_Re_readName_52 : decode m_Re_readName.2.1 52 = .ok (.aload_n 0, 1) := by decide +kernel
theorem dc_Re_readName_53 : decode m_Re_readName.2.1 53 = .ok (.iconst 4, 1) := by decide +kernel
theorem dc_Re_readName_54 : decode m_Re_readName.2.1 54 = .ok (.putfield 42, 3) := by decide +kernel
theorem dc_Re_readName_57 : decode m_Re_readName.2.1 57 = .ok (.aload_n 0, 1) := by decide +kernel
theorem dc_Re_readName_58 : decode m_Re_readName.2.1 58 = .ok (.getfield 46, 3) := by decide +kernel
theorem dc_Re_readName_61 : decode m_Re_readName.2.1 61 = .ok (.ifCond .ne 16, 3) := by decide +kernel
theorem dc_Re_readName_64 : decode m_Re_readName.2.1 64 = .ok (.aload_n 0, 1) := by decide +kernel
theorem dc_Re_readName_65 : decode m_Re_readName.2.1 65 = .ok (.invokevirtual 196, 3) := by decide +kernel
theorem dc_Re_readName_68 : decode m_Re_readName.2.1 68 = .ok (.ifCond .ne 9, 3) := by decide +kernel
theorem dc_Re_readName_71 : decode m_Re_readName.2.1 71 = .ok (.aload_n 0, 1) := by decide +kernel
theorem dc_Re_readName_72 : decode m_Re_readName.2.1 72 = .ok (.iconst 3, 1) := by decide +kernel
theorem dc_Re_readName_73 : decode m_Re_readName.2.1 73 = .ok (.iload_n 2, 1) := by decide +kernel
theorem dc_Re_readName_74 : decode m_Re_readName.2.1 74 = .ok (.invokevirtual 74, 3) := by decide +kernel
theorem dc_Re_readName_77 : decode m_Re_readName.2.1 77 = .ok (.return_, 1) := by decide +kernel
theorem b_Re_readName_0 {E : En_t} {d : Nat} {σ : S_t} {Q : Option Value → S_t → Prop} {x1 : Int32}
    (h : (x1 = (34 : Int32) → CV E d m_Re_readString [pv E 63] (sI σ 63 10 (gI σ 180 11)) (fun σ1 => (¬ (gI (sI (sI σ1 63 11 ((gI σ1 180 11) - (gI σ1 63 10))) 63 7 (4 : Int32)) 63 13) = 0 → Q none (sI (sI σ1 63 11 ((gI σ1 180 11) - (gI σ1 63 10))) 63 7 (4 : Int32))) ∧ ((gI (sI (sI σ1 63 11 ((gI σ1 180 11) - (gI σ1 63 10))) 63 7 (4 : Int32)) 63 13) = 0 → CI E d m_Re_findPartAhead [pv E 63] (sI (sI σ1 63 11 ((gI σ1 180 11) - (gI σ1 63 10))) 63 7 (4 : Int32)) (fun r3 σ2 => (¬ r3 = 0 → Q none σ2) ∧ (r3 = 0 → CV E d m_Re_blame [pv E 63, .int (3 : Int32), .int (gI σ 51 2)] σ2 (fun σ4 => Q none σ4)))))) ∧ (¬ x1 = (34 : Int32) → CV E d m_Re_blame [pv E 63, .int (1 : Int32), .int (gI σ 51 2)] σ (fun σ5 => Q none σ5))) :
    JE E (d + 1) m_Re_readName 0 [(0, pv E 63), (1, .int x1)] [] σ Q := by
  refine J_aload_n dc_Re_readName_0 (Eq.refl 1) 0 rfl ?_
  refine J_getF (y := 51) dc_Re_readName_1 (Eq.refl 4) fl_Re_31 (Nat.le_of_ble_eq_true rfl) rfl (Or.inr rfl) rfl ?_
  refine J_getI dc_Re_readName_4 (Eq.refl 7) fl_Re_68 (Nat.le_of_ble_eq_true rfl) rfl (Or.inl rfl) ?_
  refine J_istore_n (L' := [(2, .int (gI σ 51 2)), (0, pv E 63), (1, .int x1)]) dc_Re_readName_7 (Eq.refl 8) (Nat.le_of_ble_eq_true rfl) rfl ?_
  refine J_iload_n dc_Re_readName_8 (Eq.refl 9) 2 rfl ?_
  refine J_bipush (v := (34 : Int32)) dc_Re_readName_9 (Eq.refl 11) rfl ?_
  refine J_icmp_eq dc_Re_readName_11 (Eq.refl 14) rfl (fun hc => ?_) (fun hc => ?_)
  · have h := h.1 hc
    refine J_aload_n dc_Re_readName_21 (Eq.refl 22) 1 rfl ?_
    refine J_aload_n dc_Re_readName_22 (Eq.refl 23) 1 rfl ?_
    refine J_getF (y := 180) dc_Re_readName_23 (Eq.refl 26) fl_Re_12 (Nat.le_of_ble_eq_true rfl) rfl (Or.inr rfl) rfl ?_
    refine J_getI dc_Re_readName_26 (Eq.refl 29) fl_Re_165 (Nat.le_of_ble_eq_true rfl) rfl (Or.inl rfl) ?_
    refine J_putI dc_Re_readName_29 (Eq.refl 32) pl_Re_94 (Nat.le_of_ble_eq_true rfl) rfl rfl ?_
    refine J_aload_n dc_Re_readName_32 (Eq.refl 33) 1 rfl ?_
    refine J_callVV (As := []) (st := []) dc_Re_readName_33 (Eq.refl 36) lk_Re_168 mi_Re_readString rfl (Nat.le_of_ble_eq_true rfl) rfl rfl (Nat.le_of_ble_eq_true rfl) rfl (Nat.le_of_ble_eq_true rfl) (CV.mono h (fun σ1 h => ?_))
    refine J_aload_n dc_Re_readName_36 (Eq.refl 37) 1 rfl ?_
    refine J_aload_n dc_Re_readName_37 (Eq.refl 38) 1 rfl ?_
    refine J_getF (y := 180) dc_Re_readName_38 (Eq.refl 41) fl_Re_12 (Nat.le_of_ble_eq_true rfl) rfl (Or.inr rfl) rfl ?_
    refine J_getI dc_Re_readName_41 (Eq.refl 44) fl_Re_165 (Nat.le_of_ble_eq_true rfl) rfl (Or.inl rfl) ?_
    refine J_aload_n dc_Re_readName_44 (Eq.refl 45) 1 rfl ?_
    refine J_getI dc_Re_readName_45 (Eq.refl 48) fl_Re_94 (Nat.le_of_ble_eq_true rfl) rfl (Or.inl rfl) ?_
    refine J_isub dc_Re_readName_48 (Eq.refl 49) ?_
    refine J_putI dc_Re_readName_49 (Eq.refl 52) pl_Re_97 (Nat.le_of_ble_eq_true rfl) rfl rfl ?_
    refine J_aload_n dc_Re_readName_52 (Eq.refl 53) 1 rfl ?_
    refine J_iconst (v := (4 : Int32)) dc_Re_readName_53 (Eq.refl 54) rfl ?_
    refine J_putI dc_Re_readName_54 (Eq.refl 57) pl_Re_42 (Nat.le_of_ble_eq_true rfl) rfl rfl ?_
    refine J_aload_n dc_Re_readName_57 (Eq.refl 58) 1 rfl ?_
    refine J_getI dc_Re_readName_58 (Eq.refl 61) fl_Re_46 (Nat.le_of_ble_eq_true rfl) rfl (Or.inl rfl) ?_
    refine J_if_ne dc_Re_readName_61 (Eq.refl 64) rfl (fun hc => ?_) (fun hc => ?_)
    · have h := h.1 hc
      exact J_vret dc_Re_readName_77 rfl h
    · have h := h.2 hc
      refine J_aload_n dc_Re_readName_64 (Eq.refl 65) 1 rfl ?_
      refine J_callVI (As := []) (st := []) dc_Re_readName_65 (Eq.refl 68) lk_Re_196 mi_Re_findPartAhead rfl (Nat.le_of_ble_eq_true rfl) rfl rfl (Nat.le_of_ble_eq_true rfl) rfl (Nat.le_of_ble_eq_true rfl) (CI.mono h (fun r3 σ2 h => ?_))
      refine J_if_ne dc_Re_readName_68 (Eq.refl 71) rfl (fun hc => ?_) (fun hc => ?_)
      · have h := h.1 hc
        exact J_vret dc_Re_readName_77 rfl h
      · have h := h.2 hc
        refine J_aload_n dc_Re_readName_71 (Eq.refl 72) 1 rfl ?_
        refine J_iconst (v := (3 : Int32)) dc_Re_readName_72 (Eq.refl 73) rfl ?_
        refine J_iload_n dc_Re_readName_73 (Eq.refl 74) 0 rfl ?_
        refine J_callVV (As := [.int (3 : Int32), .int (gI σ 51 2)]) (st := []) dc_Re_readName_74 (Eq.refl 77) lk_Re_74 mi_Re_blame rfl (Nat.le_of_ble_eq_true rfl) rfl rfl (Nat.le_of_ble_eq_true rfl) rfl (Nat.le_of_ble_eq_true rfl) (CV.mono h (fun σ4 h => ?_))
        exact J_vret dc_Re_readName_77 rfl h
  · have h := h.2 hc
    refine J_aload_n dc_Re_readName_14 (Eq.refl 15) 1 rfl ?_
    refine J_iconst (v := (1 : Int32)) dc_Re_readName_15 (Eq.refl 16) rfl ?_
    refine J_iload_n dc_Re_readName_16 (Eq.refl 17) 0 rfl ?_
    refine J_callVV (As := [.int (1 : Int32), .int (gI σ 51 2)]) (st := []) dc_Re_readName_17 (Eq.refl 20) lk_Re_74 mi_Re_blame rfl (Nat.le_of_ble_eq_true rfl) rfl rfl (Nat.le_of_ble_eq_true rfl) rfl (Nat.le_of_ble_eq_true rfl) (CV.mono h (fun σ5 h => ?_))
    exact J_vret dc_Re_readName_20 rfl h
theorem dc_Re_findPartAhead_0 : decode m_Re_findPartAhead.2.1 0 = .ok (.aload_n 0, 1) := by decide +kernel
theorem dc_Re_findPartAhead_1 : decode m_Re_findPartAhead.2.1 1 = .ok (.iconst (-1), 1) := by decide +kernel
theorem dc_Re_findPartAhead_2 : decode m_Re_findPartAhead.2.1 2 = .ok (.putfield 91, 3) := by decide +kernel
theorem dc_Re_findPartAhead_5 : decode m_Re_findPartAhead.2.1 5 = .ok (.aload_n 0, 1) := by decide +kernel
theorem dc_Re_findPartAhead_6 : decode m_Re_findPartAhead.2.1 6 = .ok (.getfield 85, 3) := by decide +kernel
theorem dc_Re_findPartAhead_9 : decode m_Re_findPartAhead.2.1 9 = .ok (.ifCond .lt 15, 3) := by decide +kernel
theorem dc_Re_findPartAhead_12 : decode m_Re_findPartAhead.2.1 12 = .ok (.aload_n 0, 1) := by decide +kernel
theorem dc_Re_findPartAhead_13 : decode m_Re_findPartAhead.2.1 13 = .ok (.getfield 18, 3) := by decide +kernel
theorem dc_Re_findPartAhead_16 : decode m_Re_findPartAhead.2.1 16 = .ok (.aload_n 0, 1) := by decide +kernel
theorem dc_Re_findPartAhead_17 : decode m_Re_findPartAhead.2.1 17 = .ok (.getfield 85, 3) := by decide +kernel
theorem dc_Re_findPartAhead_20 : decode m_Re_findPartAhead.2.1 20 = .ok (.iaload, 1) := by decide +kernel
theorem dc_Re_findPartAhead_21 : decode m_Re_findPartAhead.2.1 21 = .ok (.goto 4, 3) := by decide +kernel
theorem dc_Re_findPartAhead_24 : decode m_Re_findPartAhead.2.1 24 = .ok (.iconst (-1), 1) := by decide +kernel
theorem dc_Re_findPartAhead_25 : decode m_Re_findPartAhead.2.1 25 = .ok (.istore_n 1, 1) := by decide +kernel
theorem dc_Re_findPartAhead_26 : decode m_Re_findPartAhead.2.1 26 = .ok (.iconst 0, 1) := by decide +kernel
theorem dc_Re_findPartAhead_27 : decode m_Re_findPartAhead.2.1 27 = .ok (.istore_n 2, 1) := by decide +kernel
theorem dc_Re_findPartAhead_28 : decode m_Re_findPartAhead.2.1 28 = .ok (.iload_n 2, 1) := by decide +kernel
theorem dc_Re_findPartAhead_29 : decode m_Re_findPartAhead.2.1 29 = .ok (.sipush 500, 3) := by decide +kernel
theorem dc_Re_findPartAhead_32 : decode m_Re_findPartAhead.2.1 32 = .ok (.if_icmp .ge 61, 3) := by decide +kernel
theorem dc_Re_findPartAhead_35 : decode m_Re_findPartAhead.2.1 35 = .ok (.iload_n 1, 1) := by decide +kernel
theorem dc_Re_findPartAhead_36 : decode m_Re_findPartAhead.2.1 36 = .ok (.iconst (-1), 1) := by decide +kernel
theorem dc_Re_findPartAhead_37 : decode m_Re_findPartAhead.2.1 37 = .ok (.if_icmp .eq 56, 3) := by decide +kernel
theorem dc_Re_findPartAhead_40 : decode m_Re_findPartAhead.2.1 40 = .ok (.aload_n 0, 1) := by decide +kernel
theorem dc_Re_findPartAhead_41 : decode m_Re_findPartAhead.2.1 41 = .ok (.getfield 12, 3) := by decide +kernel
theorem dc_Re_findPartAhead_44 : decode m_Re_findPartAhead.2.1 44 = .ok (.aload_n 0, 1) := by decide +kernel
theorem dc_Re_findPartAhead_45 : decode m_Re_findPartAhead.2.1 45 = .ok (.getfield 94, 3) := by decide +kernel
theorem dc_Re_findPartAhead_48 : decode m_Re_findPartAhead.2.1 48 = .ok (.aload_n 0, 1) := by decide +kernel
theorem dc_Re_findPartAhead_49 : decode m_Re_findPartAhead.2.1 49 = .ok (.getfield 97, 3) := by decide +kernel
theorem dc_Re_findPartAhead_52 : decode m_Re_findPartAhead.2.1 52 = .ok (.aload_n 0, 1) := by decide +kernel
theorem dc_Re_findPartAhead_53 : decode m_Re_findPartAhead.2.1 53 = .ok (.getfield 12, 3) := by decide +kernel
theorem dc_Re_findPartAhead_56 : decode m_Re_findPartAhead.2.1 56 = .ok (.iload_n 1, 1) := by decide +kernel
theorem dc_Re_findPartAhead_57 : decode m_Re_findPartAhead.2.1 57 = .ok (.invokevirtual 199, 3) := by decide +kernel
theorem dc_Re_findPartAhead_60 : decode m_Re_findPartAhead.2.1 60 = .ok (.istore_n 3, 1) := by decide +kernel
theorem dc_Re_findPartAhead_61 : decode m_Re_findPartAhead.2.1 61 = .ok (.iload_n 3, 1) := by decide +kernel
theorem dc_Re_findPartAhead_62 : decode m_Re_findPartAhead.2.1 62 = .ok (.ifCond .gt 13, 3) := by decide +kernel
theorem dc_Re_findPartAhead_65 : decode m_Re_findPartAhead.2.1 65 = .ok (.iload_n 3, 1) := by decide +kernel
theorem dc_Re_findPartAhead_66 : decode m_Re_findPartAhead.2.1 66 = .ok (.ifCond .ge 7, 3) := by decide +kernel
theorem dc_Re_findPartAhead_69 : decode m_Re_findPartAhead.2.1 69 = .ok (.iconst 1, 1) := by decide +kernel
theorem dc_Re_findPartAhead_70 : decode m_Re_findPartAhead.2.1 70 = .ok (.goto 4, 3) := by decide +kernel
theorem dc_Re_findPartAhead_73 : decode m_Re_findPartAhead.2.1 73 = .ok (.iconst 0, 1) := by decide +kernel
theorem dc_Re_findPartAhead_74 : decode m_Re_findPartAhead.2.1 74 = .ok (.ireturn, 1) := by decide +kernel
theorem dc_Re_findPartAhead_75 : decode m_Re_findPartAhead.2.1 75 = .ok (.aload_n 0, 1) := by decide +kernel
theorem dc_Re_findPartAhead_76 : decode m_Re_findPartAhead.2.1 76 = .ok (.iload_n 1, 1) := by decide +kernel
theorem dc_Re_findPartAhead_77 : decode m_Re_findPartAhead.2.1 77 = .ok (.putfield 91, 3) := by decide +kernel
theorem dc_Re_findPartAhead_80 : decode m_Re_findPartAhead.2.1 80 = .ok (.aload_n 0, 1) := by decide +kernel
theorem dc_Re_findPartAhead_81 : decode m_Re_findPartAhead.2.1 81 = .ok (.getfield 25, 3) := by decide +kernel
theorem dc_Re_findPartAhead_84 : decode m_Re_findPartAhead.2.1 84 = .ok (.iload_n 1, 1) := by decide +kernel
theorem dc_Re_findPartAhead_85 : decode m_Re_findPartAhead.2.1 85 = .ok (.iaload, 1) := by decide +kernel
theorem dc_Re_findPartAhead_86 : decode m_Re_findPartAhead.2.1 86 = .ok (.istore_n 1, 1) := by decide +kernel
theorem dc_Re_findPartAhead_87 : decode m_Re_findPartAhead.2.1 87 = .ok (.iinc 2 1, 3) := by decide +kernel
theorem dc_Re_findPartAhead_90 : decode m_Re_findPartAhead.2.1 90 = .ok (.goto (-62), 3) := by decide +kernel
theorem dc_Re_findPartAhead_93 : decode m_Re_findPartAhead.2.1 93 = .ok (.iconst 1, 1) := by decide +kernel
theorem dc_Re_findPartAhead_94 : decode m_Re_findPartAhead.2.1 94 = .ok (.ireturn, 1) := by decide +kernel
theorem b_Re_findPartAhead_0 {E : En_t} {d : Nat} {σ : S_t} {Q : Option Value → S_t → Prop}
    (h : ((gI (sI σ 63 12 (-1 : Int32)) 63 8) < 0 → JE E (d + 1) m_Re_findPartAhead 25 [(0, pv E 63)] [.int (-1 : Int32)] (sI σ 63 12 (-1 : Int32)) Q) ∧ (¬ (gI (sI σ 63 12 (-1 : Int32)) 63 8) < 0 → vp_in (gI (sI σ 63 12 (-1 : Int32)) 63 8) 500 ∧ (JE E (d + 1) m_Re_findPartAhead 25 [(0, pv E 63)] [.int (gI (sI σ 63 12 (-1 : Int32)) 64 (gI (sI σ 63 12 (-1 : Int32)) 63 8).toNatClampNeg)] (sI σ 63 12 (-1 : Int32)) Q))) :
    JE E (d + 1) m_Re_findPartAhead 0 [(0, pv E 63)] [] σ Q := by
  refine J_aload_n dc_Re_findPartAhead_0 (Eq.refl 1) 0 rfl ?_
  refine J_iconst (v := (-1 : Int32)) dc_Re_findPartAhead_1 (Eq.refl 2) rfl ?_
  refine J_putI dc_Re_findPartAhead_2 (Eq.refl 5) pl_Re_91 (Nat.le_of_ble_eq_true rfl) rfl rfl ?_
  refine J_aload_n dc_Re_findPartAhead_5 (Eq.refl 6) 0 rfl ?_
  refine J_getI dc_Re_findPartAhead_6 (Eq.refl 9) fl_Re_85 (Nat.le_of_ble_eq_true rfl) rfl (Or.inl rfl) ?_
  refine J_if_lt dc_Re_findPartAhead_9 (Eq.refl 12) rfl (fun hc => ?_) (fun hc => ?_)
  · have h := h.1 hc
    refine J_iconst (v := (-1 : Int32)) dc_Re_findPartAhead_24 (Eq.refl 25) rfl ?_
    exact h
  · have h := h.2 hc
    refine J_aload_n dc_Re_findPartAhead_12 (Eq.refl 13) 0 rfl ?_
    refine J_getF (y := 64) dc_Re_findPartAhead_13 (Eq.refl 16) fl_Re_18 (Nat.le_of_ble_eq_true rfl) rfl (Or.inl rfl) rfl ?_
    refine J_aload_n dc_Re_findPartAhead_16 (Eq.refl 17) 0 rfl ?_
    refine J_getI dc_Re_findPartAhead_17 (Eq.refl 20) fl_Re_85 (Nat.le_of_ble_eq_true rfl) rfl (Or.inl rfl) ?_
    obtain ⟨hg, h⟩ := h
    refine J_iald dc_Re_findPartAhead_20 (Eq.refl 21) rfl rfl hg ?_
    refine J_goto dc_Re_findPartAhead_21 rfl ?_
    exact h
theorem b_Re_findPartAhead_25 {E : En_t} {d : Nat} {σ : S_t} {Q : Option Value → S_t → Prop} {s0 : Int32}
    (h : JE E (d + 1) m_Re_findPartAhead 28 [(0, pv E 63), (1, .int s0), (2, .int (0 : Int32))] [] σ Q) :
    JE E (d + 1) m_Re_findPartAhead 25 [(0, pv E 63)] [.int s0] σ Q := by
  refine J_istore_n (L' := [(1, .int s0), (0, pv E 63)]) dc_Re_findPartAhead_25 (Eq.refl 26) (Nat.le_of_ble_eq_true rfl) rfl ?_
  refine J_iconst (v := (0 : Int32)) dc_Re_findPartAhead_26 (Eq.refl 27) rfl ?_
  refine J_istore_n (L' := [(2, .int (0 : Int32)), (1, .int s0), (0, pv E 63)]) dc_Re_findPartAhead_27 (Eq.refl 28) (Nat.le_of_ble_eq_true rfl) rfl ?_
  refine J_sub [2, 1, 0] rfl ?_
  exact h
theorem b_Re_findPartAhead_28 {E : En_t} {d : Nat} {σ : S_t} {Q : Option Value → S_t → Prop} {x1 : Int32} {x2 : Int32}
    (h : ((500 : Int32) ≤ x2 → Q (some (.int (1 : Int32))) σ) ∧ (¬ (500 : Int32) ≤ x2 → (x1 = (-1 : Int32) → Q (some (.int (1 : Int32))) σ) ∧ (¬ x1 = (-1 : Int32) → CI E d m_Tr_compareWithName [pv E 180, .int (gI σ 63 10), .int (gI σ 63 11), pv E 180, .int x1] σ (fun r2 σ1 => (0 < r2 → vp_in x1 500 ∧ (JE E (d + 1) m_Re_findPartAhead 28 [(0, pv E 63), (1, .int (gI (sI σ1 63 12 x1) 66 x1.toNatClampNeg)), (2, .int (x2 + (1 : Int32)))] [] (sI σ1 63 12 x1) Q)) ∧ (¬ 0 < r2 → (0 ≤ r2 → Q (some (.int (0 : Int32))) σ1) ∧ (¬ 0 ≤ r2 → Q (some (.int (1 : Int32))) σ1)))))) :
    JE E (d + 1) m_Re_findPartAhead 28 [(0, pv E 63), (1, .int x1), (2, .int x2)] [] σ Q := by
  refine J_iload_n dc_Re_findPartAhead_28 (Eq.refl 29) 2 rfl ?_
  refine J_sipush (v := (500 : Int32)) dc_Re_findPartAhead_29 (Eq.refl 32) rfl ?_
  refine J_icmp_ge dc_Re_findPartAhead_32 (Eq.refl 35) rfl (fun hc => ?_) (fun hc => ?_)
  · have h := h.1 hc
    refine J_iconst (v := (1 : Int32)) dc_Re_findPartAhead_93 (Eq.refl 94) rfl ?_
    exact J_zret dc_Re_findPartAhead_94 rfl rfl h
  · have h := h.2 hc
    refine J_iload_n dc_Re_findPartAhead_35 (Eq.refl 36) 1 rfl ?_
    refine J_iconst (v := (-1 : Int32)) dc_Re_findPartAhead_36 (Eq.refl 37) rfl ?_
    refine J_icmp_eq dc_Re_findPartAhead_37 (Eq.refl 40) rfl (fun hc => ?_) (fun hc => ?_)
    · have h := h.1 hc
      refine J_iconst (v := (1 : Int32)) dc_Re_findPartAhead_93 (Eq.refl 94) rfl ?_
      exact J_zret dc_Re_findPartAhead_94 rfl rfl h
    · have h := h.2 hc
      refine J_aload_n dc_Re_findPartAhead_40 (Eq.refl 41) 0 rfl ?_
      refine J_getF (y := 180) dc_Re_findPartAhead_41 (Eq.refl 44) fl_Re_12 (Nat.le_of_ble_eq_true rfl) rfl (Or.inr rfl) rfl ?_
      refine J_aload_n dc_Re_findPartAhead_44 (Eq.refl 45) 0 rfl ?_
      refine J_getI dc_Re_findPartAhead_45 (Eq.refl 48) fl_Re_94 (Nat.le_of_ble_eq_true rfl) rfl (Or.inl rfl) ?_
      refine J_aload_n dc_Re_findPartAhead_48 (Eq.refl 49) 0 rfl ?_
      refine J_getI dc_Re_findPartAhead_49 (Eq.refl 52) fl_Re_97 (Nat.le_of_ble_eq_true rfl) rfl (Or.inl rfl) ?_
      refine J_aload_n dc_Re_findPartAhead_52 (Eq.refl 53) 0 rfl ?_
      refine J_getF (y := 180) dc_Re_findPartAhead_53 (Eq.refl 56) fl_Re_12 (Nat.le_of_ble_eq_true rfl) rfl (Or.inr rfl) rfl ?_
      refine J_iload_n dc_Re_findPartAhead_56 (Eq.refl 57) 1 rfl ?_
      refine J_callVI (As := [.int (gI σ 63 10), .int (gI σ 63 11), pv E 180, .int x1]) (st := []) dc_Re_findPartAhead_57 (Eq.refl 60) lk_Re_199 mi_Tr_compareWithName rfl (Nat.le_of_ble_eq_true rfl) rfl rfl (Nat.le_of_ble_eq_true rfl) rfl (Nat.le_of_ble_eq_true rfl) (CI.mono h (fun r2 σ1 h => ?_))
      refine J_istore_n (L' := [(3, .int r2), (0, pv E 63), (1, .int x1), (2, .int x2)]) dc_Re_findPartAhead_60 (Eq.refl 61) (Nat.le_of_ble_eq_true rfl) rfl ?_
      refine J_iload_n dc_Re_findPartAhead_61 (Eq.refl 62) 0 rfl ?_
      refine J_if_gt dc_Re_findPartAhead_62 (Eq.refl 65) rfl (fun hc => ?_) (fun hc => ?_)
      · have h := h.1 hc
        refine J_aload_n dc_Re_findPartAhead_75 (Eq.refl 76) 1 rfl ?_
        refine J_iload_n dc_Re_findPartAhead_76 (Eq.refl 77) 2 rfl ?_
        refine J_putI dc_Re_findPartAhead_77 (Eq.refl 80) pl_Re_91 (Nat.le_of_ble_eq_true rfl) rfl rfl ?_
        refine J_aload_n dc_Re_findPartAhead_80 (Eq.refl 81) 1 rfl ?_
        refine J_getF (y := 66) dc_Re_findPartAhead_81 (Eq.refl 84) fl_Re_25 (Nat.le_of_ble_eq_true rfl) rfl (Or.inl rfl) rfl ?_
        refine J_iload_n dc_Re_findPartAhead_84 (Eq.refl 85) 2 rfl ?_
        obtain ⟨hg, h⟩ := h
        refine J_iald dc_Re_findPartAhead_85 (Eq.refl 86) rfl rfl hg ?_
        refine J_istore_n (L' := [(1, .int (gI (sI σ1 63 12 x1) 66 x1.toNatClampNeg)), (3, .int r2), (0, pv E 63), (2, .int x2)]) dc_Re_findPartAhead_86 (Eq.refl 87) (Nat.le_of_ble_eq_true rfl) rfl ?_
        refine J_iinc (v := x2 + (1 : Int32)) (L' := [(2, .int (x2 + (1 : Int32))), (1, .int (gI (sI σ1 63 12 x1) 66 x1.toNatClampNeg)), (3, .int r2), (0, pv E 63)]) dc_Re_findPartAhead_87 (Eq.refl 90) 3 rfl rfl (Nat.le_of_ble_eq_true rfl) rfl ?_
        refine J_goto dc_Re_findPartAhead_90 rfl ?_
        refine J_sub [3, 1, 0] rfl ?_
        exact h
      · have h := h.2 hc
        refine J_iload_n dc_Re_findPartAhead_65 (Eq.refl 66) 0 rfl ?_
        refine J_if_ge dc_Re_findPartAhead_66 (Eq.refl 69) rfl (fun hc => ?_) (fun hc => ?_)
        · have h := h.1 hc
          refine J_iconst (v := (0 : Int32)) dc_Re_findPartAhead_73 (Eq.refl 74) rfl ?_
          exact J_zret dc_Re_findPartAhead_74 rfl rfl h
        · have h := h.2 hc
          refine J_iconst (v := (1 : Int32)) dc_Re_findPartAhead_69 (Eq.refl 70) rfl ?_
          refine J_goto dc_Re_findPartAhead_70 rfl ?_
          exact J_zret dc_Re_findPartAhead_74 rfl rfl h
theorem dc_Re_readSeparator_0 : decode m_Re_readSeparator.2.1 0 = .ok (.aload_n 0, 1) := by decide +kernel
theorem dc_Re_readSeparator_1 : decode m_Re_readSeparator.2.1 1 = .ok (.invokevirtual 126, 3) := by decide +kernel
theorem dc_Re_readSeparator_4 : decode m_Re_readSeparator.2.1 4 = .ok (.istore_n 2, 1) := by decide +kernel
theorem dc_Re_readSeparator_5 : decode m_Re_readSeparator.2.1 5 = .ok (.iload_n 1, 1) := by decide +kernel
theorem dc_Re_readSeparator_6 : decode m_Re_readSeparator.2.1 6 = .ok (.bipush 44, 2) := by decide +kernel
theorem dc_Re_readSeparator_8 : decode m_Re_readSeparator.2.1 8 = .ok (.if_icmp .ne 32, 3) := by decide +kernel
theorem dc_Re_readSeparator_11 : decode m_Re_readSeparator.2.1 11 = .ok (.aload_n 0, 1) := by decide +kernel
theorem dc_Re_readSeparator_12 : decode m_Re_readSeparator.2.1 12 = .ok (.getfield 31, 3) := by decide +kernel
theorem dc_Re_readSeparator_15 : decode m_Re_readSeparator.2.1 15 = .ok (.dup, 1) := by decide +kernel
theorem dc_Re_readSeparator_16 : decode m_Re_readSeparator.2.1 16 = .ok (.getfield 68, 3) := by decide +kernel
theorem dc_Re_readSeparator_19 : decode m_Re_readSeparator.2.1 19 = .ok (.iconst 1, 1) := by decide +kernel
theorem dc_Re_readSeparator_20 : decode m_Re_readSeparator.2.1 20 = .ok (.iadd, 1) := by decide +kernel
theorem dc_Re_readSeparator_21 : decode m_Re_readSeparator.2.1 21 = .ok (.putfield 68, 3) := by decide +kernel
theorem dc_Re_readSeparator_24 : decode m_Re_readSeparator.2.1 24 = .ok (.aload_n 0, 1) := by decide +kernel
theorem dc_Re_readSeparator_25 : decode m_Re_readSeparator.2.1 25 = .ok (.iload_n 2, 1) := by decide +kernel
theorem dc_Re_readSeparator_26 : decode m_Re_readSeparator.2.1 26 = .ok (.ifCond .eq 7, 3) := by decide +kernel
theorem dc_Re_readSeparator_29 : decode m_Re_readSeparator.2.1 29 = .ok (.iconst 2, 1) := by decide +kernel
theorem dc_Re_readSeparator_30 : decode m_Re_readSeparator.2.1 30 = .ok (.goto 4, 3) := by decide +kernel
theorem dc_Re_readSeparator_33 : decode m_Re_readSeparator.2.1 33 = .ok (.iconst 0, 1) := by decide +kernel
theorem dc_Re_readSeparator_34 : decode m_Re_readSeparator.2.1 34 = .ok (.putfield 42, 3) := by decide +kernel
theorem dc_Re_readSeparator_37 : decode m_Re_readSeparator.2.1 37 = .ok (.goto 37, 3) := by decide +kernel
theorem dc_Re_readSeparator_40 : decode m_Re_readSeparator.2.1 40 = .ok (.iload_n 1, 1) := by decide +kernel
theorem dc_Re_readSeparator_41 : decode m_Re_readSeparator.2.1 41 = .ok (.iload_n 2, 1) := by decide +kernel
theorem dc_Re_readSeparator_42 : decode m_Re_readSeparator.2.1 42 = .ok (.ifCond .eq 8, 3) := by decide +kernel
theorem dc_Re_readSeparator_45 : decode m_Re_readSeparator.2.1 45 = .ok (.bipush 125, 2) := by decide +kernel
theorem dc_Re_readSeparator_47 : decode m_Re_readSeparator.2.1 47 = .ok (.goto 5, 3) := by decide +kernel
theorem dc_Re_readSeparator_50 : decode m_Re_readSeparator.2.1 50 = .ok (.bipush 93, 2) := by decide +kernel
theorem dc_Re_readSeparator_52 : decode m_Re_readSeparator.2.1 52 = .ok (.if_icmp .ne 10, 3) := by decide +kernel
theorem dc_Re_readSeparator_55 : decode m_Re_readSeparator.2.1 55 = .ok (.aload_n 0, 1) := by decide +kernel
theorem dc_Re_readSeparator_56 : decode m_Re_readSeparator.2.1 56 = .ok (.invokevirtual 103, 3) := by decide +kernel
theorem dc_Re_readSeparator_59 : decode m_Re_readSeparator.2.1 59 = .ok (.goto 15, 3) := by decide +kernel
theorem dc_Re_readSeparator_62 : decode m_Re_readSeparator.2.1 62 = .ok (.aload_n 0, 1) := by decide +kernel
theorem dc_Re_readSeparator_63 : decode m_Re_readSeparator.2.1 63 = .ok (.iconst 1, 1) := by decide +kernel
theorem dc_Re_readSeparator_64 : decode m_Re_readSeparator.2.1 64 = .ok (.aload_n 0, 1) := by decide +kernel
theorem dc_Re_readSeparator_65 : decode m_Re_readSeparator.2.1 65 = .ok (.getfield 31, 3) := by decide +kernel
theorem dc_Re_readSeparator_68 : decode m_Re_readSeparator.2.1 68 = .ok (.getfield 68, 3) := by decide +kernel
theorem dc_Re_readSeparator_71 : decode m_Re_readSeparator.2.1 71 = .ok (.invokevirtual 74, 3) := by decide +kernel
theorem dc_Re_readSeparator_74 : decode m_Re_readSeparator.2.1 74 = .ok (.return_, 1) := by decide +kernel
theorem b_Re_readSeparator_0 {E : En_t} {d : Nat} {σ : S_t} {Q : Option Value → S_t → Prop} {x1 : Int32}
    (h : CI E d m_Re_isInObject [pv E 63] σ (fun r2 σ1 => (¬ x1 = (44 : Int32) → (r2 = 0 → JE E (d + 1) m_Re_readSeparator 52 [(0, pv E 63)] [.int (93 : Int32), .int x1] σ1 Q) ∧ (¬ r2 = 0 → JE E (d + 1) m_Re_readSeparator 52 [(0, pv E 63)] [.int (125 : Int32), .int x1] σ1 Q)) ∧ (x1 = (44 : Int32) → (r2 = 0 → JE E (d + 1) m_Re_readSeparator 34 [] [.int (0 : Int32), pv E 63] (sI σ1 51 2 ((gI σ1 51 2) + (1 : Int32))) Q) ∧ (¬ r2 = 0 → JE E (d + 1) m_Re_readSeparator 34 [] [.int (2 : Int32), pv E 63] (sI σ1 51 2 ((gI σ1 51 2) + (1 : Int32))) Q)))) :
    JE E (d + 1) m_Re_readSeparator 0 [(0, pv E 63), (1, .int x1)] [] σ Q := by
  refine J_aload_n dc_Re_readSeparator_0 (Eq.refl 1) 0 rfl ?_
  refine J_callVI (As := []) (st := []) dc_Re_readSeparator_1 (Eq.refl 4) lk_Re_126 mi_Re_isInObject rfl (Nat.le_of_ble_eq_true rfl) rfl rfl (Nat.le_of_ble_eq_true rfl) rfl (Nat.le_of_ble_eq_true rfl) (CI.mono h (fun r2 σ1 h => ?_))
  refine J_istore_n (L' := [(2, .int r2), (0, pv E 63), (1, .int x1)]) dc_Re_readSeparator_4 (Eq.refl 5) (Nat.le_of_ble_eq_true rfl) rfl ?_
  refine J_iload_n dc_Re_readSeparator_5 (Eq.refl 6) 2 rfl ?_
  refine J_bipush (v := (44 : Int32)) dc_Re_readSeparator_6 (Eq.refl 8) rfl ?_
  refine J_icmp_ne dc_Re_readSeparator_8 (Eq.refl 11) rfl (fun hc => ?_) (fun hc => ?_)
  · have h := h.1 hc
    refine J_iload_n dc_Re_readSeparator_40 (Eq.refl 41) 2 rfl ?_
    refine J_iload_n dc_Re_readSeparator_41 (Eq.refl 42) 0 rfl ?_
    refine J_if_eq dc_Re_readSeparator_42 (Eq.refl 45) rfl (fun hc => ?_) (fun hc => ?_)
    · have h := h.1 hc
      refine J_bipush (v := (93 : Int32)) dc_Re_readSeparator_50 (Eq.refl 52) rfl ?_
      refine J_sub [1] rfl ?_
      exact h
    · have h := h.2 hc
      refine J_bipush (v := (125 : Int32)) dc_Re_readSeparator_45 (Eq.refl 47) rfl ?_
      refine J_goto dc_Re_readSeparator_47 rfl ?_
      refine J_sub [1] rfl ?_
      exact h
  · have h := h.2 hc
    refine J_aload_n dc_Re_readSeparator_11 (Eq.refl 12) 1 rfl ?_
    refine J_getF (y := 51) dc_Re_readSeparator_12 (Eq.refl 15) fl_Re_31 (Nat.le_of_ble_eq_true rfl) rfl (Or.inr rfl) rfl ?_
    refine J_dup dc_Re_readSeparator_15 (Eq.refl 16) rfl ?_
    refine J_getI dc_Re_readSeparator_16 (Eq.refl 19) fl_Re_68 (Nat.le_of_ble_eq_true rfl) rfl (Or.inl rfl) ?_
    refine J_iconst (v := (1 : Int32)) dc_Re_readSeparator_19 (Eq.refl 20) rfl ?_
    refine J_iadd dc_Re_readSeparator_20 (Eq.refl 21) ?_
    refine J_putI dc_Re_readSeparator_21 (Eq.refl 24) pl_Re_68 (Nat.le_of_ble_eq_true rfl) rfl rfl ?_
    refine J_aload_n dc_Re_readSeparator_24 (Eq.refl 25) 1 rfl ?_
    refine J_iload_n dc_Re_readSeparator_25 (Eq.refl 26) 0 rfl ?_
    refine J_if_eq dc_Re_readSeparator_26 (Eq.refl 29) rfl (fun hc => ?_) (fun hc => ?_)
    · have h := h.1 hc
      refine J_iconst (v := (0 : Int32)) dc_Re_readSeparator_33 (Eq.refl 34) rfl ?_
      refine J_sub [] rfl ?_
      exact h
    · have h := h.2 hc
      refine J_iconst (v := (2 : Int32)) dc_Re_readSeparator_29 (Eq.refl 30) rfl ?_
      refine J_goto dc_Re_readSeparator_30 rfl ?_
      refine J_sub [] rfl ?_
      exact h
theorem b_Re_readSeparator_34 {E : En_t} {d : Nat} {σ : S_t} {Q : Option Value → S_t → Prop} {s0 : Int32}
    (h : Q none (sI σ 63 7 s0)) :
    JE E (d + 1) m_Re_readSeparator 34 [] [.int s0, pv E 63] σ Q := by
  refine J_putI dc_Re_readSeparator_34 (Eq.refl 37) pl_Re_42 (Nat.le_of_ble_eq_true rfl) rfl rfl ?_
  refine J_goto dc_Re_readSeparator_37 rfl ?_
  exact J_vret dc_Re_readSeparator_74 rfl h
theorem b_Re_readSeparator_52 {E : En_t} {d : Nat} {σ : S_t} {Q : Option Value → S_t → Prop} {s0 : Int32} {s1 : Int32}
    (h : (¬ s1 = s0 → CV E d m_Re_blame [pv E 63, .int (1 : Int32), .int (gI σ 51 2)] σ (fun σ1 => Q none σ1)) ∧ (s1 = s0 → CV E d m_Re_close [pv E 63] σ (fun σ2 => Q none σ2))) :
    JE E (d + 1) m_Re_readSeparator 52 [(0, pv E 63)] [.int s0, .int s1] σ Q := by
  refine J_icmp_ne dc_Re_readSeparator_52 (Eq.refl 55) rfl (fun hc => ?_) (fun hc => ?_)
  · have h := h.1 hc
    refine J_aload_n dc_Re_readSeparator_62 (Eq.refl 63) 0 rfl ?_
    refine J_iconst (v := (1 : Int32)) dc_Re_readSeparator_63 (Eq.refl 64) rfl ?_
    refine J_aload_n dc_Re_readSeparator_64 (Eq.refl 65) 0 rfl ?_
    refine J_getF (y := 51) dc_Re_readSeparator_65 (Eq.refl 68) fl_Re_31 (Nat.le_of_ble_eq_true rfl) rfl (Or.inr rfl) rfl ?_
    refine J_getI dc_Re_readSeparator_68 (Eq.refl 71) fl_Re_68 (Nat.le_of_ble_eq_true rfl) rfl (Or.inl rfl) ?_
    refine J_callVV (As := [.int (1 : Int32), .int (gI σ 51 2)]) (st := []) dc_Re_readSeparator_71 (Eq.refl 74) lk_Re_74 mi_Re_blame rfl (Nat.le_of_ble_eq_true rfl) rfl rfl (Nat.le_of_ble_eq_true rfl) rfl (Nat.le_of_ble_eq_true rfl) (CV.mono h (fun σ1 h => ?_))
    exact J_vret dc_Re_readSeparator_74 rfl h
  · have h := h.2 hc
    refine J_aload_n dc_Re_readSeparator_55 (Eq.refl 56) 0 rfl ?_
    refine J_callVV (As := []) (st := []) dc_Re_readSeparator_56 (Eq.refl 59) lk_Re_103 mi_Re_close rfl (Nat.le_of_ble_eq_true rfl) rfl rfl (Nat.le_of_ble_eq_true rfl) rfl (Nat.le_of_ble_eq_true rfl) (CV.mono h (fun σ2 h => ?_))
    refine J_goto dc_Re_readSeparator_59 rfl ?_
    exact J_vret dc_Re_readSeparator_74 rfl h
theorem dc_Re_arrange_0 : decode m_Re_arrange.2.1 0 = .ok (.aload_n 1, 1) := by decide +kernel
theorem dc_Re_arrange_1 : decode m_Re_arrange.2.1 1 = .ok (.invokevirtual 82, 3) := by decide +kernel
theorem dc_Re_arrange_4 : decode m_Re_arrange.2.1 4 = .ok (.iconst 0, 1) := by decide +kernel
theorem dc_Re_arrange_5 : decode m_Re_arrange.2.1 5 = .ok (.istore_n 2, 1) := by decide +kernel
theorem dc_Re_arrange_6 : decode m_Re_arrange.2.1 6 = .ok (.iconst 0, 1) := by decide +kernel
theorem dc_Re_arrange_7 : decode m_Re_arrange.2.1 7 = .ok (.istore_n 3, 1) := by decide +kernel
theorem dc_Re_arrange_8 : decode m_Re_arrange.2.1 8 = .ok (.iload_n 3, 1) := by decide +kernel
theorem dc_Re_arrange_9 : decode m_Re_arrange.2.1 9 = .ok (.aload_n 0, 1) := by decide +kernel
theorem dc_Re_arrange_10 : decode m_Re_arrange.2.1 10 = .ok (.getfield 12, 3) := by decide +kernel
theorem dc_Re_arrange_13 : decode m_Re_arrange.2.1 13 = .ok (.getfield 49, 3) := by decide +kernel
theorem dc_Re_arrange_16 : decode m_Re_arrange.2.1 16 = .ok (.if_icmp .ge 81, 3) := by decide +kernel
theorem dc_Re_arrange_19 : decode m_Re_arrange.2.1 19 = .ok (.iload_n 2, 1) := by decide +kernel
theorem dc_Re_arrange_20 : decode m_Re_arrange.2.1 20 = .ok (.iconst (-1), 1) := by decide +kernel
theorem dc_Re_arrange_21 : decode m_Re_arrange.2.1 21 = .ok (.if_icmp .eq 76, 3) := by decide +kernel
theorem dc_Re_arrange_24 : decode m_Re_arrange.2.1 24 = .ok (.aload_n 0, 1) := by decide +kernel
theorem dc_Re_arrange_25 : decode m_Re_arrange.2.1 25 = .ok (.getfield 12, 3) := by decide +kernel
theorem dc_Re_arrange_28 : decode m_Re_arrange.2.1 28 = .ok (.getfield 130, 3) := by decide +kernel
theorem dc_Re_arrange_31 : decode m_Re_arrange.2.1 31 = .ok (.iload_n 2, 1) := by decide +kernel
theorem dc_Re_arrange_32 : decode m_Re_arrange.2.1 32 = .ok (.iaload, 1) := by decide +kernel
theorem dc_Re_arrange_33 : decode m_Re_arrange.2.1 33 = .ok (.istore 4, 2) := by decide +kernel
theorem dc_Re_arrange_35 : decode m_Re_arrange.2.1 35 = .ok (.aload_n 0, 1) := by decide +kernel
theorem dc_Re_arrange_36 : decode m_Re_arrange.2.1 36 = .ok (.getfield 28, 3) := by decide +kernel
theorem dc_Re_arrange_39 : decode m_Re_arrange.2.1 39 = .ok (.iload_n 2, 1) := by decide +kernel
theorem dc_Re_arrange_40 : decode m_Re_arrange.2.1 40 = .ok (.aload_n 1, 1) := by decide +kernel
theorem dc_Re_arrange_41 : decode m_Re_arrange.2.1 41 = .ok (.aload_n 0, 1) := by decide +kernel
theorem dc_Re_arrange_42 : decode m_Re_arrange.2.1 42 = .ok (.getfield 12, 3) := by decide +kernel
theorem dc_Re_arrange_45 : decode m_Re_arrange.2.1 45 = .ok (.iload_n 2, 1) := by decide +kernel
theorem dc_Re_arrange_46 : decode m_Re_arrange.2.1 46 = .ok (.iload 4, 2) := by decide +kernel
theorem dc_Re_arrange_48 : decode m_Re_arrange.2.1 48 = .ok (.ifCond .ge 7, 3) := by decide +kernel
theorem dc_Re_arrange_51 : decode m_Re_arrange.2.1 51 = .ok (.iconst (-1), 1) := by decide +kernel
theorem dc_Re_arrange_52 : decode m_Re_arrange.2.1 52 = .ok (.goto 10, 3) := by decide +kernel
theorem dc_Re_arrange_55 : decode m_Re_arrange.2.1 55 = .ok (.aload_n 0, 1) := by decide +kernel
theorem dc_Re_arrange_56 : decode m_Re_arrange.2.1 56 = .ok (.getfield 28, 3) := by decide +kernel
theorem dc_Re_arrange_59 : decode m_Re_arrange.2.1 59 = .ok (.iload 4, 2) := by decide +kernel
theorem dc_Re_arrange_61 : decode m_Re_arrange.2.1 61 = .ok (.iaload, 1) := by decide +kernel
theorem dc_Re_arrange_62 : decode m_Re_arrange.2.1 62 = .ok (.invokevirtual 238, 3) := by decide +kernel
theorem dc_Re_arrange_65 : decode m_Re_arrange.2.1 65 = .ok (.iastore, 1) := by decide +kernel
theorem dc_Re_arrange_66 : decode m_Re_arrange.2.1 66 = .ok (.aload_n 0, 1) := by decide +kernel
theorem dc_Re_arrange_67 : decode m_Re_arrange.2.1 67 = .ok (.getfield 18, 3) := by decide +kernel
theorem dc_Re_arrange_70 : decode m_Re_arrange.2.1 70 = .ok (.iload_n 2, 1) := by decide +kernel
theorem dc_Re_arrange_71 : decode m_Re_arrange.2.1 71 = .ok (.iaload, 1) := by decide +kernel
theorem dc_Re_arrange_72 : decode m_Re_arrange.2.1 72 = .ok (.iconst (-1), 1) := by decide +kernel
theorem dc_Re_arrange_73 : decode m_Re_arrange.2.1 73 = .ok (.if_icmp .eq 12, 3) := by decide +kernel
theorem dc_Re_arrange_76 : decode m_Re_arrange.2.1 76 = .ok (.aload_n 0, 1) := by decide +kernel
theorem dc_Re_arrange_77 : decode m_Re_arrange.2.1 77 = .ok (.getfield 18, 3) := by decide +kernel
theorem dc_Re_arrange_80 : decode m_Re_arrange.2.1 80 = .ok (.iload_n 2, 1) := by decide +kernel
theorem dc_Re_arrange_81 : decode m_Re_arrange.2.1 81 = .ok (.iaload, 1) := by decide +kernel
theorem dc_Re_arrange_82 : decode m_Re_arrange.2.1 82 = .ok (.goto 8, 3) := by decide +kernel
theorem dc_Re_arrange_85 : decode m_Re_arrange.2.1 85 = .ok (.aload_n 0, 1) := by decide +kernel
theorem dc_Re_arrange_86 : decode m_Re_arrange.2.1 86 = .ok (.iload_n 2, 1) := by decide +kernel
theorem dc_Re_arrange_87 : decode m_Re_arrange.2.1 87 = .ok (.invokevirtual 242, 3) := by decide +kernel
theorem dc_Re_arrange_90 : decode m_Re_arrange.2.1 90 = .ok (.istore_n 2, 1) := by decide +kernel
theorem dc_Re_arrange_91 : decode m_Re_arrange.2.1 91 = .ok (.iinc 3 1, 3) := by decide +kernel
theorem dc_Re_arrange_94 : decode m_Re_arrange.2.1 94 = .ok (.goto (-86), 3) := by decide +kernel
theorem dc_Re_arrange_97 : decode m_Re_arrange.2.1 97 = .ok (.aload_n 1, 1) := by decide +kernel
theorem dc_Re_arrange_98 : decode m_Re_arrange.2.1 98 = .ok (.invokevirtual 245, 3) := by decide +kernel
theorem dc_Re_arrange_101 : decode m_Re_arrange.2.1 101 = .ok (.return_, 1) := by decide +kernel
theorem b_Re_arrange_0 {E : En_t} {d : Nat} {σ : S_t} {Q : Option Value → S_t → Prop} {o1 : Nat} (hk_o1 : kindP o1 = 11)
    (h : CV E d m_Tr_clear [pv E o1] σ (fun σ1 => JE E (d + 1) m_Re_arrange 8 [(0, pv E 63), (1, pv E o1), (2, .int (0 : Int32)), (3, .int (0 : Int32))] [] σ1 Q)) :
    JE E (d + 1) m_Re_arrange 0 [(0, pv E 63), (1, pv E o1)] [] σ Q := by
  refine J_aload_n dc_Re_arrange_0 (Eq.refl 1) 1 rfl ?_
  refine J_callVV (As := []) (st := []) dc_Re_arrange_1 (Eq.refl 4) lk_Re_82 mi_Tr_clear hk_o1 (Nat.le_of_ble_eq_true rfl) rfl rfl (Nat.le_of_ble_eq_true rfl) rfl (Nat.le_of_ble_eq_true rfl) (CV.mono h (fun σ1 h => ?_))
  refine J_iconst (v := (0 : Int32)) dc_Re_arrange_4 (Eq.refl 5) rfl ?_
  refine J_istore_n (L' := [(2, .int (0 : Int32)), (0, pv E 63), (1, pv E o1)]) dc_Re_arrange_5 (Eq.refl 6) (Nat.le_of_ble_eq_true rfl) rfl ?_
  refine J_iconst (v := (0 : Int32)) dc_Re_arrange_6 (Eq.refl 7) rfl ?_
  refine J_istore_n (L' := [(3, .int (0 : Int32)), (2, .int (0 : Int32)), (0, pv E 63), (1, pv E o1)]) dc_Re_arrange_7 (Eq.refl 8) (Nat.le_of_ble_eq_true rfl) rfl ?_
  refine J_sub [2, 3, 1, 0] rfl ?_
  exact h
theorem b_Re_arrange_8 {E : En_t} {d : Nat} {σ : S_t} {Q : Option Value → S_t → Prop} {o1 : Nat} {x2 : Int32} {x3 : Int32} (hk_o1 : kindP o1 = 11)
    (h : ((gI σ 180 13) ≤ x3 → JE E (d + 1) m_Re_arrange 97 [(1, pv E o1)] [] σ Q) ∧ (¬ (gI σ 180 13) ≤ x3 → (x2 = (-1 : Int32) → JE E (d + 1) m_Re_arrange 97 [(1, pv E o1)] [] σ Q) ∧ (¬ x2 = (-1 : Int32) → vp_in x2 500 ∧ ((0 ≤ (gI σ 183 x2.toNatClampNeg) → vp_in (gI σ 183 x2.toNatClampNeg) 500 ∧ (JE E (d + 1) m_Re_arrange 62 [(0, pv E 63), (1, pv E o1), (2, .int x2), (3, .int x3)] [.int (gI σ 67 (gI σ 183 x2.toNatClampNeg).toNatClampNeg), .int x2, pv E 180, pv E o1, .int x2, pv E 67] σ Q)) ∧ (¬ 0 ≤ (gI σ 183 x2.toNatClampNeg) → JE E (d + 1) m_Re_arrange 62 [(0, pv E 63), (1, pv E o1), (2, .int x2), (3, .int x3)] [.int (-1 : Int32), .int x2, pv E 180, pv E o1, .int x2, pv E 67] σ Q))))) :
    JE E (d + 1) m_Re_arrange 8 [(0, pv E 63), (1, pv E o1), (2, .int x2), (3, .int x3)] [] σ Q := by
  refine J_iload_n dc_Re_arrange_8 (Eq.refl 9) 3 rfl ?_
  refine J_aload_n dc_Re_arrange_9 (Eq.refl 10) 0 rfl ?_
  refine J_getF (y := 180) dc_Re_arrange_10 (Eq.refl 13) fl_Re_12 (Nat.le_of_ble_eq_true rfl) rfl (Or.inr rfl) rfl ?_
  refine J_getI dc_Re_arrange_13 (Eq.refl 16) fl_Re_49 (Nat.le_of_ble_eq_true rfl) rfl (Or.inl rfl) ?_
  refine J_icmp_ge dc_Re_arrange_16 (Eq.refl 19) rfl (fun hc => ?_) (fun hc => ?_)
  · have h := h.1 hc
    refine J_sub [1] rfl ?_
    exact h
  · have h := h.2 hc
    refine J_iload_n dc_Re_arrange_19 (Eq.refl 20) 2 rfl ?_
    refine J_iconst (v := (-1 : Int32)) dc_Re_arrange_20 (Eq.refl 21) rfl ?_
    refine J_icmp_eq dc_Re_arrange_21 (Eq.refl 24) rfl (fun hc => ?_) (fun hc => ?_)
    · have h := h.1 hc
      refine J_sub [1] rfl ?_
      exact h
    · have h := h.2 hc
      refine J_aload_n dc_Re_arrange_24 (Eq.refl 25) 0 rfl ?_
      refine J_getF (y := 180) dc_Re_arrange_25 (Eq.refl 28) fl_Re_12 (Nat.le_of_ble_eq_true rfl) rfl (Or.inr rfl) rfl ?_
      refine J_getF (y := 183) dc_Re_arrange_28 (Eq.refl 31) fl_Re_130 (Nat.le_of_ble_eq_true rfl) rfl (Or.inl rfl) rfl ?_
      refine J_iload_n dc_Re_arrange_31 (Eq.refl 32) 2 rfl ?_
      obtain ⟨hg, h⟩ := h
      refine J_iald dc_Re_arrange_32 (Eq.refl 33) rfl rfl hg ?_
      refine J_istore (L' := [(4, .int (gI σ 183 x2.toNatClampNeg)), (0, pv E 63), (1, pv E o1), (2, .int x2), (3, .int x3)]) dc_Re_arrange_33 (Eq.refl 35) (Nat.le_of_ble_eq_true rfl) rfl ?_
      refine J_aload_n dc_Re_arrange_35 (Eq.refl 36) 1 rfl ?_
      refine J_getF (y := 67) dc_Re_arrange_36 (Eq.refl 39) fl_Re_28 (Nat.le_of_ble_eq_true rfl) rfl (Or.inl rfl) rfl ?_
      refine J_iload_n dc_Re_arrange_39 (Eq.refl 40) 3 rfl ?_
      refine J_aload_n dc_Re_arrange_40 (Eq.refl 41) 2 rfl ?_
      refine J_aload_n dc_Re_arrange_41 (Eq.refl 42) 1 rfl ?_
      refine J_getF (y := 180) dc_Re_arrange_42 (Eq.refl 45) fl_Re_12 (Nat.le_of_ble_eq_true rfl) rfl (Or.inr rfl) rfl ?_
      refine J_iload_n dc_Re_arrange_45 (Eq.refl 46) 3 rfl ?_
      refine J_iload dc_Re_arrange_46 (Eq.refl 48) 0 rfl ?_
      refine J_if_ge dc_Re_arrange_48 (Eq.refl 51) rfl (fun hc => ?_) (fun hc => ?_)
      · have h := h.1 hc
        refine J_aload_n dc_Re_arrange_55 (Eq.refl 56) 1 rfl ?_
        refine J_getF (y := 67) dc_Re_arrange_56 (Eq.refl 59) fl_Re_28 (Nat.le_of_ble_eq_true rfl) rfl (Or.inl rfl) rfl ?_
        refine J_iload dc_Re_arrange_59 (Eq.refl 61) 0 rfl ?_
        obtain ⟨hg, h⟩ := h
        refine J_iald dc_Re_arrange_61 (Eq.refl 62) rfl rfl hg ?_
        refine J_sub [1, 2, 3, 4] rfl ?_
        exact h
      · have h := h.2 hc
        refine J_iconst (v := (-1 : Int32)) dc_Re_arrange_51 (Eq.refl 52) rfl ?_
        refine J_goto dc_Re_arrange_52 rfl ?_
        refine J_sub [1, 2, 3, 4] rfl ?_
        exact h
theorem b_Re_arrange_62 {E : En_t} {d : Nat} {σ : S_t} {Q : Option Value → S_t → Prop} {o1 : Nat} {x2 : Int32} {x3 : Int32} {s0 : Int32} {s1 : Int32} {q2 : Nat} {q3 : Nat} {s4 : Int32} {q5 : Nat} (hk_o1 : kindP o1 = 11) (hk_q2 : kindP q2 = 11) (hk_q3 : kindP q3 = 11) (hk_q5 : kindP q5 = 20)
    (h : CI E d m_Tr_addLike [pv E q3, pv E q2, .int s1, .int s0] σ (fun r2 σ1 => vp_in s4 (lenP q5) ∧ (vp_in x2 500 ∧ (((gI (sI σ1 q5 s4.toNatClampNeg r2) 64 x2.toNatClampNeg) = (-1 : Int32) → CI E d m_Re_following [pv E 63, .int x2] (sI σ1 q5 s4.toNatClampNeg r2) (fun r4 σ3 => JE E (d + 1) m_Re_arrange 90 [(0, pv E 63), (1, pv E o1), (3, .int x3)] [.int r4] σ3 Q)) ∧ (¬ (gI (sI σ1 q5 s4.toNatClampNeg r2) 64 x2.toNatClampNeg) = (-1 : Int32) → vp_in x2 500 ∧ (JE E (d + 1) m_Re_arrange 90 [(0, pv E 63), (1, pv E o1), (3, .int x3)] [.int (gI (sI σ1 q5 s4.toNatClampNeg r2) 64 x2.toNatClampNeg)] (sI σ1 q5 s4.toNatClampNeg r2) Q)))))) :
    JE E (d + 1) m_Re_arrange 62 [(0, pv E 63), (1, pv E o1), (2, .int x2), (3, .int x3)] [.int s0, .int s1, pv E q2, pv E q3, .int s4, pv E q5] σ Q := by
  refine J_callVI (As := [pv E q2, .int s1, .int s0]) (st := [.int s4, pv E q5]) dc_Re_arrange_62 (Eq.refl 65) lk_Re_238 mi_Tr_addLike hk_q3 (Nat.le_of_ble_eq_true rfl) rfl rfl (Nat.le_of_ble_eq_true rfl) rfl (Nat.le_of_ble_eq_true rfl) (CI.mono h (fun r2 σ1 h => ?_))
  obtain ⟨hg, h⟩ := h
  refine J_iast dc_Re_arrange_65 (Eq.refl 66) hk_q5 rfl hg ?_
  refine J_aload_n dc_Re_arrange_66 (Eq.refl 67) 0 rfl ?_
  refine J_getF (y := 64) dc_Re_arrange_67 (Eq.refl 70) fl_Re_18 (Nat.le_of_ble_eq_true rfl) rfl (Or.inl rfl) rfl ?_
  refine J_iload_n dc_Re_arrange_70 (Eq.refl 71) 2 rfl ?_
  obtain ⟨hg, h⟩ := h
  refine J_iald dc_Re_arrange_71 (Eq.refl 72) rfl rfl hg ?_
  refine J_iconst (v := (-1 : Int32)) dc_Re_arrange_72 (Eq.refl 73) rfl ?_
  refine J_icmp_eq dc_Re_arrange_73 (Eq.refl 76) rfl (fun hc => ?_) (fun hc => ?_)
  · have h := h.1 hc
    refine J_aload_n dc_Re_arrange_85 (Eq.refl 86) 0 rfl ?_
    refine J_iload_n dc_Re_arrange_86 (Eq.refl 87) 2 rfl ?_
    refine J_callVI (As := [.int x2]) (st := []) dc_Re_arrange_87 (Eq.refl 90) lk_Re_242 mi_Re_following rfl (Nat.le_of_ble_eq_true rfl) rfl rfl (Nat.le_of_ble_eq_true rfl) rfl (Nat.le_of_ble_eq_true rfl) (CI.mono h (fun r4 σ3 h => ?_))
    refine J_sub [0, 1, 3] rfl ?_
    exact h
  · have h := h.2 hc
    refine J_aload_n dc_Re_arrange_76 (Eq.refl 77) 0 rfl ?_
    refine J_getF (y := 64) dc_Re_arrange_77 (Eq.refl 80) fl_Re_18 (Nat.le_of_ble_eq_true rfl) rfl (Or.inl rfl) rfl ?_
    refine J_iload_n dc_Re_arrange_80 (Eq.refl 81) 2 rfl ?_
    obtain ⟨hg, h⟩ := h
    refine J_iald dc_Re_arrange_81 (Eq.refl 82) rfl rfl hg ?_
    refine J_goto dc_Re_arrange_82 rfl ?_
    refine J_sub [0, 1, 3] rfl ?_
    exact h
theorem b_Re_arrange_90 {E : En_t} {d : Nat} {σ : S_t} {Q : Option Value → S_t → Prop} {o1 : Nat} {x3 : Int32} {s0 : Int32} (hk_o1 : kindP o1 = 11)
    (h : JE E (d + 1) m_Re_arrange 8 [(0, pv E 63), (1, pv E o1), (2, .int s0), (3, .int (x3 + (1 : Int32)))] [] σ Q) :
    JE E (d + 1) m_Re_arrange 90 [(0, pv E 63), (1, pv E o1), (3, .int x3)] [.int s0] σ Q := by
  refine J_istore_n (L' := [(2, .int s0), (0, pv E 63), (1, pv E o1), (3, .int x3)]) dc_Re_arrange_90 (Eq.refl 91) (Nat.le_of_ble_eq_true rfl) rfl ?_
  refine J_iinc (v := x3 + (1 : Int32)) (L' := [(3, .int (x3 + (1 : Int32))), (2, .int s0), (0, pv E 63), (1, pv E o1)]) dc_Re_arrange_91 (Eq.refl 94) 3 rfl rfl (Nat.le_of_ble_eq_true rfl) rfl ?_
  refine J_goto dc_Re_arrange_94 rfl ?_
  refine J_sub [2, 3, 1, 0] rfl ?_
  exact h
theorem b_Re_arrange_97 {E : En_t} {d : Nat} {σ : S_t} {Q : Option Value → S_t → Prop} {o1 : Nat} (hk_o1 : kindP o1 = 11)
    (h : CV E d m_Tr_measure [pv E o1] σ (fun σ1 => Q none σ1)) :
    JE E (d + 1) m_Re_arrange 97 [(1, pv E o1)] [] σ Q := by
  refine J_aload_n dc_Re_arrange_97 (Eq.refl 98) 0 rfl ?_
  refine J_callVV (As := []) (st := []) dc_Re_arrange_98 (Eq.refl 101) lk_Re_245 mi_Tr_measure hk_o1 (Nat.le_of_ble_eq_true rfl) rfl rfl (Nat.le_of_ble_eq_true rfl) rfl (Nat.le_of_ble_eq_true rfl) (CV.mono h (fun σ1 h => ?_))
  exact J_vret dc_Re_arrange_101 rfl h
theorem dc_Re_following_0 : decode m_Re_following.2.1 0 = .ok (.iload_n 1, 1) := by decide +kernel
theorem dc_Re_following_1 : decode m_Re_following.2.1 1 = .ok (.istore_n 2, 1) := by decide +kernel
theorem dc_Re_following_2 : decode m_Re_following.2.1 2 = .ok (.iconst 0, 1) := by decide +kernel
theorem dc_Re_following_3 : decode m_Re_following.2.1 3 = .ok (.istore_n 3, 1) := by decide +kernel
theorem dc_Re_following_4 : decode m_Re_following.2.1 4 = .ok (.iload_n 3, 1) := by decide +kernel
theorem dc_Re_following_5 : decode m_Re_following.2.1 5 = .ok (.bipush 30, 2) := by decide +kernel
theorem dc_Re_following_7 : decode m_Re_following.2.1 7 = .ok (.if_icmp .gt 34, 3) := by decide +kernel
theorem dc_Re_following_10 : decode m_Re_following.2.1 10 = .ok (.iload_n 2, 1) := by decide +kernel
theorem dc_Re_following_11 : decode m_Re_following.2.1 11 = .ok (.iconst (-1), 1) := by decide +kernel
theorem dc_Re_following_12 : decode m_Re_following.2.1 12 = .ok (.if_icmp .eq 29, 3) := by decide +kernel
theorem dc_Re_following_15 : decode m_Re_following.2.1 15 = .ok (.aload_n 0, 1) := by decide +kernel
theorem dc_Re_following_16 : decode m_Re_following.2.1 16 = .ok (.getfield 25, 3) := by decide +kernel
theorem dc_Re_following_19 : decode m_Re_following.2.1 19 = .ok (.iload_n 2, 1) := by decide +kernel
theorem dc_Re_following_20 : decode m_Re_following.2.1 20 = .ok (.iaload, 1) := by decide +kernel
theorem dc_Re_following_21 : decode m_Re_following.2.1 21 = .ok (.iconst (-1), 1) := by decide +kernel
theorem dc_Re_following_22 : decode m_Re_following.2.1 22 = .ok (.if_icmp .ne 19, 3) := by decide +kernel
theorem dc_Re_following_25 : decode m_Re_following.2.1 25 = .ok (.aload_n 0, 1) := by decide +kernel
theorem dc_Re_following_26 : decode m_Re_following.2.1 26 = .ok (.getfield 12, 3) := by decide +kernel
theorem dc_Re_following_29 : decode m_Re_following.2.1 29 = .ok (.getfield 130, 3) := by decide +kernel
theorem dc_Re_following_32 : decode m_Re_following.2.1 32 = .ok (.iload_n 2, 1) := by decide +kernel
theorem dc_Re_following_33 : decode m_Re_following.2.1 33 = .ok (.iaload, 1) := by decide +kernel
theorem dc_Re_following_34 : decode m_Re_following.2.1 34 = .ok (.istore_n 2, 1) := by decide +kernel
theorem dc_Re_following_35 : decode m_Re_following.2.1 35 = .ok (.iinc 3 1, 3) := by decide +kernel
theorem dc_Re_following_38 : decode m_Re_following.2.1 38 = .ok (.goto (-34), 3) := by decide +kernel
theorem dc_Re_following_41 : decode m_Re_following.2.1 41 = .ok (.iload_n 2, 1) := by decide +kernel
theorem dc_Re_following_42 : decode m_Re_following.2.1 42 = .ok (.iconst (-1), 1) := by decide +kernel
theorem dc_Re_following_43 : decode m_Re_following.2.1 43 = .ok (.if_icmp .ne 7, 3) := by decide +kernel
theorem dc_Re_following_46 : decode m_Re_following.2.1 46 = .ok (.iconst (-1), 1) := by decide +kernel
theorem dc_Re_following_47 : decode m_Re_following.2.1 47 = .ok (.goto 9, 3) := by decide +kernel
theorem dc_Re_following_50 : decode m_Re_following.2.1 50 = .ok (.aload_n 0, 1) := by decide +kernel
theorem dc_Re_following_51 : decode m_Re_following.2.1 51 = .ok (.getfield 25, 3) := by decide +kernel
theorem dc_Re_following_54 : decode m_Re_following.2.1 54 = .ok (.iload_n 2, 1) := by decide +kernel
theorem dc_Re_following_55 : decode m_Re_following.2.1 55 = .ok (.iaload, 1) := by decide +kernel
theorem dc_Re_following_56 : decode m_Re_following.2.1 56 = .ok (.ireturn, 1) := by decide +kernel
theorem b_Re_following_0 {E : En_t} {d : Nat} {σ : S_t} {Q : Option Value → S_t → Prop} {x1 : Int32}
    (h : JE E d m_Re_following 4 [(0, pv E 63), (2, .int x1), (3, .int (0 : Int32))] [] σ Q) :
    JE E d m_Re_following 0 [(0, pv E 63), (1, .int x1)] [] σ Q := by
  refine J_iload_n dc_Re_following_0 (Eq.refl 1) 1 rfl ?_
  refine J_istore_n (L' := [(2, .int x1), (0, pv E 63), (1, .int x1)]) dc_Re_following_1 (Eq.refl 2) (Nat.le_of_ble_eq_true rfl) rfl ?_
  refine J_iconst (v := (0 : Int32)) dc_Re_following_2 (Eq.refl 3) rfl ?_
  refine J_istore_n (L' := [(3, .int (0 : Int32)), (2, .int x1), (0, pv E 63), (1, .int x1)]) dc_Re_following_3 (Eq.refl 4) (Nat.le_of_ble_eq_true rfl) rfl ?_
  refine J_sub [2, 1, 0] rfl ?_
  exact h
theorem b_Re_following_4 {E : En_t} {d : Nat} {σ : S_t} {Q : Option Value → S_t → Prop} {x2 : Int32} {x3 : Int32}
    (h : ((30 : Int32) < x3 → JE E d m_Re_following 41 [(0, pv E 63), (2, .int x2)] [] σ Q) ∧ (¬ (30 : Int32) < x3 → (x2 = (-1 : Int32) → JE E d m_Re_following 41 [(0, pv E 63), (2, .int x2)] [] σ Q) ∧ (¬ x2 = (-1 : Int32) → vp_in x2 500 ∧ ((¬ (gI σ 66 x2.toNatClampNeg) = (-1 : Int32) → JE E d m_Re_following 41 [(0, pv E 63), (2, .int x2)] [] σ Q) ∧ ((gI σ 66 x2.toNatClampNeg) = (-1 : Int32) → vp_in x2 500 ∧ (JE E d m_Re_following 4 [(0, pv E 63), (2, .int (gI σ 183 x2.toNatClampNeg)), (3, .int (x3 + (1 : Int32)))] [] σ Q)))))) :
    JE E d m_Re_following 4 [(0, pv E 63), (2, .int x2), (3, .int x3)] [] σ Q := by
  refine J_iload_n dc_Re_following_4 (Eq.refl 5) 2 rfl ?_
  refine J_bipush (v := (30 : Int32)) dc_Re_following_5 (Eq.refl 7) rfl ?_
  refine J_icmp_gt dc_Re_following_7 (Eq.refl 10) rfl (fun hc => ?_) (fun hc => ?_)
  · have h := h.1 hc
    refine J_sub [0, 1] rfl ?_
    exact h
  · have h := h.2 hc
    refine J_iload_n dc_Re_following_10 (Eq.refl 11) 1 rfl ?_
    refine J_iconst (v := (-1 : Int32)) dc_Re_following_11 (Eq.refl 12) rfl ?_
    refine J_icmp_eq dc_Re_following_12 (Eq.refl 15) rfl (fun hc => ?_) (fun hc => ?_)
    · have h := h.1 hc
      refine J_sub [0, 1] rfl ?_
      exact h
    · have h := h.2 hc
      refine J_aload_n dc_Re_following_15 (Eq.refl 16) 0 rfl ?_
      refine J_getF (y := 66) dc_Re_following_16 (Eq.refl 19) fl_Re_25 (Nat.le_of_ble_eq_true rfl) rfl (Or.inl rfl) rfl ?_
      refine J_iload_n dc_Re_following_19 (Eq.refl 20) 1 rfl ?_
      obtain ⟨hg, h⟩ := h
      refine J_iald dc_Re_following_20 (Eq.refl 21) rfl rfl hg ?_
      refine J_iconst (v := (-1 : Int32)) dc_Re_following_21 (Eq.refl 22) rfl ?_
      refine J_icmp_ne dc_Re_following_22 (Eq.refl 25) rfl (fun hc => ?_) (fun hc => ?_)
      · have h := h.1 hc
        refine J_sub [0, 1] rfl ?_
        exact h
      · have h := h.2 hc
        refine J_aload_n dc_Re_following_25 (Eq.refl 26) 0 rfl ?_
        refine J_getF (y := 180) dc_Re_following_26 (Eq.refl 29) fl_Re_12 (Nat.le_of_ble_eq_true rfl) rfl (Or.inr rfl) rfl ?_
        refine J_getF (y := 183) dc_Re_following_29 (Eq.refl 32) fl_Re_130 (Nat.le_of_ble_eq_true rfl) rfl (Or.inl rfl) rfl ?_
        refine J_iload_n dc_Re_following_32 (Eq.refl 33) 1 rfl ?_
        obtain ⟨hg, h⟩ := h
        refine J_iald dc_Re_following_33 (Eq.refl 34) rfl rfl hg ?_
        refine J_istore_n (L' := [(2, .int (gI σ 183 x2.toNatClampNeg)), (0, pv E 63), (3, .int x3)]) dc_Re_following_34 (Eq.refl 35) (Nat.le_of_ble_eq_true rfl) rfl ?_
        refine J_iinc (v := x3 + (1 : Int32)) (L' := [(3, .int (x3 + (1 : Int32))), (2, .int (gI σ 183 x2.toNatClampNeg)), (0, pv E 63)]) dc_Re_following_35 (Eq.refl 38) 2 rfl rfl (Nat.le_of_ble_eq_true rfl) rfl ?_
        refine J_goto dc_Re_following_38 rfl ?_
        refine J_sub [2, 1, 0] rfl ?_
        exact h
theorem b_Re_following_41 {E : En_t} {d : Nat} {σ : S_t} {Q : Option Value → S_t → Prop} {x2 : Int32}
    (h : (¬ x2 = (-1 : Int32) → vp_in x2 500 ∧ (Q (some (.int (gI σ 66 x2.toNatClampNeg))) σ)) ∧ (x2 = (-1 : Int32) → Q (some (.int (-1 : Int32))) σ)) :
    JE E d m_Re_following 41 [(0, pv E 63), (2, .int x2)] [] σ Q := by
  refine J_iload_n dc_Re_following_41 (Eq.refl 42) 1 rfl ?_
  refine J_iconst (v := (-1 : Int32)) dc_Re_following_42 (Eq.refl 43) rfl ?_
  refine J_icmp_ne dc_Re_following_43 (Eq.refl 46) rfl (fun hc => ?_) (fun hc => ?_)
  · have h := h.1 hc
    refine J_aload_n dc_Re_following_50 (Eq.refl 51) 0 rfl ?_
    refine J_getF (y := 66) dc_Re_following_51 (Eq.refl 54) fl_Re_25 (Nat.le_of_ble_eq_true rfl) rfl (Or.inl rfl) rfl ?_
    refine J_iload_n dc_Re_following_54 (Eq.refl 55) 1 rfl ?_
    obtain ⟨hg, h⟩ := h
    refine J_iald dc_Re_following_55 (Eq.refl 56) rfl rfl hg ?_
    exact J_iret dc_Re_following_56 rfl h
  · have h := h.2 hc
    refine J_iconst (v := (-1 : Int32)) dc_Re_following_46 (Eq.refl 47) rfl ?_
    refine J_goto dc_Re_following_47 rfl ?_
    exact J_iret dc_Re_following_56 rfl h
