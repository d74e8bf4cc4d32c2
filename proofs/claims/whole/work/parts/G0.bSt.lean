theorem sf_JSt_9 : Cond.fieldLink "java/lang/String" 9 "java/lang/String" "value" "[B" ∈ tb := tb_mem 1783 (by decide +kernel) (by decide +kernel)
theorem sf_JSt_15 : Cond.fieldLink "java/lang/String" 15 "java/lang/String" "coder" "B" ∈ tb := tb_mem 1784 (by decide +kernel) (by decide +kernel)
theorem sf_JSt_38 : Cond.fieldLink "java/lang/String" 38 "java/lang/String" "COMPACT_STRINGS" "Z" ∈ tb := tb_mem 781 (by decide +kernel) (by decide +kernel)
theorem sf_JSt_1053 : Cond.fieldLink "java/lang/String" 1053 "jdk/internal/util/Preconditions" "SIOOBE_FORMATTER" "Ljava/util/function/BiFunction;" ∈ tb := tb_mem 797 (by decide +kernel) (by decide +kernel)
theorem fl_Fo_91 : FLt "CanonPress$Former" 91 11 9 := ⟨_, rfl, by decide, rfl, tb_mem 295 (by decide +kernel) (by decide +kernel)⟩
theorem fl_Fo_94 : FLt "CanonPress$Former" 94 11 1 := ⟨_, rfl, by decide, rfl, tb_mem 265 (by decide +kernel) (by decide +kernel)⟩
theorem fl_Re_162 : FLt "CanonPress$Reader" 162 11 9 := ⟨_, rfl, by decide, rfl, tb_mem 296 (by decide +kernel) (by decide +kernel)⟩
theorem fl_Re_171 : FLt "CanonPress$Reader" 171 11 1 := ⟨_, rfl, by decide, rfl, tb_mem 267 (by decide +kernel) (by decide +kernel)⟩
theorem fl_Re_231 : Cond.fieldLink "CanonPress$Reader" 231 "CanonPress$Reader" "SHORT_ESCAPED" "[I" ∈ tb := tb_mem 905 (by decide +kernel) (by decide +kernel)
theorem lk_Fo_83 : Cond.methodLink "CanonPress$Former" 83 m_Ou_putWord.1 ∈ tb := tb_mem 1079 (by decide +kernel) (by decide +kernel)
theorem lk_Fo_115 : Cond.methodLink "CanonPress$Former" 115 m_JSt_indexOf.1 ∈ tb := tb_mem 1069 (by decide +kernel) (by decide +kernel)
theorem lk_Fo_123 : Cond.methodLink "CanonPress$Former" 123 m_JSt_length.1 ∈ tb := tb_mem 1071 (by decide +kernel) (by decide +kernel)
theorem lk_Fo_127 : Cond.methodLink "CanonPress$Former" 127 m_JSt_charAt.1 ∈ tb := tb_mem 1072 (by decide +kernel) (by decide +kernel)
theorem lk_Ou_25 : Cond.methodLink "CanonPress$Out" 25 m_JSt_length.1 ∈ tb := tb_mem 1083 (by decide +kernel) (by decide +kernel)
theorem lk_Ou_31 : Cond.methodLink "CanonPress$Out" 31 m_JSt_charAt.1 ∈ tb := tb_mem 1084 (by decide +kernel) (by decide +kernel)
theorem lk_Re_151 : Cond.methodLink "CanonPress$Reader" 151 m_Re_readWord.1 ∈ tb := tb_mem 765 (by decide +kernel) (by decide +kernel)
theorem lk_Re_159 : Cond.methodLink "CanonPress$Reader" 159 m_Re_readNumber.1 ∈ tb := tb_mem 828 (by decide +kernel) (by decide +kernel)
theorem lk_Re_174 : Cond.methodLink "CanonPress$Reader" 174 m_Te_passWord.1 ∈ tb := tb_mem 769 (by decide +kernel) (by decide +kernel)
theorem lk_Re_226 : Cond.methodLink "CanonPress$Reader" 226 m_JSt_indexOf.1 ∈ tb := tb_mem 850 (by decide +kernel) (by decide +kernel)
theorem lk_Te_22 : Cond.methodLink "CanonPress$Text" 22 m_JSt_length.1 ∈ tb := tb_mem 773 (by decide +kernel) (by decide +kernel)
theorem lk_Te_27 : Cond.methodLink "CanonPress$Text" 27 m_JSt_charAt.1 ∈ tb := tb_mem 783 (by decide +kernel) (by decide +kernel)
theorem lk_Te_31 : Cond.methodLink "CanonPress$Text" 31 m_Te_pass.1 ∈ tb := tb_mem 821 (by decide +kernel) (by decide +kernel)
theorem lk_JSt_335 : Cond.methodLink "java/lang/String" 335 m_JSt_coder.1 ∈ tb := tb_mem 777 (by decide +kernel) (by decide +kernel)
theorem lk_JSt_492 : Cond.methodLink "java/lang/String" 492 m_JSt_isLatin1.1 ∈ tb := tb_mem 787 (by decide +kernel) (by decide +kernel)
theorem lk_JSt_495 : Cond.methodLink "java/lang/String" 495 m_JSl_charAt.1 ∈ tb := tb_mem 791 (by decide +kernel) (by decide +kernel)
theorem lk_JSt_505 : Cond.methodLink "java/lang/String" 505 m_JSt_length.1 ∈ tb := tb_mem 858 (by decide +kernel) (by decide +kernel)
theorem lk_JSt_633 : Cond.methodLink "java/lang/String" 633 m_JSt_indexOf_II.1 ∈ tb := tb_mem 854 (by decide +kernel) (by decide +kernel)
theorem lk_JSt_637 : Cond.methodLink "java/lang/String" 637 m_JSl_indexOf.1 ∈ tb := tb_mem 859 (by decide +kernel) (by decide +kernel)
theorem lk_JSt_1059 : Cond.methodLink "java/lang/String" 1059 m_JPc_checkIndex.1 ∈ tb := tb_mem 799 (by decide +kernel) (by decide +kernel)
theorem lk_JSl_9 : Cond.methodLink "java/lang/StringLatin1" 9 m_JSt_checkIndex.1 ∈ tb := tb_mem 794 (by decide +kernel) (by decide +kernel)
theorem lk_JSl_38 : Cond.methodLink "java/lang/StringLatin1" 38 m_JMa_min.1 ∈ tb := tb_mem 866 (by decide +kernel) (by decide +kernel)
theorem lk_JSl_95 : Cond.methodLink "java/lang/StringLatin1" 95 m_JSl_indexOfChar.1 ∈ tb := tb_mem 867 (by decide +kernel) (by decide +kernel)
theorem dc_Re_readRest_0 : decode m_Re_readRest.2.1 0 = .ok (.aload_n 0, 1) := by decide +kernel
theorem dc_Re_readRest_1 : decode m_Re_readRest.2.1 1 = .ok (.invokevirtual 133, 3) := by decide +kernel
theorem dc_Re_readRest_4 : decode m_Re_readRest.2.1 4 = .ok (.iload_n 1, 1) := by decide +kernel
theorem dc_Re_readRest_5 : decode m_Re_readRest.2.1 5 = .ok (.ifCond .ge 4, 3) := by decide +kernel
theorem dc_Re_readRest_8 : decode m_Re_readRest.2.1 8 = .ok (.return_, 1) := by decide +kernel
theorem dc_Re_readRest_9 : decode m_Re_readRest.2.1 9 = .ok (.aload_n 0, 1) := by decide +kernel
theorem dc_Re_readRest_10 : decode m_Re_readRest.2.1 10 = .ok (.getfield 12, 3) := by decide +kernel
theorem dc_Re_readRest_13 : decode m_Re_readRest.2.1 13 = .ok (.getfield 123, 3) := by decide +kernel
theorem dc_Re_readRest_16 : decode m_Re_readRest.2.1 16 = .ok (.iload_n 1, 1) := by decide +kernel
theorem dc_Re_readRest_17 : decode m_Re_readRest.2.1 17 = .ok (.iaload, 1) := by decide +kernel
theorem dc_Re_readRest_18 : decode m_Re_readRest.2.1 18 = .ok (.tableswitch 65 0 3 #[30, 39, 48, 57], 30) := by decide +kernel
theorem dc_Re_readRest_48 : decode m_Re_readRest.2.1 48 = .ok (.aload_n 0, 1) := by decide +kernel
theorem dc_Re_readRest_49 : decode m_Re_readRest.2.1 49 = .ok (.ldc 149, 2) := by decide +kernel
theorem dc_Re_readRest_51 : decode m_Re_readRest.2.1 51 = .ok (.invokevirtual 151, 3) := by decide +kernel
theorem dc_Re_readRest_54 : decode m_Re_readRest.2.1 54 = .ok (.goto 75, 3) := by decide +kernel
theorem dc_Re_readRest_57 : decode m_Re_readRest.2.1 57 = .ok (.aload_n 0, 1) := by decide +kernel
theorem dc_Re_readRest_58 : decode m_Re_readRest.2.1 58 = .ok (.ldc 155, 2) := by decide +kernel
theorem dc_Re_readRest_60 : decode m_Re_readRest.2.1 60 = .ok (.invokevirtual 151, 3) := by decide +kernel
theorem dc_Re_readRest_63 : decode m_Re_readRest.2.1 63 = .ok (.goto 66, 3) := by decide +kernel
theorem dc_Re_readRest_66 : decode m_Re_readRest.2.1 66 = .ok (.aload_n 0, 1) := by decide +kernel
theorem dc_Re_readRest_67 : decode m_Re_readRest.2.1 67 = .ok (.ldc 157, 2) := by decide +kernel
theorem dc_Re_readRest_69 : decode m_Re_readRest.2.1 69 = .ok (.invokevirtual 151, 3) := by decide +kernel
theorem dc_Re_readRest_72 : decode m_Re_readRest.2.1 72 = .ok (.goto 57, 3) := by decide +kernel
theorem dc_Re_readRest_75 : decode m_Re_readRest.2.1 75 = .ok (.aload_n 0, 1) := by decide +kernel
theorem dc_Re_readRest_76 : decode m_Re_readRest.2.1 76 = .ok (.iload_n 1, 1) := by decide +kernel
theorem dc_Re_readRest_77 : decode m_Re_readRest.2.1 77 = .ok (.invokevirtual 159, 3) := by decide +kernel
theorem dc_Re_readRest_80 : decode m_Re_readRest.2.1 80 = .ok (.goto 49, 3) := by decide +kernel
theorem dc_Re_readRest_83 : decode m_Re_readRest.2.1 83 = .ok (.aload_n 0, 1) := by decide +kernel
theorem dc_Re_readRest_84 : decode m_Re_readRest.2.1 84 = .ok (.getfield 12, 3) := by decide +kernel
theorem dc_Re_readRest_87 : decode m_Re_readRest.2.1 87 = .ok (.getfield 162, 3) := by decide +kernel
theorem dc_Re_readRest_90 : decode m_Re_readRest.2.1 90 = .ok (.iload_n 1, 1) := by decide +kernel
theorem dc_Re_readRest_91 : decode m_Re_readRest.2.1 91 = .ok (.aload_n 0, 1) := by decide +kernel
theorem dc_Re_readRest_92 : decode m_Re_readRest.2.1 92 = .ok (.getfield 12, 3) := by decide +kernel
theorem dc_Re_readRest_95 : decode m_Re_readRest.2.1 95 = .ok (.getfield 165, 3) := by decide +kernel
theorem dc_Re_readRest_98 : decode m_Re_readRest.2.1 98 = .ok (.iastore, 1) := by decide +kernel
theorem dc_Re_readRest_99 : decode m_Re_readRest.2.1 99 = .ok (.aload_n 0, 1) := by decide +kernel
theorem dc_Re_readRest_100 : decode m_Re_readRest.2.1 100 = .ok (.invokevirtual 168, 3) := by decide +kernel
theorem dc_Re_readRest_103 : decode m_Re_readRest.2.1 103 = .ok (.aload_n 0, 1) := by decide +kernel
theorem dc_Re_readRest_104 : decode m_Re_readRest.2.1 104 = .ok (.getfield 12, 3) := by decide +kernel
theorem dc_Re_readRest_107 : decode m_Re_readRest.2.1 107 = .ok (.getfield 171, 3) := by decide +kernel
theorem dc_Re_readRest_110 : decode m_Re_readRest.2.1 110 = .ok (.iload_n 1, 1) := by decide +kernel
theorem dc_Re_readRest_111 : decode m_Re_readRest.2.1 111 = .ok (.aload_n 0, 1) := by decide +kernel
theorem dc_Re_readRest_112 : decode m_Re_readRest.2.1 112 = .ok (.getfield 12, 3) := by decide +kernel
theorem dc_Re_readRest_115 : decode m_Re_readRest.2.1 115 = .ok (.getfield 165, 3) := by decide +kernel
theorem dc_Re_readRest_118 : decode m_Re_readRest.2.1 118 = .ok (.aload_n 0, 1) := by decide +kernel
theorem dc_Re_readRest_119 : decode m_Re_readRest.2.1 119 = .ok (.getfield 12, 3) := by decide +kernel
theorem dc_Re_readRest_122 : decode m_Re_readRest.2.1 122 = .ok (.getfield 162, 3) := by decide +kernel
theorem dc_Re_readRest_125 : decode m_Re_readRest.2.1 125 = .ok (.iload_n 1, 1) := by decide +kernel
theorem dc_Re_readRest_126 : decode m_Re_readRest.2.1 126 = .ok (.iaload, 1) := by decide +kernel
theorem dc_Re_readRest_127 : decode m_Re_readRest.2.1 127 = .ok (.isub, 1) := by decide +kernel
theorem dc_Re_readRest_128 : decode m_Re_readRest.2.1 128 = .ok (.iastore, 1) := by decide +kernel
theorem dc_Re_readRest_129 : decode m_Re_readRest.2.1 129 = .ok (.return_, 1) := by decide +kernel
theorem b_Re_readRest_0 {E : En_t} {d : Nat} {σ : S_t} {Q : Option Value → S_t → Prop} {x1 : Int32}
    (h : CV E d m_Re_wantBehindValue [pv E 63] σ (fun σ1 => (0 ≤ x1 → vp_in x1 500 ∧ (((gI σ1 181 x1.toNatClampNeg) = (0 : Int32) → CV E d m_Re_readWord [pv E 63, pv E (2000 + 0)] σ1 (fun σ2 => Q none σ2)) ∧ ((gI σ1 181 x1.toNatClampNeg) = (1 : Int32) → CV E d m_Re_readWord [pv E 63, pv E (2000 + 1)] σ1 (fun σ3 => Q none σ3)) ∧ ((gI σ1 181 x1.toNatClampNeg) = (2 : Int32) → CV E d m_Re_readWord [pv E 63, pv E (2000 + 2)] σ1 (fun σ4 => Q none σ4)) ∧ ((gI σ1 181 x1.toNatClampNeg) = (3 : Int32) → CV E d m_Re_readNumber [pv E 63, .int x1] σ1 (fun σ5 => Q none σ5)) ∧ (¬ (gI σ1 181 x1.toNatClampNeg) = (0 : Int32) → ¬ (gI σ1 181 x1.toNatClampNeg) = (1 : Int32) → ¬ (gI σ1 181 x1.toNatClampNeg) = (2 : Int32) → ¬ (gI σ1 181 x1.toNatClampNeg) = (3 : Int32) → vp_in x1 500 ∧ (CV E d m_Re_readString [pv E 63] (sI σ1 190 x1.toNatClampNeg (gI σ1 180 11)) (fun σ6 => vp_in x1 500 ∧ (vp_in x1 500 ∧ (Q none (sI σ6 182 x1.toNatClampNeg ((gI σ6 180 11) - (gI σ6 190 x1.toNatClampNeg)))))))))) ∧ (¬ 0 ≤ x1 → Q none σ1))) :
    JE E (d + 1) m_Re_readRest 0 [(0, pv E 63), (1, .int x1)] [] σ Q := by
  refine J_aload_n dc_Re_readRest_0 (Eq.refl 1) 0 rfl ?_
  refine J_callVV (As := []) (st := []) dc_Re_readRest_1 (Eq.refl 4) lk_Re_133 mi_Re_wantBehindValue rfl (Nat.le_of_ble_eq_true rfl) rfl rfl (Nat.le_of_ble_eq_true rfl) rfl (Nat.le_of_ble_eq_true rfl) (CV.mono h (fun σ1 h => ?_))
  refine J_iload_n dc_Re_readRest_4 (Eq.refl 5) 1 rfl ?_
  refine J_if_ge dc_Re_readRest_5 (Eq.refl 8) rfl (fun hc => ?_) (fun hc => ?_)
  · have h := h.1 hc
    refine J_aload_n dc_Re_readRest_9 (Eq.refl 10) 0 rfl ?_
    refine J_getF (y := 180) dc_Re_readRest_10 (Eq.refl 13) fl_Re_12 (Nat.le_of_ble_eq_true rfl) rfl (Or.inr rfl) rfl ?_
    refine J_getF (y := 181) dc_Re_readRest_13 (Eq.refl 16) fl_Re_123 (Nat.le_of_ble_eq_true rfl) rfl (Or.inl rfl) rfl ?_
    refine J_iload_n dc_Re_readRest_16 (Eq.refl 17) 1 rfl ?_
    obtain ⟨hg, h⟩ := h
    refine J_iald dc_Re_readRest_17 (Eq.refl 18) rfl rfl hg ?_
    by_cases q0 : (gI σ1 181 x1.toNatClampNeg) = (0 : Int32)
    · have h := h.1 q0
      refine J_tableIn (tgt := 48) dc_Re_readRest_18 (by rw [q0]; decide) (by rw [q0]; decide) (by rw [q0]; rfl) rfl ?_
      refine J_aload_n dc_Re_readRest_48 (Eq.refl 49) 0 rfl ?_
      refine J_ldcS (t := 0) dc_Re_readRest_49 (Eq.refl 51) rfl ?_
      refine J_callVV (As := [pv E (2000 + 0)]) (st := []) dc_Re_readRest_51 (Eq.refl 54) lk_Re_151 mi_Re_readWord rfl (Nat.le_of_ble_eq_true rfl) rfl rfl (Nat.le_of_ble_eq_true rfl) rfl (Nat.le_of_ble_eq_true rfl) (CV.mono h (fun σ2 h => ?_))
      refine J_goto dc_Re_readRest_54 rfl ?_
      exact J_vret dc_Re_readRest_129 rfl h
    have h := h.2
    by_cases q1 : (gI σ1 181 x1.toNatClampNeg) = (1 : Int32)
    · have h := h.1 q1
      refine J_tableIn (tgt := 57) dc_Re_readRest_18 (by rw [q1]; decide) (by rw [q1]; decide) (by rw [q1]; rfl) rfl ?_
      refine J_aload_n dc_Re_readRest_57 (Eq.refl 58) 0 rfl ?_
      refine J_ldcS (t := 1) dc_Re_readRest_58 (Eq.refl 60) rfl ?_
      refine J_callVV (As := [pv E (2000 + 1)]) (st := []) dc_Re_readRest_60 (Eq.refl 63) lk_Re_151 mi_Re_readWord rfl (Nat.le_of_ble_eq_true rfl) rfl rfl (Nat.le_of_ble_eq_true rfl) rfl (Nat.le_of_ble_eq_true rfl) (CV.mono h (fun σ3 h => ?_))
      refine J_goto dc_Re_readRest_63 rfl ?_
      exact J_vret dc_Re_readRest_129 rfl h
    have h := h.2
    by_cases q2 : (gI σ1 181 x1.toNatClampNeg) = (2 : Int32)
    · have h := h.1 q2
      refine J_tableIn (tgt := 66) dc_Re_readRest_18 (by rw [q2]; decide) (by rw [q2]; decide) (by rw [q2]; rfl) rfl ?_
      refine J_aload_n dc_Re_readRest_66 (Eq.refl 67) 0 rfl ?_
      refine J_ldcS (t := 2) dc_Re_readRest_67 (Eq.refl 69) rfl ?_
      refine J_callVV (As := [pv E (2000 + 2)]) (st := []) dc_Re_readRest_69 (Eq.refl 72) lk_Re_151 mi_Re_readWord rfl (Nat.le_of_ble_eq_true rfl) rfl rfl (Nat.le_of_ble_eq_true rfl) rfl (Nat.le_of_ble_eq_true rfl) (CV.mono h (fun σ4 h => ?_))
      refine J_goto dc_Re_readRest_72 rfl ?_
      exact J_vret dc_Re_readRest_129 rfl h
    have h := h.2
    by_cases q3 : (gI σ1 181 x1.toNatClampNeg) = (3 : Int32)
    · have h := h.1 q3
      refine J_tableIn (tgt := 75) dc_Re_readRest_18 (by rw [q3]; decide) (by rw [q3]; decide) (by rw [q3]; rfl) rfl ?_
      refine J_aload_n dc_Re_readRest_75 (Eq.refl 76) 0 rfl ?_
      refine J_iload_n dc_Re_readRest_76 (Eq.refl 77) 1 rfl ?_
      refine J_callVV (As := [.int x1]) (st := []) dc_Re_readRest_77 (Eq.refl 80) lk_Re_159 mi_Re_readNumber rfl (Nat.le_of_ble_eq_true rfl) rfl rfl (Nat.le_of_ble_eq_true rfl) rfl (Nat.le_of_ble_eq_true rfl) (CV.mono h (fun σ5 h => ?_))
      refine J_goto dc_Re_readRest_80 rfl ?_
      exact J_vret dc_Re_readRest_129 rfl h
    have h := h.2
    have h := h q0 q1 q2 q3
    refine J_tableOut (tgt := 83) dc_Re_readRest_18 (sw_out (n := 3) (by decide) (fun k hk => ?_)) rfl ?_
    · have hk : k = 0 ∨ k = 1 ∨ k = 2 ∨ k = 3 := by omega
      rcases hk with rfl | rfl | rfl | rfl
      · exact q0
      · exact q1
      · exact q2
      · exact q3
    · skip
      refine J_aload_n dc_Re_readRest_83 (Eq.refl 84) 0 rfl ?_
      refine J_getF (y := 180) dc_Re_readRest_84 (Eq.refl 87) fl_Re_12 (Nat.le_of_ble_eq_true rfl) rfl (Or.inr rfl) rfl ?_
      refine J_getF (y := 190) dc_Re_readRest_87 (Eq.refl 90) fl_Re_162 (Nat.le_of_ble_eq_true rfl) rfl (Or.inl rfl) rfl ?_
      refine J_iload_n dc_Re_readRest_90 (Eq.refl 91) 1 rfl ?_
      refine J_aload_n dc_Re_readRest_91 (Eq.refl 92) 0 rfl ?_
      refine J_getF (y := 180) dc_Re_readRest_92 (Eq.refl 95) fl_Re_12 (Nat.le_of_ble_eq_true rfl) rfl (Or.inr rfl) rfl ?_
      refine J_getI dc_Re_readRest_95 (Eq.refl 98) fl_Re_165 (Nat.le_of_ble_eq_true rfl) rfl (Or.inl rfl) ?_
      obtain ⟨hg, h⟩ := h
      refine J_iast dc_Re_readRest_98 (Eq.refl 99) rfl rfl hg ?_
      refine J_aload_n dc_Re_readRest_99 (Eq.refl 100) 0 rfl ?_
      refine J_callVV (As := []) (st := []) dc_Re_readRest_100 (Eq.refl 103) lk_Re_168 mi_Re_readString rfl (Nat.le_of_ble_eq_true rfl) rfl rfl (Nat.le_of_ble_eq_true rfl) rfl (Nat.le_of_ble_eq_true rfl) (CV.mono h (fun σ6 h => ?_))
      refine J_aload_n dc_Re_readRest_103 (Eq.refl 104) 0 rfl ?_
      refine J_getF (y := 180) dc_Re_readRest_104 (Eq.refl 107) fl_Re_12 (Nat.le_of_ble_eq_true rfl) rfl (Or.inr rfl) rfl ?_
      refine J_getF (y := 182) dc_Re_readRest_107 (Eq.refl 110) fl_Re_171 (Nat.le_of_ble_eq_true rfl) rfl (Or.inl rfl) rfl ?_
      refine J_iload_n dc_Re_readRest_110 (Eq.refl 111) 1 rfl ?_
      refine J_aload_n dc_Re_readRest_111 (Eq.refl 112) 0 rfl ?_
      refine J_getF (y := 180) dc_Re_readRest_112 (Eq.refl 115) fl_Re_12 (Nat.le_of_ble_eq_true rfl) rfl (Or.inr rfl) rfl ?_
      refine J_getI dc_Re_readRest_115 (Eq.refl 118) fl_Re_165 (Nat.le_of_ble_eq_true rfl) rfl (Or.inl rfl) ?_
      refine J_aload_n dc_Re_readRest_118 (Eq.refl 119) 0 rfl ?_
      refine J_getF (y := 180) dc_Re_readRest_119 (Eq.refl 122) fl_Re_12 (Nat.le_of_ble_eq_true rfl) rfl (Or.inr rfl) rfl ?_
      refine J_getF (y := 190) dc_Re_readRest_122 (Eq.refl 125) fl_Re_162 (Nat.le_of_ble_eq_true rfl) rfl (Or.inl rfl) rfl ?_
      refine J_iload_n dc_Re_readRest_125 (Eq.refl 126) 1 rfl ?_
      obtain ⟨hg, h⟩ := h
      refine J_iald dc_Re_readRest_126 (Eq.refl 127) rfl rfl hg ?_
      refine J_isub dc_Re_readRest_127 (Eq.refl 128) ?_
      obtain ⟨hg, h⟩ := h
      refine J_iast dc_Re_readRest_128 (Eq.refl 129) rfl rfl hg ?_
      exact J_vret dc_Re_readRest_129 rfl h
  · have h := h.2 hc
    exact J_vret dc_Re_readRest_8 rfl h
theorem dc_Re_readWord_0 : decode m_Re_readWord.2.1 0 = .ok (.aload_n 0, 1) := by decide +kernel
theorem dc_Re_readWord_1 : decode m_Re_readWord.2.1 1 = .ok (.getfield 31, 3) := by decide +kernel
theorem dc_Re_readWord_4 : decode m_Re_readWord.2.1 4 = .ok (.aload_n 1, 1) := by decide +kernel
theorem dc_Re_readWord_5 : decode m_Re_readWord.2.1 5 = .ok (.invokevirtual 174, 3) := by decide +kernel
theorem dc_Re_readWord_8 : decode m_Re_readWord.2.1 8 = .ok (.ifCond .ne 15, 3) := by decide +kernel
theorem dc_Re_readWord_11 : decode m_Re_readWord.2.1 11 = .ok (.aload_n 0, 1) := by decide +kernel
theorem dc_Re_readWord_12 : decode m_Re_readWord.2.1 12 = .ok (.iconst 1, 1) := by decide +kernel
theorem dc_Re_readWord_13 : decode m_Re_readWord.2.1 13 = .ok (.aload_n 0, 1) := by decide +kernel
theorem dc_Re_readWord_14 : decode m_Re_readWord.2.1 14 = .ok (.getfield 31, 3) := by decide +kernel
theorem dc_Re_readWord_17 : decode m_Re_readWord.2.1 17 = .ok (.getfield 68, 3) := by decide +kernel
theorem dc_Re_readWord_20 : decode m_Re_readWord.2.1 20 = .ok (.invokevirtual 74, 3) := by decide +kernel
theorem dc_Re_readWord_23 : decode m_Re_readWord.2.1 23 = .ok (.return_, 1) := by decide +kernel
theorem b_Re_readWord_0 {E : En_t} {d : Nat} {σ : S_t} {Q : Option Value → S_t → Prop} {o1 : Nat} (hw_o1 : o1 < 7)
    (h : CI E d m_Te_passWord [pv E 51, pv E (2000 + o1)] σ (fun r2 σ1 => (¬ r2 = 0 → Q none σ1) ∧ (r2 = 0 → CV E d m_Re_blame [pv E 63, .int (1 : Int32), .int (gI σ1 51 2)] σ1 (fun σ3 => Q none σ3)))) :
    JE E (d + 1) m_Re_readWord 0 [(0, pv E 63), (1, pv E (2000 + o1))] [] σ Q := by
  refine J_aload_n dc_Re_readWord_0 (Eq.refl 1) 0 rfl ?_
  refine J_getF (y := 51) dc_Re_readWord_1 (Eq.refl 4) fl_Re_31 (Nat.le_of_ble_eq_true rfl) rfl (Or.inr rfl) rfl ?_
  refine J_aload_n dc_Re_readWord_4 (Eq.refl 5) 1 rfl ?_
  refine J_callVI (As := [pv E (2000 + o1)]) (st := []) dc_Re_readWord_5 (Eq.refl 8) lk_Re_174 mi_Te_passWord rfl (Nat.le_of_ble_eq_true rfl) rfl rfl (Nat.le_of_ble_eq_true rfl) rfl (Nat.le_of_ble_eq_true rfl) (CI.mono h (fun r2 σ1 h => ?_))
  refine J_if_ne dc_Re_readWord_8 (Eq.refl 11) rfl (fun hc => ?_) (fun hc => ?_)
  · have h := h.1 hc
    exact J_vret dc_Re_readWord_23 rfl h
  · have h := h.2 hc
    refine J_aload_n dc_Re_readWord_11 (Eq.refl 12) 0 rfl ?_
    refine J_iconst (v := (1 : Int32)) dc_Re_readWord_12 (Eq.refl 13) rfl ?_
    refine J_aload_n dc_Re_readWord_13 (Eq.refl 14) 0 rfl ?_
    refine J_getF (y := 51) dc_Re_readWord_14 (Eq.refl 17) fl_Re_31 (Nat.le_of_ble_eq_true rfl) rfl (Or.inr rfl) rfl ?_
    refine J_getI dc_Re_readWord_17 (Eq.refl 20) fl_Re_68 (Nat.le_of_ble_eq_true rfl) rfl (Or.inl rfl) ?_
    refine J_callVV (As := [.int (1 : Int32), .int (gI σ1 51 2)]) (st := []) dc_Re_readWord_20 (Eq.refl 23) lk_Re_74 mi_Re_blame rfl (Nat.le_of_ble_eq_true rfl) rfl rfl (Nat.le_of_ble_eq_true rfl) rfl (Nat.le_of_ble_eq_true rfl) (CV.mono h (fun σ3 h => ?_))
    exact J_vret dc_Re_readWord_23 rfl h
theorem dc_Te_passWord_0 : decode m_Te_passWord.2.1 0 = .ok (.iconst 0, 1) := by decide +kernel
theorem dc_Te_passWord_1 : decode m_Te_passWord.2.1 1 = .ok (.istore_n 2, 1) := by decide +kernel
theorem dc_Te_passWord_2 : decode m_Te_passWord.2.1 2 = .ok (.iload_n 2, 1) := by decide +kernel
theorem dc_Te_passWord_3 : decode m_Te_passWord.2.1 3 = .ok (.aload_n 1, 1) := by decide +kernel
theorem dc_Te_passWord_4 : decode m_Te_passWord.2.1 4 = .ok (.invokevirtual 22, 3) := by decide +kernel
theorem dc_Te_passWord_7 : decode m_Te_passWord.2.1 7 = .ok (.if_icmp .ge 23, 3) := by decide +kernel
theorem dc_Te_passWord_10 : decode m_Te_passWord.2.1 10 = .ok (.aload_n 0, 1) := by decide +kernel
theorem dc_Te_passWord_11 : decode m_Te_passWord.2.1 11 = .ok (.aload_n 1, 1) := by decide +kernel
theorem dc_Te_passWord_12 : decode m_Te_passWord.2.1 12 = .ok (.iload_n 2, 1) := by decide +kernel
theorem dc_Te_passWord_13 : decode m_Te_passWord.2.1 13 = .ok (.invokevirtual 27, 3) := by decide +kernel
theorem dc_Te_passWord_16 : decode m_Te_passWord.2.1 16 = .ok (.invokevirtual 31, 3) := by decide +kernel
theorem dc_Te_passWord_19 : decode m_Te_passWord.2.1 19 = .ok (.ifCond .ne 5, 3) := by decide +kernel
theorem dc_Te_passWord_22 : decode m_Te_passWord.2.1 22 = .ok (.iconst 0, 1) := by decide +kernel
theorem dc_Te_passWord_23 : decode m_Te_passWord.2.1 23 = .ok (.ireturn, 1) := by decide +kernel
theorem dc_Te_passWord_24 : decode m_Te_passWord.2.1 24 = .ok (.iinc 2 1, 3) := by decide +kernel
theorem dc_Te_passWord_27 : decode m_Te_passWord.2.1 27 = .ok (.goto (-25), 3) := by decide +kernel
theorem dc_Te_passWord_30 : decode m_Te_passWord.2.1 30 = .ok (.iconst 1, 1) := by decide +kernel
theorem dc_Te_passWord_31 : decode m_Te_passWord.2.1 31 = .ok (.ireturn, 1) := by decide +kernel
theorem b_Te_passWord_0 {E : En_t} {d : Nat} {σ : S_t} {Q : Option Value → S_t → Prop} {o1 : Nat} (hw_o1 : o1 < 7)
    (h : JE E (d + 1) m_Te_passWord 2 [(0, pv E 51), (1, pv E (2000 + o1)), (2, .int (0 : Int32))] [] σ Q) :
    JE E (d + 1) m_Te_passWord 0 [(0, pv E 51), (1, pv E (2000 + o1))] [] σ Q := by
  refine J_iconst (v := (0 : Int32)) dc_Te_passWord_0 (Eq.refl 1) rfl ?_
  refine J_istore_n (L' := [(2, .int (0 : Int32)), (0, pv E 51), (1, pv E (2000 + o1))]) dc_Te_passWord_1 (Eq.refl 2) (Nat.le_of_ble_eq_true rfl) rfl ?_
  refine J_sub [1, 2, 0] rfl ?_
  exact h
theorem b_Te_passWord_2 {E : En_t} {d : Nat} {σ : S_t} {Q : Option Value → S_t → Prop} {o1 : Nat} {x2 : Int32} (hw_o1 : o1 < 7)
    (h : CI E d m_JSt_length [pv E (2000 + o1)] σ (fun r2 σ1 => (r2 ≤ x2 → Q (some (.int (1 : Int32))) σ1) ∧ (¬ r2 ≤ x2 → CI E d m_JSt_charAt [pv E (2000 + o1), .int x2] σ1 (fun r4 σ3 => CI E d m_Te_pass [pv E 51, .int r4] σ3 (fun r6 σ5 => (¬ r6 = 0 → JE E (d + 1) m_Te_passWord 2 [(0, pv E 51), (1, pv E (2000 + o1)), (2, .int (x2 + (1 : Int32)))] [] σ5 Q) ∧ (r6 = 0 → Q (some (.int (0 : Int32))) σ5)))))) :
    JE E (d + 1) m_Te_passWord 2 [(0, pv E 51), (1, pv E (2000 + o1)), (2, .int x2)] [] σ Q := by
  refine J_iload_n dc_Te_passWord_2 (Eq.refl 3) 2 rfl ?_
  refine J_aload_n dc_Te_passWord_3 (Eq.refl 4) 1 rfl ?_
  refine J_callVSI (As := []) (st := [.int x2]) dc_Te_passWord_4 (Eq.refl 7) lk_Te_22 mi_JSt_length hw_o1 rfl (Nat.le_of_ble_eq_true rfl) rfl (Nat.le_of_ble_eq_true rfl) (CI.mono h (fun r2 σ1 h => ?_))
  refine J_icmp_ge dc_Te_passWord_7 (Eq.refl 10) rfl (fun hc => ?_) (fun hc => ?_)
  · have h := h.1 hc
    refine J_iconst (v := (1 : Int32)) dc_Te_passWord_30 (Eq.refl 31) rfl ?_
    exact J_zret dc_Te_passWord_31 rfl rfl h
  · have h := h.2 hc
    refine J_aload_n dc_Te_passWord_10 (Eq.refl 11) 0 rfl ?_
    refine J_aload_n dc_Te_passWord_11 (Eq.refl 12) 1 rfl ?_
    refine J_iload_n dc_Te_passWord_12 (Eq.refl 13) 2 rfl ?_
    refine J_callVSI (As := [.int x2]) (st := [pv E 51]) dc_Te_passWord_13 (Eq.refl 16) lk_Te_27 mi_JSt_charAt hw_o1 rfl (Nat.le_of_ble_eq_true rfl) rfl (Nat.le_of_ble_eq_true rfl) (CI.mono h (fun r4 σ3 h => ?_))
    refine J_callVI (As := [.int r4]) (st := []) dc_Te_passWord_16 (Eq.refl 19) lk_Te_31 mi_Te_pass rfl (Nat.le_of_ble_eq_true rfl) rfl rfl (Nat.le_of_ble_eq_true rfl) rfl (Nat.le_of_ble_eq_true rfl) (CI.mono h (fun r6 σ5 h => ?_))
    refine J_if_ne dc_Te_passWord_19 (Eq.refl 22) rfl (fun hc => ?_) (fun hc => ?_)
    · have h := h.1 hc
      refine J_iinc (v := x2 + (1 : Int32)) (L' := [(2, .int (x2 + (1 : Int32))), (0, pv E 51), (1, pv E (2000 + o1))]) dc_Te_passWord_24 (Eq.refl 27) 2 rfl rfl (Nat.le_of_ble_eq_true rfl) rfl ?_
      refine J_goto dc_Te_passWord_27 rfl ?_
      refine J_sub [1, 2, 0] rfl ?_
      exact h
    · have h := h.2 hc
      refine J_iconst (v := (0 : Int32)) dc_Te_passWord_22 (Eq.refl 23) rfl ?_
      exact J_zret dc_Te_passWord_23 rfl rfl h
theorem dc_JSt_length_0 : decode m_JSt_length.2.1 0 = .ok (.aload_n 0, 1) := by decide +kernel
theorem dc_JSt_length_1 : decode m_JSt_length.2.1 1 = .ok (.getfield 9, 3) := by decide +kernel
theorem dc_JSt_length_4 : decode m_JSt_length.2.1 4 = .ok (.arraylength, 1) := by decide +kernel
theorem dc_JSt_length_5 : decode m_JSt_length.2.1 5 = .ok (.aload_n 0, 1) := by decide +kernel
theorem dc_JSt_length_6 : decode m_JSt_length.2.1 6 = .ok (.invokevirtual 335, 3) := by decide +kernel
theorem dc_JSt_length_9 : decode m_JSt_length.2.1 9 = .ok (.ishr, 1) := by decide +kernel
theorem dc_JSt_length_10 : decode m_JSt_length.2.1 10 = .ok (.ireturn, 1) := by decide +kernel
theorem b_JSt_length_0 {E : En_t} {d : Nat} {σ : S_t} {Q : Option Value → S_t → Prop} {o0 : Nat} (hw_o0 : o0 < 7)
    (h : CI E d m_JSt_coder [pv E (2000 + o0)] σ (fun r2 σ1 => Q (some (.int ((nI (lenS.getD o0 0)) >>> (r2 &&& 31)))) σ1)) :
    JE E (d + 1) m_JSt_length 0 [(0, pv E (2000 + o0))] [] σ Q := by
  refine J_aload_n dc_JSt_length_0 (Eq.refl 1) 0 rfl ?_
  refine J_getSv dc_JSt_length_1 (Eq.refl 4) sf_JSt_9 hw_o0 ?_
  refine J_btlen dc_JSt_length_4 (Eq.refl 5) hw_o0 ?_
  refine J_aload_n dc_JSt_length_5 (Eq.refl 6) 0 rfl ?_
  refine J_callVSI (As := []) (st := [.int (nI (lenS.getD o0 0))]) dc_JSt_length_6 (Eq.refl 9) lk_JSt_335 mi_JSt_coder hw_o0 rfl (Nat.le_of_ble_eq_true rfl) rfl (Nat.le_of_ble_eq_true rfl) (CI.mono h (fun r2 σ1 h => ?_))
  refine J_ishr dc_JSt_length_9 (Eq.refl 10) ?_
  exact J_iret dc_JSt_length_10 rfl h
theorem dc_JSt_coder_0 : decode m_JSt_coder.2.1 0 = .ok (.getstatic 38, 3) := by decide +kernel
theorem dc_JSt_coder_3 : decode m_JSt_coder.2.1 3 = .ok (.ifCond .eq 10, 3) := by decide +kernel
theorem dc_JSt_coder_6 : decode m_JSt_coder.2.1 6 = .ok (.aload_n 0, 1) := by decide +kernel
theorem dc_JSt_coder_7 : decode m_JSt_coder.2.1 7 = .ok (.getfield 15, 3) := by decide +kernel
theorem dc_JSt_coder_10 : decode m_JSt_coder.2.1 10 = .ok (.goto 4, 3) := by decide +kernel
theorem dc_JSt_coder_13 : decode m_JSt_coder.2.1 13 = .ok (.iconst 1, 1) := by decide +kernel
theorem dc_JSt_coder_14 : decode m_JSt_coder.2.1 14 = .ok (.ireturn, 1) := by decide +kernel
theorem b_JSt_coder_0 {E : En_t} {d : Nat} {σ : S_t} {Q : Option Value → S_t → Prop} {o0 : Nat} (hw_o0 : o0 < 7)
    (h : ((1 : Int32) = 0 → Q (some (.int (1 : Int32))) σ) ∧ (¬ (1 : Int32) = 0 → Q (some (.int (0 : Int32))) σ)) :
    JE E d m_JSt_coder 0 [(0, pv E (2000 + o0))] [] σ Q := by
  refine J_getsC dc_JSt_coder_0 (Eq.refl 3) sf_JSt_38 ?_
  refine J_if_eq dc_JSt_coder_3 (Eq.refl 6) rfl (fun hc => ?_) (fun hc => ?_)
  · have h := h.1 hc
    refine J_iconst (v := (1 : Int32)) dc_JSt_coder_13 (Eq.refl 14) rfl ?_
    exact J_zret dc_JSt_coder_14 rfl rfl h
  · have h := h.2 hc
    refine J_aload_n dc_JSt_coder_6 (Eq.refl 7) 0 rfl ?_
    refine J_getSc dc_JSt_coder_7 (Eq.refl 10) sf_JSt_15 hw_o0 ?_
    refine J_goto dc_JSt_coder_10 rfl ?_
    exact J_zret dc_JSt_coder_14 rfl rfl h
theorem dc_JSt_charAt_0 : decode m_JSt_charAt.2.1 0 = .ok (.aload_n 0, 1) := by decide +kernel
theorem dc_JSt_charAt_1 : decode m_JSt_charAt.2.1 1 = .ok (.invokevirtual 492, 3) := by decide +kernel
theorem dc_JSt_charAt_4 : decode m_JSt_charAt.2.1 4 = .ok (.ifCond .eq 12, 3) := by decide +kernel
theorem dc_JSt_charAt_7 : decode m_JSt_charAt.2.1 7 = .ok (.aload_n 0, 1) := by decide +kernel
theorem dc_JSt_charAt_8 : decode m_JSt_charAt.2.1 8 = .ok (.getfield 9, 3) := by decide +kernel
theorem dc_JSt_charAt_11 : decode m_JSt_charAt.2.1 11 = .ok (.iload_n 1, 1) := by decide +kernel
theorem dc_JSt_charAt_12 : decode m_JSt_charAt.2.1 12 = .ok (.invokestatic 495, 3) := by decide +kernel
theorem dc_JSt_charAt_15 : decode m_JSt_charAt.2.1 15 = .ok (.ireturn, 1) := by decide +kernel
theorem b_JSt_charAt_0 {E : En_t} {d : Nat} {σ : S_t} {Q : Option Value → S_t → Prop} {o0 : Nat} {x1 : Int32} (hw_o0 : o0 < 7)
    (h : CI E d m_JSt_isLatin1 [pv E (2000 + o0)] σ (fun r2 σ1 => (r2 = 0 → False) ∧ (¬ r2 = 0 → CI E d m_JSl_charAt [pv E (3000 + o0), .int x1] σ1 (fun r4 σ3 => narrow .char (.int r4) = .int r4 ∧ Q (some (.int r4)) σ3)))) :
    JE E (d + 1) m_JSt_charAt 0 [(0, pv E (2000 + o0)), (1, .int x1)] [] σ Q := by
  refine J_aload_n dc_JSt_charAt_0 (Eq.refl 1) 0 rfl ?_
  refine J_callVSI (As := []) (st := []) dc_JSt_charAt_1 (Eq.refl 4) lk_JSt_492 mi_JSt_isLatin1 hw_o0 rfl (Nat.le_of_ble_eq_true rfl) rfl (Nat.le_of_ble_eq_true rfl) (CI.mono h (fun r2 σ1 h => ?_))
  refine J_if_eq dc_JSt_charAt_4 (Eq.refl 7) rfl (fun hc => ?_) (fun hc => ?_)
  · have h := h.1 hc
    exact h.elim
  · have h := h.2 hc
    refine J_aload_n dc_JSt_charAt_7 (Eq.refl 8) 0 rfl ?_
    refine J_getSv dc_JSt_charAt_8 (Eq.refl 11) sf_JSt_9 hw_o0 ?_
    refine J_iload_n dc_JSt_charAt_11 (Eq.refl 12) 1 rfl ?_
    refine J_callSI (As := [pv E (3000 + o0), .int x1]) (st := []) dc_JSt_charAt_12 (Eq.refl 15) lk_JSt_495 mi_JSl_charAt (Nat.le_of_ble_eq_true rfl) rfl (Nat.le_of_ble_eq_true rfl) (CI.mono h (fun r4 σ3 h => ?_))
    exact J_zret dc_JSt_charAt_15 rfl h.1 h.2
theorem dc_JSt_isLatin1_0 : decode m_JSt_isLatin1.2.1 0 = .ok (.getstatic 38, 3) := by decide +kernel
theorem dc_JSt_isLatin1_3 : decode m_JSt_isLatin1.2.1 3 = .ok (.ifCond .eq 14, 3) := by decide +kernel
theorem dc_JSt_isLatin1_6 : decode m_JSt_isLatin1.2.1 6 = .ok (.aload_n 0, 1) := by decide +kernel
theorem dc_JSt_isLatin1_7 : decode m_JSt_isLatin1.2.1 7 = .ok (.getfield 15, 3) := by decide +kernel
theorem dc_JSt_isLatin1_10 : decode m_JSt_isLatin1.2.1 10 = .ok (.ifCond .ne 7, 3) := by decide +kernel
theorem dc_JSt_isLatin1_13 : decode m_JSt_isLatin1.2.1 13 = .ok (.iconst 1, 1) := by decide +kernel
theorem dc_JSt_isLatin1_14 : decode m_JSt_isLatin1.2.1 14 = .ok (.goto 4, 3) := by decide +kernel
theorem dc_JSt_isLatin1_17 : decode m_JSt_isLatin1.2.1 17 = .ok (.iconst 0, 1) := by decide +kernel
theorem dc_JSt_isLatin1_18 : decode m_JSt_isLatin1.2.1 18 = .ok (.ireturn, 1) := by decide +kernel
theorem b_JSt_isLatin1_0 {E : En_t} {d : Nat} {σ : S_t} {Q : Option Value → S_t → Prop} {o0 : Nat} (hw_o0 : o0 < 7)
    (h : ((1 : Int32) = 0 → Q (some (.int (0 : Int32))) σ) ∧ (¬ (1 : Int32) = 0 → (¬ (0 : Int32) = 0 → Q (some (.int (0 : Int32))) σ) ∧ ((0 : Int32) = 0 → Q (some (.int (1 : Int32))) σ))) :
    JE E d m_JSt_isLatin1 0 [(0, pv E (2000 + o0))] [] σ Q := by
  refine J_getsC dc_JSt_isLatin1_0 (Eq.refl 3) sf_JSt_38 ?_
  refine J_if_eq dc_JSt_isLatin1_3 (Eq.refl 6) rfl (fun hc => ?_) (fun hc => ?_)
  · have h := h.1 hc
    refine J_iconst (v := (0 : Int32)) dc_JSt_isLatin1_17 (Eq.refl 18) rfl ?_
    exact J_zret dc_JSt_isLatin1_18 rfl rfl h
  · have h := h.2 hc
    refine J_aload_n dc_JSt_isLatin1_6 (Eq.refl 7) 0 rfl ?_
    refine J_getSc dc_JSt_isLatin1_7 (Eq.refl 10) sf_JSt_15 hw_o0 ?_
    refine J_if_ne dc_JSt_isLatin1_10 (Eq.refl 13) rfl (fun hc => ?_) (fun hc => ?_)
    · have h := h.1 hc
      refine J_iconst (v := (0 : Int32)) dc_JSt_isLatin1_17 (Eq.refl 18) rfl ?_
      exact J_zret dc_JSt_isLatin1_18 rfl rfl h
    · have h := h.2 hc
      refine J_iconst (v := (1 : Int32)) dc_JSt_isLatin1_13 (Eq.refl 14) rfl ?_
      refine J_goto dc_JSt_isLatin1_14 rfl ?_
      exact J_zret dc_JSt_isLatin1_18 rfl rfl h
theorem dc_JSl_charAt_0 : decode m_JSl_charAt.2.1 0 = .ok (.iload_n 1, 1) := by decide +kernel
theorem dc_JSl_charAt_1 : decode m_JSl_charAt.2.1 1 = .ok (.aload_n 0, 1) := by decide +kernel
theorem dc_JSl_charAt_2 : decode m_JSl_charAt.2.1 2 = .ok (.arraylength, 1) := by decide +kernel
theorem dc_JSl_charAt_3 : decode m_JSl_charAt.2.1 3 = .ok (.invokestatic 9, 3) := by decide +kernel
theorem dc_JSl_charAt_6 : decode m_JSl_charAt.2.1 6 = .ok (.aload_n 0, 1) := by decide +kernel
theorem dc_JSl_charAt_7 : decode m_JSl_charAt.2.1 7 = .ok (.iload_n 1, 1) := by decide +kernel
theorem dc_JSl_charAt_8 : decode m_JSl_charAt.2.1 8 = .ok (.baload, 1) := by decide +kernel
theorem dc_JSl_charAt_9 : decode m_JSl_charAt.2.1 9 = .ok (.sipush 255, 3) := by decide +kernel
theorem dc_JSl_charAt_12 : decode m_JSl_charAt.2.1 12 = .ok (.iand, 1) := by decide +kernel
theorem dc_JSl_charAt_13 : decode m_JSl_charAt.2.1 13 = .ok (.i2c, 1) := by decide +kernel
theorem dc_JSl_charAt_14 : decode m_JSl_charAt.2.1 14 = .ok (.ireturn, 1) := by decide +kernel
theorem b_JSl_charAt_0 {E : En_t} {d : Nat} {σ : S_t} {Q : Option Value → S_t → Prop} {o0 : Nat} {x1 : Int32} (hw_o0 : o0 < 7)
    (h : CV E d m_JSt_checkIndex [.int x1, .int (nI (lenS.getD o0 0))] σ (fun σ1 => vp_in x1 (lenS.getD o0 0) ∧ (narrow .char (.int (((((bytS.getD o0 []).getD x1.toNatClampNeg 0) &&& (255 : Int32)).toUInt32 % 65536).toInt32)) = .int (((((bytS.getD o0 []).getD x1.toNatClampNeg 0) &&& (255 : Int32)).toUInt32 % 65536).toInt32) ∧ Q (some (.int (((((bytS.getD o0 []).getD x1.toNatClampNeg 0) &&& (255 : Int32)).toUInt32 % 65536).toInt32))) σ1))) :
    JE E (d + 1) m_JSl_charAt 0 [(0, pv E (3000 + o0)), (1, .int x1)] [] σ Q := by
  refine J_iload_n dc_JSl_charAt_0 (Eq.refl 1) 1 rfl ?_
  refine J_aload_n dc_JSl_charAt_1 (Eq.refl 2) 0 rfl ?_
  refine J_btlen dc_JSl_charAt_2 (Eq.refl 3) hw_o0 ?_
  refine J_callSV (As := [.int x1, .int (nI (lenS.getD o0 0))]) (st := []) dc_JSl_charAt_3 (Eq.refl 6) lk_JSl_9 mi_JSt_checkIndex (Nat.le_of_ble_eq_true rfl) rfl (Nat.le_of_ble_eq_true rfl) (CV.mono h (fun σ1 h => ?_))
  refine J_aload_n dc_JSl_charAt_6 (Eq.refl 7) 0 rfl ?_
  refine J_iload_n dc_JSl_charAt_7 (Eq.refl 8) 1 rfl ?_
  obtain ⟨hg, h⟩ := h
  refine J_btald dc_JSl_charAt_8 (Eq.refl 9) hw_o0 hg ?_
  refine J_sipush (v := (255 : Int32)) dc_JSl_charAt_9 (Eq.refl 12) rfl ?_
  refine J_iand dc_JSl_charAt_12 (Eq.refl 13) ?_
  refine J_i2c dc_JSl_charAt_13 (Eq.refl 14) ?_
  exact J_zret dc_JSl_charAt_14 rfl h.1 h.2
theorem dc_JSt_checkIndex_0 : decode m_JSt_checkIndex.2.1 0 = .ok (.iload_n 0, 1) := by decide +kernel
theorem dc_JSt_checkIndex_1 : decode m_JSt_checkIndex.2.1 1 = .ok (.iload_n 1, 1) := by decide +kernel
theorem dc_JSt_checkIndex_2 : decode m_JSt_checkIndex.2.1 2 = .ok (.getstatic 1053, 3) := by decide +kernel
theorem dc_JSt_checkIndex_5 : decode m_JSt_checkIndex.2.1 5 = .ok (.invokestatic 1059, 3) := by decide +kernel
theorem dc_JSt_checkIndex_8 : decode m_JSt_checkIndex.2.1 8 = .ok (.pop, 1) := by decide +kernel
theorem dc_JSt_checkIndex_9 : decode m_JSt_checkIndex.2.1 9 = .ok (.return_, 1) := by decide +kernel
theorem b_JSt_checkIndex_0 {E : En_t} {d : Nat} {σ : S_t} {Q : Option Value → S_t → Prop} {x0 : Int32} {x1 : Int32}
    (h : ∀ v1 : Value, v1 = .null ∨ (∃ t : Nat, v1 = .ref t) → (CI E d m_JPc_checkIndex [.int x0, .int x1, v1] σ (fun r3 σ2 => Q none σ2))) :
    JE E (d + 1) m_JSt_checkIndex 0 [(0, .int x0), (1, .int x1)] [] σ Q := by
  refine J_iload_n dc_JSt_checkIndex_0 (Eq.refl 1) 0 rfl ?_
  refine J_iload_n dc_JSt_checkIndex_1 (Eq.refl 2) 1 rfl ?_
  refine J_getsQ dc_JSt_checkIndex_2 (Eq.refl 5) sf_JSt_1053 (fun v1 ev1 => ?_)
  have h := h v1 ev1
  refine J_callSI (As := [.int x0, .int x1, v1]) (st := []) dc_JSt_checkIndex_5 (Eq.refl 8) lk_JSt_1059 mi_JPc_checkIndex (Nat.le_of_ble_eq_true rfl) rfl (Nat.le_of_ble_eq_true rfl) (CI.mono h (fun r3 σ2 h => ?_))
  refine J_pop dc_JSt_checkIndex_8 (Eq.refl 9) rfl ?_
  exact J_vret dc_JSt_checkIndex_9 rfl h
theorem dc_JPc_checkIndex_0 : decode m_JPc_checkIndex.2.1 0 = .ok (.iload_n 0, 1) := by decide +kernel
theorem dc_JPc_checkIndex_1 : decode m_JPc_checkIndex.2.1 1 = .ok (.ifCond .lt 8, 3) := by decide +kernel
theorem dc_JPc_checkIndex_4 : decode m_JPc_checkIndex.2.1 4 = .ok (.iload_n 0, 1) := by decide +kernel
theorem dc_JPc_checkIndex_5 : decode m_JPc_checkIndex.2.1 5 = .ok (.iload_n 1, 1) := by decide +kernel
theorem dc_JPc_checkIndex_6 : decode m_JPc_checkIndex.2.1 6 = .ok (.if_icmp .lt 10, 3) := by decide +kernel
theorem dc_JPc_checkIndex_16 : decode m_JPc_checkIndex.2.1 16 = .ok (.iload_n 0, 1) := by decide +kernel
theorem dc_JPc_checkIndex_17 : decode m_JPc_checkIndex.2.1 17 = .ok (.ireturn, 1) := by decide +kernel
theorem b_JPc_checkIndex_0 {E : En_t} {d : Nat} {σ : S_t} {Q : Option Value → S_t → Prop} {x0 : Int32} {x1 : Int32}
    (h : (x0 < 0 → False) ∧ (¬ x0 < 0 → (x0 < x1 → Q (some (.int x0)) σ) ∧ (¬ x0 < x1 → False))) :
    JE E (d + 1) m_JPc_checkIndex 0 [(0, .int x0), (1, .int x1)] [] σ Q := by
  refine J_iload_n dc_JPc_checkIndex_0 (Eq.refl 1) 0 rfl ?_
  refine J_if_lt dc_JPc_checkIndex_1 (Eq.refl 4) rfl (fun hc => ?_) (fun hc => ?_)
  · have h := h.1 hc
    exact h.elim
  · have h := h.2 hc
    refine J_iload_n dc_JPc_checkIndex_4 (Eq.refl 5) 0 rfl ?_
    refine J_iload_n dc_JPc_checkIndex_5 (Eq.refl 6) 1 rfl ?_
    refine J_icmp_lt dc_JPc_checkIndex_6 (Eq.refl 9) rfl (fun hc => ?_) (fun hc => ?_)
    · have h := h.1 hc
      refine J_iload_n dc_JPc_checkIndex_16 (Eq.refl 17) 0 rfl ?_
      exact J_iret dc_JPc_checkIndex_17 rfl h
    · have h := h.2 hc
      exact h.elim
theorem dc_Re_readShortEscape_0 : decode m_Re_readShortEscape.2.1 0 = .ok (.iload_n 1, 1) := by decide +kernel
theorem dc_Re_readShortEscape_1 : decode m_Re_readShortEscape.2.1 1 = .ok (.iconst (-1), 1) := by decide +kernel
theorem dc_Re_readShortEscape_2 : decode m_Re_readShortEscape.2.1 2 = .ok (.if_icmp .ne 7, 3) := by decide +kernel
theorem dc_Re_readShortEscape_5 : decode m_Re_readShortEscape.2.1 5 = .ok (.iconst (-1), 1) := by decide +kernel
theorem dc_Re_readShortEscape_6 : decode m_Re_readShortEscape.2.1 6 = .ok (.goto 10, 3) := by decide +kernel
theorem dc_Re_readShortEscape_9 : decode m_Re_readShortEscape.2.1 9 = .ok (.ldc 224, 2) := by decide +kernel
theorem dc_Re_readShortEscape_11 : decode m_Re_readShortEscape.2.1 11 = .ok (.iload_n 1, 1) := by decide +kernel
theorem dc_Re_readShortEscape_12 : decode m_Re_readShortEscape.2.1 12 = .ok (.i2c, 1) := by decide +kernel
theorem dc_Re_readShortEscape_13 : decode m_Re_readShortEscape.2.1 13 = .ok (.invokevirtual 226, 3) := by decide +kernel
theorem dc_Re_readShortEscape_16 : decode m_Re_readShortEscape.2.1 16 = .ok (.istore_n 2, 1) := by decide +kernel
theorem dc_Re_readShortEscape_17 : decode m_Re_readShortEscape.2.1 17 = .ok (.iload_n 2, 1) := by decide +kernel
theorem dc_Re_readShortEscape_18 : decode m_Re_readShortEscape.2.1 18 = .ok (.ifCond .lt 11, 3) := by decide +kernel
theorem dc_Re_readShortEscape_21 : decode m_Re_readShortEscape.2.1 21 = .ok (.iload_n 2, 1) := by decide +kernel
theorem dc_Re_readShortEscape_22 : decode m_Re_readShortEscape.2.1 22 = .ok (.getstatic 231, 3) := by decide +kernel
theorem dc_Re_readShortEscape_25 : decode m_Re_readShortEscape.2.1 25 = .ok (.arraylength, 1) := by decide +kernel
theorem dc_Re_readShortEscape_26 : decode m_Re_readShortEscape.2.1 26 = .ok (.if_icmp .lt 5, 3) := by decide +kernel
theorem dc_Re_readShortEscape_29 : decode m_Re_readShortEscape.2.1 29 = .ok (.iconst (-1), 1) := by decide +kernel
theorem dc_Re_readShortEscape_30 : decode m_Re_readShortEscape.2.1 30 = .ok (.ireturn, 1) := by decide +kernel
theorem dc_Re_readShortEscape_31 : decode m_Re_readShortEscape.2.1 31 = .ok (.aload_n 0, 1) := by decide +kernel
theorem dc_Re_readShortEscape_32 : decode m_Re_readShortEscape.2.1 32 = .ok (.getfield 31, 3) := by decide +kernel
theorem dc_Re_readShortEscape_35 : decode m_Re_readShortEscape.2.1 35 = .ok (.dup, 1) := by decide +kernel
theorem dc_Re_readShortEscape_36 : decode m_Re_readShortEscape.2.1 36 = .ok (.getfield 68, 3) := by decide +kernel
theorem dc_Re_readShortEscape_39 : decode m_Re_readShortEscape.2.1 39 = .ok (.iconst 1, 1) := by decide +kernel
theorem dc_Re_readShortEscape_40 : decode m_Re_readShortEscape.2.1 40 = .ok (.iadd, 1) := by decide +kernel
theorem dc_Re_readShortEscape_41 : decode m_Re_readShortEscape.2.1 41 = .ok (.putfield 68, 3) := by decide +kernel
theorem dc_Re_readShortEscape_44 : decode m_Re_readShortEscape.2.1 44 = .ok (.getstatic 231, 3) := by decide +kernel
theorem dc_Re_readShortEscape_47 : decode m_Re_readShortEscape.2.1 47 = .ok (.iload_n 2, 1) := by decide +kernel
theorem dc_Re_readShortEscape_48 : decode m_Re_readShortEscape.2.1 48 = .ok (.iaload, 1) := by decide +kernel
theorem dc_Re_readShortEscape_49 : decode m_Re_readShortEscape.2.1 49 = .ok (.ireturn, 1) := by decide +kernel
theorem b_Re_readShortEscape_0 {E : En_t} {d : Nat} {σ : S_t} {Q : Option Value → S_t → Prop} {x1 : Int32}
    (h : (¬ x1 = (-1 : Int32) → CI E d m_JSt_indexOf [pv E (2000 + 3), .int ((x1.toUInt32 % 65536).toInt32)] σ (fun r2 σ1 => JE E (d + 1) m_Re_readShortEscape 16 [(0, pv E 63)] [.int r2] σ1 Q)) ∧ (x1 = (-1 : Int32) → JE E (d + 1) m_Re_readShortEscape 16 [(0, pv E 63)] [.int (-1 : Int32)] σ Q)) :
    JE E (d + 1) m_Re_readShortEscape 0 [(0, pv E 63), (1, .int x1)] [] σ Q := by
  refine J_iload_n dc_Re_readShortEscape_0 (Eq.refl 1) 1 rfl ?_
  refine J_iconst (v := (-1 : Int32)) dc_Re_readShortEscape_1 (Eq.refl 2) rfl ?_
  refine J_icmp_ne dc_Re_readShortEscape_2 (Eq.refl 5) rfl (fun hc => ?_) (fun hc => ?_)
  · have h := h.1 hc
    refine J_ldcS (t := 3) dc_Re_readShortEscape_9 (Eq.refl 11) rfl ?_
    refine J_iload_n dc_Re_readShortEscape_11 (Eq.refl 12) 1 rfl ?_
    refine J_i2c dc_Re_readShortEscape_12 (Eq.refl 13) ?_
    refine J_callVSI (As := [.int ((x1.toUInt32 % 65536).toInt32)]) (st := []) dc_Re_readShortEscape_13 (Eq.refl 16) lk_Re_226 mi_JSt_indexOf (Nat.le_of_ble_eq_true rfl) rfl (Nat.le_of_ble_eq_true rfl) rfl (Nat.le_of_ble_eq_true rfl) (CI.mono h (fun r2 σ1 h => ?_))
    refine J_sub [0] rfl ?_
    exact h
  · have h := h.2 hc
    refine J_iconst (v := (-1 : Int32)) dc_Re_readShortEscape_5 (Eq.refl 6) rfl ?_
    refine J_goto dc_Re_readShortEscape_6 rfl ?_
    refine J_sub [0] rfl ?_
    exact h
theorem b_Re_readShortEscape_16 {E : En_t} {d : Nat} {σ : S_t} {Q : Option Value → S_t → Prop} {s0 : Int32}
    (h : (s0 < 0 → Q (some (.int (-1 : Int32))) σ) ∧ (¬ s0 < 0 → (s0 < (8 : Int32) → vp_in s0 8 ∧ (Q (some (.int (tabV 2 s0.toNatClampNeg))) (sI σ 51 2 ((gI σ 51 2) + (1 : Int32))))) ∧ (¬ s0 < (8 : Int32) → Q (some (.int (-1 : Int32))) σ))) :
    JE E (d + 1) m_Re_readShortEscape 16 [(0, pv E 63)] [.int s0] σ Q := by
  refine J_istore_n (L' := [(2, .int s0), (0, pv E 63)]) dc_Re_readShortEscape_16 (Eq.refl 17) (Nat.le_of_ble_eq_true rfl) rfl ?_
  refine J_iload_n dc_Re_readShortEscape_17 (Eq.refl 18) 0 rfl ?_
  refine J_if_lt dc_Re_readShortEscape_18 (Eq.refl 21) rfl (fun hc => ?_) (fun hc => ?_)
  · have h := h.1 hc
    refine J_iconst (v := (-1 : Int32)) dc_Re_readShortEscape_29 (Eq.refl 30) rfl ?_
    exact J_iret dc_Re_readShortEscape_30 rfl h
  · have h := h.2 hc
    refine J_iload_n dc_Re_readShortEscape_21 (Eq.refl 22) 0 rfl ?_
    refine J_gets (t := 2) dc_Re_readShortEscape_22 (Eq.refl 25) rfl fl_Re_231 ?_
    refine J_tlen (t := 2) (v := (8 : Int32)) dc_Re_readShortEscape_25 (Eq.refl 26) rfl rfl ?_
    refine J_icmp_lt dc_Re_readShortEscape_26 (Eq.refl 29) rfl (fun hc => ?_) (fun hc => ?_)
    · have h := h.1 hc
      refine J_aload_n dc_Re_readShortEscape_31 (Eq.refl 32) 1 rfl ?_
      refine J_getF (y := 51) dc_Re_readShortEscape_32 (Eq.refl 35) fl_Re_31 (Nat.le_of_ble_eq_true rfl) rfl (Or.inr rfl) rfl ?_
      refine J_dup dc_Re_readShortEscape_35 (Eq.refl 36) rfl ?_
      refine J_getI dc_Re_readShortEscape_36 (Eq.refl 39) fl_Re_68 (Nat.le_of_ble_eq_true rfl) rfl (Or.inl rfl) ?_
      refine J_iconst (v := (1 : Int32)) dc_Re_readShortEscape_39 (Eq.refl 40) rfl ?_
      refine J_iadd dc_Re_readShortEscape_40 (Eq.refl 41) ?_
      refine J_putI dc_Re_readShortEscape_41 (Eq.refl 44) pl_Re_68 (Nat.le_of_ble_eq_true rfl) rfl rfl ?_
      refine J_gets (t := 2) dc_Re_readShortEscape_44 (Eq.refl 47) rfl fl_Re_231 ?_
      refine J_iload_n dc_Re_readShortEscape_47 (Eq.refl 48) 0 rfl ?_
      obtain ⟨hg, h⟩ := h
      refine J_tald (t := 2) (v := tabV 2 s0.toNatClampNeg) dc_Re_readShortEscape_48 (Eq.refl 49) rfl hg rfl ?_
      exact J_iret dc_Re_readShortEscape_49 rfl h
    · have h := h.2 hc
      refine J_iconst (v := (-1 : Int32)) dc_Re_readShortEscape_29 (Eq.refl 30) rfl ?_
      exact J_iret dc_Re_readShortEscape_30 rfl h
theorem dc_JSt_indexOf_0 : decode m_JSt_indexOf.2.1 0 = .ok (.aload_n 0, 1) := by decide +kernel
theorem dc_JSt_indexOf_1 : decode m_JSt_indexOf.2.1 1 = .ok (.iload_n 1, 1) := by decide +kernel
theorem dc_JSt_indexOf_2 : decode m_JSt_indexOf.2.1 2 = .ok (.iconst 0, 1) := by decide +kernel
theorem dc_JSt_indexOf_3 : decode m_JSt_indexOf.2.1 3 = .ok (.invokevirtual 633, 3) := by decide +kernel
theorem dc_JSt_indexOf_6 : decode m_JSt_indexOf.2.1 6 = .ok (.ireturn, 1) := by decide +kernel
theorem b_JSt_indexOf_0 {E : En_t} {d : Nat} {σ : S_t} {Q : Option Value → S_t → Prop} {o0 : Nat} {x1 : Int32} (hw_o0 : o0 < 7)
    (h : CI E d m_JSt_indexOf_II [pv E (2000 + o0), .int x1, .int (0 : Int32)] σ (fun r2 σ1 => Q (some (.int r2)) σ1)) :
    JE E (d + 1) m_JSt_indexOf 0 [(0, pv E (2000 + o0)), (1, .int x1)] [] σ Q := by
  refine J_aload_n dc_JSt_indexOf_0 (Eq.refl 1) 0 rfl ?_
  refine J_iload_n dc_JSt_indexOf_1 (Eq.refl 2) 1 rfl ?_
  refine J_iconst (v := (0 : Int32)) dc_JSt_indexOf_2 (Eq.refl 3) rfl ?_
  refine J_callVSI (As := [.int x1, .int (0 : Int32)]) (st := []) dc_JSt_indexOf_3 (Eq.refl 6) lk_JSt_633 mi_JSt_indexOf_II hw_o0 rfl (Nat.le_of_ble_eq_true rfl) rfl (Nat.le_of_ble_eq_true rfl) (CI.mono h (fun r2 σ1 h => ?_))
  exact J_iret dc_JSt_indexOf_6 rfl h
theorem dc_JSt_indexOf_II_0 : decode m_JSt_indexOf_II.2.1 0 = .ok (.aload_n 0, 1) := by decide +kernel
theorem dc_JSt_indexOf_II_1 : decode m_JSt_indexOf_II.2.1 1 = .ok (.invokevirtual 492, 3) := by decide +kernel
theorem dc_JSt_indexOf_II_4 : decode m_JSt_indexOf_II.2.1 4 = .ok (.ifCond .eq 19, 3) := by decide +kernel
theorem dc_JSt_indexOf_II_7 : decode m_JSt_indexOf_II.2.1 7 = .ok (.aload_n 0, 1) := by decide +kernel
theorem dc_JSt_indexOf_II_8 : decode m_JSt_indexOf_II.2.1 8 = .ok (.getfield 9, 3) := by decide +kernel
theorem dc_JSt_indexOf_II_11 : decode m_JSt_indexOf_II.2.1 11 = .ok (.iload_n 1, 1) := by decide +kernel
theorem dc_JSt_indexOf_II_12 : decode m_JSt_indexOf_II.2.1 12 = .ok (.iload_n 2, 1) := by decide +kernel
theorem dc_JSt_indexOf_II_13 : decode m_JSt_indexOf_II.2.1 13 = .ok (.aload_n 0, 1) := by decide +kernel
theorem dc_JSt_indexOf_II_14 : decode m_JSt_indexOf_II.2.1 14 = .ok (.invokevirtual 505, 3) := by decide +kernel
theorem dc_JSt_indexOf_II_17 : decode m_JSt_indexOf_II.2.1 17 = .ok (.invokestatic 637, 3) := by decide +kernel
theorem dc_JSt_indexOf_II_20 : decode m_JSt_indexOf_II.2.1 20 = .ok (.goto 16, 3) := by decide +kernel
theorem dc_JSt_indexOf_II_36 : decode m_JSt_indexOf_II.2.1 36 = .ok (.ireturn, 1) := by decide +kernel
theorem b_JSt_indexOf_II_0 {E : En_t} {d : Nat} {σ : S_t} {Q : Option Value → S_t → Prop} {o0 : Nat} {x1 : Int32} {x2 : Int32} (hw_o0 : o0 < 7)
    (h : CI E d m_JSt_isLatin1 [pv E (2000 + o0)] σ (fun r2 σ1 => (r2 = 0 → False) ∧ (¬ r2 = 0 → CI E d m_JSt_length [pv E (2000 + o0)] σ1 (fun r4 σ3 => CI E d m_JSl_indexOf [pv E (3000 + o0), .int x1, .int x2, .int r4] σ3 (fun r6 σ5 => Q (some (.int r6)) σ5))))) :
    JE E (d + 1) m_JSt_indexOf_II 0 [(0, pv E (2000 + o0)), (1, .int x1), (2, .int x2)] [] σ Q := by
  refine J_aload_n dc_JSt_indexOf_II_0 (Eq.refl 1) 0 rfl ?_
  refine J_callVSI (As := []) (st := []) dc_JSt_indexOf_II_1 (Eq.refl 4) lk_JSt_492 mi_JSt_isLatin1 hw_o0 rfl (Nat.le_of_ble_eq_true rfl) rfl (Nat.le_of_ble_eq_true rfl) (CI.mono h (fun r2 σ1 h => ?_))
  refine J_if_eq dc_JSt_indexOf_II_4 (Eq.refl 7) rfl (fun hc => ?_) (fun hc => ?_)
  · have h := h.1 hc
    exact h.elim
  · have h := h.2 hc
    refine J_aload_n dc_JSt_indexOf_II_7 (Eq.refl 8) 0 rfl ?_
    refine J_getSv dc_JSt_indexOf_II_8 (Eq.refl 11) sf_JSt_9 hw_o0 ?_
    refine J_iload_n dc_JSt_indexOf_II_11 (Eq.refl 12) 1 rfl ?_
    refine J_iload_n dc_JSt_indexOf_II_12 (Eq.refl 13) 2 rfl ?_
    refine J_aload_n dc_JSt_indexOf_II_13 (Eq.refl 14) 0 rfl ?_
    refine J_callVSI (As := []) (st := [.int x2, .int x1, pv E (3000 + o0)]) dc_JSt_indexOf_II_14 (Eq.refl 17) lk_JSt_505 mi_JSt_length hw_o0 rfl (Nat.le_of_ble_eq_true rfl) rfl (Nat.le_of_ble_eq_true rfl) (CI.mono h (fun r4 σ3 h => ?_))
    refine J_callSI (As := [pv E (3000 + o0), .int x1, .int x2, .int r4]) (st := []) dc_JSt_indexOf_II_17 (Eq.refl 20) lk_JSt_637 mi_JSl_indexOf (Nat.le_of_ble_eq_true rfl) rfl (Nat.le_of_ble_eq_true rfl) (CI.mono h (fun r6 σ5 h => ?_))
    refine J_goto dc_JSt_indexOf_II_20 rfl ?_
    exact J_iret dc_JSt_indexOf_II_36 rfl h
theorem dc_JSl_indexOf_0 : decode m_JSl_indexOf.2.1 0 = .ok (.iload_n 1, 1) := by decide +kernel
theorem dc_JSl_indexOf_1 : decode m_JSl_indexOf.2.1 1 = .ok (.invokestatic 88, 3) := by decide +kernel
theorem dc_JSl_indexOf_4 : decode m_JSl_indexOf.2.1 4 = .ok (.ifCond .ne 5, 3) := by decide +kernel
theorem dc_JSl_indexOf_7 : decode m_JSl_indexOf.2.1 7 = .ok (.iconst (-1), 1) := by decide +kernel
theorem dc_JSl_indexOf_8 : decode m_JSl_indexOf.2.1 8 = .ok (.ireturn, 1) := by decide +kernel
theorem dc_JSl_indexOf_9 : decode m_JSl_indexOf.2.1 9 = .ok (.iload_n 2, 1) := by decide +kernel
theorem dc_JSl_indexOf_10 : decode m_JSl_indexOf.2.1 10 = .ok (.iconst 0, 1) := by decide +kernel
theorem dc_JSl_indexOf_11 : decode m_JSl_indexOf.2.1 11 = .ok (.invokestatic 92, 3) := by decide +kernel
theorem dc_JSl_indexOf_14 : decode m_JSl_indexOf.2.1 14 = .ok (.istore_n 2, 1) := by decide +kernel
theorem dc_JSl_indexOf_15 : decode m_JSl_indexOf.2.1 15 = .ok (.iload_n 3, 1) := by decide +kernel
theorem dc_JSl_indexOf_16 : decode m_JSl_indexOf.2.1 16 = .ok (.aload_n 0, 1) := by decide +kernel
theorem dc_JSl_indexOf_17 : decode m_JSl_indexOf.2.1 17 = .ok (.arraylength, 1) := by decide +kernel
theorem dc_JSl_indexOf_18 : decode m_JSl_indexOf.2.1 18 = .ok (.invokestatic 38, 3) := by decide +kernel
theorem dc_JSl_indexOf_21 : decode m_JSl_indexOf.2.1 21 = .ok (.istore_n 3, 1) := by decide +kernel
theorem dc_JSl_indexOf_22 : decode m_JSl_indexOf.2.1 22 = .ok (.iload_n 2, 1) := by decide +kernel
theorem dc_JSl_indexOf_23 : decode m_JSl_indexOf.2.1 23 = .ok (.iload_n 3, 1) := by decide +kernel
theorem dc_JSl_indexOf_24 : decode m_JSl_indexOf.2.1 24 = .ok (.if_icmp .lt 5, 3) := by decide +kernel
theorem dc_JSl_indexOf_27 : decode m_JSl_indexOf.2.1 27 = .ok (.iconst (-1), 1) := by decide +kernel
theorem dc_JSl_indexOf_28 : decode m_JSl_indexOf.2.1 28 = .ok (.ireturn, 1) := by decide +kernel
theorem dc_JSl_indexOf_29 : decode m_JSl_indexOf.2.1 29 = .ok (.aload_n 0, 1) := by decide +kernel
theorem dc_JSl_indexOf_30 : decode m_JSl_indexOf.2.1 30 = .ok (.iload_n 1, 1) := by decide +kernel
theorem dc_JSl_indexOf_31 : decode m_JSl_indexOf.2.1 31 = .ok (.iload_n 2, 1) := by decide +kernel
theorem dc_JSl_indexOf_32 : decode m_JSl_indexOf.2.1 32 = .ok (.iload_n 3, 1) := by decide +kernel
theorem dc_JSl_indexOf_33 : decode m_JSl_indexOf.2.1 33 = .ok (.invokestatic 95, 3) := by decide +kernel
theorem dc_JSl_indexOf_36 : decode m_JSl_indexOf.2.1 36 = .ok (.ireturn, 1) := by decide +kernel
theorem b_JSl_indexOf_0 {E : En_t} {d : Nat} {σ : S_t} {Q : Option Value → S_t → Prop} {o0 : Nat} {x1 : Int32} {x2 : Int32} {x3 : Int32} (hw_o0 : o0 < 7)
    (h : CI E d m_JSl_canEncode [.int x1] σ (fun r2 σ1 => (¬ r2 = 0 → ∀ r3, r3 = mxI x2 (0 : Int32) → (∀ r4, r4 = mnI x3 (nI (lenS.getD o0 0)) → ((r3 < r4 → CI E d m_JSl_indexOfChar [pv E (3000 + o0), .int x1, .int r3, .int r4] σ1 (fun r6 σ5 => Q (some (.int r6)) σ5)) ∧ (¬ r3 < r4 → Q (some (.int (-1 : Int32))) σ1)))) ∧ (r2 = 0 → Q (some (.int (-1 : Int32))) σ1))) :
    JE E (d + 1) m_JSl_indexOf 0 [(0, pv E (3000 + o0)), (1, .int x1), (2, .int x2), (3, .int x3)] [] σ Q := by
  refine J_iload_n dc_JSl_indexOf_0 (Eq.refl 1) 1 rfl ?_
  refine J_callSI (As := [.int x1]) (st := []) dc_JSl_indexOf_1 (Eq.refl 4) lk_JSl_88 mi_JSl_canEncode (Nat.le_of_ble_eq_true rfl) rfl (Nat.le_of_ble_eq_true rfl) (CI.mono h (fun r2 σ1 h => ?_))
  refine J_if_ne dc_JSl_indexOf_4 (Eq.refl 7) rfl (fun hc => ?_) (fun hc => ?_)
  · have h := h.1 hc
    refine J_iload_n dc_JSl_indexOf_9 (Eq.refl 10) 2 rfl ?_
    refine J_iconst (v := (0 : Int32)) dc_JSl_indexOf_10 (Eq.refl 11) rfl ?_
    refine J_mmax dc_JSl_indexOf_11 (Eq.refl 14) lk_JSl_92 (Nat.le_of_ble_eq_true rfl) (fun r3 er3 => ?_)
    have h := h r3 er3
    refine J_istore_n (L' := [(2, .int r3), (0, pv E (3000 + o0)), (1, .int x1), (3, .int x3)]) dc_JSl_indexOf_14 (Eq.refl 15) (Nat.le_of_ble_eq_true rfl) rfl ?_
    refine J_iload_n dc_JSl_indexOf_15 (Eq.refl 16) 3 rfl ?_
    refine J_aload_n dc_JSl_indexOf_16 (Eq.refl 17) 1 rfl ?_
    refine J_btlen dc_JSl_indexOf_17 (Eq.refl 18) hw_o0 ?_
    refine J_mmin dc_JSl_indexOf_18 (Eq.refl 21) lk_JSl_38 (Nat.le_of_ble_eq_true rfl) (fun r4 er4 => ?_)
    have h := h r4 er4
    refine J_istore_n (L' := [(3, .int r4), (2, .int r3), (0, pv E (3000 + o0)), (1, .int x1)]) dc_JSl_indexOf_21 (Eq.refl 22) (Nat.le_of_ble_eq_true rfl) rfl ?_
    refine J_iload_n dc_JSl_indexOf_22 (Eq.refl 23) 1 rfl ?_
    refine J_iload_n dc_JSl_indexOf_23 (Eq.refl 24) 0 rfl ?_
    refine J_icmp_lt dc_JSl_indexOf_24 (Eq.refl 27) rfl (fun hc => ?_) (fun hc => ?_)
    · have h := h.1 hc
      refine J_aload_n dc_JSl_indexOf_29 (Eq.refl 30) 2 rfl ?_
      refine J_iload_n dc_JSl_indexOf_30 (Eq.refl 31) 3 rfl ?_
      refine J_iload_n dc_JSl_indexOf_31 (Eq.refl 32) 1 rfl ?_
      refine J_iload_n dc_JSl_indexOf_32 (Eq.refl 33) 0 rfl ?_
      refine J_callSI (As := [pv E (3000 + o0), .int x1, .int r3, .int r4]) (st := []) dc_JSl_indexOf_33 (Eq.refl 36) lk_JSl_95 mi_JSl_indexOfChar (Nat.le_of_ble_eq_true rfl) rfl (Nat.le_of_ble_eq_true rfl) (CI.mono h (fun r6 σ5 h => ?_))
      exact J_iret dc_JSl_indexOf_36 rfl h
    · have h := h.2 hc
      refine J_iconst (v := (-1 : Int32)) dc_JSl_indexOf_27 (Eq.refl 28) rfl ?_
      exact J_iret dc_JSl_indexOf_28 rfl h
  · have h := h.2 hc
    refine J_iconst (v := (-1 : Int32)) dc_JSl_indexOf_7 (Eq.refl 8) rfl ?_
    exact J_iret dc_JSl_indexOf_8 rfl h
theorem dc_JSl_canEncode_0 : decode m_JSl_canEncode.2.1 0 = .ok (.iload_n 0, 1) := by decide +kernel
theorem dc_JSl_canEncode_1 : decode m_JSl_canEncode.2.1 1 = .ok (.ifCond .lt 14, 3) := by decide +kernel
theorem dc_JSl_canEncode_4 : decode m_JSl_canEncode.2.1 4 = .ok (.iload_n 0, 1) := by decide +kernel
theorem dc_JSl_canEncode_5 : decode m_JSl_canEncode.2.1 5 = .ok (.sipush 255, 3) := by decide +kernel
theorem dc_JSl_canEncode_8 : decode m_JSl_canEncode.2.1 8 = .ok (.if_icmp .gt 7, 3) := by decide +kernel
theorem dc_JSl_canEncode_11 : decode m_JSl_canEncode.2.1 11 = .ok (.iconst 1, 1) := by decide +kernel
theorem dc_JSl_canEncode_12 : decode m_JSl_canEncode.2.1 12 = .ok (.goto 4, 3) := by decide +kernel
theorem dc_JSl_canEncode_15 : decode m_JSl_canEncode.2.1 15 = .ok (.iconst 0, 1) := by decide +kernel
theorem dc_JSl_canEncode_16 : decode m_JSl_canEncode.2.1 16 = .ok (.ireturn, 1) := by decide +kernel
theorem b_JSl_canEncode_0 {E : En_t} {d : Nat} {σ : S_t} {Q : Option Value → S_t → Prop} {x0 : Int32}
    (h : (x0 < 0 → Q (some (.int (0 : Int32))) σ) ∧ (¬ x0 < 0 → ((255 : Int32) < x0 → Q (some (.int (0 : Int32))) σ) ∧ (¬ (255 : Int32) < x0 → Q (some (.int (1 : Int32))) σ))) :
    JE E d m_JSl_canEncode 0 [(0, .int x0)] [] σ Q := by
  refine J_iload_n dc_JSl_canEncode_0 (Eq.refl 1) 0 rfl ?_
  refine J_if_lt dc_JSl_canEncode_1 (Eq.refl 4) rfl (fun hc => ?_) (fun hc => ?_)
  · have h := h.1 hc
    refine J_iconst (v := (0 : Int32)) dc_JSl_canEncode_15 (Eq.refl 16) rfl ?_
    exact J_zret dc_JSl_canEncode_16 rfl rfl h
  · have h := h.2 hc
    refine J_iload_n dc_JSl_canEncode_4 (Eq.refl 5) 0 rfl ?_
    refine J_sipush (v := (255 : Int32)) dc_JSl_canEncode_5 (Eq.refl 8) rfl ?_
    refine J_icmp_gt dc_JSl_canEncode_8 (Eq.refl 11) rfl (fun hc => ?_) (fun hc => ?_)
    · have h := h.1 hc
      refine J_iconst (v := (0 : Int32)) dc_JSl_canEncode_15 (Eq.refl 16) rfl ?_
      exact J_zret dc_JSl_canEncode_16 rfl rfl h
    · have h := h.2 hc
      refine J_iconst (v := (1 : Int32)) dc_JSl_canEncode_11 (Eq.refl 12) rfl ?_
      refine J_goto dc_JSl_canEncode_12 rfl ?_
      exact J_zret dc_JSl_canEncode_16 rfl rfl h
theorem dc_JSl_indexOfChar_0 : decode m_JSl_indexOfChar.2.1 0 = .ok (.iload_n 1, 1) := by decide +kernel
theorem dc_JSl_indexOfChar_1 : decode m_JSl_indexOfChar.2.1 1 = .ok (.i2b, 1) := by decide +kernel
theorem dc_JSl_indexOfChar_2 : decode m_JSl_indexOfChar.2.1 2 = .ok (.istore 4, 2) := by decide +kernel
theorem dc_JSl_indexOfChar_4 : decode m_JSl_indexOfChar.2.1 4 = .ok (.iload_n 2, 1) := by decide +kernel
theorem dc_JSl_indexOfChar_5 : decode m_JSl_indexOfChar.2.1 5 = .ok (.istore 5, 2) := by decide +kernel
theorem dc_JSl_indexOfChar_7 : decode m_JSl_indexOfChar.2.1 7 = .ok (.iload 5, 2) := by decide +kernel
theorem dc_JSl_indexOfChar_9 : decode m_JSl_indexOfChar.2.1 9 = .ok (.iload_n 3, 1) := by decide +kernel
theorem dc_JSl_indexOfChar_10 : decode m_JSl_indexOfChar.2.1 10 = .ok (.if_icmp .ge 21, 3) := by decide +kernel
theorem dc_JSl_indexOfChar_13 : decode m_JSl_indexOfChar.2.1 13 = .ok (.aload_n 0, 1) := by decide +kernel
theorem dc_JSl_indexOfChar_14 : decode m_JSl_indexOfChar.2.1 14 = .ok (.iload 5, 2) := by decide +kernel
theorem dc_JSl_indexOfChar_16 : decode m_JSl_indexOfChar.2.1 16 = .ok (.baload, 1) := by decide +kernel
theorem dc_JSl_indexOfChar_17 : decode m_JSl_indexOfChar.2.1 17 = .ok (.iload 4, 2) := by decide +kernel
theorem dc_JSl_indexOfChar_19 : decode m_JSl_indexOfChar.2.1 19 = .ok (.if_icmp .ne 6, 3) := by decide +kernel
theorem dc_JSl_indexOfChar_22 : decode m_JSl_indexOfChar.2.1 22 = .ok (.iload 5, 2) := by decide +kernel
theorem dc_JSl_indexOfChar_24 : decode m_JSl_indexOfChar.2.1 24 = .ok (.ireturn, 1) := by decide +kernel
theorem dc_JSl_indexOfChar_25 : decode m_JSl_indexOfChar.2.1 25 = .ok (.iinc 5 1, 3) := by decide +kernel
theorem dc_JSl_indexOfChar_28 : decode m_JSl_indexOfChar.2.1 28 = .ok (.goto (-21), 3) := by decide +kernel
theorem dc_JSl_indexOfChar_31 : decode m_JSl_indexOfChar.2.1 31 = .ok (.iconst (-1), 1) := by decide +kernel
theorem dc_JSl_indexOfChar_32 : decode m_JSl_indexOfChar.2.1 32 = .ok (.ireturn, 1) := by decide +kernel
theorem b_JSl_indexOfChar_0 {E : En_t} {d : Nat} {σ : S_t} {Q : Option Value → S_t → Prop} {o0 : Nat} {x1 : Int32} {x2 : Int32} {x3 : Int32} (hw_o0 : o0 < 7)
    (h : JE E d m_JSl_indexOfChar 7 [(0, pv E (3000 + o0)), (3, .int x3), (4, .int x1.toInt8.toInt32), (5, .int x2)] [] σ Q) :
    JE E d m_JSl_indexOfChar 0 [(0, pv E (3000 + o0)), (1, .int x1), (2, .int x2), (3, .int x3)] [] σ Q := by
  refine J_iload_n dc_JSl_indexOfChar_0 (Eq.refl 1) 1 rfl ?_
  refine J_i2b dc_JSl_indexOfChar_1 (Eq.refl 2) ?_
  refine J_istore (L' := [(4, .int x1.toInt8.toInt32), (0, pv E (3000 + o0)), (1, .int x1), (2, .int x2), (3, .int x3)]) dc_JSl_indexOfChar_2 (Eq.refl 4) (Nat.le_of_ble_eq_true rfl) rfl ?_
  refine J_iload_n dc_JSl_indexOfChar_4 (Eq.refl 5) 3 rfl ?_
  refine J_istore (L' := [(5, .int x2), (4, .int x1.toInt8.toInt32), (0, pv E (3000 + o0)), (1, .int x1), (2, .int x2), (3, .int x3)]) dc_JSl_indexOfChar_5 (Eq.refl 7) (Nat.le_of_ble_eq_true rfl) rfl ?_
  refine J_sub [2, 5, 1, 0] rfl ?_
  exact h
theorem b_JSl_indexOfChar_7 {E : En_t} {d : Nat} {σ : S_t} {Q : Option Value → S_t → Prop} {o0 : Nat} {x3 : Int32} {x4 : Int32} {x5 : Int32} (hw_o0 : o0 < 7)
    (h : (x3 ≤ x5 → Q (some (.int (-1 : Int32))) σ) ∧ (¬ x3 ≤ x5 → vp_in x5 (lenS.getD o0 0) ∧ ((¬ ((bytS.getD o0 []).getD x5.toNatClampNeg 0) = x4 → JE E d m_JSl_indexOfChar 7 [(0, pv E (3000 + o0)), (3, .int x3), (4, .int x4), (5, .int (x5 + (1 : Int32)))] [] σ Q) ∧ (((bytS.getD o0 []).getD x5.toNatClampNeg 0) = x4 → Q (some (.int x5)) σ)))) :
    JE E d m_JSl_indexOfChar 7 [(0, pv E (3000 + o0)), (3, .int x3), (4, .int x4), (5, .int x5)] [] σ Q := by
  refine J_iload dc_JSl_indexOfChar_7 (Eq.refl 9) 3 rfl ?_
  refine J_iload_n dc_JSl_indexOfChar_9 (Eq.refl 10) 1 rfl ?_
  refine J_icmp_ge dc_JSl_indexOfChar_10 (Eq.refl 13) rfl (fun hc => ?_) (fun hc => ?_)
  · have h := h.1 hc
    refine J_iconst (v := (-1 : Int32)) dc_JSl_indexOfChar_31 (Eq.refl 32) rfl ?_
    exact J_iret dc_JSl_indexOfChar_32 rfl h
  · have h := h.2 hc
    refine J_aload_n dc_JSl_indexOfChar_13 (Eq.refl 14) 0 rfl ?_
    refine J_iload dc_JSl_indexOfChar_14 (Eq.refl 16) 3 rfl ?_
    obtain ⟨hg, h⟩ := h
    refine J_btald dc_JSl_indexOfChar_16 (Eq.refl 17) hw_o0 hg ?_
    refine J_iload dc_JSl_indexOfChar_17 (Eq.refl 19) 2 rfl ?_
    refine J_icmp_ne dc_JSl_indexOfChar_19 (Eq.refl 22) rfl (fun hc => ?_) (fun hc => ?_)
    · have h := h.1 hc
      refine J_iinc (v := x5 + (1 : Int32)) (L' := [(5, .int (x5 + (1 : Int32))), (0, pv E (3000 + o0)), (3, .int x3), (4, .int x4)]) dc_JSl_indexOfChar_25 (Eq.refl 28) 3 rfl rfl (Nat.le_of_ble_eq_true rfl) rfl ?_
      refine J_goto dc_JSl_indexOfChar_28 rfl ?_
      refine J_sub [1, 2, 3, 0] rfl ?_
      exact h
    · have h := h.2 hc
      refine J_iload dc_JSl_indexOfChar_22 (Eq.refl 24) 3 rfl ?_
      exact J_iret dc_JSl_indexOfChar_24 rfl h
theorem dc_Fo_writeEscape_0 : decode m_Fo_writeEscape.2.1 0 = .ok (.ldc 113, 2) := by decide +kernel
theorem dc_Fo_writeEscape_2 : decode m_Fo_writeEscape.2.1 2 = .ok (.iload_n 0, 1) := by decide +kernel
theorem dc_Fo_writeEscape_3 : decode m_Fo_writeEscape.2.1 3 = .ok (.i2c, 1) := by decide +kernel
theorem dc_Fo_writeEscape_4 : decode m_Fo_writeEscape.2.1 4 = .ok (.invokevirtual 115, 3) := by decide +kernel
theorem dc_Fo_writeEscape_7 : decode m_Fo_writeEscape.2.1 7 = .ok (.istore_n 2, 1) := by decide +kernel
theorem dc_Fo_writeEscape_8 : decode m_Fo_writeEscape.2.1 8 = .ok (.aload_n 1, 1) := by decide +kernel
theorem dc_Fo_writeEscape_9 : decode m_Fo_writeEscape.2.1 9 = .ok (.bipush 92, 2) := by decide +kernel
theorem dc_Fo_writeEscape_11 : decode m_Fo_writeEscape.2.1 11 = .ok (.invokevirtual 58, 3) := by decide +kernel
theorem dc_Fo_writeEscape_14 : decode m_Fo_writeEscape.2.1 14 = .ok (.iload_n 2, 1) := by decide +kernel
theorem dc_Fo_writeEscape_15 : decode m_Fo_writeEscape.2.1 15 = .ok (.ifCond .lt 23, 3) := by decide +kernel
theorem dc_Fo_writeEscape_18 : decode m_Fo_writeEscape.2.1 18 = .ok (.iload_n 2, 1) := by decide +kernel
theorem dc_Fo_writeEscape_19 : decode m_Fo_writeEscape.2.1 19 = .ok (.ldc 121, 2) := by decide +kernel
theorem dc_Fo_writeEscape_21 : decode m_Fo_writeEscape.2.1 21 = .ok (.invokevirtual 123, 3) := by decide +kernel
theorem dc_Fo_writeEscape_24 : decode m_Fo_writeEscape.2.1 24 = .ok (.if_icmp .ge 14, 3) := by decide +kernel
theorem dc_Fo_writeEscape_27 : decode m_Fo_writeEscape.2.1 27 = .ok (.aload_n 1, 1) := by decide +kernel
theorem dc_Fo_writeEscape_28 : decode m_Fo_writeEscape.2.1 28 = .ok (.ldc 121, 2) := by decide +kernel
theorem dc_Fo_writeEscape_30 : decode m_Fo_writeEscape.2.1 30 = .ok (.iload_n 2, 1) := by decide +kernel
theorem dc_Fo_writeEscape_31 : decode m_Fo_writeEscape.2.1 31 = .ok (.invokevirtual 127, 3) := by decide +kernel
theorem dc_Fo_writeEscape_34 : decode m_Fo_writeEscape.2.1 34 = .ok (.invokevirtual 58, 3) := by decide +kernel
theorem dc_Fo_writeEscape_37 : decode m_Fo_writeEscape.2.1 37 = .ok (.return_, 1) := by decide +kernel
theorem dc_Fo_writeEscape_38 : decode m_Fo_writeEscape.2.1 38 = .ok (.aload_n 1, 1) := by decide +kernel
theorem dc_Fo_writeEscape_39 : decode m_Fo_writeEscape.2.1 39 = .ok (.bipush 117, 2) := by decide +kernel
theorem dc_Fo_writeEscape_41 : decode m_Fo_writeEscape.2.1 41 = .ok (.invokevirtual 58, 3) := by decide +kernel
theorem dc_Fo_writeEscape_44 : decode m_Fo_writeEscape.2.1 44 = .ok (.aload_n 1, 1) := by decide +kernel
theorem dc_Fo_writeEscape_45 : decode m_Fo_writeEscape.2.1 45 = .ok (.bipush 48, 2) := by decide +kernel
theorem dc_Fo_writeEscape_47 : decode m_Fo_writeEscape.2.1 47 = .ok (.invokevirtual 58, 3) := by decide +kernel
theorem dc_Fo_writeEscape_50 : decode m_Fo_writeEscape.2.1 50 = .ok (.aload_n 1, 1) := by decide +kernel
theorem dc_Fo_writeEscape_51 : decode m_Fo_writeEscape.2.1 51 = .ok (.bipush 48, 2) := by decide +kernel
theorem dc_Fo_writeEscape_53 : decode m_Fo_writeEscape.2.1 53 = .ok (.invokevirtual 58, 3) := by decide +kernel
theorem dc_Fo_writeEscape_56 : decode m_Fo_writeEscape.2.1 56 = .ok (.aload_n 1, 1) := by decide +kernel
theorem dc_Fo_writeEscape_57 : decode m_Fo_writeEscape.2.1 57 = .ok (.ldc 131, 2) := by decide +kernel
theorem dc_Fo_writeEscape_59 : decode m_Fo_writeEscape.2.1 59 = .ok (.iload_n 0, 1) := by decide +kernel
theorem dc_Fo_writeEscape_60 : decode m_Fo_writeEscape.2.1 60 = .ok (.iconst 4, 1) := by decide +kernel
theorem dc_Fo_writeEscape_61 : decode m_Fo_writeEscape.2.1 61 = .ok (.ishr, 1) := by decide +kernel
theorem dc_Fo_writeEscape_62 : decode m_Fo_writeEscape.2.1 62 = .ok (.bipush 15, 2) := by decide +kernel
theorem dc_Fo_writeEscape_64 : decode m_Fo_writeEscape.2.1 64 = .ok (.iand, 1) := by decide +kernel
theorem dc_Fo_writeEscape_65 : decode m_Fo_writeEscape.2.1 65 = .ok (.invokevirtual 127, 3) := by decide +kernel
theorem dc_Fo_writeEscape_68 : decode m_Fo_writeEscape.2.1 68 = .ok (.invokevirtual 58, 3) := by decide +kernel
theorem dc_Fo_writeEscape_71 : decode m_Fo_writeEscape.2.1 71 = .ok (.aload_n 1, 1) := by decide +kernel
theorem dc_Fo_writeEscape_72 : decode m_Fo_writeEscape.2.1 72 = .ok (.ldc 131, 2) := by decide +kernel
theorem dc_Fo_writeEscape_74 : decode m_Fo_writeEscape.2.1 74 = .ok (.iload_n 0, 1) := by decide +kernel
theorem dc_Fo_writeEscape_75 : decode m_Fo_writeEscape.2.1 75 = .ok (.bipush 15, 2) := by decide +kernel
theorem dc_Fo_writeEscape_77 : decode m_Fo_writeEscape.2.1 77 = .ok (.iand, 1) := by decide +kernel
theorem dc_Fo_writeEscape_78 : decode m_Fo_writeEscape.2.1 78 = .ok (.invokevirtual 127, 3) := by decide +kernel
theorem dc_Fo_writeEscape_81 : decode m_Fo_writeEscape.2.1 81 = .ok (.invokevirtual 58, 3) := by decide +kernel
theorem dc_Fo_writeEscape_84 : decode m_Fo_writeEscape.2.1 84 = .ok (.return_, 1) := by decide +kernel
theorem b_Fo_writeEscape_0 {E : En_t} {d : Nat} {σ : S_t} {Q : Option Value → S_t → Prop} {x0 : Int32}
    (h : CI E d m_JSt_indexOf [pv E (2000 + 4), .int ((x0.toUInt32 % 65536).toInt32)] σ (fun r2 σ1 => CV E d m_Ou_put [pv E 53, .int (92 : Int32)] σ1 (fun σ3 => (r2 < 0 → JE E (d + 1) m_Fo_writeEscape 38 [(0, .int x0), (1, pv E 53)] [] σ3 Q) ∧ (¬ r2 < 0 → CI E d m_JSt_length [pv E (2000 + 5)] σ3 (fun r5 σ4 => (r5 ≤ r2 → JE E (d + 1) m_Fo_writeEscape 38 [(0, .int x0), (1, pv E 53)] [] σ4 Q) ∧ (¬ r5 ≤ r2 → CI E d m_JSt_charAt [pv E (2000 + 5), .int r2] σ4 (fun r7 σ6 => CV E d m_Ou_put [pv E 53, .int r7] σ6 (fun σ8 => Q none σ8)))))))) :
    JE E (d + 1) m_Fo_writeEscape 0 [(0, .int x0), (1, pv E 53)] [] σ Q := by
  refine J_ldcS (t := 4) dc_Fo_writeEscape_0 (Eq.refl 2) rfl ?_
  refine J_iload_n dc_Fo_writeEscape_2 (Eq.refl 3) 0 rfl ?_
  refine J_i2c dc_Fo_writeEscape_3 (Eq.refl 4) ?_
  refine J_callVSI (As := [.int ((x0.toUInt32 % 65536).toInt32)]) (st := []) dc_Fo_writeEscape_4 (Eq.refl 7) lk_Fo_115 mi_JSt_indexOf (Nat.le_of_ble_eq_true rfl) rfl (Nat.le_of_ble_eq_true rfl) rfl (Nat.le_of_ble_eq_true rfl) (CI.mono h (fun r2 σ1 h => ?_))
  refine J_istore_n (L' := [(2, .int r2), (0, .int x0), (1, pv E 53)]) dc_Fo_writeEscape_7 (Eq.refl 8) (Nat.le_of_ble_eq_true rfl) rfl ?_
  refine J_aload_n dc_Fo_writeEscape_8 (Eq.refl 9) 2 rfl ?_
  refine J_bipush (v := (92 : Int32)) dc_Fo_writeEscape_9 (Eq.refl 11) rfl ?_
  refine J_callVV (As := [.int (92 : Int32)]) (st := []) dc_Fo_writeEscape_11 (Eq.refl 14) lk_Fo_58 mi_Ou_put rfl (Nat.le_of_ble_eq_true rfl) rfl rfl (Nat.le_of_ble_eq_true rfl) rfl (Nat.le_of_ble_eq_true rfl) (CV.mono h (fun σ3 h => ?_))
  refine J_iload_n dc_Fo_writeEscape_14 (Eq.refl 15) 0 rfl ?_
  refine J_if_lt dc_Fo_writeEscape_15 (Eq.refl 18) rfl (fun hc => ?_) (fun hc => ?_)
  · have h := h.1 hc
    refine J_sub [1, 2] rfl ?_
    exact h
  · have h := h.2 hc
    refine J_iload_n dc_Fo_writeEscape_18 (Eq.refl 19) 0 rfl ?_
    refine J_ldcS (t := 5) dc_Fo_writeEscape_19 (Eq.refl 21) rfl ?_
    refine J_callVSI (As := []) (st := [.int r2]) dc_Fo_writeEscape_21 (Eq.refl 24) lk_Fo_123 mi_JSt_length (Nat.le_of_ble_eq_true rfl) rfl (Nat.le_of_ble_eq_true rfl) rfl (Nat.le_of_ble_eq_true rfl) (CI.mono h (fun r5 σ4 h => ?_))
    refine J_icmp_ge dc_Fo_writeEscape_24 (Eq.refl 27) rfl (fun hc => ?_) (fun hc => ?_)
    · have h := h.1 hc
      refine J_sub [1, 2] rfl ?_
      exact h
    · have h := h.2 hc
      refine J_aload_n dc_Fo_writeEscape_27 (Eq.refl 28) 2 rfl ?_
      refine J_ldcS (t := 5) dc_Fo_writeEscape_28 (Eq.refl 30) rfl ?_
      refine J_iload_n dc_Fo_writeEscape_30 (Eq.refl 31) 0 rfl ?_
      refine J_callVSI (As := [.int r2]) (st := [pv E 53]) dc_Fo_writeEscape_31 (Eq.refl 34) lk_Fo_127 mi_JSt_charAt (Nat.le_of_ble_eq_true rfl) rfl (Nat.le_of_ble_eq_true rfl) rfl (Nat.le_of_ble_eq_true rfl) (CI.mono h (fun r7 σ6 h => ?_))
      refine J_callVV (As := [.int r7]) (st := []) dc_Fo_writeEscape_34 (Eq.refl 37) lk_Fo_58 mi_Ou_put rfl (Nat.le_of_ble_eq_true rfl) rfl rfl (Nat.le_of_ble_eq_true rfl) rfl (Nat.le_of_ble_eq_true rfl) (CV.mono h (fun σ8 h => ?_))
      exact J_vret dc_Fo_writeEscape_37 rfl h
theorem b_Fo_writeEscape_38 {E : En_t} {d : Nat} {σ : S_t} {Q : Option Value → S_t → Prop} {x0 : Int32}
    (h : CV E d m_Ou_put [pv E 53, .int (117 : Int32)] σ (fun σ1 => CV E d m_Ou_put [pv E 53, .int (48 : Int32)] σ1 (fun σ2 => CV E d m_Ou_put [pv E 53, .int (48 : Int32)] σ2 (fun σ3 => CI E d m_JSt_charAt [pv E (2000 + 6), .int ((x0 >>> ((4 : Int32) &&& 31)) &&& (15 : Int32))] σ3 (fun r5 σ4 => CV E d m_Ou_put [pv E 53, .int r5] σ4 (fun σ6 => CI E d m_JSt_charAt [pv E (2000 + 6), .int (x0 &&& (15 : Int32))] σ6 (fun r8 σ7 => CV E d m_Ou_put [pv E 53, .int r8] σ7 (fun σ9 => Q none σ9)))))))) :
    JE E (d + 1) m_Fo_writeEscape 38 [(0, .int x0), (1, pv E 53)] [] σ Q := by
  refine J_aload_n dc_Fo_writeEscape_38 (Eq.refl 39) 1 rfl ?_
  refine J_bipush (v := (117 : Int32)) dc_Fo_writeEscape_39 (Eq.refl 41) rfl ?_
  refine J_callVV (As := [.int (117 : Int32)]) (st := []) dc_Fo_writeEscape_41 (Eq.refl 44) lk_Fo_58 mi_Ou_put rfl (Nat.le_of_ble_eq_true rfl) rfl rfl (Nat.le_of_ble_eq_true rfl) rfl (Nat.le_of_ble_eq_true rfl) (CV.mono h (fun σ1 h => ?_))
  refine J_aload_n dc_Fo_writeEscape_44 (Eq.refl 45) 1 rfl ?_
  refine J_bipush (v := (48 : Int32)) dc_Fo_writeEscape_45 (Eq.refl 47) rfl ?_
  refine J_callVV (As := [.int (48 : Int32)]) (st := []) dc_Fo_writeEscape_47 (Eq.refl 50) lk_Fo_58 mi_Ou_put rfl (Nat.le_of_ble_eq_true rfl) rfl rfl (Nat.le_of_ble_eq_true rfl) rfl (Nat.le_of_ble_eq_true rfl) (CV.mono h (fun σ2 h => ?_))
  refine J_aload_n dc_Fo_writeEscape_50 (Eq.refl 51) 1 rfl ?_
  refine J_bipush (v := (48 : Int32)) dc_Fo_writeEscape_51 (Eq.refl 53) rfl ?_
  refine J_callVV (As := [.int (48 : Int32)]) (st := []) dc_Fo_writeEscape_53 (Eq.refl 56) lk_Fo_58 mi_Ou_put rfl (Nat.le_of_ble_eq_true rfl) rfl rfl (Nat.le_of_ble_eq_true rfl) rfl (Nat.le_of_ble_eq_true rfl) (CV.mono h (fun σ3 h => ?_))
  refine J_aload_n dc_Fo_writeEscape_56 (Eq.refl 57) 1 rfl ?_
  refine J_ldcS (t := 6) dc_Fo_writeEscape_57 (Eq.refl 59) rfl ?_
  refine J_iload_n dc_Fo_writeEscape_59 (Eq.refl 60) 0 rfl ?_
  refine J_iconst (v := (4 : Int32)) dc_Fo_writeEscape_60 (Eq.refl 61) rfl ?_
  refine J_ishr dc_Fo_writeEscape_61 (Eq.refl 62) ?_
  refine J_bipush (v := (15 : Int32)) dc_Fo_writeEscape_62 (Eq.refl 64) rfl ?_
  refine J_iand dc_Fo_writeEscape_64 (Eq.refl 65) ?_
  refine J_callVSI (As := [.int ((x0 >>> ((4 : Int32) &&& 31)) &&& (15 : Int32))]) (st := [pv E 53]) dc_Fo_writeEscape_65 (Eq.refl 68) lk_Fo_127 mi_JSt_charAt (Nat.le_of_ble_eq_true rfl) rfl (Nat.le_of_ble_eq_true rfl) rfl (Nat.le_of_ble_eq_true rfl) (CI.mono h (fun r5 σ4 h => ?_))
  refine J_callVV (As := [.int r5]) (st := []) dc_Fo_writeEscape_68 (Eq.refl 71) lk_Fo_58 mi_Ou_put rfl (Nat.le_of_ble_eq_true rfl) rfl rfl (Nat.le_of_ble_eq_true rfl) rfl (Nat.le_of_ble_eq_true rfl) (CV.mono h (fun σ6 h => ?_))
  refine J_aload_n dc_Fo_writeEscape_71 (Eq.refl 72) 1 rfl ?_
  refine J_ldcS (t := 6) dc_Fo_writeEscape_72 (Eq.refl 74) rfl ?_
  refine J_iload_n dc_Fo_writeEscape_74 (Eq.refl 75) 0 rfl ?_
  refine J_bipush (v := (15 : Int32)) dc_Fo_writeEscape_75 (Eq.refl 77) rfl ?_
  refine J_iand dc_Fo_writeEscape_77 (Eq.refl 78) ?_
  refine J_callVSI (As := [.int (x0 &&& (15 : Int32))]) (st := [pv E 53]) dc_Fo_writeEscape_78 (Eq.refl 81) lk_Fo_127 mi_JSt_charAt (Nat.le_of_ble_eq_true rfl) rfl (Nat.le_of_ble_eq_true rfl) rfl (Nat.le_of_ble_eq_true rfl) (CI.mono h (fun r8 σ7 h => ?_))
  refine J_callVV (As := [.int r8]) (st := []) dc_Fo_writeEscape_81 (Eq.refl 84) lk_Fo_58 mi_Ou_put rfl (Nat.le_of_ble_eq_true rfl) rfl rfl (Nat.le_of_ble_eq_true rfl) rfl (Nat.le_of_ble_eq_true rfl) (CV.mono h (fun σ9 h => ?_))
  exact J_vret dc_Fo_writeEscape_84 rfl h
theorem dc_Fo_writeBeginning_0 : decode m_Fo_writeBeginning.2.1 0 = .ok (.aload_n 0, 1) := by decide +kernel
theorem dc_Fo_writeBeginning_1 : decode m_Fo_writeBeginning.2.1 1 = .ok (.getfield 42, 3) := by decide +kernel
theorem dc_Fo_writeBeginning_4 : decode m_Fo_writeBeginning.2.1 4 = .ok (.iload_n 1, 1) := by decide +kernel
theorem dc_Fo_writeBeginning_5 : decode m_Fo_writeBeginning.2.1 5 = .ok (.iaload, 1) := by decide +kernel
theorem dc_Fo_writeBeginning_6 : decode m_Fo_writeBeginning.2.1 6 = .ok (.tableswitch 94 0 5 #[38, 47, 56, 94, 65, 85], 38) := by decide +kernel
theorem dc_Fo_writeBeginning_44 : decode m_Fo_writeBeginning.2.1 44 = .ok (.aload_n 2, 1) := by decide +kernel
theorem dc_Fo_writeBeginning_45 : decode m_Fo_writeBeginning.2.1 45 = .ok (.ldc 81, 2) := by decide +kernel
theorem dc_Fo_writeBeginning_47 : decode m_Fo_writeBeginning.2.1 47 = .ok (.invokevirtual 83, 3) := by decide +kernel
theorem dc_Fo_writeBeginning_50 : decode m_Fo_writeBeginning.2.1 50 = .ok (.goto 56, 3) := by decide +kernel
theorem dc_Fo_writeBeginning_53 : decode m_Fo_writeBeginning.2.1 53 = .ok (.aload_n 2, 1) := by decide +kernel
theorem dc_Fo_writeBeginning_54 : decode m_Fo_writeBeginning.2.1 54 = .ok (.ldc 87, 2) := by decide +kernel
theorem dc_Fo_writeBeginning_56 : decode m_Fo_writeBeginning.2.1 56 = .ok (.invokevirtual 83, 3) := by decide +kernel
theorem dc_Fo_writeBeginning_59 : decode m_Fo_writeBeginning.2.1 59 = .ok (.goto 47, 3) := by decide +kernel
theorem dc_Fo_writeBeginning_62 : decode m_Fo_writeBeginning.2.1 62 = .ok (.aload_n 2, 1) := by decide +kernel
theorem dc_Fo_writeBeginning_63 : decode m_Fo_writeBeginning.2.1 63 = .ok (.ldc 89, 2) := by decide +kernel
theorem dc_Fo_writeBeginning_65 : decode m_Fo_writeBeginning.2.1 65 = .ok (.invokevirtual 83, 3) := by decide +kernel
theorem dc_Fo_writeBeginning_68 : decode m_Fo_writeBeginning.2.1 68 = .ok (.goto 38, 3) := by decide +kernel
theorem dc_Fo_writeBeginning_71 : decode m_Fo_writeBeginning.2.1 71 = .ok (.aload_n 0, 1) := by decide +kernel
theorem dc_Fo_writeBeginning_72 : decode m_Fo_writeBeginning.2.1 72 = .ok (.aload_n 0, 1) := by decide +kernel
theorem dc_Fo_writeBeginning_73 : decode m_Fo_writeBeginning.2.1 73 = .ok (.getfield 91, 3) := by decide +kernel
theorem dc_Fo_writeBeginning_76 : decode m_Fo_writeBeginning.2.1 76 = .ok (.iload_n 1, 1) := by decide +kernel
theorem dc_Fo_writeBeginning_77 : decode m_Fo_writeBeginning.2.1 77 = .ok (.iaload, 1) := by decide +kernel
theorem dc_Fo_writeBeginning_78 : decode m_Fo_writeBeginning.2.1 78 = .ok (.aload_n 0, 1) := by decide +kernel
theorem dc_Fo_writeBeginning_79 : decode m_Fo_writeBeginning.2.1 79 = .ok (.getfield 94, 3) := by decide +kernel
theorem dc_Fo_writeBeginning_82 : decode m_Fo_writeBeginning.2.1 82 = .ok (.iload_n 1, 1) := by decide +kernel
theorem dc_Fo_writeBeginning_83 : decode m_Fo_writeBeginning.2.1 83 = .ok (.iaload, 1) := by decide +kernel
theorem dc_Fo_writeBeginning_84 : decode m_Fo_writeBeginning.2.1 84 = .ok (.aload_n 2, 1) := by decide +kernel
theorem dc_Fo_writeBeginning_85 : decode m_Fo_writeBeginning.2.1 85 = .ok (.invokestatic 77, 3) := by decide +kernel
theorem dc_Fo_writeBeginning_88 : decode m_Fo_writeBeginning.2.1 88 = .ok (.goto 18, 3) := by decide +kernel
theorem dc_Fo_writeBeginning_91 : decode m_Fo_writeBeginning.2.1 91 = .ok (.aload_n 2, 1) := by decide +kernel
theorem dc_Fo_writeBeginning_92 : decode m_Fo_writeBeginning.2.1 92 = .ok (.bipush 91, 2) := by decide +kernel
theorem dc_Fo_writeBeginning_94 : decode m_Fo_writeBeginning.2.1 94 = .ok (.invokevirtual 58, 3) := by decide +kernel
theorem dc_Fo_writeBeginning_97 : decode m_Fo_writeBeginning.2.1 97 = .ok (.goto 9, 3) := by decide +kernel
theorem dc_Fo_writeBeginning_100 : decode m_Fo_writeBeginning.2.1 100 = .ok (.aload_n 2, 1) := by decide +kernel
theorem dc_Fo_writeBeginning_101 : decode m_Fo_writeBeginning.2.1 101 = .ok (.bipush 123, 2) := by decide +kernel
theorem dc_Fo_writeBeginning_103 : decode m_Fo_writeBeginning.2.1 103 = .ok (.invokevirtual 58, 3) := by decide +kernel
theorem dc_Fo_writeBeginning_106 : decode m_Fo_writeBeginning.2.1 106 = .ok (.return_, 1) := by decide +kernel
theorem b_Fo_writeBeginning_0 {E : En_t} {d : Nat} {σ : S_t} {Q : Option Value → S_t → Prop} {o0 : Nat} {x1 : Int32} (hk_o0 : kindP o0 = 11)
    (h : vp_in x1 500 ∧ (((gI σ (o0 + 1) x1.toNatClampNeg) = (0 : Int32) → CV E d m_Ou_putWord [pv E 53, pv E (2000 + 0)] σ (fun σ1 => Q none σ1)) ∧ ((gI σ (o0 + 1) x1.toNatClampNeg) = (1 : Int32) → CV E d m_Ou_putWord [pv E 53, pv E (2000 + 1)] σ (fun σ2 => Q none σ2)) ∧ ((gI σ (o0 + 1) x1.toNatClampNeg) = (2 : Int32) → CV E d m_Ou_putWord [pv E 53, pv E (2000 + 2)] σ (fun σ3 => Q none σ3)) ∧ ((gI σ (o0 + 1) x1.toNatClampNeg) = (3 : Int32) → CV E d m_Ou_put [pv E 53, .int (123 : Int32)] σ (fun σ4 => Q none σ4)) ∧ ((gI σ (o0 + 1) x1.toNatClampNeg) = (4 : Int32) → vp_in x1 500 ∧ (vp_in x1 500 ∧ (CV E d m_Fo_writeString [pv E o0, .int (gI σ (o0 + 10) x1.toNatClampNeg), .int (gI σ (o0 + 2) x1.toNatClampNeg), pv E 53] σ (fun σ5 => Q none σ5)))) ∧ ((gI σ (o0 + 1) x1.toNatClampNeg) = (5 : Int32) → CV E d m_Ou_put [pv E 53, .int (91 : Int32)] σ (fun σ6 => Q none σ6)) ∧ (¬ (gI σ (o0 + 1) x1.toNatClampNeg) = (0 : Int32) → ¬ (gI σ (o0 + 1) x1.toNatClampNeg) = (1 : Int32) → ¬ (gI σ (o0 + 1) x1.toNatClampNeg) = (2 : Int32) → ¬ (gI σ (o0 + 1) x1.toNatClampNeg) = (3 : Int32) → ¬ (gI σ (o0 + 1) x1.toNatClampNeg) = (4 : Int32) → ¬ (gI σ (o0 + 1) x1.toNatClampNeg) = (5 : Int32) → CV E d m_Ou_put [pv E 53, .int (123 : Int32)] σ (fun σ7 => Q none σ7)))) :
    JE E (d + 1) m_Fo_writeBeginning 0 [(0, pv E o0), (1, .int x1), (2, pv E 53)] [] σ Q := by
  refine J_aload_n dc_Fo_writeBeginning_0 (Eq.refl 1) 0 rfl ?_
  refine J_getF (y := o0 + 1) dc_Fo_writeBeginning_1 (Eq.refl 4) fl_Fo_42 (Nat.le_of_ble_eq_true rfl) hk_o0 (Or.inl rfl) rfl ?_
  refine J_iload_n dc_Fo_writeBeginning_4 (Eq.refl 5) 1 rfl ?_
  obtain ⟨hg, h⟩ := h
  refine J_iald dc_Fo_writeBeginning_5 (Eq.refl 6) (ak_Tr_0 hk_o0).1 (ak_Tr_0 hk_o0).2 hg ?_
  by_cases q0 : (gI σ (o0 + 1) x1.toNatClampNeg) = (0 : Int32)
  · have h := h.1 q0
    refine J_tableIn (tgt := 44) dc_Fo_writeBeginning_6 (by rw [q0]; decide) (by rw [q0]; decide) (by rw [q0]; rfl) rfl ?_
    refine J_aload_n dc_Fo_writeBeginning_44 (Eq.refl 45) 2 rfl ?_
    refine J_ldcS (t := 7) dc_Fo_writeBeginning_45 (Eq.refl 47) rfl ?_
    refine J_callVV (As := [pv E (2000 + 0)]) (st := []) dc_Fo_writeBeginning_47 (Eq.refl 50) lk_Fo_83 mi_Ou_putWord rfl (Nat.le_of_ble_eq_true rfl) rfl rfl (Nat.le_of_ble_eq_true rfl) rfl (Nat.le_of_ble_eq_true rfl) (CV.mono h (fun σ1 h => ?_))
    refine J_goto dc_Fo_writeBeginning_50 rfl ?_
    exact J_vret dc_Fo_writeBeginning_106 rfl h
  have h := h.2
  by_cases q1 : (gI σ (o0 + 1) x1.toNatClampNeg) = (1 : Int32)
  · have h := h.1 q1
    refine J_tableIn (tgt := 53) dc_Fo_writeBeginning_6 (by rw [q1]; decide) (by rw [q1]; decide) (by rw [q1]; rfl) rfl ?_
    refine J_aload_n dc_Fo_writeBeginning_53 (Eq.refl 54) 2 rfl ?_
    refine J_ldcS (t := 8) dc_Fo_writeBeginning_54 (Eq.refl 56) rfl ?_
    refine J_callVV (As := [pv E (2000 + 1)]) (st := []) dc_Fo_writeBeginning_56 (Eq.refl 59) lk_Fo_83 mi_Ou_putWord rfl (Nat.le_of_ble_eq_true rfl) rfl rfl (Nat.le_of_ble_eq_true rfl) rfl (Nat.le_of_ble_eq_true rfl) (CV.mono h (fun σ2 h => ?_))
    refine J_goto dc_Fo_writeBeginning_59 rfl ?_
    exact J_vret dc_Fo_writeBeginning_106 rfl h
  have h := h.2
  by_cases q2 : (gI σ (o0 + 1) x1.toNatClampNeg) = (2 : Int32)
  · have h := h.1 q2
    refine J_tableIn (tgt := 62) dc_Fo_writeBeginning_6 (by rw [q2]; decide) (by rw [q2]; decide) (by rw [q2]; rfl) rfl ?_
    refine J_aload_n dc_Fo_writeBeginning_62 (Eq.refl 63) 2 rfl ?_
    refine J_ldcS (t := 9) dc_Fo_writeBeginning_63 (Eq.refl 65) rfl ?_
    refine J_callVV (As := [pv E (2000 + 2)]) (st := []) dc_Fo_writeBeginning_65 (Eq.refl 68) lk_Fo_83 mi_Ou_putWord rfl (Nat.le_of_ble_eq_true rfl) rfl rfl (Nat.le_of_ble_eq_true rfl) rfl (Nat.le_of_ble_eq_true rfl) (CV.mono h (fun σ3 h => ?_))
    refine J_goto dc_Fo_writeBeginning_68 rfl ?_
    exact J_vret dc_Fo_writeBeginning_106 rfl h
  have h := h.2
  by_cases q3 : (gI σ (o0 + 1) x1.toNatClampNeg) = (3 : Int32)
  · have h := h.1 q3
    refine J_tableIn (tgt := 100) dc_Fo_writeBeginning_6 (by rw [q3]; decide) (by rw [q3]; decide) (by rw [q3]; rfl) rfl ?_
    refine J_aload_n dc_Fo_writeBeginning_100 (Eq.refl 101) 2 rfl ?_
    refine J_bipush (v := (123 : Int32)) dc_Fo_writeBeginning_101 (Eq.refl 103) rfl ?_
    refine J_callVV (As := [.int (123 : Int32)]) (st := []) dc_Fo_writeBeginning_103 (Eq.refl 106) lk_Fo_58 mi_Ou_put rfl (Nat.le_of_ble_eq_true rfl) rfl rfl (Nat.le_of_ble_eq_true rfl) rfl (Nat.le_of_ble_eq_true rfl) (CV.mono h (fun σ4 h => ?_))
    exact J_vret dc_Fo_writeBeginning_106 rfl h
  have h := h.2
  by_cases q4 : (gI σ (o0 + 1) x1.toNatClampNeg) = (4 : Int32)
  · have h := h.1 q4
    refine J_tableIn (tgt := 71) dc_Fo_writeBeginning_6 (by rw [q4]; decide) (by rw [q4]; decide) (by rw [q4]; rfl) rfl ?_
    refine J_aload_n dc_Fo_writeBeginning_71 (Eq.refl 72) 0 rfl ?_
    refine J_aload_n dc_Fo_writeBeginning_72 (Eq.refl 73) 0 rfl ?_
    refine J_getF (y := o0 + 10) dc_Fo_writeBeginning_73 (Eq.refl 76) fl_Fo_91 (Nat.le_of_ble_eq_true rfl) hk_o0 (Or.inl rfl) rfl ?_
    refine J_iload_n dc_Fo_writeBeginning_76 (Eq.refl 77) 1 rfl ?_
    obtain ⟨hg, h⟩ := h
    refine J_iald dc_Fo_writeBeginning_77 (Eq.refl 78) (ak_Tr_9 hk_o0).1 (ak_Tr_9 hk_o0).2 hg ?_
    refine J_aload_n dc_Fo_writeBeginning_78 (Eq.refl 79) 0 rfl ?_
    refine J_getF (y := o0 + 2) dc_Fo_writeBeginning_79 (Eq.refl 82) fl_Fo_94 (Nat.le_of_ble_eq_true rfl) hk_o0 (Or.inl rfl) rfl ?_
    refine J_iload_n dc_Fo_writeBeginning_82 (Eq.refl 83) 1 rfl ?_
    obtain ⟨hg, h⟩ := h
    refine J_iald dc_Fo_writeBeginning_83 (Eq.refl 84) (ak_Tr_1 hk_o0).1 (ak_Tr_1 hk_o0).2 hg ?_
    refine J_aload_n dc_Fo_writeBeginning_84 (Eq.refl 85) 2 rfl ?_
    refine J_callSV (As := [pv E o0, .int (gI σ (o0 + 10) x1.toNatClampNeg), .int (gI σ (o0 + 2) x1.toNatClampNeg), pv E 53]) (st := []) dc_Fo_writeBeginning_85 (Eq.refl 88) lk_Fo_77 mi_Fo_writeString (Nat.le_of_ble_eq_true rfl) rfl (Nat.le_of_ble_eq_true rfl) (CV.mono h (fun σ5 h => ?_))
    refine J_goto dc_Fo_writeBeginning_88 rfl ?_
    exact J_vret dc_Fo_writeBeginning_106 rfl h
  have h := h.2
  by_cases q5 : (gI σ (o0 + 1) x1.toNatClampNeg) = (5 : Int32)
  · have h := h.1 q5
    refine J_tableIn (tgt := 91) dc_Fo_writeBeginning_6 (by rw [q5]; decide) (by rw [q5]; decide) (by rw [q5]; rfl) rfl ?_
    refine J_aload_n dc_Fo_writeBeginning_91 (Eq.refl 92) 2 rfl ?_
    refine J_bipush (v := (91 : Int32)) dc_Fo_writeBeginning_92 (Eq.refl 94) rfl ?_
    refine J_callVV (As := [.int (91 : Int32)]) (st := []) dc_Fo_writeBeginning_94 (Eq.refl 97) lk_Fo_58 mi_Ou_put rfl (Nat.le_of_ble_eq_true rfl) rfl rfl (Nat.le_of_ble_eq_true rfl) rfl (Nat.le_of_ble_eq_true rfl) (CV.mono h (fun σ6 h => ?_))
    refine J_goto dc_Fo_writeBeginning_97 rfl ?_
    exact J_vret dc_Fo_writeBeginning_106 rfl h
  have h := h.2
  have h := h q0 q1 q2 q3 q4 q5
  refine J_tableOut (tgt := 100) dc_Fo_writeBeginning_6 (sw_out (n := 5) (by decide) (fun k hk => ?_)) rfl ?_
  · have hk : k = 0 ∨ k = 1 ∨ k = 2 ∨ k = 3 ∨ k = 4 ∨ k = 5 := by omega
    rcases hk with rfl | rfl | rfl | rfl | rfl | rfl
    · exact q0
    · exact q1
    · exact q2
    · exact q3
    · exact q4
    · exact q5
  · skip
    refine J_aload_n dc_Fo_writeBeginning_100 (Eq.refl 101) 2 rfl ?_
    refine J_bipush (v := (123 : Int32)) dc_Fo_writeBeginning_101 (Eq.refl 103) rfl ?_
    refine J_callVV (As := [.int (123 : Int32)]) (st := []) dc_Fo_writeBeginning_103 (Eq.refl 106) lk_Fo_58 mi_Ou_put rfl (Nat.le_of_ble_eq_true rfl) rfl rfl (Nat.le_of_ble_eq_true rfl) rfl (Nat.le_of_ble_eq_true rfl) (CV.mono h (fun σ7 h => ?_))
    exact J_vret dc_Fo_writeBeginning_106 rfl h
theorem dc_Ou_putWord_0 : decode m_Ou_putWord.2.1 0 = .ok (.iconst 0, 1) := by decide +kernel
theorem dc_Ou_putWord_1 : decode m_Ou_putWord.2.1 1 = .ok (.istore_n 2, 1) := by decide +kernel
theorem dc_Ou_putWord_2 : decode m_Ou_putWord.2.1 2 = .ok (.iload_n 2, 1) := by decide +kernel
theorem dc_Ou_putWord_3 : decode m_Ou_putWord.2.1 3 = .ok (.aload_n 1, 1) := by decide +kernel
theorem dc_Ou_putWord_4 : decode m_Ou_putWord.2.1 4 = .ok (.invokevirtual 25, 3) := by decide +kernel
theorem dc_Ou_putWord_7 : decode m_Ou_putWord.2.1 7 = .ok (.if_icmp .ge 18, 3) := by decide +kernel
theorem dc_Ou_putWord_10 : decode m_Ou_putWord.2.1 10 = .ok (.aload_n 0, 1) := by decide +kernel
theorem dc_Ou_putWord_11 : decode m_Ou_putWord.2.1 11 = .ok (.aload_n 1, 1) := by decide +kernel
theorem dc_Ou_putWord_12 : decode m_Ou_putWord.2.1 12 = .ok (.iload_n 2, 1) := by decide +kernel
theorem dc_Ou_putWord_13 : decode m_Ou_putWord.2.1 13 = .ok (.invokevirtual 31, 3) := by decide +kernel
theorem dc_Ou_putWord_16 : decode m_Ou_putWord.2.1 16 = .ok (.invokevirtual 35, 3) := by decide +kernel
theorem dc_Ou_putWord_19 : decode m_Ou_putWord.2.1 19 = .ok (.iinc 2 1, 3) := by decide +kernel
theorem dc_Ou_putWord_22 : decode m_Ou_putWord.2.1 22 = .ok (.goto (-20), 3) := by decide +kernel
theorem dc_Ou_putWord_25 : decode m_Ou_putWord.2.1 25 = .ok (.return_, 1) := by decide +kernel
theorem b_Ou_putWord_0 {E : En_t} {d : Nat} {σ : S_t} {Q : Option Value → S_t → Prop} {o1 : Nat} (hw_o1 : o1 < 7)
    (h : JE E (d + 1) m_Ou_putWord 2 [(0, pv E 53), (1, pv E (2000 + o1)), (2, .int (0 : Int32))] [] σ Q) :
    JE E (d + 1) m_Ou_putWord 0 [(0, pv E 53), (1, pv E (2000 + o1))] [] σ Q := by
  refine J_iconst (v := (0 : Int32)) dc_Ou_putWord_0 (Eq.refl 1) rfl ?_
  refine J_istore_n (L' := [(2, .int (0 : Int32)), (0, pv E 53), (1, pv E (2000 + o1))]) dc_Ou_putWord_1 (Eq.refl 2) (Nat.le_of_ble_eq_true rfl) rfl ?_
  refine J_sub [1, 2, 0] rfl ?_
  exact h
theorem b_Ou_putWord_2 {E : En_t} {d : Nat} {σ : S_t} {Q : Option Value → S_t → Prop} {o1 : Nat} {x2 : Int32} (hw_o1 : o1 < 7)
    (h : CI E d m_JSt_length [pv E (2000 + o1)] σ (fun r2 σ1 => (r2 ≤ x2 → Q none σ1) ∧ (¬ r2 ≤ x2 → CI E d m_JSt_charAt [pv E (2000 + o1), .int x2] σ1 (fun r4 σ3 => CV E d m_Ou_put [pv E 53, .int r4] σ3 (fun σ5 => JE E (d + 1) m_Ou_putWord 2 [(0, pv E 53), (1, pv E (2000 + o1)), (2, .int (x2 + (1 : Int32)))] [] σ5 Q))))) :
    JE E (d + 1) m_Ou_putWord 2 [(0, pv E 53), (1, pv E (2000 + o1)), (2, .int x2)] [] σ Q := by
  refine J_iload_n dc_Ou_putWord_2 (Eq.refl 3) 2 rfl ?_
  refine J_aload_n dc_Ou_putWord_3 (Eq.refl 4) 1 rfl ?_
  refine J_callVSI (As := []) (st := [.int x2]) dc_Ou_putWord_4 (Eq.refl 7) lk_Ou_25 mi_JSt_length hw_o1 rfl (Nat.le_of_ble_eq_true rfl) rfl (Nat.le_of_ble_eq_true rfl) (CI.mono h (fun r2 σ1 h => ?_))
  refine J_icmp_ge dc_Ou_putWord_7 (Eq.refl 10) rfl (fun hc => ?_) (fun hc => ?_)
  · have h := h.1 hc
    exact J_vret dc_Ou_putWord_25 rfl h
  · have h := h.2 hc
    refine J_aload_n dc_Ou_putWord_10 (Eq.refl 11) 0 rfl ?_
    refine J_aload_n dc_Ou_putWord_11 (Eq.refl 12) 1 rfl ?_
    refine J_iload_n dc_Ou_putWord_12 (Eq.refl 13) 2 rfl ?_
    refine J_callVSI (As := [.int x2]) (st := [pv E 53]) dc_Ou_putWord_13 (Eq.refl 16) lk_Ou_31 mi_JSt_charAt hw_o1 rfl (Nat.le_of_ble_eq_true rfl) rfl (Nat.le_of_ble_eq_true rfl) (CI.mono h (fun r4 σ3 h => ?_))
    refine J_callVV (As := [.int r4]) (st := []) dc_Ou_putWord_16 (Eq.refl 19) lk_Ou_35 mi_Ou_put rfl (Nat.le_of_ble_eq_true rfl) rfl rfl (Nat.le_of_ble_eq_true rfl) rfl (Nat.le_of_ble_eq_true rfl) (CV.mono h (fun σ5 h => ?_))
    refine J_iinc (v := x2 + (1 : Int32)) (L' := [(2, .int (x2 + (1 : Int32))), (0, pv E 53), (1, pv E (2000 + o1))]) dc_Ou_putWord_19 (Eq.refl 22) 2 rfl rfl (Nat.le_of_ble_eq_true rfl) rfl ?_
    refine J_goto dc_Ou_putWord_22 rfl ?_
    refine J_sub [1, 2, 0] rfl ?_
    exact h
