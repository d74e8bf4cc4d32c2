theorem dc_Mo_digitOf_0 : decode m_Mo_digitOf.2.1 0 = .ok (.iload_n 0, 1) := by decide +kernel
theorem dc_Mo_digitOf_1 : decode m_Mo_digitOf.2.1 1 = .ok (.bipush 10, 2) := by decide +kernel
theorem dc_Mo_digitOf_3 : decode m_Mo_digitOf.2.1 3 = .ok (.if_icmp .ge 10, 3) := by decide +kernel
theorem dc_Mo_digitOf_6 : decode m_Mo_digitOf.2.1 6 = .ok (.bipush 48, 2) := by decide +kernel
theorem dc_Mo_digitOf_8 : decode m_Mo_digitOf.2.1 8 = .ok (.iload_n 0, 1) := by decide +kernel
theorem dc_Mo_digitOf_9 : decode m_Mo_digitOf.2.1 9 = .ok (.iadd, 1) := by decide +kernel
theorem dc_Mo_digitOf_10 : decode m_Mo_digitOf.2.1 10 = .ok (.goto 10, 3) := by decide +kernel
theorem dc_Mo_digitOf_13 : decode m_Mo_digitOf.2.1 13 = .ok (.bipush 97, 2) := by decide +kernel
theorem dc_Mo_digitOf_15 : decode m_Mo_digitOf.2.1 15 = .ok (.iload_n 0, 1) := by decide +kernel
theorem dc_Mo_digitOf_16 : decode m_Mo_digitOf.2.1 16 = .ok (.iadd, 1) := by decide +kernel
theorem dc_Mo_digitOf_17 : decode m_Mo_digitOf.2.1 17 = .ok (.bipush 10, 2) := by decide +kernel
theorem dc_Mo_digitOf_19 : decode m_Mo_digitOf.2.1 19 = .ok (.isub, 1) := by decide +kernel
theorem dc_Mo_digitOf_20 : decode m_Mo_digitOf.2.1 20 = .ok (.ireturn, 1) := by decide +kernel
theorem b_Mo_digitOf_0 {E : En_t} {d : Nat} {σ : S_t} {Q : Option Value → S_t → Prop} {x0 : Int32}
    (h : ((10 : Int32) ≤ x0 → Q (some (.int (((97 : Int32) + x0) - (10 : Int32)))) σ) ∧ (¬ (10 : Int32) ≤ x0 → Q (some (.int ((48 : Int32) + x0))) σ)) :
    JE E d m_Mo_digitOf 0 [(0, .int x0)] [] σ Q := by
  refine J_iload_n dc_Mo_digitOf_0 (Eq.refl 1) 0 rfl ?_
  refine J_bipush (v := (10 : Int32)) dc_Mo_digitOf_1 (Eq.refl 3) rfl ?_
  refine J_icmp_ge dc_Mo_digitOf_3 (Eq.refl 6) rfl (fun hc => ?_) (fun hc => ?_)
  · have h := h.1 hc
    refine J_bipush (v := (97 : Int32)) dc_Mo_digitOf_13 (Eq.refl 15) rfl ?_
    refine J_iload_n dc_Mo_digitOf_15 (Eq.refl 16) 0 rfl ?_
    refine J_iadd dc_Mo_digitOf_16 (Eq.refl 17) ?_
    refine J_bipush (v := (10 : Int32)) dc_Mo_digitOf_17 (Eq.refl 19) rfl ?_
    refine J_isub dc_Mo_digitOf_19 (Eq.refl 20) ?_
    exact J_iret dc_Mo_digitOf_20 rfl h
  · have h := h.2 hc
    refine J_bipush (v := (48 : Int32)) dc_Mo_digitOf_6 (Eq.refl 8) rfl ?_
    refine J_iload_n dc_Mo_digitOf_8 (Eq.refl 9) 0 rfl ?_
    refine J_iadd dc_Mo_digitOf_9 (Eq.refl 10) ?_
    refine J_goto dc_Mo_digitOf_10 rfl ?_
    exact J_iret dc_Mo_digitOf_20 rfl h
theorem dc_Mo_putWide_0 : decode m_Mo_putWide.2.1 0 = .ok (.iload_n 1, 1) := by decide +kernel
theorem dc_Mo_putWide_1 : decode m_Mo_putWide.2.1 1 = .ok (.sipush 128, 3) := by decide +kernel
theorem dc_Mo_putWide_4 : decode m_Mo_putWide.2.1 4 = .ok (.if_icmp .ge 11, 3) := by decide +kernel
theorem dc_Mo_putWide_7 : decode m_Mo_putWide.2.1 7 = .ok (.aload_n 0, 1) := by decide +kernel
theorem dc_Mo_putWide_8 : decode m_Mo_putWide.2.1 8 = .ok (.iload_n 1, 1) := by decide +kernel
theorem dc_Mo_putWide_9 : decode m_Mo_putWide.2.1 9 = .ok (.invokevirtual 288, 3) := by decide +kernel
theorem dc_Mo_putWide_12 : decode m_Mo_putWide.2.1 12 = .ok (.goto 140, 3) := by decide +kernel
theorem dc_Mo_putWide_15 : decode m_Mo_putWide.2.1 15 = .ok (.iload_n 1, 1) := by decide +kernel
theorem dc_Mo_putWide_16 : decode m_Mo_putWide.2.1 16 = .ok (.sipush 2048, 3) := by decide +kernel
theorem dc_Mo_putWide_19 : decode m_Mo_putWide.2.1 19 = .ok (.if_icmp .ge 30, 3) := by decide +kernel
theorem dc_Mo_putWide_22 : decode m_Mo_putWide.2.1 22 = .ok (.aload_n 0, 1) := by decide +kernel
theorem dc_Mo_putWide_23 : decode m_Mo_putWide.2.1 23 = .ok (.sipush 192, 3) := by decide +kernel
theorem dc_Mo_putWide_26 : decode m_Mo_putWide.2.1 26 = .ok (.iload_n 1, 1) := by decide +kernel
theorem dc_Mo_putWide_27 : decode m_Mo_putWide.2.1 27 = .ok (.bipush 6, 2) := by decide +kernel
theorem dc_Mo_putWide_29 : decode m_Mo_putWide.2.1 29 = .ok (.ishr, 1) := by decide +kernel
theorem dc_Mo_putWide_30 : decode m_Mo_putWide.2.1 30 = .ok (.iadd, 1) := by decide +kernel
theorem dc_Mo_putWide_31 : decode m_Mo_putWide.2.1 31 = .ok (.invokevirtual 288, 3) := by decide +kernel
theorem dc_Mo_putWide_34 : decode m_Mo_putWide.2.1 34 = .ok (.aload_n 0, 1) := by decide +kernel
theorem dc_Mo_putWide_35 : decode m_Mo_putWide.2.1 35 = .ok (.sipush 128, 3) := by decide +kernel
theorem dc_Mo_putWide_38 : decode m_Mo_putWide.2.1 38 = .ok (.iload_n 1, 1) := by decide +kernel
theorem dc_Mo_putWide_39 : decode m_Mo_putWide.2.1 39 = .ok (.bipush 63, 2) := by decide +kernel
theorem dc_Mo_putWide_41 : decode m_Mo_putWide.2.1 41 = .ok (.iand, 1) := by decide +kernel
theorem dc_Mo_putWide_42 : decode m_Mo_putWide.2.1 42 = .ok (.iadd, 1) := by decide +kernel
theorem dc_Mo_putWide_43 : decode m_Mo_putWide.2.1 43 = .ok (.invokevirtual 288, 3) := by decide +kernel
theorem dc_Mo_putWide_46 : decode m_Mo_putWide.2.1 46 = .ok (.goto 106, 3) := by decide +kernel
theorem dc_Mo_putWide_49 : decode m_Mo_putWide.2.1 49 = .ok (.iload_n 1, 1) := by decide +kernel
theorem dc_Mo_putWide_50 : decode m_Mo_putWide.2.1 50 = .ok (.ldc_w 294, 3) := by decide +kernel
theorem dc_Mo_putWide_53 : decode m_Mo_putWide.2.1 53 = .ok (.if_icmp .ge 45, 3) := by decide +kernel
theorem dc_Mo_putWide_56 : decode m_Mo_putWide.2.1 56 = .ok (.aload_n 0, 1) := by decide +kernel
theorem dc_Mo_putWide_57 : decode m_Mo_putWide.2.1 57 = .ok (.sipush 224, 3) := by decide +kernel
theorem dc_Mo_putWide_60 : decode m_Mo_putWide.2.1 60 = .ok (.iload_n 1, 1) := by decide +kernel
theorem dc_Mo_putWide_61 : decode m_Mo_putWide.2.1 61 = .ok (.bipush 12, 2) := by decide +kernel
theorem dc_Mo_putWide_63 : decode m_Mo_putWide.2.1 63 = .ok (.ishr, 1) := by decide +kernel
theorem dc_Mo_putWide_64 : decode m_Mo_putWide.2.1 64 = .ok (.iadd, 1) := by decide +kernel
theorem dc_Mo_putWide_65 : decode m_Mo_putWide.2.1 65 = .ok (.invokevirtual 288, 3) := by decide +kernel
theorem dc_Mo_putWide_68 : decode m_Mo_putWide.2.1 68 = .ok (.aload_n 0, 1) := by decide +kernel
theorem dc_Mo_putWide_69 : decode m_Mo_putWide.2.1 69 = .ok (.sipush 128, 3) := by decide +kernel
theorem dc_Mo_putWide_72 : decode m_Mo_putWide.2.1 72 = .ok (.iload_n 1, 1) := by decide +kernel
theorem dc_Mo_putWide_73 : decode m_Mo_putWide.2.1 73 = .ok (.bipush 6, 2) := by decide +kernel
theorem dc_Mo_putWide_75 : decode m_Mo_putWide.2.1 75 = .ok (.ishr, 1) := by decide +kernel
theorem dc_Mo_putWide_76 : decode m_Mo_putWide.2.1 76 = .ok (.bipush 63, 2) := by decide +kernel
theorem dc_Mo_putWide_78 : decode m_Mo_putWide.2.1 78 = .ok (.iand, 1) := by decide +kernel
theorem dc_Mo_putWide_79 : decode m_Mo_putWide.2.1 79 = .ok (.iadd, 1) := by decide +kernel
theorem dc_Mo_putWide_80 : decode m_Mo_putWide.2.1 80 = .ok (.invokevirtual 288, 3) := by decide +kernel
theorem dc_Mo_putWide_83 : decode m_Mo_putWide.2.1 83 = .ok (.aload_n 0, 1) := by decide +kernel
theorem dc_Mo_putWide_84 : decode m_Mo_putWide.2.1 84 = .ok (.sipush 128, 3) := by decide +kernel
theorem dc_Mo_putWide_87 : decode m_Mo_putWide.2.1 87 = .ok (.iload_n 1, 1) := by decide +kernel
theorem dc_Mo_putWide_88 : decode m_Mo_putWide.2.1 88 = .ok (.bipush 63, 2) := by decide +kernel
theorem dc_Mo_putWide_90 : decode m_Mo_putWide.2.1 90 = .ok (.iand, 1) := by decide +kernel
theorem dc_Mo_putWide_91 : decode m_Mo_putWide.2.1 91 = .ok (.iadd, 1) := by decide +kernel
theorem dc_Mo_putWide_92 : decode m_Mo_putWide.2.1 92 = .ok (.invokevirtual 288, 3) := by decide +kernel
theorem dc_Mo_putWide_95 : decode m_Mo_putWide.2.1 95 = .ok (.goto 57, 3) := by decide +kernel
theorem dc_Mo_putWide_98 : decode m_Mo_putWide.2.1 98 = .ok (.aload_n 0, 1) := by decide +kernel
theorem dc_Mo_putWide_99 : decode m_Mo_putWide.2.1 99 = .ok (.sipush 240, 3) := by decide +kernel
theorem dc_Mo_putWide_102 : decode m_Mo_putWide.2.1 102 = .ok (.iload_n 1, 1) := by decide +kernel
theorem dc_Mo_putWide_103 : decode m_Mo_putWide.2.1 103 = .ok (.bipush 18, 2) := by decide +kernel
theorem dc_Mo_putWide_105 : decode m_Mo_putWide.2.1 105 = .ok (.ishr, 1) := by decide +kernel
theorem dc_Mo_putWide_106 : decode m_Mo_putWide.2.1 106 = .ok (.iadd, 1) := by decide +kernel
theorem dc_Mo_putWide_107 : decode m_Mo_putWide.2.1 107 = .ok (.invokevirtual 288, 3) := by decide +kernel
theorem dc_Mo_putWide_110 : decode m_Mo_putWide.2.1 110 = .ok (.aload_n 0, 1) := by decide +kernel
theorem dc_Mo_putWide_111 : decode m_Mo_putWide.2.1 111 = .ok (.sipush 128, 3) := by decide +kernel
theorem dc_Mo_putWide_114 : decode m_Mo_putWide.2.1 114 = .ok (.iload_n 1, 1) := by decide +kernel
theorem dc_Mo_putWide_115 : decode m_Mo_putWide.2.1 115 = .ok (.bipush 12, 2) := by decide +kernel
theorem dc_Mo_putWide_117 : decode m_Mo_putWide.2.1 117 = .ok (.ishr, 1) := by decide +kernel
theorem dc_Mo_putWide_118 : decode m_Mo_putWide.2.1 118 = .ok (.bipush 63, 2) := by decide +kernel
theorem dc_Mo_putWide_120 : decode m_Mo_putWide.2.1 120 = .ok (.iand, 1) := by decide +kernel
theorem dc_Mo_putWide_121 : decode m_Mo_putWide.2.1 121 = .ok (.iadd, 1) := by decide +kernel
theorem dc_Mo_putWide_122 : decode m_Mo_putWide.2.1 122 = .ok (.invokevirtual 288, 3) := by decide +kernel
theorem dc_Mo_putWide_125 : decode m_Mo_putWide.2.1 125 = .ok (.aload_n 0, 1) := by decide +kernel
theorem dc_Mo_putWide_126 : decode m_Mo_putWide.2.1 126 = .ok (.sipush 128, 3) := by decide +kernel
theorem dc_Mo_putWide_129 : decode m_Mo_putWide.2.1 129 = .ok (.iload_n 1, 1) := by decide +kernel
theorem dc_Mo_putWide_130 : decode m_Mo_putWide.2.1 130 = .ok (.bipush 6, 2) := by decide +kernel
theorem dc_Mo_putWide_132 : decode m_Mo_putWide.2.1 132 = .ok (.ishr, 1) := by decide +kernel
theorem dc_Mo_putWide_133 : decode m_Mo_putWide.2.1 133 = .ok (.bipush 63, 2) := by decide +kernel
theorem dc_Mo_putWide_135 : decode m_Mo_putWide.2.1 135 = .ok (.iand, 1) := by decide +kernel
theorem dc_Mo_putWide_136 : decode m_Mo_putWide.2.1 136 = .ok (.iadd, 1) := by decide +kernel
theorem dc_Mo_putWide_137 : decode m_Mo_putWide.2.1 137 = .ok (.invokevirtual 288, 3) := by decide +kernel
theorem dc_Mo_putWide_140 : decode m_Mo_putWide.2.1 140 = .ok (.aload_n 0, 1) := by decide +kernel
theorem dc_Mo_putWide_141 : decode m_Mo_putWide.2.1 141 = .ok (.sipush 128, 3) := by decide +kernel
theorem dc_Mo_putWide_144 : decode m_Mo_putWide.2.1 144 = .ok (.iload_n 1, 1) := by decide +kernel
theorem dc_Mo_putWide_145 : decode m_Mo_putWide.2.1 145 = .ok (.bipush 63, 2) := by decide +kernel
theorem dc_Mo_putWide_147 : decode m_Mo_putWide.2.1 147 = .ok (.iand, 1) := by decide +kernel
theorem dc_Mo_putWide_148 : decode m_Mo_putWide.2.1 148 = .ok (.iadd, 1) := by decide +kernel
theorem dc_Mo_putWide_149 : decode m_Mo_putWide.2.1 149 = .ok (.invokevirtual 288, 3) := by decide +kernel
theorem dc_Mo_putWide_152 : decode m_Mo_putWide.2.1 152 = .ok (.return_, 1) := by decide +kernel
theorem b_Mo_putWide_0 {E : En_t} {d : Nat} {σ : S_t} {Q : Option Value → S_t → Prop} {x1 : Int32}
    (h : ((128 : Int32) ≤ x1 → ((2048 : Int32) ≤ x1 → ((65536 : Int32) ≤ x1 → CV E d m_Mo_put [pv E 0, .int ((240 : Int32) + (x1 >>> ((18 : Int32) &&& 31)))] σ (fun σ1 => CV E d m_Mo_put [pv E 0, .int ((128 : Int32) + ((x1 >>> ((12 : Int32) &&& 31)) &&& (63 : Int32)))] σ1 (fun σ2 => CV E d m_Mo_put [pv E 0, .int ((128 : Int32) + ((x1 >>> ((6 : Int32) &&& 31)) &&& (63 : Int32)))] σ2 (fun σ3 => CV E d m_Mo_put [pv E 0, .int ((128 : Int32) + (x1 &&& (63 : Int32)))] σ3 (fun σ4 => Q none σ4))))) ∧ (¬ (65536 : Int32) ≤ x1 → CV E d m_Mo_put [pv E 0, .int ((224 : Int32) + (x1 >>> ((12 : Int32) &&& 31)))] σ (fun σ5 => CV E d m_Mo_put [pv E 0, .int ((128 : Int32) + ((x1 >>> ((6 : Int32) &&& 31)) &&& (63 : Int32)))] σ5 (fun σ6 => CV E d m_Mo_put [pv E 0, .int ((128 : Int32) + (x1 &&& (63 : Int32)))] σ6 (fun σ7 => Q none σ7))))) ∧ (¬ (2048 : Int32) ≤ x1 → CV E d m_Mo_put [pv E 0, .int ((192 : Int32) + (x1 >>> ((6 : Int32) &&& 31)))] σ (fun σ8 => CV E d m_Mo_put [pv E 0, .int ((128 : Int32) + (x1 &&& (63 : Int32)))] σ8 (fun σ9 => Q none σ9)))) ∧ (¬ (128 : Int32) ≤ x1 → CV E d m_Mo_put [pv E 0, .int x1] σ (fun σ10 => Q none σ10))) :
    JE E (d + 1) m_Mo_putWide 0 [(0, pv E 0), (1, .int x1)] [] σ Q := by
  refine J_iload_n dc_Mo_putWide_0 (Eq.refl 1) 1 rfl ?_
  refine J_sipush (v := (128 : Int32)) dc_Mo_putWide_1 (Eq.refl 4) rfl ?_
  refine J_icmp_ge dc_Mo_putWide_4 (Eq.refl 7) rfl (fun hc => ?_) (fun hc => ?_)
  · have h := h.1 hc
    refine J_iload_n dc_Mo_putWide_15 (Eq.refl 16) 1 rfl ?_
    refine J_sipush (v := (2048 : Int32)) dc_Mo_putWide_16 (Eq.refl 19) rfl ?_
    refine J_icmp_ge dc_Mo_putWide_19 (Eq.refl 22) rfl (fun hc => ?_) (fun hc => ?_)
    · have h := h.1 hc
      refine J_iload_n dc_Mo_putWide_49 (Eq.refl 50) 1 rfl ?_
      refine J_ldcw dc_Mo_putWide_50 (Eq.refl 53) kc_Mo_294 ?_
      refine J_icmp_ge dc_Mo_putWide_53 (Eq.refl 56) rfl (fun hc => ?_) (fun hc => ?_)
      · have h := h.1 hc
        refine J_aload_n dc_Mo_putWide_98 (Eq.refl 99) 0 rfl ?_
        refine J_sipush (v := (240 : Int32)) dc_Mo_putWide_99 (Eq.refl 102) rfl ?_
        refine J_iload_n dc_Mo_putWide_102 (Eq.refl 103) 1 rfl ?_
        refine J_bipush (v := (18 : Int32)) dc_Mo_putWide_103 (Eq.refl 105) rfl ?_
        refine J_ishr dc_Mo_putWide_105 (Eq.refl 106) ?_
        refine J_iadd dc_Mo_putWide_106 (Eq.refl 107) ?_
        refine J_callVV (As := [.int ((240 : Int32) + (x1 >>> ((18 : Int32) &&& 31)))]) (st := []) dc_Mo_putWide_107 (Eq.refl 110) lk_Mo_288 mi_Mo_put rfl (Nat.le_of_ble_eq_true rfl) rfl rfl (Nat.le_of_ble_eq_true rfl) rfl (Nat.le_of_ble_eq_true rfl) (CV.mono h (fun σ1 h => ?_))
        refine J_aload_n dc_Mo_putWide_110 (Eq.refl 111) 0 rfl ?_
        refine J_sipush (v := (128 : Int32)) dc_Mo_putWide_111 (Eq.refl 114) rfl ?_
        refine J_iload_n dc_Mo_putWide_114 (Eq.refl 115) 1 rfl ?_
        refine J_bipush (v := (12 : Int32)) dc_Mo_putWide_115 (Eq.refl 117) rfl ?_
        refine J_ishr dc_Mo_putWide_117 (Eq.refl 118) ?_
        refine J_bipush (v := (63 : Int32)) dc_Mo_putWide_118 (Eq.refl 120) rfl ?_
        refine J_iand dc_Mo_putWide_120 (Eq.refl 121) ?_
        refine J_iadd dc_Mo_putWide_121 (Eq.refl 122) ?_
        refine J_callVV (As := [.int ((128 : Int32) + ((x1 >>> ((12 : Int32) &&& 31)) &&& (63 : Int32)))]) (st := []) dc_Mo_putWide_122 (Eq.refl 125) lk_Mo_288 mi_Mo_put rfl (Nat.le_of_ble_eq_true rfl) rfl rfl (Nat.le_of_ble_eq_true rfl) rfl (Nat.le_of_ble_eq_true rfl) (CV.mono h (fun σ2 h => ?_))
        refine J_aload_n dc_Mo_putWide_125 (Eq.refl 126) 0 rfl ?_
        refine J_sipush (v := (128 : Int32)) dc_Mo_putWide_126 (Eq.refl 129) rfl ?_
        refine J_iload_n dc_Mo_putWide_129 (Eq.refl 130) 1 rfl ?_
        refine J_bipush (v := (6 : Int32)) dc_Mo_putWide_130 (Eq.refl 132) rfl ?_
        refine J_ishr dc_Mo_putWide_132 (Eq.refl 133) ?_
        refine J_bipush (v := (63 : Int32)) dc_Mo_putWide_133 (Eq.refl 135) rfl ?_
        refine J_iand dc_Mo_putWide_135 (Eq.refl 136) ?_
        refine J_iadd dc_Mo_putWide_136 (Eq.refl 137) ?_
        refine J_callVV (As := [.int ((128 : Int32) + ((x1 >>> ((6 : Int32) &&& 31)) &&& (63 : Int32)))]) (st := []) dc_Mo_putWide_137 (Eq.refl 140) lk_Mo_288 mi_Mo_put rfl (Nat.le_of_ble_eq_true rfl) rfl rfl (Nat.le_of_ble_eq_true rfl) rfl (Nat.le_of_ble_eq_true rfl) (CV.mono h (fun σ3 h => ?_))
        refine J_aload_n dc_Mo_putWide_140 (Eq.refl 141) 0 rfl ?_
        refine J_sipush (v := (128 : Int32)) dc_Mo_putWide_141 (Eq.refl 144) rfl ?_
        refine J_iload_n dc_Mo_putWide_144 (Eq.refl 145) 1 rfl ?_
        refine J_bipush (v := (63 : Int32)) dc_Mo_putWide_145 (Eq.refl 147) rfl ?_
        refine J_iand dc_Mo_putWide_147 (Eq.refl 148) ?_
        refine J_iadd dc_Mo_putWide_148 (Eq.refl 149) ?_
        refine J_callVV (As := [.int ((128 : Int32) + (x1 &&& (63 : Int32)))]) (st := []) dc_Mo_putWide_149 (Eq.refl 152) lk_Mo_288 mi_Mo_put rfl (Nat.le_of_ble_eq_true rfl) rfl rfl (Nat.le_of_ble_eq_true rfl) rfl (Nat.le_of_ble_eq_true rfl) (CV.mono h (fun σ4 h => ?_))
        exact J_vret dc_Mo_putWide_152 rfl h
      · have h := h.2 hc
        refine J_aload_n dc_Mo_putWide_56 (Eq.refl 57) 0 rfl ?_
        refine J_sipush (v := (224 : Int32)) dc_Mo_putWide_57 (Eq.refl 60) rfl ?_
        refine J_iload_n dc_Mo_putWide_60 (Eq.refl 61) 1 rfl ?_
        refine J_bipush (v := (12 : Int32)) dc_Mo_putWide_61 (Eq.refl 63) rfl ?_
        refine J_ishr dc_Mo_putWide_63 (Eq.refl 64) ?_
        refine J_iadd dc_Mo_putWide_64 (Eq.refl 65) ?_
        refine J_callVV (As := [.int ((224 : Int32) + (x1 >>> ((12 : Int32) &&& 31)))]) (st := []) dc_Mo_putWide_65 (Eq.refl 68) lk_Mo_288 mi_Mo_put rfl (Nat.le_of_ble_eq_true rfl) rfl rfl (Nat.le_of_ble_eq_true rfl) rfl (Nat.le_of_ble_eq_true rfl) (CV.mono h (fun σ5 h => ?_))
        refine J_aload_n dc_Mo_putWide_68 (Eq.refl 69) 0 rfl ?_
        refine J_sipush (v := (128 : Int32)) dc_Mo_putWide_69 (Eq.refl 72) rfl ?_
        refine J_iload_n dc_Mo_putWide_72 (Eq.refl 73) 1 rfl ?_
        refine J_bipush (v := (6 : Int32)) dc_Mo_putWide_73 (Eq.refl 75) rfl ?_
        refine J_ishr dc_Mo_putWide_75 (Eq.refl 76) ?_
        refine J_bipush (v := (63 : Int32)) dc_Mo_putWide_76 (Eq.refl 78) rfl ?_
        refine J_iand dc_Mo_putWide_78 (Eq.refl 79) ?_
        refine J_iadd dc_Mo_putWide_79 (Eq.refl 80) ?_
        refine J_callVV (As := [.int ((128 : Int32) + ((x1 >>> ((6 : Int32) &&& 31)) &&& (63 : Int32)))]) (st := []) dc_Mo_putWide_80 (Eq.refl 83) lk_Mo_288 mi_Mo_put rfl (Nat.le_of_ble_eq_true rfl) rfl rfl (Nat.le_of_ble_eq_true rfl) rfl (Nat.le_of_ble_eq_true rfl) (CV.mono h (fun σ6 h => ?_))
        refine J_aload_n dc_Mo_putWide_83 (Eq.refl 84) 0 rfl ?_
        refine J_sipush (v := (128 : Int32)) dc_Mo_putWide_84 (Eq.refl 87) rfl ?_
        refine J_iload_n dc_Mo_putWide_87 (Eq.refl 88) 1 rfl ?_
        refine J_bipush (v := (63 : Int32)) dc_Mo_putWide_88 (Eq.refl 90) rfl ?_
        refine J_iand dc_Mo_putWide_90 (Eq.refl 91) ?_
        refine J_iadd dc_Mo_putWide_91 (Eq.refl 92) ?_
        refine J_callVV (As := [.int ((128 : Int32) + (x1 &&& (63 : Int32)))]) (st := []) dc_Mo_putWide_92 (Eq.refl 95) lk_Mo_288 mi_Mo_put rfl (Nat.le_of_ble_eq_true rfl) rfl rfl (Nat.le_of_ble_eq_true rfl) rfl (Nat.le_of_ble_eq_true rfl) (CV.mono h (fun σ7 h => ?_))
        refine J_goto dc_Mo_putWide_95 rfl ?_
        exact J_vret dc_Mo_putWide_152 rfl h
    · have h := h.2 hc
      refine J_aload_n dc_Mo_putWide_22 (Eq.refl 23) 0 rfl ?_
      refine J_sipush (v := (192 : Int32)) dc_Mo_putWide_23 (Eq.refl 26) rfl ?_
      refine J_iload_n dc_Mo_putWide_26 (Eq.refl 27) 1 rfl ?_
      refine J_bipush (v := (6 : Int32)) dc_Mo_putWide_27 (Eq.refl 29) rfl ?_
      refine J_ishr dc_Mo_putWide_29 (Eq.refl 30) ?_
      refine J_iadd dc_Mo_putWide_30 (Eq.refl 31) ?_
      refine J_callVV (As := [.int ((192 : Int32) + (x1 >>> ((6 : Int32) &&& 31)))]) (st := []) dc_Mo_putWide_31 (Eq.refl 34) lk_Mo_288 mi_Mo_put rfl (Nat.le_of_ble_eq_true rfl) rfl rfl (Nat.le_of_ble_eq_true rfl) rfl (Nat.le_of_ble_eq_true rfl) (CV.mono h (fun σ8 h => ?_))
      refine J_aload_n dc_Mo_putWide_34 (Eq.refl 35) 0 rfl ?_
      refine J_sipush (v := (128 : Int32)) dc_Mo_putWide_35 (Eq.refl 38) rfl ?_
      refine J_iload_n dc_Mo_putWide_38 (Eq.refl 39) 1 rfl ?_
      refine J_bipush (v := (63 : Int32)) dc_Mo_putWide_39 (Eq.refl 41) rfl ?_
      refine J_iand dc_Mo_putWide_41 (Eq.refl 42) ?_
      refine J_iadd dc_Mo_putWide_42 (Eq.refl 43) ?_
      refine J_callVV (As := [.int ((128 : Int32) + (x1 &&& (63 : Int32)))]) (st := []) dc_Mo_putWide_43 (Eq.refl 46) lk_Mo_288 mi_Mo_put rfl (Nat.le_of_ble_eq_true rfl) rfl rfl (Nat.le_of_ble_eq_true rfl) rfl (Nat.le_of_ble_eq_true rfl) (CV.mono h (fun σ9 h => ?_))
      refine J_goto dc_Mo_putWide_46 rfl ?_
      exact J_vret dc_Mo_putWide_152 rfl h
  · have h := h.2 hc
    refine J_aload_n dc_Mo_putWide_7 (Eq.refl 8) 0 rfl ?_
    refine J_iload_n dc_Mo_putWide_8 (Eq.refl 9) 1 rfl ?_
    refine J_callVV (As := [.int x1]) (st := []) dc_Mo_putWide_9 (Eq.refl 12) lk_Mo_288 mi_Mo_put rfl (Nat.le_of_ble_eq_true rfl) rfl rfl (Nat.le_of_ble_eq_true rfl) rfl (Nat.le_of_ble_eq_true rfl) (CV.mono h (fun σ10 h => ?_))
    refine J_goto dc_Mo_putWide_12 rfl ?_
    exact J_vret dc_Mo_putWide_152 rfl h
theorem dc_Mo_putPlain_0 : decode m_Mo_putPlain.2.1 0 = .ok (.aload_n 0, 1) := by decide +kernel
theorem dc_Mo_putPlain_1 : decode m_Mo_putPlain.2.1 1 = .ok (.getfield 47, 3) := by decide +kernel
theorem dc_Mo_putPlain_4 : decode m_Mo_putPlain.2.1 4 = .ok (.iload_n 2, 1) := by decide +kernel
theorem dc_Mo_putPlain_5 : decode m_Mo_putPlain.2.1 5 = .ok (.iaload, 1) := by decide +kernel
theorem dc_Mo_putPlain_6 : decode m_Mo_putPlain.2.1 6 = .ok (.tableswitch 144 0 5 #[38, 47, 56, 66, 110, 135], 38) := by decide +kernel
theorem dc_Mo_putPlain_44 : decode m_Mo_putPlain.2.1 44 = .ok (.aload_n 0, 1) := by decide +kernel
theorem dc_Mo_putPlain_45 : decode m_Mo_putPlain.2.1 45 = .ok (.iconst 0, 1) := by decide +kernel
theorem dc_Mo_putPlain_46 : decode m_Mo_putPlain.2.1 46 = .ok (.iconst 4, 1) := by decide +kernel
theorem dc_Mo_putPlain_47 : decode m_Mo_putPlain.2.1 47 = .ok (.invokevirtual 401, 3) := by decide +kernel
theorem dc_Mo_putPlain_50 : decode m_Mo_putPlain.2.1 50 = .ok (.goto 106, 3) := by decide +kernel
theorem dc_Mo_putPlain_53 : decode m_Mo_putPlain.2.1 53 = .ok (.aload_n 0, 1) := by decide +kernel
theorem dc_Mo_putPlain_54 : decode m_Mo_putPlain.2.1 54 = .ok (.iconst 4, 1) := by decide +kernel
theorem dc_Mo_putPlain_55 : decode m_Mo_putPlain.2.1 55 = .ok (.iconst 5, 1) := by decide +kernel
theorem dc_Mo_putPlain_56 : decode m_Mo_putPlain.2.1 56 = .ok (.invokevirtual 401, 3) := by decide +kernel
theorem dc_Mo_putPlain_59 : decode m_Mo_putPlain.2.1 59 = .ok (.goto 97, 3) := by decide +kernel
theorem dc_Mo_putPlain_62 : decode m_Mo_putPlain.2.1 62 = .ok (.aload_n 0, 1) := by decide +kernel
theorem dc_Mo_putPlain_63 : decode m_Mo_putPlain.2.1 63 = .ok (.bipush 9, 2) := by decide +kernel
theorem dc_Mo_putPlain_65 : decode m_Mo_putPlain.2.1 65 = .ok (.iconst 4, 1) := by decide +kernel
theorem dc_Mo_putPlain_66 : decode m_Mo_putPlain.2.1 66 = .ok (.invokevirtual 401, 3) := by decide +kernel
theorem dc_Mo_putPlain_69 : decode m_Mo_putPlain.2.1 69 = .ok (.goto 87, 3) := by decide +kernel
theorem dc_Mo_putPlain_72 : decode m_Mo_putPlain.2.1 72 = .ok (.iconst 0, 1) := by decide +kernel
theorem dc_Mo_putPlain_73 : decode m_Mo_putPlain.2.1 73 = .ok (.istore_n 3, 1) := by decide +kernel
theorem dc_Mo_putPlain_74 : decode m_Mo_putPlain.2.1 74 = .ok (.iload_n 3, 1) := by decide +kernel
theorem dc_Mo_putPlain_75 : decode m_Mo_putPlain.2.1 75 = .ok (.aload_n 0, 1) := by decide +kernel
theorem dc_Mo_putPlain_76 : decode m_Mo_putPlain.2.1 76 = .ok (.getfield 80, 3) := by decide +kernel
theorem dc_Mo_putPlain_79 : decode m_Mo_putPlain.2.1 79 = .ok (.iload_n 2, 1) := by decide +kernel
theorem dc_Mo_putPlain_80 : decode m_Mo_putPlain.2.1 80 = .ok (.iaload, 1) := by decide +kernel
theorem dc_Mo_putPlain_81 : decode m_Mo_putPlain.2.1 81 = .ok (.if_icmp .ge 32, 3) := by decide +kernel
theorem dc_Mo_putPlain_84 : decode m_Mo_putPlain.2.1 84 = .ok (.aload_n 0, 1) := by decide +kernel
theorem dc_Mo_putPlain_85 : decode m_Mo_putPlain.2.1 85 = .ok (.aload_n 0, 1) := by decide +kernel
theorem dc_Mo_putPlain_86 : decode m_Mo_putPlain.2.1 86 = .ok (.getfield 92, 3) := by decide +kernel
theorem dc_Mo_putPlain_89 : decode m_Mo_putPlain.2.1 89 = .ok (.sipush 13000, 3) := by decide +kernel
theorem dc_Mo_putPlain_92 : decode m_Mo_putPlain.2.1 92 = .ok (.iload_n 1, 1) := by decide +kernel
theorem dc_Mo_putPlain_93 : decode m_Mo_putPlain.2.1 93 = .ok (.imul, 1) := by decide +kernel
theorem dc_Mo_putPlain_94 : decode m_Mo_putPlain.2.1 94 = .ok (.aload_n 0, 1) := by decide +kernel
theorem dc_Mo_putPlain_95 : decode m_Mo_putPlain.2.1 95 = .ok (.getfield 77, 3) := by decide +kernel
theorem dc_Mo_putPlain_98 : decode m_Mo_putPlain.2.1 98 = .ok (.iload_n 2, 1) := by decide +kernel
theorem dc_Mo_putPlain_99 : decode m_Mo_putPlain.2.1 99 = .ok (.iaload, 1) := by decide +kernel
theorem dc_Mo_putPlain_100 : decode m_Mo_putPlain.2.1 100 = .ok (.iadd, 1) := by decide +kernel
theorem dc_Mo_putPlain_101 : decode m_Mo_putPlain.2.1 101 = .ok (.iload_n 3, 1) := by decide +kernel
theorem dc_Mo_putPlain_102 : decode m_Mo_putPlain.2.1 102 = .ok (.iadd, 1) := by decide +kernel
theorem dc_Mo_putPlain_103 : decode m_Mo_putPlain.2.1 103 = .ok (.iaload, 1) := by decide +kernel
theorem dc_Mo_putPlain_104 : decode m_Mo_putPlain.2.1 104 = .ok (.invokevirtual 288, 3) := by decide +kernel
theorem dc_Mo_putPlain_107 : decode m_Mo_putPlain.2.1 107 = .ok (.iinc 3 1, 3) := by decide +kernel
theorem dc_Mo_putPlain_110 : decode m_Mo_putPlain.2.1 110 = .ok (.goto (-36), 3) := by decide +kernel
theorem dc_Mo_putPlain_113 : decode m_Mo_putPlain.2.1 113 = .ok (.goto 43, 3) := by decide +kernel
theorem dc_Mo_putPlain_116 : decode m_Mo_putPlain.2.1 116 = .ok (.aload_n 0, 1) := by decide +kernel
theorem dc_Mo_putPlain_117 : decode m_Mo_putPlain.2.1 117 = .ok (.sipush 4000, 3) := by decide +kernel
theorem dc_Mo_putPlain_120 : decode m_Mo_putPlain.2.1 120 = .ok (.iload_n 1, 1) := by decide +kernel
theorem dc_Mo_putPlain_121 : decode m_Mo_putPlain.2.1 121 = .ok (.imul, 1) := by decide +kernel
theorem dc_Mo_putPlain_122 : decode m_Mo_putPlain.2.1 122 = .ok (.aload_n 0, 1) := by decide +kernel
theorem dc_Mo_putPlain_123 : decode m_Mo_putPlain.2.1 123 = .ok (.getfield 71, 3) := by decide +kernel
theorem dc_Mo_putPlain_126 : decode m_Mo_putPlain.2.1 126 = .ok (.iload_n 2, 1) := by decide +kernel
theorem dc_Mo_putPlain_127 : decode m_Mo_putPlain.2.1 127 = .ok (.iaload, 1) := by decide +kernel
theorem dc_Mo_putPlain_128 : decode m_Mo_putPlain.2.1 128 = .ok (.iadd, 1) := by decide +kernel
theorem dc_Mo_putPlain_129 : decode m_Mo_putPlain.2.1 129 = .ok (.aload_n 0, 1) := by decide +kernel
theorem dc_Mo_putPlain_130 : decode m_Mo_putPlain.2.1 130 = .ok (.getfield 74, 3) := by decide +kernel
theorem dc_Mo_putPlain_133 : decode m_Mo_putPlain.2.1 133 = .ok (.iload_n 2, 1) := by decide +kernel
theorem dc_Mo_putPlain_134 : decode m_Mo_putPlain.2.1 134 = .ok (.iaload, 1) := by decide +kernel
theorem dc_Mo_putPlain_135 : decode m_Mo_putPlain.2.1 135 = .ok (.invokevirtual 405, 3) := by decide +kernel
theorem dc_Mo_putPlain_138 : decode m_Mo_putPlain.2.1 138 = .ok (.goto 18, 3) := by decide +kernel
theorem dc_Mo_putPlain_141 : decode m_Mo_putPlain.2.1 141 = .ok (.aload_n 0, 1) := by decide +kernel
theorem dc_Mo_putPlain_142 : decode m_Mo_putPlain.2.1 142 = .ok (.bipush 91, 2) := by decide +kernel
theorem dc_Mo_putPlain_144 : decode m_Mo_putPlain.2.1 144 = .ok (.invokevirtual 288, 3) := by decide +kernel
theorem dc_Mo_putPlain_147 : decode m_Mo_putPlain.2.1 147 = .ok (.goto 9, 3) := by decide +kernel
theorem dc_Mo_putPlain_150 : decode m_Mo_putPlain.2.1 150 = .ok (.aload_n 0, 1) := by decide +kernel
theorem dc_Mo_putPlain_151 : decode m_Mo_putPlain.2.1 151 = .ok (.bipush 123, 2) := by decide +kernel
theorem dc_Mo_putPlain_153 : decode m_Mo_putPlain.2.1 153 = .ok (.invokevirtual 288, 3) := by decide +kernel
theorem dc_Mo_putPlain_156 : decode m_Mo_putPlain.2.1 156 = .ok (.return_, 1) := by decide +kernel
theorem b_Mo_putPlain_0 {E : En_t} {d : Nat} {σ : S_t} {Q : Option Value → S_t → Prop} {x1 : Int32} {x2 : Int32}
    (h : vp_in x2 4500 ∧ (((gI σ 13 x2.toNatClampNeg) = (0 : Int32) → CV E d m_Mo_putWord [pv E 0, .int (0 : Int32), .int (4 : Int32)] σ (fun σ1 => Q none σ1)) ∧ ((gI σ 13 x2.toNatClampNeg) = (1 : Int32) → CV E d m_Mo_putWord [pv E 0, .int (4 : Int32), .int (5 : Int32)] σ (fun σ2 => Q none σ2)) ∧ ((gI σ 13 x2.toNatClampNeg) = (2 : Int32) → CV E d m_Mo_putWord [pv E 0, .int (9 : Int32), .int (4 : Int32)] σ (fun σ3 => Q none σ3)) ∧ ((gI σ 13 x2.toNatClampNeg) = (3 : Int32) → JE E (d + 1) m_Mo_putPlain 74 [(0, pv E 0), (1, .int x1), (2, .int x2), (3, .int (0 : Int32))] [] σ Q) ∧ ((gI σ 13 x2.toNatClampNeg) = (4 : Int32) → vp_in x2 4500 ∧ (vp_in x2 4500 ∧ (CV E d m_Mo_putString [pv E 0, .int (((4000 : Int32) * x1) + (gI σ 21 x2.toNatClampNeg)), .int (gI σ 22 x2.toNatClampNeg)] σ (fun σ4 => Q none σ4)))) ∧ ((gI σ 13 x2.toNatClampNeg) = (5 : Int32) → CV E d m_Mo_put [pv E 0, .int (91 : Int32)] σ (fun σ5 => Q none σ5)) ∧ (¬ (gI σ 13 x2.toNatClampNeg) = (0 : Int32) → ¬ (gI σ 13 x2.toNatClampNeg) = (1 : Int32) → ¬ (gI σ 13 x2.toNatClampNeg) = (2 : Int32) → ¬ (gI σ 13 x2.toNatClampNeg) = (3 : Int32) → ¬ (gI σ 13 x2.toNatClampNeg) = (4 : Int32) → ¬ (gI σ 13 x2.toNatClampNeg) = (5 : Int32) → CV E d m_Mo_put [pv E 0, .int (123 : Int32)] σ (fun σ6 => Q none σ6)))) :
    JE E (d + 1) m_Mo_putPlain 0 [(0, pv E 0), (1, .int x1), (2, .int x2)] [] σ Q := by
  refine J_aload_n dc_Mo_putPlain_0 (Eq.refl 1) 0 rfl ?_
  refine J_getF (y := 13) dc_Mo_putPlain_1 (Eq.refl 4) fl_Mo_47 (Nat.le_of_ble_eq_true rfl) rfl (Or.inl rfl) rfl ?_
  refine J_iload_n dc_Mo_putPlain_4 (Eq.refl 5) 2 rfl ?_
  obtain ⟨hg, h⟩ := h
  refine J_iald dc_Mo_putPlain_5 (Eq.refl 6) rfl rfl hg ?_
  by_cases q0 : (gI σ 13 x2.toNatClampNeg) = (0 : Int32)
  · have h := h.1 q0
    refine J_tableIn (tgt := 44) dc_Mo_putPlain_6 (by rw [q0]; decide) (by rw [q0]; decide) (by rw [q0]; rfl) rfl ?_
    refine J_aload_n dc_Mo_putPlain_44 (Eq.refl 45) 0 rfl ?_
    refine J_iconst (v := (0 : Int32)) dc_Mo_putPlain_45 (Eq.refl 46) rfl ?_
    refine J_iconst (v := (4 : Int32)) dc_Mo_putPlain_46 (Eq.refl 47) rfl ?_
    refine J_callVV (As := [.int (0 : Int32), .int (4 : Int32)]) (st := []) dc_Mo_putPlain_47 (Eq.refl 50) lk_Mo_401 mi_Mo_putWord rfl (Nat.le_of_ble_eq_true rfl) rfl rfl (Nat.le_of_ble_eq_true rfl) rfl (Nat.le_of_ble_eq_true rfl) (CV.mono h (fun σ1 h => ?_))
    refine J_goto dc_Mo_putPlain_50 rfl ?_
    exact J_vret dc_Mo_putPlain_156 rfl h
  have h := h.2
  by_cases q1 : (gI σ 13 x2.toNatClampNeg) = (1 : Int32)
  · have h := h.1 q1
    refine J_tableIn (tgt := 53) dc_Mo_putPlain_6 (by rw [q1]; decide) (by rw [q1]; decide) (by rw [q1]; rfl) rfl ?_
    refine J_aload_n dc_Mo_putPlain_53 (Eq.refl 54) 0 rfl ?_
    refine J_iconst (v := (4 : Int32)) dc_Mo_putPlain_54 (Eq.refl 55) rfl ?_
    refine J_iconst (v := (5 : Int32)) dc_Mo_putPlain_55 (Eq.refl 56) rfl ?_
    refine J_callVV (As := [.int (4 : Int32), .int (5 : Int32)]) (st := []) dc_Mo_putPlain_56 (Eq.refl 59) lk_Mo_401 mi_Mo_putWord rfl (Nat.le_of_ble_eq_true rfl) rfl rfl (Nat.le_of_ble_eq_true rfl) rfl (Nat.le_of_ble_eq_true rfl) (CV.mono h (fun σ2 h => ?_))
    refine J_goto dc_Mo_putPlain_59 rfl ?_
    exact J_vret dc_Mo_putPlain_156 rfl h
  have h := h.2
  by_cases q2 : (gI σ 13 x2.toNatClampNeg) = (2 : Int32)
  · have h := h.1 q2
    refine J_tableIn (tgt := 62) dc_Mo_putPlain_6 (by rw [q2]; decide) (by rw [q2]; decide) (by rw [q2]; rfl) rfl ?_
    refine J_aload_n dc_Mo_putPlain_62 (Eq.refl 63) 0 rfl ?_
    refine J_bipush (v := (9 : Int32)) dc_Mo_putPlain_63 (Eq.refl 65) rfl ?_
    refine J_iconst (v := (4 : Int32)) dc_Mo_putPlain_65 (Eq.refl 66) rfl ?_
    refine J_callVV (As := [.int (9 : Int32), .int (4 : Int32)]) (st := []) dc_Mo_putPlain_66 (Eq.refl 69) lk_Mo_401 mi_Mo_putWord rfl (Nat.le_of_ble_eq_true rfl) rfl rfl (Nat.le_of_ble_eq_true rfl) rfl (Nat.le_of_ble_eq_true rfl) (CV.mono h (fun σ3 h => ?_))
    refine J_goto dc_Mo_putPlain_69 rfl ?_
    exact J_vret dc_Mo_putPlain_156 rfl h
  have h := h.2
  by_cases q3 : (gI σ 13 x2.toNatClampNeg) = (3 : Int32)
  · have h := h.1 q3
    refine J_tableIn (tgt := 72) dc_Mo_putPlain_6 (by rw [q3]; decide) (by rw [q3]; decide) (by rw [q3]; rfl) rfl ?_
    refine J_iconst (v := (0 : Int32)) dc_Mo_putPlain_72 (Eq.refl 73) rfl ?_
    refine J_istore_n (L' := [(3, .int (0 : Int32)), (0, pv E 0), (1, .int x1), (2, .int x2)]) dc_Mo_putPlain_73 (Eq.refl 74) (Nat.le_of_ble_eq_true rfl) rfl ?_
    refine J_sub [1, 2, 3, 0] rfl ?_
    exact h
  have h := h.2
  by_cases q4 : (gI σ 13 x2.toNatClampNeg) = (4 : Int32)
  · have h := h.1 q4
    refine J_tableIn (tgt := 116) dc_Mo_putPlain_6 (by rw [q4]; decide) (by rw [q4]; decide) (by rw [q4]; rfl) rfl ?_
    refine J_aload_n dc_Mo_putPlain_116 (Eq.refl 117) 0 rfl ?_
    refine J_sipush (v := (4000 : Int32)) dc_Mo_putPlain_117 (Eq.refl 120) rfl ?_
    refine J_iload_n dc_Mo_putPlain_120 (Eq.refl 121) 1 rfl ?_
    refine J_imul dc_Mo_putPlain_121 (Eq.refl 122) ?_
    refine J_aload_n dc_Mo_putPlain_122 (Eq.refl 123) 0 rfl ?_
    refine J_getF (y := 21) dc_Mo_putPlain_123 (Eq.refl 126) fl_Mo_71 (Nat.le_of_ble_eq_true rfl) rfl (Or.inl rfl) rfl ?_
    refine J_iload_n dc_Mo_putPlain_126 (Eq.refl 127) 2 rfl ?_
    obtain ⟨hg, h⟩ := h
    refine J_iald dc_Mo_putPlain_127 (Eq.refl 128) rfl rfl hg ?_
    refine J_iadd dc_Mo_putPlain_128 (Eq.refl 129) ?_
    refine J_aload_n dc_Mo_putPlain_129 (Eq.refl 130) 0 rfl ?_
    refine J_getF (y := 22) dc_Mo_putPlain_130 (Eq.refl 133) fl_Mo_74 (Nat.le_of_ble_eq_true rfl) rfl (Or.inl rfl) rfl ?_
    refine J_iload_n dc_Mo_putPlain_133 (Eq.refl 134) 2 rfl ?_
    obtain ⟨hg, h⟩ := h
    refine J_iald dc_Mo_putPlain_134 (Eq.refl 135) rfl rfl hg ?_
    refine J_callVV (As := [.int (((4000 : Int32) * x1) + (gI σ 21 x2.toNatClampNeg)), .int (gI σ 22 x2.toNatClampNeg)]) (st := []) dc_Mo_putPlain_135 (Eq.refl 138) lk_Mo_405 mi_Mo_putString rfl (Nat.le_of_ble_eq_true rfl) rfl rfl (Nat.le_of_ble_eq_true rfl) rfl (Nat.le_of_ble_eq_true rfl) (CV.mono h (fun σ4 h => ?_))
    refine J_goto dc_Mo_putPlain_138 rfl ?_
    exact J_vret dc_Mo_putPlain_156 rfl h
  have h := h.2
  by_cases q5 : (gI σ 13 x2.toNatClampNeg) = (5 : Int32)
  · have h := h.1 q5
    refine J_tableIn (tgt := 141) dc_Mo_putPlain_6 (by rw [q5]; decide) (by rw [q5]; decide) (by rw [q5]; rfl) rfl ?_
    refine J_aload_n dc_Mo_putPlain_141 (Eq.refl 142) 0 rfl ?_
    refine J_bipush (v := (91 : Int32)) dc_Mo_putPlain_142 (Eq.refl 144) rfl ?_
    refine J_callVV (As := [.int (91 : Int32)]) (st := []) dc_Mo_putPlain_144 (Eq.refl 147) lk_Mo_288 mi_Mo_put rfl (Nat.le_of_ble_eq_true rfl) rfl rfl (Nat.le_of_ble_eq_true rfl) rfl (Nat.le_of_ble_eq_true rfl) (CV.mono h (fun σ5 h => ?_))
    refine J_goto dc_Mo_putPlain_147 rfl ?_
    exact J_vret dc_Mo_putPlain_156 rfl h
  have h := h.2
  have h := h q0 q1 q2 q3 q4 q5
  refine J_tableOut (tgt := 150) dc_Mo_putPlain_6 (sw_out (n := 5) (by decide) (fun k hk => ?_)) rfl ?_
  · have hk : k = 0 ∨ k = 1 ∨ k = 2 ∨ k = 3 ∨ k = 4 ∨ k = 5 := by omega
    rcases hk with rfl | rfl | rfl | rfl | rfl | rfl
    · exact q0
    · exact q1
    · exact q2
    · exact q3
    · exact q4
    · exact q5
  · skip
    refine J_aload_n dc_Mo_putPlain_150 (Eq.refl 151) 0 rfl ?_
    refine J_bipush (v := (123 : Int32)) dc_Mo_putPlain_151 (Eq.refl 153) rfl ?_
    refine J_callVV (As := [.int (123 : Int32)]) (st := []) dc_Mo_putPlain_153 (Eq.refl 156) lk_Mo_288 mi_Mo_put rfl (Nat.le_of_ble_eq_true rfl) rfl rfl (Nat.le_of_ble_eq_true rfl) rfl (Nat.le_of_ble_eq_true rfl) (CV.mono h (fun σ6 h => ?_))
    exact J_vret dc_Mo_putPlain_156 rfl h
theorem b_Mo_putPlain_74 {E : En_t} {d : Nat} {σ : S_t} {Q : Option Value → S_t → Prop} {x1 : Int32} {x2 : Int32} {x3 : Int32}
    (h : vp_in x2 4500 ∧ (((gI σ 24 x2.toNatClampNeg) ≤ x3 → Q none σ) ∧ (¬ (gI σ 24 x2.toNatClampNeg) ≤ x3 → vp_in x2 4500 ∧ (vp_in ((((13000 : Int32) * x1) + (gI σ 23 x2.toNatClampNeg)) + x3) 117000 ∧ (CV E d m_Mo_put [pv E 0, .int (gI σ 27 ((((13000 : Int32) * x1) + (gI σ 23 x2.toNatClampNeg)) + x3).toNatClampNeg)] σ (fun σ1 => JE E (d + 1) m_Mo_putPlain 74 [(0, pv E 0), (1, .int x1), (2, .int x2), (3, .int (x3 + (1 : Int32)))] [] σ1 Q)))))) :
    JE E (d + 1) m_Mo_putPlain 74 [(0, pv E 0), (1, .int x1), (2, .int x2), (3, .int x3)] [] σ Q := by
  refine J_iload_n dc_Mo_putPlain_74 (Eq.refl 75) 3 rfl ?_
  refine J_aload_n dc_Mo_putPlain_75 (Eq.refl 76) 0 rfl ?_
  refine J_getF (y := 24) dc_Mo_putPlain_76 (Eq.refl 79) fl_Mo_80 (Nat.le_of_ble_eq_true rfl) rfl (Or.inl rfl) rfl ?_
  refine J_iload_n dc_Mo_putPlain_79 (Eq.refl 80) 2 rfl ?_
  obtain ⟨hg, h⟩ := h
  refine J_iald dc_Mo_putPlain_80 (Eq.refl 81) rfl rfl hg ?_
  refine J_icmp_ge dc_Mo_putPlain_81 (Eq.refl 84) rfl (fun hc => ?_) (fun hc => ?_)
  · have h := h.1 hc
    refine J_goto dc_Mo_putPlain_113 rfl ?_
    exact J_vret dc_Mo_putPlain_156 rfl h
  · have h := h.2 hc
    refine J_aload_n dc_Mo_putPlain_84 (Eq.refl 85) 0 rfl ?_
    refine J_aload_n dc_Mo_putPlain_85 (Eq.refl 86) 0 rfl ?_
    refine J_getF (y := 27) dc_Mo_putPlain_86 (Eq.refl 89) fl_Mo_92 (Nat.le_of_ble_eq_true rfl) rfl (Or.inl rfl) rfl ?_
    refine J_sipush (v := (13000 : Int32)) dc_Mo_putPlain_89 (Eq.refl 92) rfl ?_
    refine J_iload_n dc_Mo_putPlain_92 (Eq.refl 93) 1 rfl ?_
    refine J_imul dc_Mo_putPlain_93 (Eq.refl 94) ?_
    refine J_aload_n dc_Mo_putPlain_94 (Eq.refl 95) 0 rfl ?_
    refine J_getF (y := 23) dc_Mo_putPlain_95 (Eq.refl 98) fl_Mo_77 (Nat.le_of_ble_eq_true rfl) rfl (Or.inl rfl) rfl ?_
    refine J_iload_n dc_Mo_putPlain_98 (Eq.refl 99) 2 rfl ?_
    obtain ⟨hg, h⟩ := h
    refine J_iald dc_Mo_putPlain_99 (Eq.refl 100) rfl rfl hg ?_
    refine J_iadd dc_Mo_putPlain_100 (Eq.refl 101) ?_
    refine J_iload_n dc_Mo_putPlain_101 (Eq.refl 102) 3 rfl ?_
    refine J_iadd dc_Mo_putPlain_102 (Eq.refl 103) ?_
    obtain ⟨hg, h⟩ := h
    refine J_iald dc_Mo_putPlain_103 (Eq.refl 104) rfl rfl hg ?_
    refine J_callVV (As := [.int (gI σ 27 ((((13000 : Int32) * x1) + (gI σ 23 x2.toNatClampNeg)) + x3).toNatClampNeg)]) (st := []) dc_Mo_putPlain_104 (Eq.refl 107) lk_Mo_288 mi_Mo_put rfl (Nat.le_of_ble_eq_true rfl) rfl rfl (Nat.le_of_ble_eq_true rfl) rfl (Nat.le_of_ble_eq_true rfl) (CV.mono h (fun σ1 h => ?_))
    refine J_iinc (v := x3 + (1 : Int32)) (L' := [(3, .int (x3 + (1 : Int32))), (0, pv E 0), (1, .int x1), (2, .int x2)]) dc_Mo_putPlain_107 (Eq.refl 110) 3 rfl rfl (Nat.le_of_ble_eq_true rfl) rfl ?_
    refine J_goto dc_Mo_putPlain_110 rfl ?_
    refine J_sub [1, 2, 3, 0] rfl ?_
    exact h
theorem dc_Mo_putWord_0 : decode m_Mo_putWord.2.1 0 = .ok (.iconst 0, 1) := by decide +kernel
theorem dc_Mo_putWord_1 : decode m_Mo_putWord.2.1 1 = .ok (.istore_n 3, 1) := by decide +kernel
theorem dc_Mo_putWord_2 : decode m_Mo_putWord.2.1 2 = .ok (.iload_n 3, 1) := by decide +kernel
theorem dc_Mo_putWord_3 : decode m_Mo_putWord.2.1 3 = .ok (.iload_n 2, 1) := by decide +kernel
theorem dc_Mo_putWord_4 : decode m_Mo_putWord.2.1 4 = .ok (.if_icmp .ge 21, 3) := by decide +kernel
theorem dc_Mo_putWord_7 : decode m_Mo_putWord.2.1 7 = .ok (.aload_n 0, 1) := by decide +kernel
theorem dc_Mo_putWord_8 : decode m_Mo_putWord.2.1 8 = .ok (.aload_n 0, 1) := by decide +kernel
theorem dc_Mo_putWord_9 : decode m_Mo_putWord.2.1 9 = .ok (.getfield 135, 3) := by decide +kernel
theorem dc_Mo_putWord_12 : decode m_Mo_putWord.2.1 12 = .ok (.iload_n 1, 1) := by decide +kernel
theorem dc_Mo_putWord_13 : decode m_Mo_putWord.2.1 13 = .ok (.iload_n 3, 1) := by decide +kernel
theorem dc_Mo_putWord_14 : decode m_Mo_putWord.2.1 14 = .ok (.iadd, 1) := by decide +kernel
theorem dc_Mo_putWord_15 : decode m_Mo_putWord.2.1 15 = .ok (.iaload, 1) := by decide +kernel
theorem dc_Mo_putWord_16 : decode m_Mo_putWord.2.1 16 = .ok (.invokevirtual 288, 3) := by decide +kernel
theorem dc_Mo_putWord_19 : decode m_Mo_putWord.2.1 19 = .ok (.iinc 3 1, 3) := by decide +kernel
theorem dc_Mo_putWord_22 : decode m_Mo_putWord.2.1 22 = .ok (.goto (-20), 3) := by decide +kernel
theorem dc_Mo_putWord_25 : decode m_Mo_putWord.2.1 25 = .ok (.return_, 1) := by decide +kernel
theorem b_Mo_putWord_0 {E : En_t} {d : Nat} {σ : S_t} {Q : Option Value → S_t → Prop} {x1 : Int32} {x2 : Int32}
    (h : JE E (d + 1) m_Mo_putWord 2 [(0, pv E 0), (1, .int x1), (2, .int x2), (3, .int (0 : Int32))] [] σ Q) :
    JE E (d + 1) m_Mo_putWord 0 [(0, pv E 0), (1, .int x1), (2, .int x2)] [] σ Q := by
  refine J_iconst (v := (0 : Int32)) dc_Mo_putWord_0 (Eq.refl 1) rfl ?_
  refine J_istore_n (L' := [(3, .int (0 : Int32)), (0, pv E 0), (1, .int x1), (2, .int x2)]) dc_Mo_putWord_1 (Eq.refl 2) (Nat.le_of_ble_eq_true rfl) rfl ?_
  refine J_sub [1, 2, 3, 0] rfl ?_
  exact h
theorem b_Mo_putWord_2 {E : En_t} {d : Nat} {σ : S_t} {Q : Option Value → S_t → Prop} {x1 : Int32} {x2 : Int32} {x3 : Int32}
    (h : (x2 ≤ x3 → Q none σ) ∧ (¬ x2 ≤ x3 → vp_in (x1 + x3) 13 ∧ (CV E d m_Mo_put [pv E 0, .int (gI σ 40 (x1 + x3).toNatClampNeg)] σ (fun σ1 => JE E (d + 1) m_Mo_putWord 2 [(0, pv E 0), (1, .int x1), (2, .int x2), (3, .int (x3 + (1 : Int32)))] [] σ1 Q)))) :
    JE E (d + 1) m_Mo_putWord 2 [(0, pv E 0), (1, .int x1), (2, .int x2), (3, .int x3)] [] σ Q := by
  refine J_iload_n dc_Mo_putWord_2 (Eq.refl 3) 3 rfl ?_
  refine J_iload_n dc_Mo_putWord_3 (Eq.refl 4) 2 rfl ?_
  refine J_icmp_ge dc_Mo_putWord_4 (Eq.refl 7) rfl (fun hc => ?_) (fun hc => ?_)
  · have h := h.1 hc
    exact J_vret dc_Mo_putWord_25 rfl h
  · have h := h.2 hc
    refine J_aload_n dc_Mo_putWord_7 (Eq.refl 8) 0 rfl ?_
    refine J_aload_n dc_Mo_putWord_8 (Eq.refl 9) 0 rfl ?_
    refine J_getF (y := 40) dc_Mo_putWord_9 (Eq.refl 12) fl_Mo_135 (Nat.le_of_ble_eq_true rfl) rfl (Or.inl rfl) rfl ?_
    refine J_iload_n dc_Mo_putWord_12 (Eq.refl 13) 1 rfl ?_
    refine J_iload_n dc_Mo_putWord_13 (Eq.refl 14) 3 rfl ?_
    refine J_iadd dc_Mo_putWord_14 (Eq.refl 15) ?_
    obtain ⟨hg, h⟩ := h
    refine J_iald dc_Mo_putWord_15 (Eq.refl 16) rfl rfl hg ?_
    refine J_callVV (As := [.int (gI σ 40 (x1 + x3).toNatClampNeg)]) (st := []) dc_Mo_putWord_16 (Eq.refl 19) lk_Mo_288 mi_Mo_put rfl (Nat.le_of_ble_eq_true rfl) rfl rfl (Nat.le_of_ble_eq_true rfl) rfl (Nat.le_of_ble_eq_true rfl) (CV.mono h (fun σ1 h => ?_))
    refine J_iinc (v := x3 + (1 : Int32)) (L' := [(3, .int (x3 + (1 : Int32))), (0, pv E 0), (1, .int x1), (2, .int x2)]) dc_Mo_putWord_19 (Eq.refl 22) 3 rfl rfl (Nat.le_of_ble_eq_true rfl) rfl ?_
    refine J_goto dc_Mo_putWord_22 rfl ?_
    refine J_sub [1, 2, 3, 0] rfl ?_
    exact h
theorem dc_Mo_value_0 : decode m_Mo_value.2.1 0 = .ok (.aload_n 0, 1) := by decide +kernel
theorem dc_Mo_value_1 : decode m_Mo_value.2.1 1 = .ok (.iload_n 1, 1) := by decide +kernel
theorem dc_Mo_value_2 : decode m_Mo_value.2.1 2 = .ok (.iload_n 2, 1) := by decide +kernel
theorem dc_Mo_value_3 : decode m_Mo_value.2.1 3 = .ok (.invokevirtual 408, 3) := by decide +kernel
theorem dc_Mo_value_6 : decode m_Mo_value.2.1 6 = .ok (.ifCond .ne 5, 3) := by decide +kernel
theorem dc_Mo_value_9 : decode m_Mo_value.2.1 9 = .ok (.iconst (-1), 1) := by decide +kernel
theorem dc_Mo_value_10 : decode m_Mo_value.2.1 10 = .ok (.ireturn, 1) := by decide +kernel
theorem dc_Mo_value_11 : decode m_Mo_value.2.1 11 = .ok (.sipush 500, 3) := by decide +kernel
theorem dc_Mo_value_14 : decode m_Mo_value.2.1 14 = .ok (.iload_n 1, 1) := by decide +kernel
theorem dc_Mo_value_15 : decode m_Mo_value.2.1 15 = .ok (.imul, 1) := by decide +kernel
theorem dc_Mo_value_16 : decode m_Mo_value.2.1 16 = .ok (.iload_n 2, 1) := by decide +kernel
theorem dc_Mo_value_17 : decode m_Mo_value.2.1 17 = .ok (.iadd, 1) := by decide +kernel
theorem dc_Mo_value_18 : decode m_Mo_value.2.1 18 = .ok (.istore 4, 2) := by decide +kernel
theorem dc_Mo_value_20 : decode m_Mo_value.2.1 20 = .ok (.iload_n 3, 1) := by decide +kernel
theorem dc_Mo_value_21 : decode m_Mo_value.2.1 21 = .ok (.tableswitch 108 0 5 #[39, 47, 76, 84, 92, 100], 39) := by decide +kernel
theorem dc_Mo_value_60 : decode m_Mo_value.2.1 60 = .ok (.aload_n 0, 1) := by decide +kernel
theorem dc_Mo_value_61 : decode m_Mo_value.2.1 61 = .ok (.getfield 47, 3) := by decide +kernel
theorem dc_Mo_value_64 : decode m_Mo_value.2.1 64 = .ok (.iload 4, 2) := by decide +kernel
theorem dc_Mo_value_66 : decode m_Mo_value.2.1 66 = .ok (.iaload, 1) := by decide +kernel
theorem dc_Mo_value_67 : decode m_Mo_value.2.1 67 = .ok (.ireturn, 1) := by decide +kernel
theorem dc_Mo_value_68 : decode m_Mo_value.2.1 68 = .ok (.aload_n 0, 1) := by decide +kernel
theorem dc_Mo_value_69 : decode m_Mo_value.2.1 69 = .ok (.getfield 47, 3) := by decide +kernel
theorem dc_Mo_value_72 : decode m_Mo_value.2.1 72 = .ok (.iload 4, 2) := by decide +kernel
theorem dc_Mo_value_74 : decode m_Mo_value.2.1 74 = .ok (.iaload, 1) := by decide +kernel
theorem dc_Mo_value_75 : decode m_Mo_value.2.1 75 = .ok (.iconst 4, 1) := by decide +kernel
theorem dc_Mo_value_76 : decode m_Mo_value.2.1 76 = .ok (.if_icmp .ne 13, 3) := by decide +kernel
theorem dc_Mo_value_79 : decode m_Mo_value.2.1 79 = .ok (.aload_n 0, 1) := by decide +kernel
theorem dc_Mo_value_80 : decode m_Mo_value.2.1 80 = .ok (.getfield 74, 3) := by decide +kernel
theorem dc_Mo_value_83 : decode m_Mo_value.2.1 83 = .ok (.iload 4, 2) := by decide +kernel
theorem dc_Mo_value_85 : decode m_Mo_value.2.1 85 = .ok (.iaload, 1) := by decide +kernel
theorem dc_Mo_value_86 : decode m_Mo_value.2.1 86 = .ok (.goto 10, 3) := by decide +kernel
theorem dc_Mo_value_89 : decode m_Mo_value.2.1 89 = .ok (.aload_n 0, 1) := by decide +kernel
theorem dc_Mo_value_90 : decode m_Mo_value.2.1 90 = .ok (.getfield 56, 3) := by decide +kernel
theorem dc_Mo_value_93 : decode m_Mo_value.2.1 93 = .ok (.iload 4, 2) := by decide +kernel
theorem dc_Mo_value_95 : decode m_Mo_value.2.1 95 = .ok (.iaload, 1) := by decide +kernel
theorem dc_Mo_value_96 : decode m_Mo_value.2.1 96 = .ok (.ireturn, 1) := by decide +kernel
theorem dc_Mo_value_97 : decode m_Mo_value.2.1 97 = .ok (.aload_n 0, 1) := by decide +kernel
theorem dc_Mo_value_98 : decode m_Mo_value.2.1 98 = .ok (.getfield 50, 3) := by decide +kernel
theorem dc_Mo_value_101 : decode m_Mo_value.2.1 101 = .ok (.iload 4, 2) := by decide +kernel
theorem dc_Mo_value_103 : decode m_Mo_value.2.1 103 = .ok (.iaload, 1) := by decide +kernel
theorem dc_Mo_value_104 : decode m_Mo_value.2.1 104 = .ok (.ireturn, 1) := by decide +kernel
theorem dc_Mo_value_105 : decode m_Mo_value.2.1 105 = .ok (.aload_n 0, 1) := by decide +kernel
theorem dc_Mo_value_106 : decode m_Mo_value.2.1 106 = .ok (.getfield 53, 3) := by decide +kernel
theorem dc_Mo_value_109 : decode m_Mo_value.2.1 109 = .ok (.iload 4, 2) := by decide +kernel
theorem dc_Mo_value_111 : decode m_Mo_value.2.1 111 = .ok (.iaload, 1) := by decide +kernel
theorem dc_Mo_value_112 : decode m_Mo_value.2.1 112 = .ok (.ireturn, 1) := by decide +kernel
theorem dc_Mo_value_113 : decode m_Mo_value.2.1 113 = .ok (.aload_n 0, 1) := by decide +kernel
theorem dc_Mo_value_114 : decode m_Mo_value.2.1 114 = .ok (.getfield 59, 3) := by decide +kernel
theorem dc_Mo_value_117 : decode m_Mo_value.2.1 117 = .ok (.iload 4, 2) := by decide +kernel
theorem dc_Mo_value_119 : decode m_Mo_value.2.1 119 = .ok (.iaload, 1) := by decide +kernel
theorem dc_Mo_value_120 : decode m_Mo_value.2.1 120 = .ok (.ireturn, 1) := by decide +kernel
theorem dc_Mo_value_121 : decode m_Mo_value.2.1 121 = .ok (.aload_n 0, 1) := by decide +kernel
theorem dc_Mo_value_122 : decode m_Mo_value.2.1 122 = .ok (.getfield 62, 3) := by decide +kernel
theorem dc_Mo_value_125 : decode m_Mo_value.2.1 125 = .ok (.iload 4, 2) := by decide +kernel
theorem dc_Mo_value_127 : decode m_Mo_value.2.1 127 = .ok (.iaload, 1) := by decide +kernel
theorem dc_Mo_value_128 : decode m_Mo_value.2.1 128 = .ok (.ireturn, 1) := by decide +kernel
theorem dc_Mo_value_129 : decode m_Mo_value.2.1 129 = .ok (.iconst (-1), 1) := by decide +kernel
theorem dc_Mo_value_130 : decode m_Mo_value.2.1 130 = .ok (.ireturn, 1) := by decide +kernel
theorem b_Mo_value_0 {E : En_t} {d : Nat} {σ : S_t} {Q : Option Value → S_t → Prop} {x1 : Int32} {x2 : Int32} {x3 : Int32}
    (h : CI E d m_Mo_has [pv E 0, .int x1, .int x2] σ (fun r2 σ1 => (¬ r2 = 0 → (x3 = (0 : Int32) → vp_in (((500 : Int32) * x1) + x2) 4500 ∧ (Q (some (.int (gI σ1 13 (((500 : Int32) * x1) + x2).toNatClampNeg))) σ1)) ∧ (x3 = (1 : Int32) → vp_in (((500 : Int32) * x1) + x2) 4500 ∧ ((¬ (gI σ1 13 (((500 : Int32) * x1) + x2).toNatClampNeg) = (4 : Int32) → vp_in (((500 : Int32) * x1) + x2) 4500 ∧ (Q (some (.int (gI σ1 16 (((500 : Int32) * x1) + x2).toNatClampNeg))) σ1)) ∧ ((gI σ1 13 (((500 : Int32) * x1) + x2).toNatClampNeg) = (4 : Int32) → vp_in (((500 : Int32) * x1) + x2) 4500 ∧ (Q (some (.int (gI σ1 22 (((500 : Int32) * x1) + x2).toNatClampNeg))) σ1)))) ∧ (x3 = (2 : Int32) → vp_in (((500 : Int32) * x1) + x2) 4500 ∧ (Q (some (.int (gI σ1 14 (((500 : Int32) * x1) + x2).toNatClampNeg))) σ1)) ∧ (x3 = (3 : Int32) → vp_in (((500 : Int32) * x1) + x2) 4500 ∧ (Q (some (.int (gI σ1 15 (((500 : Int32) * x1) + x2).toNatClampNeg))) σ1)) ∧ (x3 = (4 : Int32) → vp_in (((500 : Int32) * x1) + x2) 4500 ∧ (Q (some (.int (gI σ1 17 (((500 : Int32) * x1) + x2).toNatClampNeg))) σ1)) ∧ (x3 = (5 : Int32) → vp_in (((500 : Int32) * x1) + x2) 4500 ∧ (Q (some (.int (gI σ1 18 (((500 : Int32) * x1) + x2).toNatClampNeg))) σ1)) ∧ (¬ x3 = (0 : Int32) → ¬ x3 = (1 : Int32) → ¬ x3 = (2 : Int32) → ¬ x3 = (3 : Int32) → ¬ x3 = (4 : Int32) → ¬ x3 = (5 : Int32) → Q (some (.int (-1 : Int32))) σ1)) ∧ (r2 = 0 → Q (some (.int (-1 : Int32))) σ1))) :
    JE E (d + 1) m_Mo_value 0 [(0, pv E 0), (1, .int x1), (2, .int x2), (3, .int x3)] [] σ Q := by
  refine J_aload_n dc_Mo_value_0 (Eq.refl 1) 0 rfl ?_
  refine J_iload_n dc_Mo_value_1 (Eq.refl 2) 1 rfl ?_
  refine J_iload_n dc_Mo_value_2 (Eq.refl 3) 2 rfl ?_
  refine J_callVI (As := [.int x1, .int x2]) (st := []) dc_Mo_value_3 (Eq.refl 6) lk_Mo_408 mi_Mo_has rfl (Nat.le_of_ble_eq_true rfl) rfl rfl (Nat.le_of_ble_eq_true rfl) rfl (Nat.le_of_ble_eq_true rfl) (CI.mono h (fun r2 σ1 h => ?_))
  refine J_if_ne dc_Mo_value_6 (Eq.refl 9) rfl (fun hc => ?_) (fun hc => ?_)
  · have h := h.1 hc
    refine J_sipush (v := (500 : Int32)) dc_Mo_value_11 (Eq.refl 14) rfl ?_
    refine J_iload_n dc_Mo_value_14 (Eq.refl 15) 1 rfl ?_
    refine J_imul dc_Mo_value_15 (Eq.refl 16) ?_
    refine J_iload_n dc_Mo_value_16 (Eq.refl 17) 2 rfl ?_
    refine J_iadd dc_Mo_value_17 (Eq.refl 18) ?_
    refine J_istore (L' := [(4, .int (((500 : Int32) * x1) + x2)), (0, pv E 0), (1, .int x1), (2, .int x2), (3, .int x3)]) dc_Mo_value_18 (Eq.refl 20) (Nat.le_of_ble_eq_true rfl) rfl ?_
    refine J_iload_n dc_Mo_value_20 (Eq.refl 21) 4 rfl ?_
    by_cases q0 : x3 = (0 : Int32)
    · have h := h.1 q0
      refine J_tableIn (tgt := 60) dc_Mo_value_21 (by rw [q0]; decide) (by rw [q0]; decide) (by rw [q0]; rfl) rfl ?_
      refine J_aload_n dc_Mo_value_60 (Eq.refl 61) 1 rfl ?_
      refine J_getF (y := 13) dc_Mo_value_61 (Eq.refl 64) fl_Mo_47 (Nat.le_of_ble_eq_true rfl) rfl (Or.inl rfl) rfl ?_
      refine J_iload dc_Mo_value_64 (Eq.refl 66) 0 rfl ?_
      obtain ⟨hg, h⟩ := h
      refine J_iald dc_Mo_value_66 (Eq.refl 67) rfl rfl hg ?_
      exact J_iret dc_Mo_value_67 rfl h
    have h := h.2
    by_cases q1 : x3 = (1 : Int32)
    · have h := h.1 q1
      refine J_tableIn (tgt := 68) dc_Mo_value_21 (by rw [q1]; decide) (by rw [q1]; decide) (by rw [q1]; rfl) rfl ?_
      refine J_aload_n dc_Mo_value_68 (Eq.refl 69) 1 rfl ?_
      refine J_getF (y := 13) dc_Mo_value_69 (Eq.refl 72) fl_Mo_47 (Nat.le_of_ble_eq_true rfl) rfl (Or.inl rfl) rfl ?_
      refine J_iload dc_Mo_value_72 (Eq.refl 74) 0 rfl ?_
      obtain ⟨hg, h⟩ := h
      refine J_iald dc_Mo_value_74 (Eq.refl 75) rfl rfl hg ?_
      refine J_iconst (v := (4 : Int32)) dc_Mo_value_75 (Eq.refl 76) rfl ?_
      refine J_icmp_ne dc_Mo_value_76 (Eq.refl 79) rfl (fun hc => ?_) (fun hc => ?_)
      · have h := h.1 hc
        refine J_aload_n dc_Mo_value_89 (Eq.refl 90) 1 rfl ?_
        refine J_getF (y := 16) dc_Mo_value_90 (Eq.refl 93) fl_Mo_56 (Nat.le_of_ble_eq_true rfl) rfl (Or.inl rfl) rfl ?_
        refine J_iload dc_Mo_value_93 (Eq.refl 95) 0 rfl ?_
        obtain ⟨hg, h⟩ := h
        refine J_iald dc_Mo_value_95 (Eq.refl 96) rfl rfl hg ?_
        exact J_iret dc_Mo_value_96 rfl h
      · have h := h.2 hc
        refine J_aload_n dc_Mo_value_79 (Eq.refl 80) 1 rfl ?_
        refine J_getF (y := 22) dc_Mo_value_80 (Eq.refl 83) fl_Mo_74 (Nat.le_of_ble_eq_true rfl) rfl (Or.inl rfl) rfl ?_
        refine J_iload dc_Mo_value_83 (Eq.refl 85) 0 rfl ?_
        obtain ⟨hg, h⟩ := h
        refine J_iald dc_Mo_value_85 (Eq.refl 86) rfl rfl hg ?_
        refine J_goto dc_Mo_value_86 rfl ?_
        exact J_iret dc_Mo_value_96 rfl h
    have h := h.2
    by_cases q2 : x3 = (2 : Int32)
    · have h := h.1 q2
      refine J_tableIn (tgt := 97) dc_Mo_value_21 (by rw [q2]; decide) (by rw [q2]; decide) (by rw [q2]; rfl) rfl ?_
      refine J_aload_n dc_Mo_value_97 (Eq.refl 98) 1 rfl ?_
      refine J_getF (y := 14) dc_Mo_value_98 (Eq.refl 101) fl_Mo_50 (Nat.le_of_ble_eq_true rfl) rfl (Or.inl rfl) rfl ?_
      refine J_iload dc_Mo_value_101 (Eq.refl 103) 0 rfl ?_
      obtain ⟨hg, h⟩ := h
      refine J_iald dc_Mo_value_103 (Eq.refl 104) rfl rfl hg ?_
      exact J_iret dc_Mo_value_104 rfl h
    have h := h.2
    by_cases q3 : x3 = (3 : Int32)
    · have h := h.1 q3
      refine J_tableIn (tgt := 105) dc_Mo_value_21 (by rw [q3]; decide) (by rw [q3]; decide) (by rw [q3]; rfl) rfl ?_
      refine J_aload_n dc_Mo_value_105 (Eq.refl 106) 1 rfl ?_
      refine J_getF (y := 15) dc_Mo_value_106 (Eq.refl 109) fl_Mo_53 (Nat.le_of_ble_eq_true rfl) rfl (Or.inl rfl) rfl ?_
      refine J_iload dc_Mo_value_109 (Eq.refl 111) 0 rfl ?_
      obtain ⟨hg, h⟩ := h
      refine J_iald dc_Mo_value_111 (Eq.refl 112) rfl rfl hg ?_
      exact J_iret dc_Mo_value_112 rfl h
    have h := h.2
    by_cases q4 : x3 = (4 : Int32)
    · have h := h.1 q4
      refine J_tableIn (tgt := 113) dc_Mo_value_21 (by rw [q4]; decide) (by rw [q4]; decide) (by rw [q4]; rfl) rfl ?_
      refine J_aload_n dc_Mo_value_113 (Eq.refl 114) 1 rfl ?_
      refine J_getF (y := 17) dc_Mo_value_114 (Eq.refl 117) fl_Mo_59 (Nat.le_of_ble_eq_true rfl) rfl (Or.inl rfl) rfl ?_
      refine J_iload dc_Mo_value_117 (Eq.refl 119) 0 rfl ?_
      obtain ⟨hg, h⟩ := h
      refine J_iald dc_Mo_value_119 (Eq.refl 120) rfl rfl hg ?_
      exact J_iret dc_Mo_value_120 rfl h
    have h := h.2
    by_cases q5 : x3 = (5 : Int32)
    · have h := h.1 q5
      refine J_tableIn (tgt := 121) dc_Mo_value_21 (by rw [q5]; decide) (by rw [q5]; decide) (by rw [q5]; rfl) rfl ?_
      refine J_aload_n dc_Mo_value_121 (Eq.refl 122) 1 rfl ?_
      refine J_getF (y := 18) dc_Mo_value_122 (Eq.refl 125) fl_Mo_62 (Nat.le_of_ble_eq_true rfl) rfl (Or.inl rfl) rfl ?_
      refine J_iload dc_Mo_value_125 (Eq.refl 127) 0 rfl ?_
      obtain ⟨hg, h⟩ := h
      refine J_iald dc_Mo_value_127 (Eq.refl 128) rfl rfl hg ?_
      exact J_iret dc_Mo_value_128 rfl h
    have h := h.2
    have h := h q0 q1 q2 q3 q4 q5
    refine J_tableOut (tgt := 129) dc_Mo_value_21 (sw_out (n := 5) (by decide) (fun k hk => ?_)) rfl ?_
    · have hk : k = 0 ∨ k = 1 ∨ k = 2 ∨ k = 3 ∨ k = 4 ∨ k = 5 := by omega
      rcases hk with rfl | rfl | rfl | rfl | rfl | rfl
      · exact q0
      · exact q1
      · exact q2
      · exact q3
      · exact q4
      · exact q5
    · skip
      refine J_iconst (v := (-1 : Int32)) dc_Mo_value_129 (Eq.refl 130) rfl ?_
      exact J_iret dc_Mo_value_130 rfl h
  · have h := h.2 hc
    refine J_iconst (v := (-1 : Int32)) dc_Mo_value_9 (Eq.refl 10) rfl ?_
    exact J_iret dc_Mo_value_10 rfl h
theorem dc_Mo_bits_0 : decode m_Mo_bits.2.1 0 = .ok (.aload_n 0, 1) := by decide +kernel
theorem dc_Mo_bits_1 : decode m_Mo_bits.2.1 1 = .ok (.iload_n 1, 1) := by decide +kernel
theorem dc_Mo_bits_2 : decode m_Mo_bits.2.1 2 = .ok (.iload_n 2, 1) := by decide +kernel
theorem dc_Mo_bits_3 : decode m_Mo_bits.2.1 3 = .ok (.invokevirtual 408, 3) := by decide +kernel
theorem dc_Mo_bits_6 : decode m_Mo_bits.2.1 6 = .ok (.ifCond .eq 18, 3) := by decide +kernel
theorem dc_Mo_bits_9 : decode m_Mo_bits.2.1 9 = .ok (.aload_n 0, 1) := by decide +kernel
theorem dc_Mo_bits_10 : decode m_Mo_bits.2.1 10 = .ok (.getfield 83, 3) := by decide +kernel
theorem dc_Mo_bits_13 : decode m_Mo_bits.2.1 13 = .ok (.sipush 500, 3) := by decide +kernel
theorem dc_Mo_bits_16 : decode m_Mo_bits.2.1 16 = .ok (.iload_n 1, 1) := by decide +kernel
theorem dc_Mo_bits_17 : decode m_Mo_bits.2.1 17 = .ok (.imul, 1) := by decide +kernel
theorem dc_Mo_bits_18 : decode m_Mo_bits.2.1 18 = .ok (.iload_n 2, 1) := by decide +kernel
theorem dc_Mo_bits_19 : decode m_Mo_bits.2.1 19 = .ok (.iadd, 1) := by decide +kernel
theorem dc_Mo_bits_20 : decode m_Mo_bits.2.1 20 = .ok (.laload, 1) := by decide +kernel
theorem dc_Mo_bits_21 : decode m_Mo_bits.2.1 21 = .ok (.goto 4, 3) := by decide +kernel
theorem dc_Mo_bits_24 : decode m_Mo_bits.2.1 24 = .ok (.lconst 0, 1) := by decide +kernel
theorem dc_Mo_bits_25 : decode m_Mo_bits.2.1 25 = .ok (.lreturn, 1) := by decide +kernel
theorem b_Mo_bits_0 {E : En_t} {d : Nat} {σ : S_t} {Q : Option Value → S_t → Prop} {x1 : Int32} {x2 : Int32}
    (h : CI E d m_Mo_has [pv E 0, .int x1, .int x2] σ (fun r2 σ1 => (r2 = 0 → Q (some (.long (0 : Int64))) σ1) ∧ (¬ r2 = 0 → vp_in (((500 : Int32) * x1) + x2) 4500 ∧ (Q (some (.long (gL σ1 25 (((500 : Int32) * x1) + x2).toNatClampNeg))) σ1)))) :
    JE E (d + 1) m_Mo_bits 0 [(0, pv E 0), (1, .int x1), (2, .int x2)] [] σ Q := by
  refine J_aload_n dc_Mo_bits_0 (Eq.refl 1) 0 rfl ?_
  refine J_iload_n dc_Mo_bits_1 (Eq.refl 2) 1 rfl ?_
  refine J_iload_n dc_Mo_bits_2 (Eq.refl 3) 2 rfl ?_
  refine J_callVI (As := [.int x1, .int x2]) (st := []) dc_Mo_bits_3 (Eq.refl 6) lk_Mo_408 mi_Mo_has rfl (Nat.le_of_ble_eq_true rfl) rfl rfl (Nat.le_of_ble_eq_true rfl) rfl (Nat.le_of_ble_eq_true rfl) (CI.mono h (fun r2 σ1 h => ?_))
  refine J_if_eq dc_Mo_bits_6 (Eq.refl 9) rfl (fun hc => ?_) (fun hc => ?_)
  · have h := h.1 hc
    refine J_lconst (v := (0 : Int64)) dc_Mo_bits_24 (Eq.refl 25) rfl ?_
    exact J_lret dc_Mo_bits_25 rfl h
  · have h := h.2 hc
    refine J_aload_n dc_Mo_bits_9 (Eq.refl 10) 0 rfl ?_
    refine J_getF (y := 25) dc_Mo_bits_10 (Eq.refl 13) fl_Mo_83 (Nat.le_of_ble_eq_true rfl) rfl (Or.inl rfl) rfl ?_
    refine J_sipush (v := (500 : Int32)) dc_Mo_bits_13 (Eq.refl 16) rfl ?_
    refine J_iload_n dc_Mo_bits_16 (Eq.refl 17) 1 rfl ?_
    refine J_imul dc_Mo_bits_17 (Eq.refl 18) ?_
    refine J_iload_n dc_Mo_bits_18 (Eq.refl 19) 2 rfl ?_
    refine J_iadd dc_Mo_bits_19 (Eq.refl 20) ?_
    obtain ⟨hg, h⟩ := h
    refine J_lald dc_Mo_bits_20 (Eq.refl 21) rfl rfl hg ?_
    refine J_goto dc_Mo_bits_21 rfl ?_
    exact J_lret dc_Mo_bits_25 rfl h
theorem dc_Mo_character_0 : decode m_Mo_character.2.1 0 = .ok (.aload_n 0, 1) := by decide +kernel
theorem dc_Mo_character_1 : decode m_Mo_character.2.1 1 = .ok (.iload_n 1, 1) := by decide +kernel
theorem dc_Mo_character_2 : decode m_Mo_character.2.1 2 = .ok (.iload_n 2, 1) := by decide +kernel
theorem dc_Mo_character_3 : decode m_Mo_character.2.1 3 = .ok (.invokevirtual 408, 3) := by decide +kernel
theorem dc_Mo_character_6 : decode m_Mo_character.2.1 6 = .ok (.ifCond .ne 5, 3) := by decide +kernel
theorem dc_Mo_character_9 : decode m_Mo_character.2.1 9 = .ok (.iconst (-1), 1) := by decide +kernel
theorem dc_Mo_character_10 : decode m_Mo_character.2.1 10 = .ok (.ireturn, 1) := by decide +kernel
theorem dc_Mo_character_11 : decode m_Mo_character.2.1 11 = .ok (.sipush 500, 3) := by decide +kernel
theorem dc_Mo_character_14 : decode m_Mo_character.2.1 14 = .ok (.iload_n 1, 1) := by decide +kernel
theorem dc_Mo_character_15 : decode m_Mo_character.2.1 15 = .ok (.imul, 1) := by decide +kernel
theorem dc_Mo_character_16 : decode m_Mo_character.2.1 16 = .ok (.iload_n 2, 1) := by decide +kernel
theorem dc_Mo_character_17 : decode m_Mo_character.2.1 17 = .ok (.iadd, 1) := by decide +kernel
theorem dc_Mo_character_18 : decode m_Mo_character.2.1 18 = .ok (.istore 5, 2) := by decide +kernel
theorem dc_Mo_character_20 : decode m_Mo_character.2.1 20 = .ok (.iload_n 3, 1) := by decide +kernel
theorem dc_Mo_character_21 : decode m_Mo_character.2.1 21 = .ok (.ifCond .ne 13, 3) := by decide +kernel
theorem dc_Mo_character_24 : decode m_Mo_character.2.1 24 = .ok (.aload_n 0, 1) := by decide +kernel
theorem dc_Mo_character_25 : decode m_Mo_character.2.1 25 = .ok (.getfield 68, 3) := by decide +kernel
theorem dc_Mo_character_28 : decode m_Mo_character.2.1 28 = .ok (.iload 5, 2) := by decide +kernel
theorem dc_Mo_character_30 : decode m_Mo_character.2.1 30 = .ok (.iaload, 1) := by decide +kernel
theorem dc_Mo_character_31 : decode m_Mo_character.2.1 31 = .ok (.goto 30, 3) := by decide +kernel
theorem dc_Mo_character_34 : decode m_Mo_character.2.1 34 = .ok (.iload_n 3, 1) := by decide +kernel
theorem dc_Mo_character_35 : decode m_Mo_character.2.1 35 = .ok (.iconst 1, 1) := by decide +kernel
theorem dc_Mo_character_36 : decode m_Mo_character.2.1 36 = .ok (.if_icmp .ne 24, 3) := by decide +kernel
theorem dc_Mo_character_39 : decode m_Mo_character.2.1 39 = .ok (.aload_n 0, 1) := by decide +kernel
theorem dc_Mo_character_40 : decode m_Mo_character.2.1 40 = .ok (.getfield 47, 3) := by decide +kernel
theorem dc_Mo_character_43 : decode m_Mo_character.2.1 43 = .ok (.iload 5, 2) := by decide +kernel
theorem dc_Mo_character_45 : decode m_Mo_character.2.1 45 = .ok (.iaload, 1) := by decide +kernel
theorem dc_Mo_character_46 : decode m_Mo_character.2.1 46 = .ok (.iconst 4, 1) := by decide +kernel
theorem dc_Mo_character_47 : decode m_Mo_character.2.1 47 = .ok (.if_icmp .ne 13, 3) := by decide +kernel
theorem dc_Mo_character_50 : decode m_Mo_character.2.1 50 = .ok (.aload_n 0, 1) := by decide +kernel
theorem dc_Mo_character_51 : decode m_Mo_character.2.1 51 = .ok (.getfield 74, 3) := by decide +kernel
theorem dc_Mo_character_54 : decode m_Mo_character.2.1 54 = .ok (.iload 5, 2) := by decide +kernel
theorem dc_Mo_character_56 : decode m_Mo_character.2.1 56 = .ok (.iaload, 1) := by decide +kernel
theorem dc_Mo_character_57 : decode m_Mo_character.2.1 57 = .ok (.goto 4, 3) := by decide +kernel
theorem dc_Mo_character_60 : decode m_Mo_character.2.1 60 = .ok (.iconst (-1), 1) := by decide +kernel
theorem dc_Mo_character_61 : decode m_Mo_character.2.1 61 = .ok (.istore 6, 2) := by decide +kernel
theorem dc_Mo_character_63 : decode m_Mo_character.2.1 63 = .ok (.iload 4, 2) := by decide +kernel
theorem dc_Mo_character_65 : decode m_Mo_character.2.1 65 = .ok (.ifCond .lt 10, 3) := by decide +kernel
theorem dc_Mo_character_68 : decode m_Mo_character.2.1 68 = .ok (.iload 4, 2) := by decide +kernel
theorem dc_Mo_character_70 : decode m_Mo_character.2.1 70 = .ok (.iload 6, 2) := by decide +kernel
theorem dc_Mo_character_72 : decode m_Mo_character.2.1 72 = .ok (.if_icmp .lt 5, 3) := by decide +kernel
theorem dc_Mo_character_75 : decode m_Mo_character.2.1 75 = .ok (.iconst (-1), 1) := by decide +kernel
theorem dc_Mo_character_76 : decode m_Mo_character.2.1 76 = .ok (.ireturn, 1) := by decide +kernel
theorem dc_Mo_character_77 : decode m_Mo_character.2.1 77 = .ok (.aload_n 0, 1) := by decide +kernel
theorem dc_Mo_character_78 : decode m_Mo_character.2.1 78 = .ok (.getfield 88, 3) := by decide +kernel
theorem dc_Mo_character_81 : decode m_Mo_character.2.1 81 = .ok (.sipush 4000, 3) := by decide +kernel
theorem dc_Mo_character_84 : decode m_Mo_character.2.1 84 = .ok (.iload_n 1, 1) := by decide +kernel
theorem dc_Mo_character_85 : decode m_Mo_character.2.1 85 = .ok (.imul, 1) := by decide +kernel
theorem dc_Mo_character_86 : decode m_Mo_character.2.1 86 = .ok (.iload_n 3, 1) := by decide +kernel
theorem dc_Mo_character_87 : decode m_Mo_character.2.1 87 = .ok (.ifCond .ne 13, 3) := by decide +kernel
theorem dc_Mo_character_90 : decode m_Mo_character.2.1 90 = .ok (.aload_n 0, 1) := by decide +kernel
theorem dc_Mo_character_91 : decode m_Mo_character.2.1 91 = .ok (.getfield 65, 3) := by decide +kernel
theorem dc_Mo_character_94 : decode m_Mo_character.2.1 94 = .ok (.iload 5, 2) := by decide +kernel
theorem dc_Mo_character_96 : decode m_Mo_character.2.1 96 = .ok (.iaload, 1) := by decide +kernel
theorem dc_Mo_character_97 : decode m_Mo_character.2.1 97 = .ok (.goto 10, 3) := by decide +kernel
theorem dc_Mo_character_100 : decode m_Mo_character.2.1 100 = .ok (.aload_n 0, 1) := by decide +kernel
theorem dc_Mo_character_101 : decode m_Mo_character.2.1 101 = .ok (.getfield 71, 3) := by decide +kernel
theorem dc_Mo_character_104 : decode m_Mo_character.2.1 104 = .ok (.iload 5, 2) := by decide +kernel
theorem dc_Mo_character_106 : decode m_Mo_character.2.1 106 = .ok (.iaload, 1) := by decide +kernel
theorem dc_Mo_character_107 : decode m_Mo_character.2.1 107 = .ok (.iadd, 1) := by decide +kernel
theorem dc_Mo_character_108 : decode m_Mo_character.2.1 108 = .ok (.iload 4, 2) := by decide +kernel
theorem dc_Mo_character_110 : decode m_Mo_character.2.1 110 = .ok (.iadd, 1) := by decide +kernel
theorem dc_Mo_character_111 : decode m_Mo_character.2.1 111 = .ok (.iaload, 1) := by decide +kernel
theorem dc_Mo_character_112 : decode m_Mo_character.2.1 112 = .ok (.ireturn, 1) := by decide +kernel
theorem b_Mo_character_0 {E : En_t} {d : Nat} {σ : S_t} {Q : Option Value → S_t → Prop} {x1 : Int32} {x2 : Int32} {x3 : Int32} {x4 : Int32}
    (h : CI E d m_Mo_has [pv E 0, .int x1, .int x2] σ (fun r2 σ1 => (¬ r2 = 0 → (¬ x3 = 0 → (¬ x3 = (1 : Int32) → JE E (d + 1) m_Mo_character 60 [(0, pv E 0), (1, .int x1), (3, .int x3), (4, .int x4), (5, .int (((500 : Int32) * x1) + x2))] [] σ1 Q) ∧ (x3 = (1 : Int32) → vp_in (((500 : Int32) * x1) + x2) 4500 ∧ ((¬ (gI σ1 13 (((500 : Int32) * x1) + x2).toNatClampNeg) = (4 : Int32) → JE E (d + 1) m_Mo_character 60 [(0, pv E 0), (1, .int x1), (3, .int x3), (4, .int x4), (5, .int (((500 : Int32) * x1) + x2))] [] σ1 Q) ∧ ((gI σ1 13 (((500 : Int32) * x1) + x2).toNatClampNeg) = (4 : Int32) → vp_in (((500 : Int32) * x1) + x2) 4500 ∧ (JE E (d + 1) m_Mo_character 61 [(0, pv E 0), (1, .int x1), (3, .int x3), (4, .int x4), (5, .int (((500 : Int32) * x1) + x2))] [.int (gI σ1 22 (((500 : Int32) * x1) + x2).toNatClampNeg)] σ1 Q))))) ∧ (x3 = 0 → vp_in (((500 : Int32) * x1) + x2) 4500 ∧ (JE E (d + 1) m_Mo_character 61 [(0, pv E 0), (1, .int x1), (3, .int x3), (4, .int x4), (5, .int (((500 : Int32) * x1) + x2))] [.int (gI σ1 20 (((500 : Int32) * x1) + x2).toNatClampNeg)] σ1 Q))) ∧ (r2 = 0 → Q (some (.int (-1 : Int32))) σ1))) :
    JE E (d + 1) m_Mo_character 0 [(0, pv E 0), (1, .int x1), (2, .int x2), (3, .int x3), (4, .int x4)] [] σ Q := by
  refine J_aload_n dc_Mo_character_0 (Eq.refl 1) 0 rfl ?_
  refine J_iload_n dc_Mo_character_1 (Eq.refl 2) 1 rfl ?_
  refine J_iload_n dc_Mo_character_2 (Eq.refl 3) 2 rfl ?_
  refine J_callVI (As := [.int x1, .int x2]) (st := []) dc_Mo_character_3 (Eq.refl 6) lk_Mo_408 mi_Mo_has rfl (Nat.le_of_ble_eq_true rfl) rfl rfl (Nat.le_of_ble_eq_true rfl) rfl (Nat.le_of_ble_eq_true rfl) (CI.mono h (fun r2 σ1 h => ?_))
  refine J_if_ne dc_Mo_character_6 (Eq.refl 9) rfl (fun hc => ?_) (fun hc => ?_)
  · have h := h.1 hc
    refine J_sipush (v := (500 : Int32)) dc_Mo_character_11 (Eq.refl 14) rfl ?_
    refine J_iload_n dc_Mo_character_14 (Eq.refl 15) 1 rfl ?_
    refine J_imul dc_Mo_character_15 (Eq.refl 16) ?_
    refine J_iload_n dc_Mo_character_16 (Eq.refl 17) 2 rfl ?_
    refine J_iadd dc_Mo_character_17 (Eq.refl 18) ?_
    refine J_istore (L' := [(5, .int (((500 : Int32) * x1) + x2)), (0, pv E 0), (1, .int x1), (2, .int x2), (3, .int x3), (4, .int x4)]) dc_Mo_character_18 (Eq.refl 20) (Nat.le_of_ble_eq_true rfl) rfl ?_
    refine J_iload_n dc_Mo_character_20 (Eq.refl 21) 4 rfl ?_
    refine J_if_ne dc_Mo_character_21 (Eq.refl 24) rfl (fun hc => ?_) (fun hc => ?_)
    · have h := h.1 hc
      refine J_iload_n dc_Mo_character_34 (Eq.refl 35) 4 rfl ?_
      refine J_iconst (v := (1 : Int32)) dc_Mo_character_35 (Eq.refl 36) rfl ?_
      refine J_icmp_ne dc_Mo_character_36 (Eq.refl 39) rfl (fun hc => ?_) (fun hc => ?_)
      · have h := h.1 hc
        refine J_sub [1, 2, 4, 5, 0] rfl ?_
        exact h
      · have h := h.2 hc
        refine J_aload_n dc_Mo_character_39 (Eq.refl 40) 1 rfl ?_
        refine J_getF (y := 13) dc_Mo_character_40 (Eq.refl 43) fl_Mo_47 (Nat.le_of_ble_eq_true rfl) rfl (Or.inl rfl) rfl ?_
        refine J_iload dc_Mo_character_43 (Eq.refl 45) 0 rfl ?_
        obtain ⟨hg, h⟩ := h
        refine J_iald dc_Mo_character_45 (Eq.refl 46) rfl rfl hg ?_
        refine J_iconst (v := (4 : Int32)) dc_Mo_character_46 (Eq.refl 47) rfl ?_
        refine J_icmp_ne dc_Mo_character_47 (Eq.refl 50) rfl (fun hc => ?_) (fun hc => ?_)
        · have h := h.1 hc
          refine J_sub [1, 2, 4, 5, 0] rfl ?_
          exact h
        · have h := h.2 hc
          refine J_aload_n dc_Mo_character_50 (Eq.refl 51) 1 rfl ?_
          refine J_getF (y := 22) dc_Mo_character_51 (Eq.refl 54) fl_Mo_74 (Nat.le_of_ble_eq_true rfl) rfl (Or.inl rfl) rfl ?_
          refine J_iload dc_Mo_character_54 (Eq.refl 56) 0 rfl ?_
          obtain ⟨hg, h⟩ := h
          refine J_iald dc_Mo_character_56 (Eq.refl 57) rfl rfl hg ?_
          refine J_goto dc_Mo_character_57 rfl ?_
          refine J_sub [1, 2, 4, 5, 0] rfl ?_
          exact h
    · have h := h.2 hc
      refine J_aload_n dc_Mo_character_24 (Eq.refl 25) 1 rfl ?_
      refine J_getF (y := 20) dc_Mo_character_25 (Eq.refl 28) fl_Mo_68 (Nat.le_of_ble_eq_true rfl) rfl (Or.inl rfl) rfl ?_
      refine J_iload dc_Mo_character_28 (Eq.refl 30) 0 rfl ?_
      obtain ⟨hg, h⟩ := h
      refine J_iald dc_Mo_character_30 (Eq.refl 31) rfl rfl hg ?_
      refine J_goto dc_Mo_character_31 rfl ?_
      refine J_sub [1, 2, 4, 5, 0] rfl ?_
      exact h
  · have h := h.2 hc
    refine J_iconst (v := (-1 : Int32)) dc_Mo_character_9 (Eq.refl 10) rfl ?_
    exact J_iret dc_Mo_character_10 rfl h
theorem b_Mo_character_60 {E : En_t} {d : Nat} {σ : S_t} {Q : Option Value → S_t → Prop} {x1 : Int32} {x3 : Int32} {x4 : Int32} {x5 : Int32}
    (h : JE E (d + 1) m_Mo_character 61 [(0, pv E 0), (1, .int x1), (3, .int x3), (4, .int x4), (5, .int x5)] [.int (-1 : Int32)] σ Q) :
    JE E (d + 1) m_Mo_character 60 [(0, pv E 0), (1, .int x1), (3, .int x3), (4, .int x4), (5, .int x5)] [] σ Q := by
  refine J_iconst (v := (-1 : Int32)) dc_Mo_character_60 (Eq.refl 61) rfl ?_
  exact h
theorem b_Mo_character_61 {E : En_t} {d : Nat} {σ : S_t} {Q : Option Value → S_t → Prop} {x1 : Int32} {x3 : Int32} {x4 : Int32} {x5 : Int32} {s0 : Int32}
    (h : (x4 < 0 → Q (some (.int (-1 : Int32))) σ) ∧ (¬ x4 < 0 → (x4 < s0 → (¬ x3 = 0 → vp_in x5 4500 ∧ (vp_in ((((4000 : Int32) * x1) + (gI σ 21 x5.toNatClampNeg)) + x4) 36000 ∧ (Q (some (.int (gI σ 26 ((((4000 : Int32) * x1) + (gI σ 21 x5.toNatClampNeg)) + x4).toNatClampNeg))) σ))) ∧ (x3 = 0 → vp_in x5 4500 ∧ (vp_in ((((4000 : Int32) * x1) + (gI σ 19 x5.toNatClampNeg)) + x4) 36000 ∧ (Q (some (.int (gI σ 26 ((((4000 : Int32) * x1) + (gI σ 19 x5.toNatClampNeg)) + x4).toNatClampNeg))) σ)))) ∧ (¬ x4 < s0 → Q (some (.int (-1 : Int32))) σ))) :
    JE E (d + 1) m_Mo_character 61 [(0, pv E 0), (1, .int x1), (3, .int x3), (4, .int x4), (5, .int x5)] [.int s0] σ Q := by
  refine J_istore (L' := [(6, .int s0), (0, pv E 0), (1, .int x1), (3, .int x3), (4, .int x4), (5, .int x5)]) dc_Mo_character_61 (Eq.refl 63) (Nat.le_of_ble_eq_true rfl) rfl ?_
  refine J_iload dc_Mo_character_63 (Eq.refl 65) 4 rfl ?_
  refine J_if_lt dc_Mo_character_65 (Eq.refl 68) rfl (fun hc => ?_) (fun hc => ?_)
  · have h := h.1 hc
    refine J_iconst (v := (-1 : Int32)) dc_Mo_character_75 (Eq.refl 76) rfl ?_
    exact J_iret dc_Mo_character_76 rfl h
  · have h := h.2 hc
    refine J_iload dc_Mo_character_68 (Eq.refl 70) 4 rfl ?_
    refine J_iload dc_Mo_character_70 (Eq.refl 72) 0 rfl ?_
    refine J_icmp_lt dc_Mo_character_72 (Eq.refl 75) rfl (fun hc => ?_) (fun hc => ?_)
    · have h := h.1 hc
      refine J_aload_n dc_Mo_character_77 (Eq.refl 78) 1 rfl ?_
      refine J_getF (y := 26) dc_Mo_character_78 (Eq.refl 81) fl_Mo_88 (Nat.le_of_ble_eq_true rfl) rfl (Or.inl rfl) rfl ?_
      refine J_sipush (v := (4000 : Int32)) dc_Mo_character_81 (Eq.refl 84) rfl ?_
      refine J_iload_n dc_Mo_character_84 (Eq.refl 85) 2 rfl ?_
      refine J_imul dc_Mo_character_85 (Eq.refl 86) ?_
      refine J_iload_n dc_Mo_character_86 (Eq.refl 87) 3 rfl ?_
      refine J_if_ne dc_Mo_character_87 (Eq.refl 90) rfl (fun hc => ?_) (fun hc => ?_)
      · have h := h.1 hc
        refine J_aload_n dc_Mo_character_100 (Eq.refl 101) 1 rfl ?_
        refine J_getF (y := 21) dc_Mo_character_101 (Eq.refl 104) fl_Mo_71 (Nat.le_of_ble_eq_true rfl) rfl (Or.inl rfl) rfl ?_
        refine J_iload dc_Mo_character_104 (Eq.refl 106) 5 rfl ?_
        obtain ⟨hg, h⟩ := h
        refine J_iald dc_Mo_character_106 (Eq.refl 107) rfl rfl hg ?_
        refine J_iadd dc_Mo_character_107 (Eq.refl 108) ?_
        refine J_iload dc_Mo_character_108 (Eq.refl 110) 4 rfl ?_
        refine J_iadd dc_Mo_character_110 (Eq.refl 111) ?_
        obtain ⟨hg, h⟩ := h
        refine J_iald dc_Mo_character_111 (Eq.refl 112) rfl rfl hg ?_
        exact J_iret dc_Mo_character_112 rfl h
      · have h := h.2 hc
        refine J_aload_n dc_Mo_character_90 (Eq.refl 91) 1 rfl ?_
        refine J_getF (y := 19) dc_Mo_character_91 (Eq.refl 94) fl_Mo_65 (Nat.le_of_ble_eq_true rfl) rfl (Or.inl rfl) rfl ?_
        refine J_iload dc_Mo_character_94 (Eq.refl 96) 5 rfl ?_
        obtain ⟨hg, h⟩ := h
        refine J_iald dc_Mo_character_96 (Eq.refl 97) rfl rfl hg ?_
        refine J_goto dc_Mo_character_97 rfl ?_
        refine J_iadd dc_Mo_character_107 (Eq.refl 108) ?_
        refine J_iload dc_Mo_character_108 (Eq.refl 110) 4 rfl ?_
        refine J_iadd dc_Mo_character_110 (Eq.refl 111) ?_
        obtain ⟨hg, h⟩ := h
        refine J_iald dc_Mo_character_111 (Eq.refl 112) rfl rfl hg ?_
        exact J_iret dc_Mo_character_112 rfl h
    · have h := h.2 hc
      refine J_iconst (v := (-1 : Int32)) dc_Mo_character_75 (Eq.refl 76) rfl ?_
      exact J_iret dc_Mo_character_76 rfl h
theorem dc_Mo_point_0 : decode m_Mo_point.2.1 0 = .ok (.aload_n 0, 1) := by decide +kernel
theorem dc_Mo_point_1 : decode m_Mo_point.2.1 1 = .ok (.getfield 162, 3) := by decide +kernel
theorem dc_Mo_point_4 : decode m_Mo_point.2.1 4 = .ok (.istore_n 2, 1) := by decide +kernel
theorem dc_Mo_point_5 : decode m_Mo_point.2.1 5 = .ok (.aload_n 0, 1) := by decide +kernel
theorem dc_Mo_point_6 : decode m_Mo_point.2.1 6 = .ok (.iconst 0, 1) := by decide +kernel
theorem dc_Mo_point_7 : decode m_Mo_point.2.1 7 = .ok (.putfield 162, 3) := by decide +kernel
theorem dc_Mo_point_10 : decode m_Mo_point.2.1 10 = .ok (.aload_n 0, 1) := by decide +kernel
theorem dc_Mo_point_11 : decode m_Mo_point.2.1 11 = .ok (.iload_n 2, 1) := by decide +kernel
theorem dc_Mo_point_12 : decode m_Mo_point.2.1 12 = .ok (.invokevirtual 417, 3) := by decide +kernel
theorem dc_Mo_point_15 : decode m_Mo_point.2.1 15 = .ok (.ifCond .eq 19, 3) := by decide +kernel
theorem dc_Mo_point_18 : decode m_Mo_point.2.1 18 = .ok (.iload_n 1, 1) := by decide +kernel
theorem dc_Mo_point_19 : decode m_Mo_point.2.1 19 = .ok (.invokestatic 291, 3) := by decide +kernel
theorem dc_Mo_point_22 : decode m_Mo_point.2.1 22 = .ok (.ifCond .eq 12, 3) := by decide +kernel
theorem dc_Mo_point_25 : decode m_Mo_point.2.1 25 = .ok (.aload_n 0, 1) := by decide +kernel
theorem dc_Mo_point_26 : decode m_Mo_point.2.1 26 = .ok (.getfield 31, 3) := by decide +kernel
theorem dc_Mo_point_29 : decode m_Mo_point.2.1 29 = .ok (.iload_n 1, 1) := by decide +kernel
theorem dc_Mo_point_30 : decode m_Mo_point.2.1 30 = .ok (.baload, 1) := by decide +kernel
theorem dc_Mo_point_31 : decode m_Mo_point.2.1 31 = .ok (.ifCond .ne 6, 3) := by decide +kernel
theorem dc_Mo_point_34 : decode m_Mo_point.2.1 34 = .ok (.bipush (-2), 2) := by decide +kernel
theorem dc_Mo_point_36 : decode m_Mo_point.2.1 36 = .ok (.ireturn, 1) := by decide +kernel
theorem dc_Mo_point_37 : decode m_Mo_point.2.1 37 = .ok (.iconst 0, 1) := by decide +kernel
theorem dc_Mo_point_38 : decode m_Mo_point.2.1 38 = .ok (.istore_n 3, 1) := by decide +kernel
theorem dc_Mo_point_39 : decode m_Mo_point.2.1 39 = .ok (.iconst 0, 1) := by decide +kernel
theorem dc_Mo_point_40 : decode m_Mo_point.2.1 40 = .ok (.istore 4, 2) := by decide +kernel
theorem dc_Mo_point_42 : decode m_Mo_point.2.1 42 = .ok (.iload 4, 2) := by decide +kernel
theorem dc_Mo_point_44 : decode m_Mo_point.2.1 44 = .ok (.aload_n 0, 1) := by decide +kernel
theorem dc_Mo_point_45 : decode m_Mo_point.2.1 45 = .ok (.getfield 414, 3) := by decide +kernel
theorem dc_Mo_point_48 : decode m_Mo_point.2.1 48 = .ok (.if_icmp .ge 22, 3) := by decide +kernel
theorem dc_Mo_point_51 : decode m_Mo_point.2.1 51 = .ok (.iload_n 3, 1) := by decide +kernel
theorem dc_Mo_point_52 : decode m_Mo_point.2.1 52 = .ok (.ifCond .lt 18, 3) := by decide +kernel
theorem dc_Mo_point_55 : decode m_Mo_point.2.1 55 = .ok (.aload_n 0, 1) := by decide +kernel
theorem dc_Mo_point_56 : decode m_Mo_point.2.1 56 = .ok (.iload_n 1, 1) := by decide +kernel
theorem dc_Mo_point_57 : decode m_Mo_point.2.1 57 = .ok (.iload_n 3, 1) := by decide +kernel
theorem dc_Mo_point_58 : decode m_Mo_point.2.1 58 = .ok (.iload 4, 2) := by decide +kernel
theorem dc_Mo_point_60 : decode m_Mo_point.2.1 60 = .ok (.invokevirtual 420, 3) := by decide +kernel
theorem dc_Mo_point_63 : decode m_Mo_point.2.1 63 = .ok (.istore_n 3, 1) := by decide +kernel
theorem dc_Mo_point_64 : decode m_Mo_point.2.1 64 = .ok (.iinc 4 1, 3) := by decide +kernel
theorem dc_Mo_point_67 : decode m_Mo_point.2.1 67 = .ok (.goto (-25), 3) := by decide +kernel
theorem dc_Mo_point_70 : decode m_Mo_point.2.1 70 = .ok (.iload_n 3, 1) := by decide +kernel
theorem dc_Mo_point_71 : decode m_Mo_point.2.1 71 = .ok (.ireturn, 1) := by decide +kernel
theorem b_Mo_point_0 {E : En_t} {d : Nat} {σ : S_t} {Q : Option Value → S_t → Prop} {x1 : Int32}
    (h : CI E d m_Mo_readPointer [pv E 0, .int (gI σ 0 1)] (sI σ 0 1 (0 : Int32)) (fun r2 σ1 => (r2 = 0 → Q (some (.int (-2 : Int32))) σ1) ∧ (¬ r2 = 0 → CI E d m_Mo_isShelf [.int x1] σ1 (fun r4 σ3 => (r4 = 0 → Q (some (.int (-2 : Int32))) σ3) ∧ (¬ r4 = 0 → vp_in x1 9 ∧ ((¬ (gI σ3 8 x1.toNatClampNeg) = 0 → JE E (d + 1) m_Mo_point 42 [(0, pv E 0), (1, .int x1), (3, .int (0 : Int32)), (4, .int (0 : Int32))] [] σ3 Q) ∧ ((gI σ3 8 x1.toNatClampNeg) = 0 → Q (some (.int (-2 : Int32))) σ3))))))) :
    JE E (d + 1) m_Mo_point 0 [(0, pv E 0), (1, .int x1)] [] σ Q := by
  refine J_aload_n dc_Mo_point_0 (Eq.refl 1) 0 rfl ?_
  refine J_getI dc_Mo_point_1 (Eq.refl 4) fl_Mo_162 (Nat.le_of_ble_eq_true rfl) rfl (Or.inl rfl) ?_
  refine J_istore_n (L' := [(2, .int (gI σ 0 1)), (0, pv E 0), (1, .int x1)]) dc_Mo_point_4 (Eq.refl 5) (Nat.le_of_ble_eq_true rfl) rfl ?_
  refine J_aload_n dc_Mo_point_5 (Eq.refl 6) 1 rfl ?_
  refine J_iconst (v := (0 : Int32)) dc_Mo_point_6 (Eq.refl 7) rfl ?_
  refine J_putI dc_Mo_point_7 (Eq.refl 10) pl_Mo_162 (Nat.le_of_ble_eq_true rfl) rfl rfl ?_
  refine J_aload_n dc_Mo_point_10 (Eq.refl 11) 1 rfl ?_
  refine J_iload_n dc_Mo_point_11 (Eq.refl 12) 0 rfl ?_
  refine J_callVI (As := [.int (gI σ 0 1)]) (st := []) dc_Mo_point_12 (Eq.refl 15) lk_Mo_417 mi_Mo_readPointer rfl (Nat.le_of_ble_eq_true rfl) rfl rfl (Nat.le_of_ble_eq_true rfl) rfl (Nat.le_of_ble_eq_true rfl) (CI.mono h (fun r2 σ1 h => ?_))
  refine J_if_eq dc_Mo_point_15 (Eq.refl 18) rfl (fun hc => ?_) (fun hc => ?_)
  · have h := h.1 hc
    refine J_bipush (v := (-2 : Int32)) dc_Mo_point_34 (Eq.refl 36) rfl ?_
    exact J_iret dc_Mo_point_36 rfl h
  · have h := h.2 hc
    refine J_iload_n dc_Mo_point_18 (Eq.refl 19) 2 rfl ?_
    refine J_callSI (As := [.int x1]) (st := []) dc_Mo_point_19 (Eq.refl 22) lk_Mo_291 mi_Mo_isShelf (Nat.le_of_ble_eq_true rfl) rfl (Nat.le_of_ble_eq_true rfl) (CI.mono h (fun r4 σ3 h => ?_))
    refine J_if_eq dc_Mo_point_22 (Eq.refl 25) rfl (fun hc => ?_) (fun hc => ?_)
    · have h := h.1 hc
      refine J_bipush (v := (-2 : Int32)) dc_Mo_point_34 (Eq.refl 36) rfl ?_
      exact J_iret dc_Mo_point_36 rfl h
    · have h := h.2 hc
      refine J_aload_n dc_Mo_point_25 (Eq.refl 26) 1 rfl ?_
      refine J_getF (y := 8) dc_Mo_point_26 (Eq.refl 29) fl_Mo_31 (Nat.le_of_ble_eq_true rfl) rfl (Or.inl rfl) rfl ?_
      refine J_iload_n dc_Mo_point_29 (Eq.refl 30) 2 rfl ?_
      obtain ⟨hg, h⟩ := h
      refine J_zald dc_Mo_point_30 (Eq.refl 31) rfl rfl hg ?_
      refine J_if_ne dc_Mo_point_31 (Eq.refl 34) rfl (fun hc => ?_) (fun hc => ?_)
      · have h := h.1 hc
        refine J_iconst (v := (0 : Int32)) dc_Mo_point_37 (Eq.refl 38) rfl ?_
        refine J_istore_n (L' := [(3, .int (0 : Int32)), (2, .int (gI σ 0 1)), (0, pv E 0), (1, .int x1)]) dc_Mo_point_38 (Eq.refl 39) (Nat.le_of_ble_eq_true rfl) rfl ?_
        refine J_iconst (v := (0 : Int32)) dc_Mo_point_39 (Eq.refl 40) rfl ?_
        refine J_istore (L' := [(4, .int (0 : Int32)), (3, .int (0 : Int32)), (2, .int (gI σ 0 1)), (0, pv E 0), (1, .int x1)]) dc_Mo_point_40 (Eq.refl 42) (Nat.le_of_ble_eq_true rfl) rfl ?_
        refine J_sub [3, 4, 1, 0] rfl ?_
        exact h
      · have h := h.2 hc
        refine J_bipush (v := (-2 : Int32)) dc_Mo_point_34 (Eq.refl 36) rfl ?_
        exact J_iret dc_Mo_point_36 rfl h
theorem b_Mo_point_42 {E : En_t} {d : Nat} {σ : S_t} {Q : Option Value → S_t → Prop} {x1 : Int32} {x3 : Int32} {x4 : Int32}
    (h : ((gI σ 0 62) ≤ x4 → Q (some (.int x3)) σ) ∧ (¬ (gI σ 0 62) ≤ x4 → (x3 < 0 → Q (some (.int x3)) σ) ∧ (¬ x3 < 0 → CI E d m_Mo_partOf [pv E 0, .int x1, .int x3, .int x4] σ (fun r2 σ1 => JE E (d + 1) m_Mo_point 42 [(0, pv E 0), (1, .int x1), (3, .int r2), (4, .int (x4 + (1 : Int32)))] [] σ1 Q)))) :
    JE E (d + 1) m_Mo_point 42 [(0, pv E 0), (1, .int x1), (3, .int x3), (4, .int x4)] [] σ Q := by
  refine J_iload dc_Mo_point_42 (Eq.refl 44) 3 rfl ?_
  refine J_aload_n dc_Mo_point_44 (Eq.refl 45) 0 rfl ?_
  refine J_getI dc_Mo_point_45 (Eq.refl 48) fl_Mo_414 (Nat.le_of_ble_eq_true rfl) rfl (Or.inl rfl) ?_
  refine J_icmp_ge dc_Mo_point_48 (Eq.refl 51) rfl (fun hc => ?_) (fun hc => ?_)
  · have h := h.1 hc
    refine J_iload_n dc_Mo_point_70 (Eq.refl 71) 2 rfl ?_
    exact J_iret dc_Mo_point_71 rfl h
  · have h := h.2 hc
    refine J_iload_n dc_Mo_point_51 (Eq.refl 52) 2 rfl ?_
    refine J_if_lt dc_Mo_point_52 (Eq.refl 55) rfl (fun hc => ?_) (fun hc => ?_)
    · have h := h.1 hc
      refine J_iload_n dc_Mo_point_70 (Eq.refl 71) 2 rfl ?_
      exact J_iret dc_Mo_point_71 rfl h
    · have h := h.2 hc
      refine J_aload_n dc_Mo_point_55 (Eq.refl 56) 0 rfl ?_
      refine J_iload_n dc_Mo_point_56 (Eq.refl 57) 1 rfl ?_
      refine J_iload_n dc_Mo_point_57 (Eq.refl 58) 2 rfl ?_
      refine J_iload dc_Mo_point_58 (Eq.refl 60) 3 rfl ?_
      refine J_callVI (As := [.int x1, .int x3, .int x4]) (st := []) dc_Mo_point_60 (Eq.refl 63) lk_Mo_420 mi_Mo_partOf rfl (Nat.le_of_ble_eq_true rfl) rfl rfl (Nat.le_of_ble_eq_true rfl) rfl (Nat.le_of_ble_eq_true rfl) (CI.mono h (fun r2 σ1 h => ?_))
      refine J_istore_n (L' := [(3, .int r2), (0, pv E 0), (1, .int x1), (4, .int x4)]) dc_Mo_point_63 (Eq.refl 64) (Nat.le_of_ble_eq_true rfl) rfl ?_
      refine J_iinc (v := x4 + (1 : Int32)) (L' := [(4, .int (x4 + (1 : Int32))), (3, .int r2), (0, pv E 0), (1, .int x1)]) dc_Mo_point_64 (Eq.refl 67) 3 rfl rfl (Nat.le_of_ble_eq_true rfl) rfl ?_
      refine J_goto dc_Mo_point_67 rfl ?_
      refine J_sub [2, 3, 1, 0] rfl ?_
      exact h
theorem dc_Mo_readPointer_0 : decode m_Mo_readPointer.2.1 0 = .ok (.aload_n 0, 1) := by decide +kernel
theorem dc_Mo_readPointer_1 : decode m_Mo_readPointer.2.1 1 = .ok (.iconst 0, 1) := by decide +kernel
theorem dc_Mo_readPointer_2 : decode m_Mo_readPointer.2.1 2 = .ok (.putfield 321, 3) := by decide +kernel
theorem dc_Mo_readPointer_5 : decode m_Mo_readPointer.2.1 5 = .ok (.aload_n 0, 1) := by decide +kernel
theorem dc_Mo_readPointer_6 : decode m_Mo_readPointer.2.1 6 = .ok (.iconst 0, 1) := by decide +kernel
theorem dc_Mo_readPointer_7 : decode m_Mo_readPointer.2.1 7 = .ok (.putfield 414, 3) := by decide +kernel
theorem dc_Mo_readPointer_10 : decode m_Mo_readPointer.2.1 10 = .ok (.aload_n 0, 1) := by decide +kernel
theorem dc_Mo_readPointer_11 : decode m_Mo_readPointer.2.1 11 = .ok (.iconst 0, 1) := by decide +kernel
theorem dc_Mo_readPointer_12 : decode m_Mo_readPointer.2.1 12 = .ok (.putfield 210, 3) := by decide +kernel
theorem dc_Mo_readPointer_15 : decode m_Mo_readPointer.2.1 15 = .ok (.aload_n 0, 1) := by decide +kernel
theorem dc_Mo_readPointer_16 : decode m_Mo_readPointer.2.1 16 = .ok (.getfield 210, 3) := by decide +kernel
theorem dc_Mo_readPointer_19 : decode m_Mo_readPointer.2.1 19 = .ok (.iload_n 1, 1) := by decide +kernel
theorem dc_Mo_readPointer_20 : decode m_Mo_readPointer.2.1 20 = .ok (.if_icmp .ge 220, 3) := by decide +kernel
theorem dc_Mo_readPointer_23 : decode m_Mo_readPointer.2.1 23 = .ok (.aload_n 0, 1) := by decide +kernel
theorem dc_Mo_readPointer_24 : decode m_Mo_readPointer.2.1 24 = .ok (.getfield 7, 3) := by decide +kernel
theorem dc_Mo_readPointer_27 : decode m_Mo_readPointer.2.1 27 = .ok (.aload_n 0, 1) := by decide +kernel
theorem dc_Mo_readPointer_28 : decode m_Mo_readPointer.2.1 28 = .ok (.getfield 210, 3) := by decide +kernel
theorem dc_Mo_readPointer_31 : decode m_Mo_readPointer.2.1 31 = .ok (.iaload, 1) := by decide +kernel
theorem dc_Mo_readPointer_32 : decode m_Mo_readPointer.2.1 32 = .ok (.bipush 47, 2) := by decide +kernel
theorem dc_Mo_readPointer_34 : decode m_Mo_readPointer.2.1 34 = .ok (.if_icmp .eq 5, 3) := by decide +kernel
theorem dc_Mo_readPointer_37 : decode m_Mo_readPointer.2.1 37 = .ok (.iconst 0, 1) := by decide +kernel
theorem dc_Mo_readPointer_38 : decode m_Mo_readPointer.2.1 38 = .ok (.ireturn, 1) := by decide +kernel
theorem dc_Mo_readPointer_39 : decode m_Mo_readPointer.2.1 39 = .ok (.aload_n 0, 1) := by decide +kernel
theorem dc_Mo_readPointer_40 : decode m_Mo_readPointer.2.1 40 = .ok (.dup, 1) := by decide +kernel
theorem dc_Mo_readPointer_41 : decode m_Mo_readPointer.2.1 41 = .ok (.getfield 210, 3) := by decide +kernel
theorem dc_Mo_readPointer_44 : decode m_Mo_readPointer.2.1 44 = .ok (.iconst 1, 1) := by decide +kernel
theorem dc_Mo_readPointer_45 : decode m_Mo_readPointer.2.1 45 = .ok (.iadd, 1) := by decide +kernel
theorem dc_Mo_readPointer_46 : decode m_Mo_readPointer.2.1 46 = .ok (.putfield 210, 3) := by decide +kernel
theorem dc_Mo_readPointer_49 : decode m_Mo_readPointer.2.1 49 = .ok (.aload_n 0, 1) := by decide +kernel
theorem dc_Mo_readPointer_50 : decode m_Mo_readPointer.2.1 50 = .ok (.getfield 144, 3) := by decide +kernel
theorem dc_Mo_readPointer_53 : decode m_Mo_readPointer.2.1 53 = .ok (.aload_n 0, 1) := by decide +kernel
theorem dc_Mo_readPointer_54 : decode m_Mo_readPointer.2.1 54 = .ok (.getfield 414, 3) := by decide +kernel
theorem dc_Mo_readPointer_57 : decode m_Mo_readPointer.2.1 57 = .ok (.aload_n 0, 1) := by decide +kernel
theorem dc_Mo_readPointer_58 : decode m_Mo_readPointer.2.1 58 = .ok (.getfield 321, 3) := by decide +kernel
theorem dc_Mo_readPointer_61 : decode m_Mo_readPointer.2.1 61 = .ok (.iastore, 1) := by decide +kernel
theorem dc_Mo_readPointer_62 : decode m_Mo_readPointer.2.1 62 = .ok (.aload_n 0, 1) := by decide +kernel
theorem dc_Mo_readPointer_63 : decode m_Mo_readPointer.2.1 63 = .ok (.getfield 210, 3) := by decide +kernel
theorem dc_Mo_readPointer_66 : decode m_Mo_readPointer.2.1 66 = .ok (.iload_n 1, 1) := by decide +kernel
theorem dc_Mo_readPointer_67 : decode m_Mo_readPointer.2.1 67 = .ok (.if_icmp .ge 137, 3) := by decide +kernel
theorem dc_Mo_readPointer_70 : decode m_Mo_readPointer.2.1 70 = .ok (.aload_n 0, 1) := by decide +kernel
theorem dc_Mo_readPointer_71 : decode m_Mo_readPointer.2.1 71 = .ok (.getfield 7, 3) := by decide +kernel
theorem dc_Mo_readPointer_74 : decode m_Mo_readPointer.2.1 74 = .ok (.aload_n 0, 1) := by decide +kernel
theorem dc_Mo_readPointer_75 : decode m_Mo_readPointer.2.1 75 = .ok (.getfield 210, 3) := by decide +kernel
theorem dc_Mo_readPointer_78 : decode m_Mo_readPointer.2.1 78 = .ok (.iaload, 1) := by decide +kernel
theorem dc_Mo_readPointer_79 : decode m_Mo_readPointer.2.1 79 = .ok (.bipush 47, 2) := by decide +kernel
theorem dc_Mo_readPointer_81 : decode m_Mo_readPointer.2.1 81 = .ok (.if_icmp .eq 123, 3) := by decide +kernel
theorem dc_Mo_readPointer_84 : decode m_Mo_readPointer.2.1 84 = .ok (.aload_n 0, 1) := by decide +kernel
theorem dc_Mo_readPointer_85 : decode m_Mo_readPointer.2.1 85 = .ok (.getfield 7, 3) := by decide +kernel
theorem dc_Mo_readPointer_88 : decode m_Mo_readPointer.2.1 88 = .ok (.aload_n 0, 1) := by decide +kernel
theorem dc_Mo_readPointer_89 : decode m_Mo_readPointer.2.1 89 = .ok (.getfield 210, 3) := by decide +kernel
theorem dc_Mo_readPointer_92 : decode m_Mo_readPointer.2.1 92 = .ok (.iaload, 1) := by decide +kernel
theorem dc_Mo_readPointer_93 : decode m_Mo_readPointer.2.1 93 = .ok (.istore_n 2, 1) := by decide +kernel
theorem dc_Mo_readPointer_94 : decode m_Mo_readPointer.2.1 94 = .ok (.iload_n 2, 1) := by decide +kernel
theorem dc_Mo_readPointer_95 : decode m_Mo_readPointer.2.1 95 = .ok (.bipush 127, 2) := by decide +kernel
theorem dc_Mo_readPointer_97 : decode m_Mo_readPointer.2.1 97 = .ok (.if_icmp .le 13, 3) := by decide +kernel
theorem dc_Mo_readPointer_100 : decode m_Mo_readPointer.2.1 100 = .ok (.aload_n 0, 1) := by decide +kernel
theorem dc_Mo_readPointer_101 : decode m_Mo_readPointer.2.1 101 = .ok (.iload_n 1, 1) := by decide +kernel
theorem dc_Mo_readPointer_102 : decode m_Mo_readPointer.2.1 102 = .ok (.invokevirtual 340, 3) := by decide +kernel
theorem dc_Mo_readPointer_105 : decode m_Mo_readPointer.2.1 105 = .ok (.ifCond .ne 96, 3) := by decide +kernel
theorem dc_Mo_readPointer_108 : decode m_Mo_readPointer.2.1 108 = .ok (.iconst 0, 1) := by decide +kernel
theorem dc_Mo_readPointer_109 : decode m_Mo_readPointer.2.1 109 = .ok (.ireturn, 1) := by decide +kernel
theorem dc_Mo_readPointer_110 : decode m_Mo_readPointer.2.1 110 = .ok (.iload_n 2, 1) := by decide +kernel
theorem dc_Mo_readPointer_111 : decode m_Mo_readPointer.2.1 111 = .ok (.bipush 126, 2) := by decide +kernel
theorem dc_Mo_readPointer_113 : decode m_Mo_readPointer.2.1 113 = .ok (.if_icmp .ne 73, 3) := by decide +kernel
theorem dc_Mo_readPointer_116 : decode m_Mo_readPointer.2.1 116 = .ok (.aload_n 0, 1) := by decide +kernel
theorem dc_Mo_readPointer_117 : decode m_Mo_readPointer.2.1 117 = .ok (.dup, 1) := by decide +kernel
theorem dc_Mo_readPointer_118 : decode m_Mo_readPointer.2.1 118 = .ok (.getfield 210, 3) := by decide +kernel
theorem dc_Mo_readPointer_121 : decode m_Mo_readPointer.2.1 121 = .ok (.iconst 1, 1) := by decide +kernel
theorem dc_Mo_readPointer_122 : decode m_Mo_readPointer.2.1 122 = .ok (.iadd, 1) := by decide +kernel
theorem dc_Mo_readPointer_123 : decode m_Mo_readPointer.2.1 123 = .ok (.putfield 210, 3) := by decide +kernel
theorem dc_Mo_readPointer_126 : decode m_Mo_readPointer.2.1 126 = .ok (.aload_n 0, 1) := by decide +kernel
theorem dc_Mo_readPointer_127 : decode m_Mo_readPointer.2.1 127 = .ok (.iload_n 1, 1) := by decide +kernel
theorem dc_Mo_readPointer_128 : decode m_Mo_readPointer.2.1 128 = .ok (.invokevirtual 213, 3) := by decide +kernel
theorem dc_Mo_readPointer_131 : decode m_Mo_readPointer.2.1 131 = .ok (.bipush 48, 2) := by decide +kernel
theorem dc_Mo_readPointer_133 : decode m_Mo_readPointer.2.1 133 = .ok (.if_icmp .eq 15, 3) := by decide +kernel
theorem dc_Mo_readPointer_136 : decode m_Mo_readPointer.2.1 136 = .ok (.aload_n 0, 1) := by decide +kernel
theorem dc_Mo_readPointer_137 : decode m_Mo_readPointer.2.1 137 = .ok (.iload_n 1, 1) := by decide +kernel
theorem dc_Mo_readPointer_138 : decode m_Mo_readPointer.2.1 138 = .ok (.invokevirtual 213, 3) := by decide +kernel
theorem dc_Mo_readPointer_141 : decode m_Mo_readPointer.2.1 141 = .ok (.bipush 49, 2) := by decide +kernel
theorem dc_Mo_readPointer_143 : decode m_Mo_readPointer.2.1 143 = .ok (.if_icmp .eq 5, 3) := by decide +kernel
theorem dc_Mo_readPointer_146 : decode m_Mo_readPointer.2.1 146 = .ok (.iconst 0, 1) := by decide +kernel
theorem dc_Mo_readPointer_147 : decode m_Mo_readPointer.2.1 147 = .ok (.ireturn, 1) := by decide +kernel
theorem dc_Mo_readPointer_148 : decode m_Mo_readPointer.2.1 148 = .ok (.aload_n 0, 1) := by decide +kernel
theorem dc_Mo_readPointer_149 : decode m_Mo_readPointer.2.1 149 = .ok (.aload_n 0, 1) := by decide +kernel
theorem dc_Mo_readPointer_150 : decode m_Mo_readPointer.2.1 150 = .ok (.getfield 7, 3) := by decide +kernel
theorem dc_Mo_readPointer_153 : decode m_Mo_readPointer.2.1 153 = .ok (.aload_n 0, 1) := by decide +kernel
theorem dc_Mo_readPointer_154 : decode m_Mo_readPointer.2.1 154 = .ok (.getfield 210, 3) := by decide +kernel
theorem dc_Mo_readPointer_157 : decode m_Mo_readPointer.2.1 157 = .ok (.iaload, 1) := by decide +kernel
theorem dc_Mo_readPointer_158 : decode m_Mo_readPointer.2.1 158 = .ok (.bipush 48, 2) := by decide +kernel
theorem dc_Mo_readPointer_160 : decode m_Mo_readPointer.2.1 160 = .ok (.if_icmp .ne 8, 3) := by decide +kernel
theorem dc_Mo_readPointer_163 : decode m_Mo_readPointer.2.1 163 = .ok (.bipush 126, 2) := by decide +kernel
theorem dc_Mo_readPointer_165 : decode m_Mo_readPointer.2.1 165 = .ok (.goto 5, 3) := by decide +kernel
theorem dc_Mo_readPointer_168 : decode m_Mo_readPointer.2.1 168 = .ok (.bipush 47, 2) := by decide +kernel
theorem dc_Mo_readPointer_170 : decode m_Mo_readPointer.2.1 170 = .ok (.invokevirtual 324, 3) := by decide +kernel
theorem dc_Mo_readPointer_173 : decode m_Mo_readPointer.2.1 173 = .ok (.aload_n 0, 1) := by decide +kernel
theorem dc_Mo_readPointer_174 : decode m_Mo_readPointer.2.1 174 = .ok (.dup, 1) := by decide +kernel
theorem dc_Mo_readPointer_175 : decode m_Mo_readPointer.2.1 175 = .ok (.getfield 210, 3) := by decide +kernel
theorem dc_Mo_readPointer_178 : decode m_Mo_readPointer.2.1 178 = .ok (.iconst 1, 1) := by decide +kernel
theorem dc_Mo_readPointer_179 : decode m_Mo_readPointer.2.1 179 = .ok (.iadd, 1) := by decide +kernel
theorem dc_Mo_readPointer_180 : decode m_Mo_readPointer.2.1 180 = .ok (.putfield 210, 3) := by decide +kernel
theorem dc_Mo_readPointer_183 : decode m_Mo_readPointer.2.1 183 = .ok (.goto 18, 3) := by decide +kernel
theorem dc_Mo_readPointer_186 : decode m_Mo_readPointer.2.1 186 = .ok (.aload_n 0, 1) := by decide +kernel
theorem dc_Mo_readPointer_187 : decode m_Mo_readPointer.2.1 187 = .ok (.iload_n 2, 1) := by decide +kernel
theorem dc_Mo_readPointer_188 : decode m_Mo_readPointer.2.1 188 = .ok (.invokevirtual 324, 3) := by decide +kernel
theorem dc_Mo_readPointer_191 : decode m_Mo_readPointer.2.1 191 = .ok (.aload_n 0, 1) := by decide +kernel
theorem dc_Mo_readPointer_192 : decode m_Mo_readPointer.2.1 192 = .ok (.dup, 1) := by decide +kernel
theorem dc_Mo_readPointer_193 : decode m_Mo_readPointer.2.1 193 = .ok (.getfield 210, 3) := by decide +kernel
theorem dc_Mo_readPointer_196 : decode m_Mo_readPointer.2.1 196 = .ok (.iconst 1, 1) := by decide +kernel
theorem dc_Mo_readPointer_197 : decode m_Mo_readPointer.2.1 197 = .ok (.iadd, 1) := by decide +kernel
theorem dc_Mo_readPointer_198 : decode m_Mo_readPointer.2.1 198 = .ok (.putfield 210, 3) := by decide +kernel
theorem dc_Mo_readPointer_201 : decode m_Mo_readPointer.2.1 201 = .ok (.goto (-139), 3) := by decide +kernel
theorem dc_Mo_readPointer_204 : decode m_Mo_readPointer.2.1 204 = .ok (.aload_n 0, 1) := by decide +kernel
theorem dc_Mo_readPointer_205 : decode m_Mo_readPointer.2.1 205 = .ok (.getfield 147, 3) := by decide +kernel
theorem dc_Mo_readPointer_208 : decode m_Mo_readPointer.2.1 208 = .ok (.aload_n 0, 1) := by decide +kernel
theorem dc_Mo_readPointer_209 : decode m_Mo_readPointer.2.1 209 = .ok (.getfield 414, 3) := by decide +kernel
theorem dc_Mo_readPointer_212 : decode m_Mo_readPointer.2.1 212 = .ok (.aload_n 0, 1) := by decide +kernel
theorem dc_Mo_readPointer_213 : decode m_Mo_readPointer.2.1 213 = .ok (.getfield 321, 3) := by decide +kernel
theorem dc_Mo_readPointer_216 : decode m_Mo_readPointer.2.1 216 = .ok (.aload_n 0, 1) := by decide +kernel
theorem dc_Mo_readPointer_217 : decode m_Mo_readPointer.2.1 217 = .ok (.getfield 144, 3) := by decide +kernel
theorem dc_Mo_readPointer_220 : decode m_Mo_readPointer.2.1 220 = .ok (.aload_n 0, 1) := by decide +kernel
theorem dc_Mo_readPointer_221 : decode m_Mo_readPointer.2.1 221 = .ok (.getfield 414, 3) := by decide +kernel
theorem dc_Mo_readPointer_224 : decode m_Mo_readPointer.2.1 224 = .ok (.iaload, 1) := by decide +kernel
theorem dc_Mo_readPointer_225 : decode m_Mo_readPointer.2.1 225 = .ok (.isub, 1) := by decide +kernel
theorem dc_Mo_readPointer_226 : decode m_Mo_readPointer.2.1 226 = .ok (.iastore, 1) := by decide +kernel
theorem dc_Mo_readPointer_227 : decode m_Mo_readPointer.2.1 227 = .ok (.aload_n 0, 1) := by decide +kernel
theorem dc_Mo_readPointer_228 : decode m_Mo_readPointer.2.1 228 = .ok (.dup, 1) := by decide +kernel
theorem dc_Mo_readPointer_229 : decode m_Mo_readPointer.2.1 229 = .ok (.getfield 414, 3) := by decide +kernel
theorem dc_Mo_readPointer_232 : decode m_Mo_readPointer.2.1 232 = .ok (.iconst 1, 1) := by decide +kernel
theorem dc_Mo_readPointer_233 : decode m_Mo_readPointer.2.1 233 = .ok (.iadd, 1) := by decide +kernel
theorem dc_Mo_readPointer_234 : decode m_Mo_readPointer.2.1 234 = .ok (.putfield 414, 3) := by decide +kernel
theorem dc_Mo_readPointer_237 : decode m_Mo_readPointer.2.1 237 = .ok (.goto (-222), 3) := by decide +kernel
theorem dc_Mo_readPointer_240 : decode m_Mo_readPointer.2.1 240 = .ok (.iconst 1, 1) := by decide +kernel
theorem dc_Mo_readPointer_241 : decode m_Mo_readPointer.2.1 241 = .ok (.ireturn, 1) := by decide +kernel
theorem b_Mo_readPointer_0 {E : En_t} {d : Nat} {σ : S_t} {Q : Option Value → S_t → Prop} {x1 : Int32}
    (h : JE E (d + 1) m_Mo_readPointer 15 [(0, pv E 0), (1, .int x1)] [] (sI (sI (sI σ 0 44 (0 : Int32)) 0 62 (0 : Int32)) 0 9 (0 : Int32)) Q) :
    JE E (d + 1) m_Mo_readPointer 0 [(0, pv E 0), (1, .int x1)] [] σ Q := by
  refine J_aload_n dc_Mo_readPointer_0 (Eq.refl 1) 0 rfl ?_
  refine J_iconst (v := (0 : Int32)) dc_Mo_readPointer_1 (Eq.refl 2) rfl ?_
  refine J_putI dc_Mo_readPointer_2 (Eq.refl 5) pl_Mo_321 (Nat.le_of_ble_eq_true rfl) rfl rfl ?_
  refine J_aload_n dc_Mo_readPointer_5 (Eq.refl 6) 0 rfl ?_
  refine J_iconst (v := (0 : Int32)) dc_Mo_readPointer_6 (Eq.refl 7) rfl ?_
  refine J_putI dc_Mo_readPointer_7 (Eq.refl 10) pl_Mo_414 (Nat.le_of_ble_eq_true rfl) rfl rfl ?_
  refine J_aload_n dc_Mo_readPointer_10 (Eq.refl 11) 0 rfl ?_
  refine J_iconst (v := (0 : Int32)) dc_Mo_readPointer_11 (Eq.refl 12) rfl ?_
  refine J_putI dc_Mo_readPointer_12 (Eq.refl 15) pl_Mo_210 (Nat.le_of_ble_eq_true rfl) rfl rfl ?_
  exact h
theorem b_Mo_readPointer_15 {E : En_t} {d : Nat} {σ : S_t} {Q : Option Value → S_t → Prop} {x1 : Int32}
    (h : (x1 ≤ (gI σ 0 9) → Q (some (.int (1 : Int32))) σ) ∧ (¬ x1 ≤ (gI σ 0 9) → vp_in (gI σ 0 9) 2000 ∧ (((gI σ 1 (gI σ 0 9).toNatClampNeg) = (47 : Int32) → vp_in (gI (sI σ 0 9 ((gI σ 0 9) + (1 : Int32))) 0 62) 2001 ∧ (JE E (d + 1) m_Mo_readPointer 62 [(0, pv E 0), (1, .int x1)] [] (sI (sI σ 0 9 ((gI σ 0 9) + (1 : Int32))) 43 (gI (sI σ 0 9 ((gI σ 0 9) + (1 : Int32))) 0 62).toNatClampNeg (gI (sI σ 0 9 ((gI σ 0 9) + (1 : Int32))) 0 44)) Q)) ∧ (¬ (gI σ 1 (gI σ 0 9).toNatClampNeg) = (47 : Int32) → Q (some (.int (0 : Int32))) σ)))) :
    JE E (d + 1) m_Mo_readPointer 15 [(0, pv E 0), (1, .int x1)] [] σ Q := by
  refine J_aload_n dc_Mo_readPointer_15 (Eq.refl 16) 0 rfl ?_
  refine J_getI dc_Mo_readPointer_16 (Eq.refl 19) fl_Mo_210 (Nat.le_of_ble_eq_true rfl) rfl (Or.inl rfl) ?_
  refine J_iload_n dc_Mo_readPointer_19 (Eq.refl 20) 1 rfl ?_
  refine J_icmp_ge dc_Mo_readPointer_20 (Eq.refl 23) rfl (fun hc => ?_) (fun hc => ?_)
  · have h := h.1 hc
    refine J_iconst (v := (1 : Int32)) dc_Mo_readPointer_240 (Eq.refl 241) rfl ?_
    exact J_zret dc_Mo_readPointer_241 rfl rfl h
  · have h := h.2 hc
    refine J_aload_n dc_Mo_readPointer_23 (Eq.refl 24) 0 rfl ?_
    refine J_getF (y := 1) dc_Mo_readPointer_24 (Eq.refl 27) fl_Mo_7 (Nat.le_of_ble_eq_true rfl) rfl (Or.inl rfl) rfl ?_
    refine J_aload_n dc_Mo_readPointer_27 (Eq.refl 28) 0 rfl ?_
    refine J_getI dc_Mo_readPointer_28 (Eq.refl 31) fl_Mo_210 (Nat.le_of_ble_eq_true rfl) rfl (Or.inl rfl) ?_
    obtain ⟨hg, h⟩ := h
    refine J_iald dc_Mo_readPointer_31 (Eq.refl 32) rfl rfl hg ?_
    refine J_bipush (v := (47 : Int32)) dc_Mo_readPointer_32 (Eq.refl 34) rfl ?_
    refine J_icmp_eq dc_Mo_readPointer_34 (Eq.refl 37) rfl (fun hc => ?_) (fun hc => ?_)
    · have h := h.1 hc
      refine J_aload_n dc_Mo_readPointer_39 (Eq.refl 40) 0 rfl ?_
      refine J_dup dc_Mo_readPointer_40 (Eq.refl 41) rfl ?_
      refine J_getI dc_Mo_readPointer_41 (Eq.refl 44) fl_Mo_210 (Nat.le_of_ble_eq_true rfl) rfl (Or.inl rfl) ?_
      refine J_iconst (v := (1 : Int32)) dc_Mo_readPointer_44 (Eq.refl 45) rfl ?_
      refine J_iadd dc_Mo_readPointer_45 (Eq.refl 46) ?_
      refine J_putI dc_Mo_readPointer_46 (Eq.refl 49) pl_Mo_210 (Nat.le_of_ble_eq_true rfl) rfl rfl ?_
      refine J_aload_n dc_Mo_readPointer_49 (Eq.refl 50) 0 rfl ?_
      refine J_getF (y := 43) dc_Mo_readPointer_50 (Eq.refl 53) fl_Mo_144 (Nat.le_of_ble_eq_true rfl) rfl (Or.inl rfl) rfl ?_
      refine J_aload_n dc_Mo_readPointer_53 (Eq.refl 54) 0 rfl ?_
      refine J_getI dc_Mo_readPointer_54 (Eq.refl 57) fl_Mo_414 (Nat.le_of_ble_eq_true rfl) rfl (Or.inl rfl) ?_
      refine J_aload_n dc_Mo_readPointer_57 (Eq.refl 58) 0 rfl ?_
      refine J_getI dc_Mo_readPointer_58 (Eq.refl 61) fl_Mo_321 (Nat.le_of_ble_eq_true rfl) rfl (Or.inl rfl) ?_
      obtain ⟨hg, h⟩ := h
      refine J_iast dc_Mo_readPointer_61 (Eq.refl 62) rfl rfl hg ?_
      exact h
    · have h := h.2 hc
      refine J_iconst (v := (0 : Int32)) dc_Mo_readPointer_37 (Eq.refl 38) rfl ?_
      exact J_zret dc_Mo_readPointer_38 rfl rfl h
theorem b_Mo_readPointer_62 {E : En_t} {d : Nat} {σ : S_t} {Q : Option Value → S_t → Prop} {x1 : Int32}
    (h : (x1 ≤ (gI σ 0 9) → JE E (d + 1) m_Mo_readPointer 204 [(0, pv E 0), (1, .int x1)] [] σ Q) ∧ (¬ x1 ≤ (gI σ 0 9) → vp_in (gI σ 0 9) 2000 ∧ (((gI σ 1 (gI σ 0 9).toNatClampNeg) = (47 : Int32) → JE E (d + 1) m_Mo_readPointer 204 [(0, pv E 0), (1, .int x1)] [] σ Q) ∧ (¬ (gI σ 1 (gI σ 0 9).toNatClampNeg) = (47 : Int32) → vp_in (gI σ 0 9) 2000 ∧ (((gI σ 1 (gI σ 0 9).toNatClampNeg) ≤ (127 : Int32) → (¬ (gI σ 1 (gI σ 0 9).toNatClampNeg) = (126 : Int32) → CV E d m_Mo_keep [pv E 0, .int (gI σ 1 (gI σ 0 9).toNatClampNeg)] σ (fun σ1 => JE E (d + 1) m_Mo_readPointer 201 [(0, pv E 0), (1, .int x1)] [] (sI σ1 0 9 ((gI σ1 0 9) + (1 : Int32))) Q)) ∧ ((gI σ 1 (gI σ 0 9).toNatClampNeg) = (126 : Int32) → CI E d m_Mo_here [pv E 0, .int x1] (sI σ 0 9 ((gI σ 0 9) + (1 : Int32))) (fun r3 σ2 => (r3 = (48 : Int32) → JE E (d + 1) m_Mo_readPointer 148 [(0, pv E 0), (1, .int x1)] [] σ2 Q) ∧ (¬ r3 = (48 : Int32) → CI E d m_Mo_here [pv E 0, .int x1] σ2 (fun r5 σ4 => (r5 = (49 : Int32) → JE E (d + 1) m_Mo_readPointer 148 [(0, pv E 0), (1, .int x1)] [] σ4 Q) ∧ (¬ r5 = (49 : Int32) → Q (some (.int (0 : Int32))) σ4)))))) ∧ (¬ (gI σ 1 (gI σ 0 9).toNatClampNeg) ≤ (127 : Int32) → CI E d m_Mo_takeWide [pv E 0, .int x1] σ (fun r7 σ6 => (¬ r7 = 0 → JE E (d + 1) m_Mo_readPointer 201 [(0, pv E 0), (1, .int x1)] [] σ6 Q) ∧ (r7 = 0 → Q (some (.int (0 : Int32))) σ6)))))))) :
    JE E (d + 1) m_Mo_readPointer 62 [(0, pv E 0), (1, .int x1)] [] σ Q := by
  refine J_aload_n dc_Mo_readPointer_62 (Eq.refl 63) 0 rfl ?_
  refine J_getI dc_Mo_readPointer_63 (Eq.refl 66) fl_Mo_210 (Nat.le_of_ble_eq_true rfl) rfl (Or.inl rfl) ?_
  refine J_iload_n dc_Mo_readPointer_66 (Eq.refl 67) 1 rfl ?_
  refine J_icmp_ge dc_Mo_readPointer_67 (Eq.refl 70) rfl (fun hc => ?_) (fun hc => ?_)
  · have h := h.1 hc
    exact h
  · have h := h.2 hc
    refine J_aload_n dc_Mo_readPointer_70 (Eq.refl 71) 0 rfl ?_
    refine J_getF (y := 1) dc_Mo_readPointer_71 (Eq.refl 74) fl_Mo_7 (Nat.le_of_ble_eq_true rfl) rfl (Or.inl rfl) rfl ?_
    refine J_aload_n dc_Mo_readPointer_74 (Eq.refl 75) 0 rfl ?_
    refine J_getI dc_Mo_readPointer_75 (Eq.refl 78) fl_Mo_210 (Nat.le_of_ble_eq_true rfl) rfl (Or.inl rfl) ?_
    obtain ⟨hg, h⟩ := h
    refine J_iald dc_Mo_readPointer_78 (Eq.refl 79) rfl rfl hg ?_
    refine J_bipush (v := (47 : Int32)) dc_Mo_readPointer_79 (Eq.refl 81) rfl ?_
    refine J_icmp_eq dc_Mo_readPointer_81 (Eq.refl 84) rfl (fun hc => ?_) (fun hc => ?_)
    · have h := h.1 hc
      exact h
    · have h := h.2 hc
      refine J_aload_n dc_Mo_readPointer_84 (Eq.refl 85) 0 rfl ?_
      refine J_getF (y := 1) dc_Mo_readPointer_85 (Eq.refl 88) fl_Mo_7 (Nat.le_of_ble_eq_true rfl) rfl (Or.inl rfl) rfl ?_
      refine J_aload_n dc_Mo_readPointer_88 (Eq.refl 89) 0 rfl ?_
      refine J_getI dc_Mo_readPointer_89 (Eq.refl 92) fl_Mo_210 (Nat.le_of_ble_eq_true rfl) rfl (Or.inl rfl) ?_
      obtain ⟨hg, h⟩ := h
      refine J_iald dc_Mo_readPointer_92 (Eq.refl 93) rfl rfl hg ?_
      refine J_istore_n (L' := [(2, .int (gI σ 1 (gI σ 0 9).toNatClampNeg)), (0, pv E 0), (1, .int x1)]) dc_Mo_readPointer_93 (Eq.refl 94) (Nat.le_of_ble_eq_true rfl) rfl ?_
      refine J_iload_n dc_Mo_readPointer_94 (Eq.refl 95) 0 rfl ?_
      refine J_bipush (v := (127 : Int32)) dc_Mo_readPointer_95 (Eq.refl 97) rfl ?_
      refine J_icmp_le dc_Mo_readPointer_97 (Eq.refl 100) rfl (fun hc => ?_) (fun hc => ?_)
      · have h := h.1 hc
        refine J_iload_n dc_Mo_readPointer_110 (Eq.refl 111) 0 rfl ?_
        refine J_bipush (v := (126 : Int32)) dc_Mo_readPointer_111 (Eq.refl 113) rfl ?_
        refine J_icmp_ne dc_Mo_readPointer_113 (Eq.refl 116) rfl (fun hc => ?_) (fun hc => ?_)
        · have h := h.1 hc
          refine J_aload_n dc_Mo_readPointer_186 (Eq.refl 187) 1 rfl ?_
          refine J_iload_n dc_Mo_readPointer_187 (Eq.refl 188) 0 rfl ?_
          refine J_callVV (As := [.int (gI σ 1 (gI σ 0 9).toNatClampNeg)]) (st := []) dc_Mo_readPointer_188 (Eq.refl 191) lk_Mo_324 mi_Mo_keep rfl (Nat.le_of_ble_eq_true rfl) rfl rfl (Nat.le_of_ble_eq_true rfl) rfl (Nat.le_of_ble_eq_true rfl) (CV.mono h (fun σ1 h => ?_))
          refine J_aload_n dc_Mo_readPointer_191 (Eq.refl 192) 1 rfl ?_
          refine J_dup dc_Mo_readPointer_192 (Eq.refl 193) rfl ?_
          refine J_getI dc_Mo_readPointer_193 (Eq.refl 196) fl_Mo_210 (Nat.le_of_ble_eq_true rfl) rfl (Or.inl rfl) ?_
          refine J_iconst (v := (1 : Int32)) dc_Mo_readPointer_196 (Eq.refl 197) rfl ?_
          refine J_iadd dc_Mo_readPointer_197 (Eq.refl 198) ?_
          refine J_putI dc_Mo_readPointer_198 (Eq.refl 201) pl_Mo_210 (Nat.le_of_ble_eq_true rfl) rfl rfl ?_
          refine J_sub [1, 2] rfl ?_
          exact h
        · have h := h.2 hc
          refine J_aload_n dc_Mo_readPointer_116 (Eq.refl 117) 1 rfl ?_
          refine J_dup dc_Mo_readPointer_117 (Eq.refl 118) rfl ?_
          refine J_getI dc_Mo_readPointer_118 (Eq.refl 121) fl_Mo_210 (Nat.le_of_ble_eq_true rfl) rfl (Or.inl rfl) ?_
          refine J_iconst (v := (1 : Int32)) dc_Mo_readPointer_121 (Eq.refl 122) rfl ?_
          refine J_iadd dc_Mo_readPointer_122 (Eq.refl 123) ?_
          refine J_putI dc_Mo_readPointer_123 (Eq.refl 126) pl_Mo_210 (Nat.le_of_ble_eq_true rfl) rfl rfl ?_
          refine J_aload_n dc_Mo_readPointer_126 (Eq.refl 127) 1 rfl ?_
          refine J_iload_n dc_Mo_readPointer_127 (Eq.refl 128) 2 rfl ?_
          refine J_callVI (As := [.int x1]) (st := []) dc_Mo_readPointer_128 (Eq.refl 131) lk_Mo_213 mi_Mo_here rfl (Nat.le_of_ble_eq_true rfl) rfl rfl (Nat.le_of_ble_eq_true rfl) rfl (Nat.le_of_ble_eq_true rfl) (CI.mono h (fun r3 σ2 h => ?_))
          refine J_bipush (v := (48 : Int32)) dc_Mo_readPointer_131 (Eq.refl 133) rfl ?_
          refine J_icmp_eq dc_Mo_readPointer_133 (Eq.refl 136) rfl (fun hc => ?_) (fun hc => ?_)
          · have h := h.1 hc
            refine J_sub [1, 2] rfl ?_
            exact h
          · have h := h.2 hc
            refine J_aload_n dc_Mo_readPointer_136 (Eq.refl 137) 1 rfl ?_
            refine J_iload_n dc_Mo_readPointer_137 (Eq.refl 138) 2 rfl ?_
            refine J_callVI (As := [.int x1]) (st := []) dc_Mo_readPointer_138 (Eq.refl 141) lk_Mo_213 mi_Mo_here rfl (Nat.le_of_ble_eq_true rfl) rfl rfl (Nat.le_of_ble_eq_true rfl) rfl (Nat.le_of_ble_eq_true rfl) (CI.mono h (fun r5 σ4 h => ?_))
            refine J_bipush (v := (49 : Int32)) dc_Mo_readPointer_141 (Eq.refl 143) rfl ?_
            refine J_icmp_eq dc_Mo_readPointer_143 (Eq.refl 146) rfl (fun hc => ?_) (fun hc => ?_)
            · have h := h.1 hc
              refine J_sub [1, 2] rfl ?_
              exact h
            · have h := h.2 hc
              refine J_iconst (v := (0 : Int32)) dc_Mo_readPointer_146 (Eq.refl 147) rfl ?_
              exact J_zret dc_Mo_readPointer_147 rfl rfl h
      · have h := h.2 hc
        refine J_aload_n dc_Mo_readPointer_100 (Eq.refl 101) 1 rfl ?_
        refine J_iload_n dc_Mo_readPointer_101 (Eq.refl 102) 2 rfl ?_
        refine J_callVI (As := [.int x1]) (st := []) dc_Mo_readPointer_102 (Eq.refl 105) lk_Mo_340 mi_Mo_takeWide rfl (Nat.le_of_ble_eq_true rfl) rfl rfl (Nat.le_of_ble_eq_true rfl) rfl (Nat.le_of_ble_eq_true rfl) (CI.mono h (fun r7 σ6 h => ?_))
        refine J_if_ne dc_Mo_readPointer_105 (Eq.refl 108) rfl (fun hc => ?_) (fun hc => ?_)
        · have h := h.1 hc
          refine J_sub [1, 2] rfl ?_
          exact h
        · have h := h.2 hc
          refine J_iconst (v := (0 : Int32)) dc_Mo_readPointer_108 (Eq.refl 109) rfl ?_
          exact J_zret dc_Mo_readPointer_109 rfl rfl h
theorem b_Mo_readPointer_148 {E : En_t} {d : Nat} {σ : S_t} {Q : Option Value → S_t → Prop} {x1 : Int32}
    (h : vp_in (gI σ 0 9) 2000 ∧ ((¬ (gI σ 1 (gI σ 0 9).toNatClampNeg) = (48 : Int32) → JE E (d + 1) m_Mo_readPointer 170 [(0, pv E 0), (1, .int x1)] [.int (47 : Int32), pv E 0] σ Q) ∧ ((gI σ 1 (gI σ 0 9).toNatClampNeg) = (48 : Int32) → JE E (d + 1) m_Mo_readPointer 170 [(0, pv E 0), (1, .int x1)] [.int (126 : Int32), pv E 0] σ Q))) :
    JE E (d + 1) m_Mo_readPointer 148 [(0, pv E 0), (1, .int x1)] [] σ Q := by
  refine J_aload_n dc_Mo_readPointer_148 (Eq.refl 149) 0 rfl ?_
  refine J_aload_n dc_Mo_readPointer_149 (Eq.refl 150) 0 rfl ?_
  refine J_getF (y := 1) dc_Mo_readPointer_150 (Eq.refl 153) fl_Mo_7 (Nat.le_of_ble_eq_true rfl) rfl (Or.inl rfl) rfl ?_
  refine J_aload_n dc_Mo_readPointer_153 (Eq.refl 154) 0 rfl ?_
  refine J_getI dc_Mo_readPointer_154 (Eq.refl 157) fl_Mo_210 (Nat.le_of_ble_eq_true rfl) rfl (Or.inl rfl) ?_
  obtain ⟨hg, h⟩ := h
  refine J_iald dc_Mo_readPointer_157 (Eq.refl 158) rfl rfl hg ?_
  refine J_bipush (v := (48 : Int32)) dc_Mo_readPointer_158 (Eq.refl 160) rfl ?_
  refine J_icmp_ne dc_Mo_readPointer_160 (Eq.refl 163) rfl (fun hc => ?_) (fun hc => ?_)
  · have h := h.1 hc
    refine J_bipush (v := (47 : Int32)) dc_Mo_readPointer_168 (Eq.refl 170) rfl ?_
    exact h
  · have h := h.2 hc
    refine J_bipush (v := (126 : Int32)) dc_Mo_readPointer_163 (Eq.refl 165) rfl ?_
    refine J_goto dc_Mo_readPointer_165 rfl ?_
    exact h
theorem b_Mo_readPointer_170 {E : En_t} {d : Nat} {σ : S_t} {Q : Option Value → S_t → Prop} {x1 : Int32} {s0 : Int32}
    (h : CV E d m_Mo_keep [pv E 0, .int s0] σ (fun σ1 => JE E (d + 1) m_Mo_readPointer 201 [(0, pv E 0), (1, .int x1)] [] (sI σ1 0 9 ((gI σ1 0 9) + (1 : Int32))) Q)) :
    JE E (d + 1) m_Mo_readPointer 170 [(0, pv E 0), (1, .int x1)] [.int s0, pv E 0] σ Q := by
  refine J_callVV (As := [.int s0]) (st := []) dc_Mo_readPointer_170 (Eq.refl 173) lk_Mo_324 mi_Mo_keep rfl (Nat.le_of_ble_eq_true rfl) rfl rfl (Nat.le_of_ble_eq_true rfl) rfl (Nat.le_of_ble_eq_true rfl) (CV.mono h (fun σ1 h => ?_))
  refine J_aload_n dc_Mo_readPointer_173 (Eq.refl 174) 0 rfl ?_
  refine J_dup dc_Mo_readPointer_174 (Eq.refl 175) rfl ?_
  refine J_getI dc_Mo_readPointer_175 (Eq.refl 178) fl_Mo_210 (Nat.le_of_ble_eq_true rfl) rfl (Or.inl rfl) ?_
  refine J_iconst (v := (1 : Int32)) dc_Mo_readPointer_178 (Eq.refl 179) rfl ?_
  refine J_iadd dc_Mo_readPointer_179 (Eq.refl 180) ?_
  refine J_putI dc_Mo_readPointer_180 (Eq.refl 183) pl_Mo_210 (Nat.le_of_ble_eq_true rfl) rfl rfl ?_
  refine J_goto dc_Mo_readPointer_183 rfl ?_
  exact h
theorem b_Mo_readPointer_201 {E : En_t} {d : Nat} {σ : S_t} {Q : Option Value → S_t → Prop} {x1 : Int32}
    (h : JE E (d + 1) m_Mo_readPointer 62 [(0, pv E 0), (1, .int x1)] [] σ Q) :
    JE E (d + 1) m_Mo_readPointer 201 [(0, pv E 0), (1, .int x1)] [] σ Q := by
  refine J_goto dc_Mo_readPointer_201 rfl ?_
  exact h
theorem b_Mo_readPointer_204 {E : En_t} {d : Nat} {σ : S_t} {Q : Option Value → S_t → Prop} {x1 : Int32}
    (h : vp_in (gI σ 0 62) 2001 ∧ (vp_in (gI σ 0 62) 2001 ∧ (∀ v1, v1 = (gI (sI σ 44 (gI σ 0 62).toNatClampNeg ((gI σ 0 44) - (gI σ 43 (gI σ 0 62).toNatClampNeg))) 0 62) + (1 : Int32) → (JE E (d + 1) m_Mo_readPointer 15 [(0, pv E 0), (1, .int x1)] [] (sI (sI σ 44 (gI σ 0 62).toNatClampNeg ((gI σ 0 44) - (gI σ 43 (gI σ 0 62).toNatClampNeg))) 0 62 v1) Q)))) :
    JE E (d + 1) m_Mo_readPointer 204 [(0, pv E 0), (1, .int x1)] [] σ Q := by
  refine J_aload_n dc_Mo_readPointer_204 (Eq.refl 205) 0 rfl ?_
  refine J_getF (y := 44) dc_Mo_readPointer_205 (Eq.refl 208) fl_Mo_147 (Nat.le_of_ble_eq_true rfl) rfl (Or.inl rfl) rfl ?_
  refine J_aload_n dc_Mo_readPointer_208 (Eq.refl 209) 0 rfl ?_
  refine J_getI dc_Mo_readPointer_209 (Eq.refl 212) fl_Mo_414 (Nat.le_of_ble_eq_true rfl) rfl (Or.inl rfl) ?_
  refine J_aload_n dc_Mo_readPointer_212 (Eq.refl 213) 0 rfl ?_
  refine J_getI dc_Mo_readPointer_213 (Eq.refl 216) fl_Mo_321 (Nat.le_of_ble_eq_true rfl) rfl (Or.inl rfl) ?_
  refine J_aload_n dc_Mo_readPointer_216 (Eq.refl 217) 0 rfl ?_
  refine J_getF (y := 43) dc_Mo_readPointer_217 (Eq.refl 220) fl_Mo_144 (Nat.le_of_ble_eq_true rfl) rfl (Or.inl rfl) rfl ?_
  refine J_aload_n dc_Mo_readPointer_220 (Eq.refl 221) 0 rfl ?_
  refine J_getI dc_Mo_readPointer_221 (Eq.refl 224) fl_Mo_414 (Nat.le_of_ble_eq_true rfl) rfl (Or.inl rfl) ?_
  obtain ⟨hg, h⟩ := h
  refine J_iald dc_Mo_readPointer_224 (Eq.refl 225) rfl rfl hg ?_
  refine J_isub dc_Mo_readPointer_225 (Eq.refl 226) ?_
  obtain ⟨hg, h⟩ := h
  refine J_iast dc_Mo_readPointer_226 (Eq.refl 227) rfl rfl hg ?_
  refine J_aload_n dc_Mo_readPointer_227 (Eq.refl 228) 0 rfl ?_
  refine J_dup dc_Mo_readPointer_228 (Eq.refl 229) rfl ?_
  refine J_getI dc_Mo_readPointer_229 (Eq.refl 232) fl_Mo_414 (Nat.le_of_ble_eq_true rfl) rfl (Or.inl rfl) ?_
  refine J_iconst (v := (1 : Int32)) dc_Mo_readPointer_232 (Eq.refl 233) rfl ?_
  refine J_iadd dc_Mo_readPointer_233 (Eq.refl 234) ?_
  refine J_topi (fun v1 ev1 => ?_)
  have h := h v1 ev1
  refine J_putI dc_Mo_readPointer_234 (Eq.refl 237) pl_Mo_414 (Nat.le_of_ble_eq_true rfl) rfl rfl ?_
  refine J_goto dc_Mo_readPointer_237 rfl ?_
  exact h
theorem dc_Mo_partOf_0 : decode m_Mo_partOf.2.1 0 = .ok (.sipush 500, 3) := by decide +kernel
theorem dc_Mo_partOf_3 : decode m_Mo_partOf.2.1 3 = .ok (.iload_n 1, 1) := by decide +kernel
theorem dc_Mo_partOf_4 : decode m_Mo_partOf.2.1 4 = .ok (.imul, 1) := by decide +kernel
theorem dc_Mo_partOf_5 : decode m_Mo_partOf.2.1 5 = .ok (.istore 4, 2) := by decide +kernel
theorem dc_Mo_partOf_7 : decode m_Mo_partOf.2.1 7 = .ok (.aload_n 0, 1) := by decide +kernel
theorem dc_Mo_partOf_8 : decode m_Mo_partOf.2.1 8 = .ok (.getfield 147, 3) := by decide +kernel
theorem dc_Mo_partOf_11 : decode m_Mo_partOf.2.1 11 = .ok (.iload_n 3, 1) := by decide +kernel
theorem dc_Mo_partOf_12 : decode m_Mo_partOf.2.1 12 = .ok (.iaload, 1) := by decide +kernel
theorem dc_Mo_partOf_13 : decode m_Mo_partOf.2.1 13 = .ok (.istore 5, 2) := by decide +kernel
theorem dc_Mo_partOf_15 : decode m_Mo_partOf.2.1 15 = .ok (.aload_n 0, 1) := by decide +kernel
theorem dc_Mo_partOf_16 : decode m_Mo_partOf.2.1 16 = .ok (.getfield 144, 3) := by decide +kernel
theorem dc_Mo_partOf_19 : decode m_Mo_partOf.2.1 19 = .ok (.iload_n 3, 1) := by decide +kernel
theorem dc_Mo_partOf_20 : decode m_Mo_partOf.2.1 20 = .ok (.iaload, 1) := by decide +kernel
theorem dc_Mo_partOf_21 : decode m_Mo_partOf.2.1 21 = .ok (.istore 6, 2) := by decide +kernel
theorem dc_Mo_partOf_23 : decode m_Mo_partOf.2.1 23 = .ok (.aload_n 0, 1) := by decide +kernel
theorem dc_Mo_partOf_24 : decode m_Mo_partOf.2.1 24 = .ok (.getfield 47, 3) := by decide +kernel
theorem dc_Mo_partOf_27 : decode m_Mo_partOf.2.1 27 = .ok (.iload 4, 2) := by decide +kernel
theorem dc_Mo_partOf_29 : decode m_Mo_partOf.2.1 29 = .ok (.iload_n 2, 1) := by decide +kernel
theorem dc_Mo_partOf_30 : decode m_Mo_partOf.2.1 30 = .ok (.iadd, 1) := by decide +kernel
theorem dc_Mo_partOf_31 : decode m_Mo_partOf.2.1 31 = .ok (.iaload, 1) := by decide +kernel
theorem dc_Mo_partOf_32 : decode m_Mo_partOf.2.1 32 = .ok (.iconst 5, 1) := by decide +kernel
theorem dc_Mo_partOf_33 : decode m_Mo_partOf.2.1 33 = .ok (.if_icmp .ne 148, 3) := by decide +kernel
theorem dc_Mo_partOf_36 : decode m_Mo_partOf.2.1 36 = .ok (.iconst 0, 1) := by decide +kernel
theorem dc_Mo_partOf_37 : decode m_Mo_partOf.2.1 37 = .ok (.istore 7, 2) := by decide +kernel
theorem dc_Mo_partOf_39 : decode m_Mo_partOf.2.1 39 = .ok (.iconst 0, 1) := by decide +kernel
theorem dc_Mo_partOf_40 : decode m_Mo_partOf.2.1 40 = .ok (.istore 8, 2) := by decide +kernel
theorem dc_Mo_partOf_42 : decode m_Mo_partOf.2.1 42 = .ok (.iload 8, 2) := by decide +kernel
theorem dc_Mo_partOf_44 : decode m_Mo_partOf.2.1 44 = .ok (.iload 5, 2) := by decide +kernel
theorem dc_Mo_partOf_46 : decode m_Mo_partOf.2.1 46 = .ok (.if_icmp .ge 75, 3) := by decide +kernel
theorem dc_Mo_partOf_49 : decode m_Mo_partOf.2.1 49 = .ok (.aload_n 0, 1) := by decide +kernel
theorem dc_Mo_partOf_50 : decode m_Mo_partOf.2.1 50 = .ok (.getfield 132, 3) := by decide +kernel
theorem dc_Mo_partOf_53 : decode m_Mo_partOf.2.1 53 = .ok (.iload 6, 2) := by decide +kernel
theorem dc_Mo_partOf_55 : decode m_Mo_partOf.2.1 55 = .ok (.iload 8, 2) := by decide +kernel
theorem dc_Mo_partOf_57 : decode m_Mo_partOf.2.1 57 = .ok (.iadd, 1) := by decide +kernel
theorem dc_Mo_partOf_58 : decode m_Mo_partOf.2.1 58 = .ok (.iaload, 1) := by decide +kernel
theorem dc_Mo_partOf_59 : decode m_Mo_partOf.2.1 59 = .ok (.istore 9, 2) := by decide +kernel
theorem dc_Mo_partOf_61 : decode m_Mo_partOf.2.1 61 = .ok (.iload 9, 2) := by decide +kernel
theorem dc_Mo_partOf_63 : decode m_Mo_partOf.2.1 63 = .ok (.invokestatic 217, 3) := by decide +kernel
theorem dc_Mo_partOf_66 : decode m_Mo_partOf.2.1 66 = .ok (.ifCond .eq 21, 3) := by decide +kernel
theorem dc_Mo_partOf_69 : decode m_Mo_partOf.2.1 69 = .ok (.iload 8, 2) := by decide +kernel
theorem dc_Mo_partOf_71 : decode m_Mo_partOf.2.1 71 = .ok (.ifCond .ne 18, 3) := by decide +kernel
theorem dc_Mo_partOf_74 : decode m_Mo_partOf.2.1 74 = .ok (.iload 9, 2) := by decide +kernel
theorem dc_Mo_partOf_76 : decode m_Mo_partOf.2.1 76 = .ok (.bipush 48, 2) := by decide +kernel
theorem dc_Mo_partOf_78 : decode m_Mo_partOf.2.1 78 = .ok (.if_icmp .ne 11, 3) := by decide +kernel
theorem dc_Mo_partOf_81 : decode m_Mo_partOf.2.1 81 = .ok (.iload 5, 2) := by decide +kernel
theorem dc_Mo_partOf_83 : decode m_Mo_partOf.2.1 83 = .ok (.iconst 1, 1) := by decide +kernel
theorem dc_Mo_partOf_84 : decode m_Mo_partOf.2.1 84 = .ok (.if_icmp .le 5, 3) := by decide +kernel
theorem dc_Mo_partOf_87 : decode m_Mo_partOf.2.1 87 = .ok (.iconst (-1), 1) := by decide +kernel
theorem dc_Mo_partOf_88 : decode m_Mo_partOf.2.1 88 = .ok (.ireturn, 1) := by decide +kernel
theorem dc_Mo_partOf_89 : decode m_Mo_partOf.2.1 89 = .ok (.iload 7, 2) := by decide +kernel
theorem dc_Mo_partOf_91 : decode m_Mo_partOf.2.1 91 = .ok (.sipush 10000, 3) := by decide +kernel
theorem dc_Mo_partOf_94 : decode m_Mo_partOf.2.1 94 = .ok (.if_icmp .ge 17, 3) := by decide +kernel
theorem dc_Mo_partOf_97 : decode m_Mo_partOf.2.1 97 = .ok (.bipush 10, 2) := by decide +kernel
theorem dc_Mo_partOf_99 : decode m_Mo_partOf.2.1 99 = .ok (.iload 7, 2) := by decide +kernel
theorem dc_Mo_partOf_101 : decode m_Mo_partOf.2.1 101 = .ok (.imul, 1) := by decide +kernel
theorem dc_Mo_partOf_102 : decode m_Mo_partOf.2.1 102 = .ok (.iload 9, 2) := by decide +kernel
theorem dc_Mo_partOf_104 : decode m_Mo_partOf.2.1 104 = .ok (.iadd, 1) := by decide +kernel
theorem dc_Mo_partOf_105 : decode m_Mo_partOf.2.1 105 = .ok (.bipush 48, 2) := by decide +kernel
theorem dc_Mo_partOf_107 : decode m_Mo_partOf.2.1 107 = .ok (.isub, 1) := by decide +kernel
theorem dc_Mo_partOf_108 : decode m_Mo_partOf.2.1 108 = .ok (.goto 5, 3) := by decide +kernel
theorem dc_Mo_partOf_111 : decode m_Mo_partOf.2.1 111 = .ok (.iload 7, 2) := by decide +kernel
theorem dc_Mo_partOf_113 : decode m_Mo_partOf.2.1 113 = .ok (.istore 7, 2) := by decide +kernel
theorem dc_Mo_partOf_115 : decode m_Mo_partOf.2.1 115 = .ok (.iinc 8 1, 3) := by decide +kernel
theorem dc_Mo_partOf_118 : decode m_Mo_partOf.2.1 118 = .ok (.goto (-76), 3) := by decide +kernel
theorem dc_Mo_partOf_121 : decode m_Mo_partOf.2.1 121 = .ok (.iload 5, 2) := by decide +kernel
theorem dc_Mo_partOf_123 : decode m_Mo_partOf.2.1 123 = .ok (.ifCond .eq 17, 3) := by decide +kernel
theorem dc_Mo_partOf_126 : decode m_Mo_partOf.2.1 126 = .ok (.iload 7, 2) := by decide +kernel
theorem dc_Mo_partOf_128 : decode m_Mo_partOf.2.1 128 = .ok (.aload_n 0, 1) := by decide +kernel
theorem dc_Mo_partOf_129 : decode m_Mo_partOf.2.1 129 = .ok (.getfield 56, 3) := by decide +kernel
theorem dc_Mo_partOf_132 : decode m_Mo_partOf.2.1 132 = .ok (.iload 4, 2) := by decide +kernel
theorem dc_Mo_partOf_134 : decode m_Mo_partOf.2.1 134 = .ok (.iload_n 2, 1) := by decide +kernel
theorem dc_Mo_partOf_135 : decode m_Mo_partOf.2.1 135 = .ok (.iadd, 1) := by decide +kernel
theorem dc_Mo_partOf_136 : decode m_Mo_partOf.2.1 136 = .ok (.iaload, 1) := by decide +kernel
theorem dc_Mo_partOf_137 : decode m_Mo_partOf.2.1 137 = .ok (.if_icmp .lt 5, 3) := by decide +kernel
theorem dc_Mo_partOf_140 : decode m_Mo_partOf.2.1 140 = .ok (.iconst (-1), 1) := by decide +kernel
theorem dc_Mo_partOf_141 : decode m_Mo_partOf.2.1 141 = .ok (.ireturn, 1) := by decide +kernel
theorem dc_Mo_partOf_142 : decode m_Mo_partOf.2.1 142 = .ok (.iload_n 2, 1) := by decide +kernel
theorem dc_Mo_partOf_143 : decode m_Mo_partOf.2.1 143 = .ok (.iconst 1, 1) := by decide +kernel
theorem dc_Mo_partOf_144 : decode m_Mo_partOf.2.1 144 = .ok (.iadd, 1) := by decide +kernel
theorem dc_Mo_partOf_145 : decode m_Mo_partOf.2.1 145 = .ok (.istore 8, 2) := by decide +kernel
theorem dc_Mo_partOf_147 : decode m_Mo_partOf.2.1 147 = .ok (.iconst 0, 1) := by decide +kernel
theorem dc_Mo_partOf_148 : decode m_Mo_partOf.2.1 148 = .ok (.istore 9, 2) := by decide +kernel
theorem dc_Mo_partOf_150 : decode m_Mo_partOf.2.1 150 = .ok (.iload 9, 2) := by decide +kernel
theorem dc_Mo_partOf_152 : decode m_Mo_partOf.2.1 152 = .ok (.iload 7, 2) := by decide +kernel
theorem dc_Mo_partOf_154 : decode m_Mo_partOf.2.1 154 = .ok (.if_icmp .ge 24, 3) := by decide +kernel
theorem dc_Mo_partOf_157 : decode m_Mo_partOf.2.1 157 = .ok (.iload 8, 2) := by decide +kernel
theorem dc_Mo_partOf_159 : decode m_Mo_partOf.2.1 159 = .ok (.aload_n 0, 1) := by decide +kernel
theorem dc_Mo_partOf_160 : decode m_Mo_partOf.2.1 160 = .ok (.getfield 59, 3) := by decide +kernel
theorem dc_Mo_partOf_163 : decode m_Mo_partOf.2.1 163 = .ok (.iload 4, 2) := by decide +kernel
theorem dc_Mo_partOf_165 : decode m_Mo_partOf.2.1 165 = .ok (.iload 8, 2) := by decide +kernel
theorem dc_Mo_partOf_167 : decode m_Mo_partOf.2.1 167 = .ok (.iadd, 1) := by decide +kernel
theorem dc_Mo_partOf_168 : decode m_Mo_partOf.2.1 168 = .ok (.iaload, 1) := by decide +kernel
theorem dc_Mo_partOf_169 : decode m_Mo_partOf.2.1 169 = .ok (.iadd, 1) := by decide +kernel
theorem dc_Mo_partOf_170 : decode m_Mo_partOf.2.1 170 = .ok (.istore 8, 2) := by decide +kernel
theorem dc_Mo_partOf_172 : decode m_Mo_partOf.2.1 172 = .ok (.iinc 9 1, 3) := by decide +kernel
theorem dc_Mo_partOf_175 : decode m_Mo_partOf.2.1 175 = .ok (.goto (-25), 3) := by decide +kernel
theorem dc_Mo_partOf_178 : decode m_Mo_partOf.2.1 178 = .ok (.iload 8, 2) := by decide +kernel
theorem dc_Mo_partOf_180 : decode m_Mo_partOf.2.1 180 = .ok (.ireturn, 1) := by decide +kernel
theorem dc_Mo_partOf_181 : decode m_Mo_partOf.2.1 181 = .ok (.aload_n 0, 1) := by decide +kernel
theorem dc_Mo_partOf_182 : decode m_Mo_partOf.2.1 182 = .ok (.getfield 47, 3) := by decide +kernel
theorem dc_Mo_partOf_185 : decode m_Mo_partOf.2.1 185 = .ok (.iload 4, 2) := by decide +kernel
theorem dc_Mo_partOf_187 : decode m_Mo_partOf.2.1 187 = .ok (.iload_n 2, 1) := by decide +kernel
theorem dc_Mo_partOf_188 : decode m_Mo_partOf.2.1 188 = .ok (.iadd, 1) := by decide +kernel
theorem dc_Mo_partOf_189 : decode m_Mo_partOf.2.1 189 = .ok (.iaload, 1) := by decide +kernel
theorem dc_Mo_partOf_190 : decode m_Mo_partOf.2.1 190 = .ok (.bipush 6, 2) := by decide +kernel
theorem dc_Mo_partOf_192 : decode m_Mo_partOf.2.1 192 = .ok (.if_icmp .eq 5, 3) := by decide +kernel
theorem dc_Mo_partOf_195 : decode m_Mo_partOf.2.1 195 = .ok (.iconst (-1), 1) := by decide +kernel
theorem dc_Mo_partOf_196 : decode m_Mo_partOf.2.1 196 = .ok (.ireturn, 1) := by decide +kernel
theorem dc_Mo_partOf_197 : decode m_Mo_partOf.2.1 197 = .ok (.iload_n 2, 1) := by decide +kernel
theorem dc_Mo_partOf_198 : decode m_Mo_partOf.2.1 198 = .ok (.iconst 1, 1) := by decide +kernel
theorem dc_Mo_partOf_199 : decode m_Mo_partOf.2.1 199 = .ok (.iadd, 1) := by decide +kernel
theorem dc_Mo_partOf_200 : decode m_Mo_partOf.2.1 200 = .ok (.istore 7, 2) := by decide +kernel
theorem dc_Mo_partOf_202 : decode m_Mo_partOf.2.1 202 = .ok (.iconst 0, 1) := by decide +kernel
theorem dc_Mo_partOf_203 : decode m_Mo_partOf.2.1 203 = .ok (.istore 8, 2) := by decide +kernel
theorem dc_Mo_partOf_205 : decode m_Mo_partOf.2.1 205 = .ok (.iload 8, 2) := by decide +kernel
theorem dc_Mo_partOf_207 : decode m_Mo_partOf.2.1 207 = .ok (.aload_n 0, 1) := by decide +kernel
theorem dc_Mo_partOf_208 : decode m_Mo_partOf.2.1 208 = .ok (.getfield 56, 3) := by decide +kernel
theorem dc_Mo_partOf_211 : decode m_Mo_partOf.2.1 211 = .ok (.iload 4, 2) := by decide +kernel
theorem dc_Mo_partOf_213 : decode m_Mo_partOf.2.1 213 = .ok (.iload_n 2, 1) := by decide +kernel
theorem dc_Mo_partOf_214 : decode m_Mo_partOf.2.1 214 = .ok (.iadd, 1) := by decide +kernel
theorem dc_Mo_partOf_215 : decode m_Mo_partOf.2.1 215 = .ok (.iaload, 1) := by decide +kernel
theorem dc_Mo_partOf_216 : decode m_Mo_partOf.2.1 216 = .ok (.if_icmp .ge 71, 3) := by decide +kernel
theorem dc_Mo_partOf_219 : decode m_Mo_partOf.2.1 219 = .ok (.aload_n 0, 1) := by decide +kernel
theorem dc_Mo_partOf_220 : decode m_Mo_partOf.2.1 220 = .ok (.getfield 88, 3) := by decide +kernel
theorem dc_Mo_partOf_223 : decode m_Mo_partOf.2.1 223 = .ok (.sipush 4000, 3) := by decide +kernel
theorem dc_Mo_partOf_226 : decode m_Mo_partOf.2.1 226 = .ok (.iload_n 1, 1) := by decide +kernel
theorem dc_Mo_partOf_227 : decode m_Mo_partOf.2.1 227 = .ok (.imul, 1) := by decide +kernel
theorem dc_Mo_partOf_228 : decode m_Mo_partOf.2.1 228 = .ok (.aload_n 0, 1) := by decide +kernel
theorem dc_Mo_partOf_229 : decode m_Mo_partOf.2.1 229 = .ok (.getfield 65, 3) := by decide +kernel
theorem dc_Mo_partOf_232 : decode m_Mo_partOf.2.1 232 = .ok (.iload 4, 2) := by decide +kernel
theorem dc_Mo_partOf_234 : decode m_Mo_partOf.2.1 234 = .ok (.iload 7, 2) := by decide +kernel
theorem dc_Mo_partOf_236 : decode m_Mo_partOf.2.1 236 = .ok (.iadd, 1) := by decide +kernel
theorem dc_Mo_partOf_237 : decode m_Mo_partOf.2.1 237 = .ok (.iaload, 1) := by decide +kernel
theorem dc_Mo_partOf_238 : decode m_Mo_partOf.2.1 238 = .ok (.iadd, 1) := by decide +kernel
theorem dc_Mo_partOf_239 : decode m_Mo_partOf.2.1 239 = .ok (.aload_n 0, 1) := by decide +kernel
theorem dc_Mo_partOf_240 : decode m_Mo_partOf.2.1 240 = .ok (.getfield 68, 3) := by decide +kernel
theorem dc_Mo_partOf_243 : decode m_Mo_partOf.2.1 243 = .ok (.iload 4, 2) := by decide +kernel
theorem dc_Mo_partOf_245 : decode m_Mo_partOf.2.1 245 = .ok (.iload 7, 2) := by decide +kernel
theorem dc_Mo_partOf_247 : decode m_Mo_partOf.2.1 247 = .ok (.iadd, 1) := by decide +kernel
theorem dc_Mo_partOf_248 : decode m_Mo_partOf.2.1 248 = .ok (.iaload, 1) := by decide +kernel
theorem dc_Mo_partOf_249 : decode m_Mo_partOf.2.1 249 = .ok (.aload_n 0, 1) := by decide +kernel
theorem dc_Mo_partOf_250 : decode m_Mo_partOf.2.1 250 = .ok (.getfield 132, 3) := by decide +kernel
theorem dc_Mo_partOf_253 : decode m_Mo_partOf.2.1 253 = .ok (.iload 6, 2) := by decide +kernel
theorem dc_Mo_partOf_255 : decode m_Mo_partOf.2.1 255 = .ok (.iload 5, 2) := by decide +kernel
theorem dc_Mo_partOf_257 : decode m_Mo_partOf.2.1 257 = .ok (.invokestatic 356, 3) := by decide +kernel
theorem dc_Mo_partOf_260 : decode m_Mo_partOf.2.1 260 = .ok (.ifCond .ne 6, 3) := by decide +kernel
theorem dc_Mo_partOf_263 : decode m_Mo_partOf.2.1 263 = .ok (.iload 7, 2) := by decide +kernel
theorem dc_Mo_partOf_265 : decode m_Mo_partOf.2.1 265 = .ok (.ireturn, 1) := by decide +kernel
theorem dc_Mo_partOf_266 : decode m_Mo_partOf.2.1 266 = .ok (.iload 7, 2) := by decide +kernel
theorem dc_Mo_partOf_268 : decode m_Mo_partOf.2.1 268 = .ok (.aload_n 0, 1) := by decide +kernel
theorem dc_Mo_partOf_269 : decode m_Mo_partOf.2.1 269 = .ok (.getfield 59, 3) := by decide +kernel
theorem dc_Mo_partOf_272 : decode m_Mo_partOf.2.1 272 = .ok (.iload 4, 2) := by decide +kernel
theorem dc_Mo_partOf_274 : decode m_Mo_partOf.2.1 274 = .ok (.iload 7, 2) := by decide +kernel
theorem dc_Mo_partOf_276 : decode m_Mo_partOf.2.1 276 = .ok (.iadd, 1) := by decide +kernel
theorem dc_Mo_partOf_277 : decode m_Mo_partOf.2.1 277 = .ok (.iaload, 1) := by decide +kernel
theorem dc_Mo_partOf_278 : decode m_Mo_partOf.2.1 278 = .ok (.iadd, 1) := by decide +kernel
theorem dc_Mo_partOf_279 : decode m_Mo_partOf.2.1 279 = .ok (.istore 7, 2) := by decide +kernel
theorem dc_Mo_partOf_281 : decode m_Mo_partOf.2.1 281 = .ok (.iinc 8 1, 3) := by decide +kernel
theorem dc_Mo_partOf_284 : decode m_Mo_partOf.2.1 284 = .ok (.goto (-79), 3) := by decide +kernel
theorem dc_Mo_partOf_287 : decode m_Mo_partOf.2.1 287 = .ok (.iconst (-1), 1) := by decide +kernel
theorem dc_Mo_partOf_288 : decode m_Mo_partOf.2.1 288 = .ok (.ireturn, 1) := by decide +kernel
theorem b_Mo_partOf_0 {E : En_t} {d : Nat} {σ : S_t} {Q : Option Value → S_t → Prop} {x1 : Int32} {x2 : Int32} {x3 : Int32}
    (h : vp_in x3 2001 ∧ (vp_in x3 2001 ∧ (vp_in (((500 : Int32) * x1) + x2) 4500 ∧ ((¬ (gI σ 13 (((500 : Int32) * x1) + x2).toNatClampNeg) = (5 : Int32) → vp_in (((500 : Int32) * x1) + x2) 4500 ∧ (((gI σ 13 (((500 : Int32) * x1) + x2).toNatClampNeg) = (6 : Int32) → JE E (d + 1) m_Mo_partOf 205 [(0, pv E 0), (1, .int x1), (2, .int x2), (4, .int ((500 : Int32) * x1)), (5, .int (gI σ 44 x3.toNatClampNeg)), (6, .int (gI σ 43 x3.toNatClampNeg)), (7, .int (x2 + (1 : Int32))), (8, .int (0 : Int32))] [] σ Q) ∧ (¬ (gI σ 13 (((500 : Int32) * x1) + x2).toNatClampNeg) = (6 : Int32) → Q (some (.int (-1 : Int32))) σ))) ∧ ((gI σ 13 (((500 : Int32) * x1) + x2).toNatClampNeg) = (5 : Int32) → JE E (d + 1) m_Mo_partOf 42 [(0, pv E 0), (2, .int x2), (4, .int ((500 : Int32) * x1)), (5, .int (gI σ 44 x3.toNatClampNeg)), (6, .int (gI σ 43 x3.toNatClampNeg)), (7, .int (0 : Int32)), (8, .int (0 : Int32))] [] σ Q))))) :
    JE E (d + 1) m_Mo_partOf 0 [(0, pv E 0), (1, .int x1), (2, .int x2), (3, .int x3)] [] σ Q := by
  refine J_sipush (v := (500 : Int32)) dc_Mo_partOf_0 (Eq.refl 3) rfl ?_
  refine J_iload_n dc_Mo_partOf_3 (Eq.refl 4) 1 rfl ?_
  refine J_imul dc_Mo_partOf_4 (Eq.refl 5) ?_
  refine J_istore (L' := [(4, .int ((500 : Int32) * x1)), (0, pv E 0), (1, .int x1), (2, .int x2), (3, .int x3)]) dc_Mo_partOf_5 (Eq.refl 7) (Nat.le_of_ble_eq_true rfl) rfl ?_
  refine J_aload_n dc_Mo_partOf_7 (Eq.refl 8) 1 rfl ?_
  refine J_getF (y := 44) dc_Mo_partOf_8 (Eq.refl 11) fl_Mo_147 (Nat.le_of_ble_eq_true rfl) rfl (Or.inl rfl) rfl ?_
  refine J_iload_n dc_Mo_partOf_11 (Eq.refl 12) 4 rfl ?_
  obtain ⟨hg, h⟩ := h
  refine J_iald dc_Mo_partOf_12 (Eq.refl 13) rfl rfl hg ?_
  refine J_istore (L' := [(5, .int (gI σ 44 x3.toNatClampNeg)), (4, .int ((500 : Int32) * x1)), (0, pv E 0), (1, .int x1), (2, .int x2), (3, .int x3)]) dc_Mo_partOf_13 (Eq.refl 15) (Nat.le_of_ble_eq_true rfl) rfl ?_
  refine J_aload_n dc_Mo_partOf_15 (Eq.refl 16) 2 rfl ?_
  refine J_getF (y := 43) dc_Mo_partOf_16 (Eq.refl 19) fl_Mo_144 (Nat.le_of_ble_eq_true rfl) rfl (Or.inl rfl) rfl ?_
  refine J_iload_n dc_Mo_partOf_19 (Eq.refl 20) 5 rfl ?_
  obtain ⟨hg, h⟩ := h
  refine J_iald dc_Mo_partOf_20 (Eq.refl 21) rfl rfl hg ?_
  refine J_istore (L' := [(6, .int (gI σ 43 x3.toNatClampNeg)), (5, .int (gI σ 44 x3.toNatClampNeg)), (4, .int ((500 : Int32) * x1)), (0, pv E 0), (1, .int x1), (2, .int x2), (3, .int x3)]) dc_Mo_partOf_21 (Eq.refl 23) (Nat.le_of_ble_eq_true rfl) rfl ?_
  refine J_aload_n dc_Mo_partOf_23 (Eq.refl 24) 3 rfl ?_
  refine J_getF (y := 13) dc_Mo_partOf_24 (Eq.refl 27) fl_Mo_47 (Nat.le_of_ble_eq_true rfl) rfl (Or.inl rfl) rfl ?_
  refine J_iload dc_Mo_partOf_27 (Eq.refl 29) 2 rfl ?_
  refine J_iload_n dc_Mo_partOf_29 (Eq.refl 30) 5 rfl ?_
  refine J_iadd dc_Mo_partOf_30 (Eq.refl 31) ?_
  obtain ⟨hg, h⟩ := h
  refine J_iald dc_Mo_partOf_31 (Eq.refl 32) rfl rfl hg ?_
  refine J_iconst (v := (5 : Int32)) dc_Mo_partOf_32 (Eq.refl 33) rfl ?_
  refine J_icmp_ne dc_Mo_partOf_33 (Eq.refl 36) rfl (fun hc => ?_) (fun hc => ?_)
  · have h := h.1 hc
    refine J_aload_n dc_Mo_partOf_181 (Eq.refl 182) 3 rfl ?_
    refine J_getF (y := 13) dc_Mo_partOf_182 (Eq.refl 185) fl_Mo_47 (Nat.le_of_ble_eq_true rfl) rfl (Or.inl rfl) rfl ?_
    refine J_iload dc_Mo_partOf_185 (Eq.refl 187) 2 rfl ?_
    refine J_iload_n dc_Mo_partOf_187 (Eq.refl 188) 5 rfl ?_
    refine J_iadd dc_Mo_partOf_188 (Eq.refl 189) ?_
    obtain ⟨hg, h⟩ := h
    refine J_iald dc_Mo_partOf_189 (Eq.refl 190) rfl rfl hg ?_
    refine J_bipush (v := (6 : Int32)) dc_Mo_partOf_190 (Eq.refl 192) rfl ?_
    refine J_icmp_eq dc_Mo_partOf_192 (Eq.refl 195) rfl (fun hc => ?_) (fun hc => ?_)
    · have h := h.1 hc
      refine J_iload_n dc_Mo_partOf_197 (Eq.refl 198) 5 rfl ?_
      refine J_iconst (v := (1 : Int32)) dc_Mo_partOf_198 (Eq.refl 199) rfl ?_
      refine J_iadd dc_Mo_partOf_199 (Eq.refl 200) ?_
      refine J_istore (L' := [(7, .int (x2 + (1 : Int32))), (6, .int (gI σ 43 x3.toNatClampNeg)), (5, .int (gI σ 44 x3.toNatClampNeg)), (4, .int ((500 : Int32) * x1)), (0, pv E 0), (1, .int x1), (2, .int x2), (3, .int x3)]) dc_Mo_partOf_200 (Eq.refl 202) (Nat.le_of_ble_eq_true rfl) rfl ?_
      refine J_iconst (v := (0 : Int32)) dc_Mo_partOf_202 (Eq.refl 203) rfl ?_
      refine J_istore (L' := [(8, .int (0 : Int32)), (7, .int (x2 + (1 : Int32))), (6, .int (gI σ 43 x3.toNatClampNeg)), (5, .int (gI σ 44 x3.toNatClampNeg)), (4, .int ((500 : Int32) * x1)), (0, pv E 0), (1, .int x1), (2, .int x2), (3, .int x3)]) dc_Mo_partOf_203 (Eq.refl 205) (Nat.le_of_ble_eq_true rfl) rfl ?_
      refine J_sub [5, 6, 7, 4, 3, 2, 1, 0] rfl ?_
      exact h
    · have h := h.2 hc
      refine J_iconst (v := (-1 : Int32)) dc_Mo_partOf_195 (Eq.refl 196) rfl ?_
      exact J_iret dc_Mo_partOf_196 rfl h
  · have h := h.2 hc
    refine J_iconst (v := (0 : Int32)) dc_Mo_partOf_36 (Eq.refl 37) rfl ?_
    refine J_istore (L' := [(7, .int (0 : Int32)), (6, .int (gI σ 43 x3.toNatClampNeg)), (5, .int (gI σ 44 x3.toNatClampNeg)), (4, .int ((500 : Int32) * x1)), (0, pv E 0), (1, .int x1), (2, .int x2), (3, .int x3)]) dc_Mo_partOf_37 (Eq.refl 39) (Nat.le_of_ble_eq_true rfl) rfl ?_
    refine J_iconst (v := (0 : Int32)) dc_Mo_partOf_39 (Eq.refl 40) rfl ?_
    refine J_istore (L' := [(8, .int (0 : Int32)), (7, .int (0 : Int32)), (6, .int (gI σ 43 x3.toNatClampNeg)), (5, .int (gI σ 44 x3.toNatClampNeg)), (4, .int ((500 : Int32) * x1)), (0, pv E 0), (1, .int x1), (2, .int x2), (3, .int x3)]) dc_Mo_partOf_40 (Eq.refl 42) (Nat.le_of_ble_eq_true rfl) rfl ?_
    refine J_sub [5, 7, 4, 3, 2, 1, 0] rfl ?_
    exact h
theorem b_Mo_partOf_42 {E : En_t} {d : Nat} {σ : S_t} {Q : Option Value → S_t → Prop} {x2 : Int32} {x4 : Int32} {x5 : Int32} {x6 : Int32} {x7 : Int32} {x8 : Int32}
    (h : (x5 ≤ x8 → (x5 = 0 → Q (some (.int (-1 : Int32))) σ) ∧ (¬ x5 = 0 → vp_in (x4 + x2) 4500 ∧ ((x7 < (gI σ 16 (x4 + x2).toNatClampNeg) → JE E (d + 1) m_Mo_partOf 150 [(0, pv E 0), (4, .int x4), (7, .int x7), (8, .int (x2 + (1 : Int32))), (9, .int (0 : Int32))] [] σ Q) ∧ (¬ x7 < (gI σ 16 (x4 + x2).toNatClampNeg) → Q (some (.int (-1 : Int32))) σ)))) ∧ (¬ x5 ≤ x8 → vp_in (x6 + x8) 2100 ∧ (CI E d m_Mo_isDigit [.int (gI σ 39 (x6 + x8).toNatClampNeg)] σ (fun r2 σ1 => (r2 = 0 → Q (some (.int (-1 : Int32))) σ1) ∧ (¬ r2 = 0 → (¬ x8 = 0 → JE E (d + 1) m_Mo_partOf 89 [(0, pv E 0), (2, .int x2), (4, .int x4), (5, .int x5), (6, .int x6), (7, .int x7), (8, .int x8), (9, .int (gI σ 39 (x6 + x8).toNatClampNeg))] [] σ1 Q) ∧ (x8 = 0 → (¬ (gI σ 39 (x6 + x8).toNatClampNeg) = (48 : Int32) → JE E (d + 1) m_Mo_partOf 89 [(0, pv E 0), (2, .int x2), (4, .int x4), (5, .int x5), (6, .int x6), (7, .int x7), (8, .int x8), (9, .int (gI σ 39 (x6 + x8).toNatClampNeg))] [] σ1 Q) ∧ ((gI σ 39 (x6 + x8).toNatClampNeg) = (48 : Int32) → (x5 ≤ (1 : Int32) → JE E (d + 1) m_Mo_partOf 89 [(0, pv E 0), (2, .int x2), (4, .int x4), (5, .int x5), (6, .int x6), (7, .int x7), (8, .int x8), (9, .int (gI σ 39 (x6 + x8).toNatClampNeg))] [] σ1 Q) ∧ (¬ x5 ≤ (1 : Int32) → Q (some (.int (-1 : Int32))) σ1)))))))) :
    JE E (d + 1) m_Mo_partOf 42 [(0, pv E 0), (2, .int x2), (4, .int x4), (5, .int x5), (6, .int x6), (7, .int x7), (8, .int x8)] [] σ Q := by
  refine J_iload dc_Mo_partOf_42 (Eq.refl 44) 6 rfl ?_
  refine J_iload dc_Mo_partOf_44 (Eq.refl 46) 3 rfl ?_
  refine J_icmp_ge dc_Mo_partOf_46 (Eq.refl 49) rfl (fun hc => ?_) (fun hc => ?_)
  · have h := h.1 hc
    refine J_iload dc_Mo_partOf_121 (Eq.refl 123) 3 rfl ?_
    refine J_if_eq dc_Mo_partOf_123 (Eq.refl 126) rfl (fun hc => ?_) (fun hc => ?_)
    · have h := h.1 hc
      refine J_iconst (v := (-1 : Int32)) dc_Mo_partOf_140 (Eq.refl 141) rfl ?_
      exact J_iret dc_Mo_partOf_141 rfl h
    · have h := h.2 hc
      refine J_iload dc_Mo_partOf_126 (Eq.refl 128) 5 rfl ?_
      refine J_aload_n dc_Mo_partOf_128 (Eq.refl 129) 0 rfl ?_
      refine J_getF (y := 16) dc_Mo_partOf_129 (Eq.refl 132) fl_Mo_56 (Nat.le_of_ble_eq_true rfl) rfl (Or.inl rfl) rfl ?_
      refine J_iload dc_Mo_partOf_132 (Eq.refl 134) 2 rfl ?_
      refine J_iload_n dc_Mo_partOf_134 (Eq.refl 135) 1 rfl ?_
      refine J_iadd dc_Mo_partOf_135 (Eq.refl 136) ?_
      obtain ⟨hg, h⟩ := h
      refine J_iald dc_Mo_partOf_136 (Eq.refl 137) rfl rfl hg ?_
      refine J_icmp_lt dc_Mo_partOf_137 (Eq.refl 140) rfl (fun hc => ?_) (fun hc => ?_)
      · have h := h.1 hc
        refine J_iload_n dc_Mo_partOf_142 (Eq.refl 143) 1 rfl ?_
        refine J_iconst (v := (1 : Int32)) dc_Mo_partOf_143 (Eq.refl 144) rfl ?_
        refine J_iadd dc_Mo_partOf_144 (Eq.refl 145) ?_
        refine J_istore (L' := [(8, .int (x2 + (1 : Int32))), (0, pv E 0), (2, .int x2), (4, .int x4), (5, .int x5), (6, .int x6), (7, .int x7)]) dc_Mo_partOf_145 (Eq.refl 147) (Nat.le_of_ble_eq_true rfl) rfl ?_
        refine J_iconst (v := (0 : Int32)) dc_Mo_partOf_147 (Eq.refl 148) rfl ?_
        refine J_istore (L' := [(9, .int (0 : Int32)), (8, .int (x2 + (1 : Int32))), (0, pv E 0), (2, .int x2), (4, .int x4), (5, .int x5), (6, .int x6), (7, .int x7)]) dc_Mo_partOf_148 (Eq.refl 150) (Nat.le_of_ble_eq_true rfl) rfl ?_
        refine J_sub [2, 4, 7, 1, 0] rfl ?_
        exact h
      · have h := h.2 hc
        refine J_iconst (v := (-1 : Int32)) dc_Mo_partOf_140 (Eq.refl 141) rfl ?_
        exact J_iret dc_Mo_partOf_141 rfl h
  · have h := h.2 hc
    refine J_aload_n dc_Mo_partOf_49 (Eq.refl 50) 0 rfl ?_
    refine J_getF (y := 39) dc_Mo_partOf_50 (Eq.refl 53) fl_Mo_132 (Nat.le_of_ble_eq_true rfl) rfl (Or.inl rfl) rfl ?_
    refine J_iload dc_Mo_partOf_53 (Eq.refl 55) 4 rfl ?_
    refine J_iload dc_Mo_partOf_55 (Eq.refl 57) 6 rfl ?_
    refine J_iadd dc_Mo_partOf_57 (Eq.refl 58) ?_
    obtain ⟨hg, h⟩ := h
    refine J_iald dc_Mo_partOf_58 (Eq.refl 59) rfl rfl hg ?_
    refine J_istore (L' := [(9, .int (gI σ 39 (x6 + x8).toNatClampNeg)), (0, pv E 0), (2, .int x2), (4, .int x4), (5, .int x5), (6, .int x6), (7, .int x7), (8, .int x8)]) dc_Mo_partOf_59 (Eq.refl 61) (Nat.le_of_ble_eq_true rfl) rfl ?_
    refine J_iload dc_Mo_partOf_61 (Eq.refl 63) 0 rfl ?_
    refine J_callSI (As := [.int (gI σ 39 (x6 + x8).toNatClampNeg)]) (st := []) dc_Mo_partOf_63 (Eq.refl 66) lk_Mo_217 mi_Mo_isDigit (Nat.le_of_ble_eq_true rfl) rfl (Nat.le_of_ble_eq_true rfl) (CI.mono h (fun r2 σ1 h => ?_))
    refine J_if_eq dc_Mo_partOf_66 (Eq.refl 69) rfl (fun hc => ?_) (fun hc => ?_)
    · have h := h.1 hc
      refine J_iconst (v := (-1 : Int32)) dc_Mo_partOf_87 (Eq.refl 88) rfl ?_
      exact J_iret dc_Mo_partOf_88 rfl h
    · have h := h.2 hc
      refine J_iload dc_Mo_partOf_69 (Eq.refl 71) 7 rfl ?_
      refine J_if_ne dc_Mo_partOf_71 (Eq.refl 74) rfl (fun hc => ?_) (fun hc => ?_)
      · have h := h.1 hc
        refine J_sub [1, 2, 3, 4, 5, 6, 7, 0] rfl ?_
        exact h
      · have h := h.2 hc
        refine J_iload dc_Mo_partOf_74 (Eq.refl 76) 0 rfl ?_
        refine J_bipush (v := (48 : Int32)) dc_Mo_partOf_76 (Eq.refl 78) rfl ?_
        refine J_icmp_ne dc_Mo_partOf_78 (Eq.refl 81) rfl (fun hc => ?_) (fun hc => ?_)
        · have h := h.1 hc
          refine J_sub [1, 2, 3, 4, 5, 6, 7, 0] rfl ?_
          exact h
        · have h := h.2 hc
          refine J_iload dc_Mo_partOf_81 (Eq.refl 83) 4 rfl ?_
          refine J_iconst (v := (1 : Int32)) dc_Mo_partOf_83 (Eq.refl 84) rfl ?_
          refine J_icmp_le dc_Mo_partOf_84 (Eq.refl 87) rfl (fun hc => ?_) (fun hc => ?_)
          · have h := h.1 hc
            refine J_sub [1, 2, 3, 4, 5, 6, 7, 0] rfl ?_
            exact h
          · have h := h.2 hc
            refine J_iconst (v := (-1 : Int32)) dc_Mo_partOf_87 (Eq.refl 88) rfl ?_
            exact J_iret dc_Mo_partOf_88 rfl h
theorem b_Mo_partOf_89 {E : En_t} {d : Nat} {σ : S_t} {Q : Option Value → S_t → Prop} {x2 : Int32} {x4 : Int32} {x5 : Int32} {x6 : Int32} {x7 : Int32} {x8 : Int32} {x9 : Int32}
    (h : ((10000 : Int32) ≤ x7 → JE E (d + 1) m_Mo_partOf 113 [(0, pv E 0), (2, .int x2), (4, .int x4), (5, .int x5), (6, .int x6), (8, .int x8)] [.int x7] σ Q) ∧ (¬ (10000 : Int32) ≤ x7 → JE E (d + 1) m_Mo_partOf 113 [(0, pv E 0), (2, .int x2), (4, .int x4), (5, .int x5), (6, .int x6), (8, .int x8)] [.int ((((10 : Int32) * x7) + x9) - (48 : Int32))] σ Q)) :
    JE E (d + 1) m_Mo_partOf 89 [(0, pv E 0), (2, .int x2), (4, .int x4), (5, .int x5), (6, .int x6), (7, .int x7), (8, .int x8), (9, .int x9)] [] σ Q := by
  refine J_iload dc_Mo_partOf_89 (Eq.refl 91) 5 rfl ?_
  refine J_sipush (v := (10000 : Int32)) dc_Mo_partOf_91 (Eq.refl 94) rfl ?_
  refine J_icmp_ge dc_Mo_partOf_94 (Eq.refl 97) rfl (fun hc => ?_) (fun hc => ?_)
  · have h := h.1 hc
    refine J_iload dc_Mo_partOf_111 (Eq.refl 113) 5 rfl ?_
    refine J_sub [0, 1, 2, 3, 4, 6] rfl ?_
    exact h
  · have h := h.2 hc
    refine J_bipush (v := (10 : Int32)) dc_Mo_partOf_97 (Eq.refl 99) rfl ?_
    refine J_iload dc_Mo_partOf_99 (Eq.refl 101) 5 rfl ?_
    refine J_imul dc_Mo_partOf_101 (Eq.refl 102) ?_
    refine J_iload dc_Mo_partOf_102 (Eq.refl 104) 7 rfl ?_
    refine J_iadd dc_Mo_partOf_104 (Eq.refl 105) ?_
    refine J_bipush (v := (48 : Int32)) dc_Mo_partOf_105 (Eq.refl 107) rfl ?_
    refine J_isub dc_Mo_partOf_107 (Eq.refl 108) ?_
    refine J_goto dc_Mo_partOf_108 rfl ?_
    refine J_sub [0, 1, 2, 3, 4, 6] rfl ?_
    exact h
theorem b_Mo_partOf_113 {E : En_t} {d : Nat} {σ : S_t} {Q : Option Value → S_t → Prop} {x2 : Int32} {x4 : Int32} {x5 : Int32} {x6 : Int32} {x8 : Int32} {s0 : Int32}
    (h : JE E (d + 1) m_Mo_partOf 42 [(0, pv E 0), (2, .int x2), (4, .int x4), (5, .int x5), (6, .int x6), (7, .int s0), (8, .int (x8 + (1 : Int32)))] [] σ Q) :
    JE E (d + 1) m_Mo_partOf 113 [(0, pv E 0), (2, .int x2), (4, .int x4), (5, .int x5), (6, .int x6), (8, .int x8)] [.int s0] σ Q := by
  refine J_istore (L' := [(7, .int s0), (0, pv E 0), (2, .int x2), (4, .int x4), (5, .int x5), (6, .int x6), (8, .int x8)]) dc_Mo_partOf_113 (Eq.refl 115) (Nat.le_of_ble_eq_true rfl) rfl ?_
  refine J_iinc (v := x8 + (1 : Int32)) (L' := [(8, .int (x8 + (1 : Int32))), (7, .int s0), (0, pv E 0), (2, .int x2), (4, .int x4), (5, .int x5), (6, .int x6)]) dc_Mo_partOf_115 (Eq.refl 118) 6 rfl rfl (Nat.le_of_ble_eq_true rfl) rfl ?_
  refine J_goto dc_Mo_partOf_118 rfl ?_
  refine J_sub [2, 3, 4, 5, 6, 1, 0] rfl ?_
  exact h
theorem b_Mo_partOf_150 {E : En_t} {d : Nat} {σ : S_t} {Q : Option Value → S_t → Prop} {x4 : Int32} {x7 : Int32} {x8 : Int32} {x9 : Int32}
    (h : (x7 ≤ x9 → Q (some (.int x8)) σ) ∧ (¬ x7 ≤ x9 → vp_in (x4 + x8) 4500 ∧ (JE E (d + 1) m_Mo_partOf 150 [(0, pv E 0), (4, .int x4), (7, .int x7), (8, .int (x8 + (gI σ 17 (x4 + x8).toNatClampNeg))), (9, .int (x9 + (1 : Int32)))] [] σ Q))) :
    JE E (d + 1) m_Mo_partOf 150 [(0, pv E 0), (4, .int x4), (7, .int x7), (8, .int x8), (9, .int x9)] [] σ Q := by
  refine J_iload dc_Mo_partOf_150 (Eq.refl 152) 4 rfl ?_
  refine J_iload dc_Mo_partOf_152 (Eq.refl 154) 2 rfl ?_
  refine J_icmp_ge dc_Mo_partOf_154 (Eq.refl 157) rfl (fun hc => ?_) (fun hc => ?_)
  · have h := h.1 hc
    refine J_iload dc_Mo_partOf_178 (Eq.refl 180) 3 rfl ?_
    exact J_iret dc_Mo_partOf_180 rfl h
  · have h := h.2 hc
    refine J_iload dc_Mo_partOf_157 (Eq.refl 159) 3 rfl ?_
    refine J_aload_n dc_Mo_partOf_159 (Eq.refl 160) 0 rfl ?_
    refine J_getF (y := 17) dc_Mo_partOf_160 (Eq.refl 163) fl_Mo_59 (Nat.le_of_ble_eq_true rfl) rfl (Or.inl rfl) rfl ?_
    refine J_iload dc_Mo_partOf_163 (Eq.refl 165) 1 rfl ?_
    refine J_iload dc_Mo_partOf_165 (Eq.refl 167) 3 rfl ?_
    refine J_iadd dc_Mo_partOf_167 (Eq.refl 168) ?_
    obtain ⟨hg, h⟩ := h
    refine J_iald dc_Mo_partOf_168 (Eq.refl 169) rfl rfl hg ?_
    refine J_iadd dc_Mo_partOf_169 (Eq.refl 170) ?_
    refine J_istore (L' := [(8, .int (x8 + (gI σ 17 (x4 + x8).toNatClampNeg))), (0, pv E 0), (4, .int x4), (7, .int x7), (9, .int x9)]) dc_Mo_partOf_170 (Eq.refl 172) (Nat.le_of_ble_eq_true rfl) rfl ?_
    refine J_iinc (v := x9 + (1 : Int32)) (L' := [(9, .int (x9 + (1 : Int32))), (8, .int (x8 + (gI σ 17 (x4 + x8).toNatClampNeg))), (0, pv E 0), (4, .int x4), (7, .int x7)]) dc_Mo_partOf_172 (Eq.refl 175) 4 rfl rfl (Nat.le_of_ble_eq_true rfl) rfl ?_
    refine J_goto dc_Mo_partOf_175 rfl ?_
    refine J_sub [2, 3, 4, 1, 0] rfl ?_
    exact h
theorem b_Mo_partOf_205 {E : En_t} {d : Nat} {σ : S_t} {Q : Option Value → S_t → Prop} {x1 : Int32} {x2 : Int32} {x4 : Int32} {x5 : Int32} {x6 : Int32} {x7 : Int32} {x8 : Int32}
    (h : vp_in (x4 + x2) 4500 ∧ (((gI σ 16 (x4 + x2).toNatClampNeg) ≤ x8 → Q (some (.int (-1 : Int32))) σ) ∧ (¬ (gI σ 16 (x4 + x2).toNatClampNeg) ≤ x8 → vp_in (x4 + x7) 4500 ∧ (vp_in (x4 + x7) 4500 ∧ (CI E d m_Mo_compared [pv E 26, .int (((4000 : Int32) * x1) + (gI σ 19 (x4 + x7).toNatClampNeg)), .int (gI σ 20 (x4 + x7).toNatClampNeg), pv E 39, .int x6, .int x5] σ (fun r2 σ1 => (¬ r2 = 0 → vp_in (x4 + x7) 4500 ∧ (JE E (d + 1) m_Mo_partOf 205 [(0, pv E 0), (1, .int x1), (2, .int x2), (4, .int x4), (5, .int x5), (6, .int x6), (7, .int (x7 + (gI σ1 17 (x4 + x7).toNatClampNeg))), (8, .int (x8 + (1 : Int32)))] [] σ1 Q)) ∧ (r2 = 0 → Q (some (.int x7)) σ1))))))) :
    JE E (d + 1) m_Mo_partOf 205 [(0, pv E 0), (1, .int x1), (2, .int x2), (4, .int x4), (5, .int x5), (6, .int x6), (7, .int x7), (8, .int x8)] [] σ Q := by
  refine J_iload dc_Mo_partOf_205 (Eq.refl 207) 7 rfl ?_
  refine J_aload_n dc_Mo_partOf_207 (Eq.refl 208) 0 rfl ?_
  refine J_getF (y := 16) dc_Mo_partOf_208 (Eq.refl 211) fl_Mo_56 (Nat.le_of_ble_eq_true rfl) rfl (Or.inl rfl) rfl ?_
  refine J_iload dc_Mo_partOf_211 (Eq.refl 213) 3 rfl ?_
  refine J_iload_n dc_Mo_partOf_213 (Eq.refl 214) 2 rfl ?_
  refine J_iadd dc_Mo_partOf_214 (Eq.refl 215) ?_
  obtain ⟨hg, h⟩ := h
  refine J_iald dc_Mo_partOf_215 (Eq.refl 216) rfl rfl hg ?_
  refine J_icmp_ge dc_Mo_partOf_216 (Eq.refl 219) rfl (fun hc => ?_) (fun hc => ?_)
  · have h := h.1 hc
    refine J_iconst (v := (-1 : Int32)) dc_Mo_partOf_287 (Eq.refl 288) rfl ?_
    exact J_iret dc_Mo_partOf_288 rfl h
  · have h := h.2 hc
    refine J_aload_n dc_Mo_partOf_219 (Eq.refl 220) 0 rfl ?_
    refine J_getF (y := 26) dc_Mo_partOf_220 (Eq.refl 223) fl_Mo_88 (Nat.le_of_ble_eq_true rfl) rfl (Or.inl rfl) rfl ?_
    refine J_sipush (v := (4000 : Int32)) dc_Mo_partOf_223 (Eq.refl 226) rfl ?_
    refine J_iload_n dc_Mo_partOf_226 (Eq.refl 227) 1 rfl ?_
    refine J_imul dc_Mo_partOf_227 (Eq.refl 228) ?_
    refine J_aload_n dc_Mo_partOf_228 (Eq.refl 229) 0 rfl ?_
    refine J_getF (y := 19) dc_Mo_partOf_229 (Eq.refl 232) fl_Mo_65 (Nat.le_of_ble_eq_true rfl) rfl (Or.inl rfl) rfl ?_
    refine J_iload dc_Mo_partOf_232 (Eq.refl 234) 3 rfl ?_
    refine J_iload dc_Mo_partOf_234 (Eq.refl 236) 6 rfl ?_
    refine J_iadd dc_Mo_partOf_236 (Eq.refl 237) ?_
    obtain ⟨hg, h⟩ := h
    refine J_iald dc_Mo_partOf_237 (Eq.refl 238) rfl rfl hg ?_
    refine J_iadd dc_Mo_partOf_238 (Eq.refl 239) ?_
    refine J_aload_n dc_Mo_partOf_239 (Eq.refl 240) 0 rfl ?_
    refine J_getF (y := 20) dc_Mo_partOf_240 (Eq.refl 243) fl_Mo_68 (Nat.le_of_ble_eq_true rfl) rfl (Or.inl rfl) rfl ?_
    refine J_iload dc_Mo_partOf_243 (Eq.refl 245) 3 rfl ?_
    refine J_iload dc_Mo_partOf_245 (Eq.refl 247) 6 rfl ?_
    refine J_iadd dc_Mo_partOf_247 (Eq.refl 248) ?_
    obtain ⟨hg, h⟩ := h
    refine J_iald dc_Mo_partOf_248 (Eq.refl 249) rfl rfl hg ?_
    refine J_aload_n dc_Mo_partOf_249 (Eq.refl 250) 0 rfl ?_
    refine J_getF (y := 39) dc_Mo_partOf_250 (Eq.refl 253) fl_Mo_132 (Nat.le_of_ble_eq_true rfl) rfl (Or.inl rfl) rfl ?_
    refine J_iload dc_Mo_partOf_253 (Eq.refl 255) 5 rfl ?_
    refine J_iload dc_Mo_partOf_255 (Eq.refl 257) 4 rfl ?_
    refine J_callSI (As := [pv E 26, .int (((4000 : Int32) * x1) + (gI σ 19 (x4 + x7).toNatClampNeg)), .int (gI σ 20 (x4 + x7).toNatClampNeg), pv E 39, .int x6, .int x5]) (st := []) dc_Mo_partOf_257 (Eq.refl 260) lk_Mo_356 mi_Mo_compared (Nat.le_of_ble_eq_true rfl) rfl (Nat.le_of_ble_eq_true rfl) (CI.mono h (fun r2 σ1 h => ?_))
    refine J_if_ne dc_Mo_partOf_260 (Eq.refl 263) rfl (fun hc => ?_) (fun hc => ?_)
    · have h := h.1 hc
      refine J_iload dc_Mo_partOf_266 (Eq.refl 268) 6 rfl ?_
      refine J_aload_n dc_Mo_partOf_268 (Eq.refl 269) 0 rfl ?_
      refine J_getF (y := 17) dc_Mo_partOf_269 (Eq.refl 272) fl_Mo_59 (Nat.le_of_ble_eq_true rfl) rfl (Or.inl rfl) rfl ?_
      refine J_iload dc_Mo_partOf_272 (Eq.refl 274) 3 rfl ?_
      refine J_iload dc_Mo_partOf_274 (Eq.refl 276) 6 rfl ?_
      refine J_iadd dc_Mo_partOf_276 (Eq.refl 277) ?_
      obtain ⟨hg, h⟩ := h
      refine J_iald dc_Mo_partOf_277 (Eq.refl 278) rfl rfl hg ?_
      refine J_iadd dc_Mo_partOf_278 (Eq.refl 279) ?_
      refine J_istore (L' := [(7, .int (x7 + (gI σ1 17 (x4 + x7).toNatClampNeg))), (0, pv E 0), (1, .int x1), (2, .int x2), (4, .int x4), (5, .int x5), (6, .int x6), (8, .int x8)]) dc_Mo_partOf_279 (Eq.refl 281) (Nat.le_of_ble_eq_true rfl) rfl ?_
      refine J_iinc (v := x8 + (1 : Int32)) (L' := [(8, .int (x8 + (1 : Int32))), (7, .int (x7 + (gI σ1 17 (x4 + x7).toNatClampNeg))), (0, pv E 0), (1, .int x1), (2, .int x2), (4, .int x4), (5, .int x5), (6, .int x6)]) dc_Mo_partOf_281 (Eq.refl 284) 7 rfl rfl (Nat.le_of_ble_eq_true rfl) rfl ?_
      refine J_goto dc_Mo_partOf_284 rfl ?_
      refine J_sub [2, 3, 4, 5, 6, 7, 1, 0] rfl ?_
      exact h
    · have h := h.2 hc
      refine J_iload dc_Mo_partOf_263 (Eq.refl 265) 6 rfl ?_
      exact J_iret dc_Mo_partOf_265 rfl h
