theorem dc_We_make_0 : decode m_We_make.2.1 0 = .ok (.aload_n 0, 1) := by decide +kernel
theorem dc_We_make_1 : decode m_We_make.2.1 1 = .ok (.aload_n 1, 1) := by decide +kernel
theorem dc_We_make_2 : decode m_We_make.2.1 2 = .ok (.putfield 9, 3) := by decide +kernel
theorem dc_We_make_5 : decode m_We_make.2.1 5 = .ok (.aload_n 0, 1) := by decide +kernel
theorem dc_We_make_6 : decode m_We_make.2.1 6 = .ok (.aload_n 2, 1) := by decide +kernel
theorem dc_We_make_7 : decode m_We_make.2.1 7 = .ok (.putfield 15, 3) := by decide +kernel
theorem dc_We_make_10 : decode m_We_make.2.1 10 = .ok (.aload_n 0, 1) := by decide +kernel
theorem dc_We_make_11 : decode m_We_make.2.1 11 = .ok (.aload_n 3, 1) := by decide +kernel
theorem dc_We_make_12 : decode m_We_make.2.1 12 = .ok (.putfield 18, 3) := by decide +kernel
theorem dc_We_make_15 : decode m_We_make.2.1 15 = .ok (.aload_n 0, 1) := by decide +kernel
theorem dc_We_make_16 : decode m_We_make.2.1 16 = .ok (.iload 4, 2) := by decide +kernel
theorem dc_We_make_18 : decode m_We_make.2.1 18 = .ok (.putfield 21, 3) := by decide +kernel
theorem dc_We_make_21 : decode m_We_make.2.1 21 = .ok (.aload_n 0, 1) := by decide +kernel
theorem dc_We_make_22 : decode m_We_make.2.1 22 = .ok (.iconst 0, 1) := by decide +kernel
theorem dc_We_make_23 : decode m_We_make.2.1 23 = .ok (.putfield 25, 3) := by decide +kernel
theorem dc_We_make_26 : decode m_We_make.2.1 26 = .ok (.aload_n 0, 1) := by decide +kernel
theorem dc_We_make_27 : decode m_We_make.2.1 27 = .ok (.getfield 18, 3) := by decide +kernel
theorem dc_We_make_30 : decode m_We_make.2.1 30 = .ok (.invokevirtual 28, 3) := by decide +kernel
theorem dc_We_make_33 : decode m_We_make.2.1 33 = .ok (.aload_n 0, 1) := by decide +kernel
theorem dc_We_make_34 : decode m_We_make.2.1 34 = .ok (.iconst 0, 1) := by decide +kernel
theorem dc_We_make_35 : decode m_We_make.2.1 35 = .ok (.iconst 0, 1) := by decide +kernel
theorem dc_We_make_36 : decode m_We_make.2.1 36 = .ok (.iconst (-1), 1) := by decide +kernel
theorem dc_We_make_37 : decode m_We_make.2.1 37 = .ok (.iconst 0, 1) := by decide +kernel
theorem dc_We_make_38 : decode m_We_make.2.1 38 = .ok (.invokevirtual 33, 3) := by decide +kernel
theorem dc_We_make_41 : decode m_We_make.2.1 41 = .ok (.return_, 1) := by decide +kernel
theorem b_We_make_0 {E : En_t} {d : Nat} {σ : S_t} {Q : Option Value → S_t → Prop} {o1 : Nat} {o2 : Nat} {o3 : Nat} {x4 : Int32} (hk_o1 : kindP o1 = 11) (hk_o2 : kindP o2 = 11) (hk_o3 : kindP o3 = 11)
    (h : (x4 = 0 ∨ x4 = 1) ∧ (∃ t1, gR (sI (sI (sR (sR (sR σ 71 0 (some o1)) 71 1 (some o2)) 71 2 (some o3)) 71 3 x4) 71 4 (0 : Int32)) 71 2 = some t1 ∧ kindP t1 = 11 ∧ (CV E d m_Tr_clear [pv E t1] (sI (sI (sR (sR (sR σ 71 0 (some o1)) 71 1 (some o2)) 71 2 (some o3)) 71 3 x4) 71 4 (0 : Int32)) (fun σ2 => CV E d m_We_weave [pv E 71, .int (0 : Int32), .int (0 : Int32), .int (-1 : Int32), .int (0 : Int32)] σ2 (fun σ3 => Q none σ3))))) :
    JE E (d + 1) m_We_make 0 [(0, pv E 71), (1, pv E o1), (2, pv E o2), (3, pv E o3), (4, .int x4)] [] σ Q := by
  refine J_aload_n dc_We_make_0 (Eq.refl 1) 0 rfl ?_
  refine J_aload_n dc_We_make_1 (Eq.refl 2) 1 rfl ?_
  refine J_putR dc_We_make_2 (Eq.refl 5) pl_We_9 (Nat.le_of_ble_eq_true rfl) rfl rfl ?_
  refine J_aload_n dc_We_make_5 (Eq.refl 6) 0 rfl ?_
  refine J_aload_n dc_We_make_6 (Eq.refl 7) 2 rfl ?_
  refine J_putR dc_We_make_7 (Eq.refl 10) pl_We_15 (Nat.le_of_ble_eq_true rfl) rfl rfl ?_
  refine J_aload_n dc_We_make_10 (Eq.refl 11) 0 rfl ?_
  refine J_aload_n dc_We_make_11 (Eq.refl 12) 3 rfl ?_
  refine J_putR dc_We_make_12 (Eq.refl 15) pl_We_18 (Nat.le_of_ble_eq_true rfl) rfl rfl ?_
  refine J_aload_n dc_We_make_15 (Eq.refl 16) 0 rfl ?_
  refine J_iload dc_We_make_16 (Eq.refl 18) 4 rfl ?_
  obtain ⟨hg, h⟩ := h
  refine J_putZ dc_We_make_18 (Eq.refl 21) pl_We_21 (Nat.le_of_ble_eq_true rfl) rfl rfl hg ?_
  refine J_aload_n dc_We_make_21 (Eq.refl 22) 0 rfl ?_
  refine J_iconst (v := (0 : Int32)) dc_We_make_22 (Eq.refl 23) rfl ?_
  refine J_putZ dc_We_make_23 (Eq.refl 26) pl_We_25 (Nat.le_of_ble_eq_true rfl) rfl rfl (Or.inl rfl) ?_
  refine J_aload_n dc_We_make_26 (Eq.refl 27) 0 rfl ?_
  obtain ⟨t1, hr_t1, hk_t1, h⟩ := h
  refine J_getR dc_We_make_27 (Eq.refl 30) fl_We_18 (Nat.le_of_ble_eq_true rfl) rfl rfl hr_t1 ?_
  refine J_callVV (As := []) (st := []) dc_We_make_30 (Eq.refl 33) lk_We_28 mi_Tr_clear hk_t1 (Nat.le_of_ble_eq_true rfl) rfl rfl (Nat.le_of_ble_eq_true rfl) rfl (Nat.le_of_ble_eq_true rfl) (CV.mono h (fun σ2 h => ?_))
  refine J_aload_n dc_We_make_33 (Eq.refl 34) 0 rfl ?_
  refine J_iconst (v := (0 : Int32)) dc_We_make_34 (Eq.refl 35) rfl ?_
  refine J_iconst (v := (0 : Int32)) dc_We_make_35 (Eq.refl 36) rfl ?_
  refine J_iconst (v := (-1 : Int32)) dc_We_make_36 (Eq.refl 37) rfl ?_
  refine J_iconst (v := (0 : Int32)) dc_We_make_37 (Eq.refl 38) rfl ?_
  refine J_callVV (As := [.int (0 : Int32), .int (0 : Int32), .int (-1 : Int32), .int (0 : Int32)]) (st := []) dc_We_make_38 (Eq.refl 41) lk_We_33 mi_We_weave rfl (Nat.le_of_ble_eq_true rfl) rfl rfl (Nat.le_of_ble_eq_true rfl) rfl (Nat.le_of_ble_eq_true rfl) (CV.mono h (fun σ3 h => ?_))
  exact J_vret dc_We_make_41 rfl h
theorem dc_We_weave_0 : decode m_We_weave.2.1 0 = .ok (.iload 4, 2) := by decide +kernel
theorem dc_We_weave_2 : decode m_We_weave.2.1 2 = .ok (.bipush 30, 2) := by decide +kernel
theorem dc_We_weave_4 : decode m_We_weave.2.1 4 = .ok (.if_icmp .le 12, 3) := by decide +kernel
theorem dc_We_weave_7 : decode m_We_weave.2.1 7 = .ok (.aload_n 0, 1) := by decide +kernel
theorem dc_We_weave_8 : decode m_We_weave.2.1 8 = .ok (.getfield 18, 3) := by decide +kernel
theorem dc_We_weave_11 : decode m_We_weave.2.1 11 = .ok (.iconst 1, 1) := by decide +kernel
theorem dc_We_weave_12 : decode m_We_weave.2.1 12 = .ok (.putfield 37, 3) := by decide +kernel
theorem dc_We_weave_15 : decode m_We_weave.2.1 15 = .ok (.return_, 1) := by decide +kernel
theorem dc_We_weave_16 : decode m_We_weave.2.1 16 = .ok (.iload_n 1, 1) := by decide +kernel
theorem dc_We_weave_17 : decode m_We_weave.2.1 17 = .ok (.iconst (-1), 1) := by decide +kernel
theorem dc_We_weave_18 : decode m_We_weave.2.1 18 = .ok (.if_icmp .eq 21, 3) := by decide +kernel
theorem dc_We_weave_21 : decode m_We_weave.2.1 21 = .ok (.aload_n 0, 1) := by decide +kernel
theorem dc_We_weave_22 : decode m_We_weave.2.1 22 = .ok (.getfield 9, 3) := by decide +kernel
theorem dc_We_weave_25 : decode m_We_weave.2.1 25 = .ok (.getfield 40, 3) := by decide +kernel
theorem dc_We_weave_28 : decode m_We_weave.2.1 28 = .ok (.iload_n 1, 1) := by decide +kernel
theorem dc_We_weave_29 : decode m_We_weave.2.1 29 = .ok (.iaload, 1) := by decide +kernel
theorem dc_We_weave_30 : decode m_We_weave.2.1 30 = .ok (.bipush 6, 2) := by decide +kernel
theorem dc_We_weave_32 : decode m_We_weave.2.1 32 = .ok (.if_icmp .ne 7, 3) := by decide +kernel
theorem dc_We_weave_35 : decode m_We_weave.2.1 35 = .ok (.iconst 1, 1) := by decide +kernel
theorem dc_We_weave_36 : decode m_We_weave.2.1 36 = .ok (.goto 4, 3) := by decide +kernel
theorem dc_We_weave_39 : decode m_We_weave.2.1 39 = .ok (.iconst 0, 1) := by decide +kernel
theorem dc_We_weave_40 : decode m_We_weave.2.1 40 = .ok (.istore 5, 2) := by decide +kernel
theorem dc_We_weave_42 : decode m_We_weave.2.1 42 = .ok (.aload_n 0, 1) := by decide +kernel
theorem dc_We_weave_43 : decode m_We_weave.2.1 43 = .ok (.getfield 15, 3) := by decide +kernel
theorem dc_We_weave_46 : decode m_We_weave.2.1 46 = .ok (.getfield 40, 3) := by decide +kernel
theorem dc_We_weave_49 : decode m_We_weave.2.1 49 = .ok (.iload_n 2, 1) := by decide +kernel
theorem dc_We_weave_50 : decode m_We_weave.2.1 50 = .ok (.iaload, 1) := by decide +kernel
theorem dc_We_weave_51 : decode m_We_weave.2.1 51 = .ok (.bipush 6, 2) := by decide +kernel
theorem dc_We_weave_53 : decode m_We_weave.2.1 53 = .ok (.if_icmp .ne 15, 3) := by decide +kernel
theorem dc_We_weave_56 : decode m_We_weave.2.1 56 = .ok (.aload_n 0, 1) := by decide +kernel
theorem dc_We_weave_57 : decode m_We_weave.2.1 57 = .ok (.getfield 21, 3) := by decide +kernel
theorem dc_We_weave_60 : decode m_We_weave.2.1 60 = .ok (.ifCond .eq 53, 3) := by decide +kernel
theorem dc_We_weave_63 : decode m_We_weave.2.1 63 = .ok (.iload 5, 2) := by decide +kernel
theorem dc_We_weave_65 : decode m_We_weave.2.1 65 = .ok (.ifCond .ne 48, 3) := by decide +kernel
theorem dc_We_weave_68 : decode m_We_weave.2.1 68 = .ok (.aload_n 0, 1) := by decide +kernel
theorem dc_We_weave_69 : decode m_We_weave.2.1 69 = .ok (.getfield 18, 3) := by decide +kernel
theorem dc_We_weave_72 : decode m_We_weave.2.1 72 = .ok (.aload_n 0, 1) := by decide +kernel
theorem dc_We_weave_73 : decode m_We_weave.2.1 73 = .ok (.getfield 15, 3) := by decide +kernel
theorem dc_We_weave_76 : decode m_We_weave.2.1 76 = .ok (.iload_n 2, 1) := by decide +kernel
theorem dc_We_weave_77 : decode m_We_weave.2.1 77 = .ok (.iload_n 3, 1) := by decide +kernel
theorem dc_We_weave_78 : decode m_We_weave.2.1 78 = .ok (.invokevirtual 44, 3) := by decide +kernel
theorem dc_We_weave_81 : decode m_We_weave.2.1 81 = .ok (.aload_n 0, 1) := by decide +kernel
theorem dc_We_weave_82 : decode m_We_weave.2.1 82 = .ok (.aload_n 0, 1) := by decide +kernel
theorem dc_We_weave_83 : decode m_We_weave.2.1 83 = .ok (.getfield 25, 3) := by decide +kernel
theorem dc_We_weave_86 : decode m_We_weave.2.1 86 = .ok (.ifCond .ne 18, 3) := by decide +kernel
theorem dc_We_weave_89 : decode m_We_weave.2.1 89 = .ok (.aload_n 0, 1) := by decide +kernel
theorem dc_We_weave_90 : decode m_We_weave.2.1 90 = .ok (.getfield 21, 3) := by decide +kernel
theorem dc_We_weave_93 : decode m_We_weave.2.1 93 = .ok (.ifCond .eq 15, 3) := by decide +kernel
theorem dc_We_weave_96 : decode m_We_weave.2.1 96 = .ok (.aload_n 0, 1) := by decide +kernel
theorem dc_We_weave_97 : decode m_We_weave.2.1 97 = .ok (.iload_n 2, 1) := by decide +kernel
theorem dc_We_weave_98 : decode m_We_weave.2.1 98 = .ok (.invokevirtual 48, 3) := by decide +kernel
theorem dc_We_weave_101 : decode m_We_weave.2.1 101 = .ok (.ifCond .eq 7, 3) := by decide +kernel
theorem dc_We_weave_104 : decode m_We_weave.2.1 104 = .ok (.iconst 1, 1) := by decide +kernel
theorem dc_We_weave_105 : decode m_We_weave.2.1 105 = .ok (.goto 4, 3) := by decide +kernel
theorem dc_We_weave_108 : decode m_We_weave.2.1 108 = .ok (.iconst 0, 1) := by decide +kernel
theorem dc_We_weave_109 : decode m_We_weave.2.1 109 = .ok (.putfield 25, 3) := by decide +kernel
theorem dc_We_weave_112 : decode m_We_weave.2.1 112 = .ok (.return_, 1) := by decide +kernel
theorem dc_We_weave_113 : decode m_We_weave.2.1 113 = .ok (.aload_n 0, 1) := by decide +kernel
theorem dc_We_weave_114 : decode m_We_weave.2.1 114 = .ok (.getfield 18, 3) := by decide +kernel
theorem dc_We_weave_117 : decode m_We_weave.2.1 117 = .ok (.aload_n 0, 1) := by decide +kernel
theorem dc_We_weave_118 : decode m_We_weave.2.1 118 = .ok (.getfield 15, 3) := by decide +kernel
theorem dc_We_weave_121 : decode m_We_weave.2.1 121 = .ok (.iload_n 2, 1) := by decide +kernel
theorem dc_We_weave_122 : decode m_We_weave.2.1 122 = .ok (.iload_n 3, 1) := by decide +kernel
theorem dc_We_weave_123 : decode m_We_weave.2.1 123 = .ok (.invokevirtual 52, 3) := by decide +kernel
theorem dc_We_weave_126 : decode m_We_weave.2.1 126 = .ok (.istore 6, 2) := by decide +kernel
theorem dc_We_weave_128 : decode m_We_weave.2.1 128 = .ok (.iload 5, 2) := by decide +kernel
theorem dc_We_weave_130 : decode m_We_weave.2.1 130 = .ok (.ifCond .eq 9, 3) := by decide +kernel
theorem dc_We_weave_133 : decode m_We_weave.2.1 133 = .ok (.iload_n 1, 1) := by decide +kernel
theorem dc_We_weave_134 : decode m_We_weave.2.1 134 = .ok (.iconst 1, 1) := by decide +kernel
theorem dc_We_weave_135 : decode m_We_weave.2.1 135 = .ok (.iadd, 1) := by decide +kernel
theorem dc_We_weave_136 : decode m_We_weave.2.1 136 = .ok (.goto 4, 3) := by decide +kernel
theorem dc_We_weave_139 : decode m_We_weave.2.1 139 = .ok (.iconst 0, 1) := by decide +kernel
theorem dc_We_weave_140 : decode m_We_weave.2.1 140 = .ok (.istore 7, 2) := by decide +kernel
theorem dc_We_weave_142 : decode m_We_weave.2.1 142 = .ok (.iload 5, 2) := by decide +kernel
theorem dc_We_weave_144 : decode m_We_weave.2.1 144 = .ok (.ifCond .eq 27, 3) := by decide +kernel
theorem dc_We_weave_147 : decode m_We_weave.2.1 147 = .ok (.aload_n 0, 1) := by decide +kernel
theorem dc_We_weave_148 : decode m_We_weave.2.1 148 = .ok (.getfield 9, 3) := by decide +kernel
theorem dc_We_weave_151 : decode m_We_weave.2.1 151 = .ok (.getfield 56, 3) := by decide +kernel
theorem dc_We_weave_154 : decode m_We_weave.2.1 154 = .ok (.iload_n 1, 1) := by decide +kernel
theorem dc_We_weave_155 : decode m_We_weave.2.1 155 = .ok (.aload_n 0, 1) := by decide +kernel
theorem dc_We_weave_156 : decode m_We_weave.2.1 156 = .ok (.getfield 9, 3) := by decide +kernel
theorem dc_We_weave_159 : decode m_We_weave.2.1 159 = .ok (.getfield 60, 3) := by decide +kernel
theorem dc_We_weave_162 : decode m_We_weave.2.1 162 = .ok (.iload_n 1, 1) := by decide +kernel
theorem dc_We_weave_163 : decode m_We_weave.2.1 163 = .ok (.iaload, 1) := by decide +kernel
theorem dc_We_weave_164 : decode m_We_weave.2.1 164 = .ok (.iadd, 1) := by decide +kernel
theorem dc_We_weave_165 : decode m_We_weave.2.1 165 = .ok (.invokestatic 63, 3) := by decide +kernel
theorem dc_We_weave_168 : decode m_We_weave.2.1 168 = .ok (.goto 4, 3) := by decide +kernel
theorem dc_We_weave_171 : decode m_We_weave.2.1 171 = .ok (.iconst 0, 1) := by decide +kernel
theorem dc_We_weave_172 : decode m_We_weave.2.1 172 = .ok (.istore 8, 2) := by decide +kernel
theorem dc_We_weave_174 : decode m_We_weave.2.1 174 = .ok (.iload_n 2, 1) := by decide +kernel
theorem dc_We_weave_175 : decode m_We_weave.2.1 175 = .ok (.iconst 1, 1) := by decide +kernel
theorem dc_We_weave_176 : decode m_We_weave.2.1 176 = .ok (.iadd, 1) := by decide +kernel
theorem dc_We_weave_177 : decode m_We_weave.2.1 177 = .ok (.istore 9, 2) := by decide +kernel
theorem dc_We_weave_179 : decode m_We_weave.2.1 179 = .ok (.aload_n 0, 1) := by decide +kernel
theorem dc_We_weave_180 : decode m_We_weave.2.1 180 = .ok (.getfield 15, 3) := by decide +kernel
theorem dc_We_weave_183 : decode m_We_weave.2.1 183 = .ok (.getfield 56, 3) := by decide +kernel
theorem dc_We_weave_186 : decode m_We_weave.2.1 186 = .ok (.iload_n 2, 1) := by decide +kernel
theorem dc_We_weave_187 : decode m_We_weave.2.1 187 = .ok (.aload_n 0, 1) := by decide +kernel
theorem dc_We_weave_188 : decode m_We_weave.2.1 188 = .ok (.getfield 15, 3) := by decide +kernel
theorem dc_We_weave_191 : decode m_We_weave.2.1 191 = .ok (.getfield 60, 3) := by decide +kernel
theorem dc_We_weave_194 : decode m_We_weave.2.1 194 = .ok (.iload_n 2, 1) := by decide +kernel
theorem dc_We_weave_195 : decode m_We_weave.2.1 195 = .ok (.iaload, 1) := by decide +kernel
theorem dc_We_weave_196 : decode m_We_weave.2.1 196 = .ok (.iadd, 1) := by decide +kernel
theorem dc_We_weave_197 : decode m_We_weave.2.1 197 = .ok (.invokestatic 63, 3) := by decide +kernel
theorem dc_We_weave_200 : decode m_We_weave.2.1 200 = .ok (.istore 10, 2) := by decide +kernel
theorem dc_We_weave_202 : decode m_We_weave.2.1 202 = .ok (.iconst 0, 1) := by decide +kernel
theorem dc_We_weave_203 : decode m_We_weave.2.1 203 = .ok (.istore 11, 2) := by decide +kernel
theorem dc_We_weave_205 : decode m_We_weave.2.1 205 = .ok (.iload 11, 2) := by decide +kernel
theorem dc_We_weave_207 : decode m_We_weave.2.1 207 = .ok (.sipush 1000, 3) := by decide +kernel
theorem dc_We_weave_210 : decode m_We_weave.2.1 210 = .ok (.if_icmp .ge 210, 3) := by decide +kernel
theorem dc_We_weave_213 : decode m_We_weave.2.1 213 = .ok (.iload 7, 2) := by decide +kernel
theorem dc_We_weave_215 : decode m_We_weave.2.1 215 = .ok (.iload 8, 2) := by decide +kernel
theorem dc_We_weave_217 : decode m_We_weave.2.1 217 = .ok (.if_icmp .lt 10, 3) := by decide +kernel
theorem dc_We_weave_220 : decode m_We_weave.2.1 220 = .ok (.iload 9, 2) := by decide +kernel
theorem dc_We_weave_222 : decode m_We_weave.2.1 222 = .ok (.iload 10, 2) := by decide +kernel
theorem dc_We_weave_224 : decode m_We_weave.2.1 224 = .ok (.if_icmp .ge 196, 3) := by decide +kernel
theorem dc_We_weave_227 : decode m_We_weave.2.1 227 = .ok (.iload 7, 2) := by decide +kernel
theorem dc_We_weave_229 : decode m_We_weave.2.1 229 = .ok (.iload 8, 2) := by decide +kernel
theorem dc_We_weave_231 : decode m_We_weave.2.1 231 = .ok (.if_icmp .lt 7, 3) := by decide +kernel
theorem dc_We_weave_234 : decode m_We_weave.2.1 234 = .ok (.iconst 1, 1) := by decide +kernel
theorem dc_We_weave_235 : decode m_We_weave.2.1 235 = .ok (.goto 29, 3) := by decide +kernel
theorem dc_We_weave_238 : decode m_We_weave.2.1 238 = .ok (.iload 9, 2) := by decide +kernel
theorem dc_We_weave_240 : decode m_We_weave.2.1 240 = .ok (.iload 10, 2) := by decide +kernel
theorem dc_We_weave_242 : decode m_We_weave.2.1 242 = .ok (.if_icmp .lt 7, 3) := by decide +kernel
theorem dc_We_weave_245 : decode m_We_weave.2.1 245 = .ok (.iconst (-1), 1) := by decide +kernel
theorem dc_We_weave_246 : decode m_We_weave.2.1 246 = .ok (.goto 18, 3) := by decide +kernel
theorem dc_We_weave_249 : decode m_We_weave.2.1 249 = .ok (.aload_n 0, 1) := by decide +kernel
theorem dc_We_weave_250 : decode m_We_weave.2.1 250 = .ok (.getfield 9, 3) := by decide +kernel
theorem dc_We_weave_253 : decode m_We_weave.2.1 253 = .ok (.iload 7, 2) := by decide +kernel
theorem dc_We_weave_255 : decode m_We_weave.2.1 255 = .ok (.aload_n 0, 1) := by decide +kernel
theorem dc_We_weave_256 : decode m_We_weave.2.1 256 = .ok (.getfield 15, 3) := by decide +kernel
theorem dc_We_weave_259 : decode m_We_weave.2.1 259 = .ok (.iload 9, 2) := by decide +kernel
theorem dc_We_weave_261 : decode m_We_weave.2.1 261 = .ok (.invokevirtual 69, 3) := by decide +kernel
theorem dc_We_weave_264 : decode m_We_weave.2.1 264 = .ok (.istore 12, 2) := by decide +kernel
theorem dc_We_weave_266 : decode m_We_weave.2.1 266 = .ok (.iload 12, 2) := by decide +kernel
theorem dc_We_weave_268 : decode m_We_weave.2.1 268 = .ok (.ifCond .ge 30, 3) := by decide +kernel
theorem dc_We_weave_271 : decode m_We_weave.2.1 271 = .ok (.aload_n 0, 1) := by decide +kernel
theorem dc_We_weave_272 : decode m_We_weave.2.1 272 = .ok (.getfield 21, 3) := by decide +kernel
theorem dc_We_weave_275 : decode m_We_weave.2.1 275 = .ok (.ifCond .eq 23, 3) := by decide +kernel
theorem dc_We_weave_278 : decode m_We_weave.2.1 278 = .ok (.aload_n 0, 1) := by decide +kernel
theorem dc_We_weave_279 : decode m_We_weave.2.1 279 = .ok (.getfield 18, 3) := by decide +kernel
theorem dc_We_weave_282 : decode m_We_weave.2.1 282 = .ok (.iconst 0, 1) := by decide +kernel
theorem dc_We_weave_283 : decode m_We_weave.2.1 283 = .ok (.aload_n 0, 1) := by decide +kernel
theorem dc_We_weave_284 : decode m_We_weave.2.1 284 = .ok (.getfield 9, 3) := by decide +kernel
theorem dc_We_weave_287 : decode m_We_weave.2.1 287 = .ok (.iload 7, 2) := by decide +kernel
theorem dc_We_weave_289 : decode m_We_weave.2.1 289 = .ok (.iload 6, 2) := by decide +kernel
theorem dc_We_weave_291 : decode m_We_weave.2.1 291 = .ok (.invokevirtual 73, 3) := by decide +kernel
theorem dc_We_weave_294 : decode m_We_weave.2.1 294 = .ok (.pop, 1) := by decide +kernel
theorem dc_We_weave_295 : decode m_We_weave.2.1 295 = .ok (.goto 69, 3) := by decide +kernel
theorem dc_We_weave_298 : decode m_We_weave.2.1 298 = .ok (.iload 12, 2) := by decide +kernel
theorem dc_We_weave_300 : decode m_We_weave.2.1 300 = .ok (.ifCond .ge 21, 3) := by decide +kernel
theorem dc_We_weave_303 : decode m_We_weave.2.1 303 = .ok (.aload_n 0, 1) := by decide +kernel
theorem dc_We_weave_304 : decode m_We_weave.2.1 304 = .ok (.getfield 18, 3) := by decide +kernel
theorem dc_We_weave_307 : decode m_We_weave.2.1 307 = .ok (.aload_n 0, 1) := by decide +kernel
theorem dc_We_weave_308 : decode m_We_weave.2.1 308 = .ok (.getfield 9, 3) := by decide +kernel
theorem dc_We_weave_311 : decode m_We_weave.2.1 311 = .ok (.iload 7, 2) := by decide +kernel
theorem dc_We_weave_313 : decode m_We_weave.2.1 313 = .ok (.iload 6, 2) := by decide +kernel
theorem dc_We_weave_315 : decode m_We_weave.2.1 315 = .ok (.invokevirtual 44, 3) := by decide +kernel
theorem dc_We_weave_318 : decode m_We_weave.2.1 318 = .ok (.goto 46, 3) := by decide +kernel
theorem dc_We_weave_321 : decode m_We_weave.2.1 321 = .ok (.aload_n 0, 1) := by decide +kernel
theorem dc_We_weave_322 : decode m_We_weave.2.1 322 = .ok (.iload 12, 2) := by decide +kernel
theorem dc_We_weave_324 : decode m_We_weave.2.1 324 = .ok (.ifCond .ne 8, 3) := by decide +kernel
theorem dc_We_weave_327 : decode m_We_weave.2.1 327 = .ok (.iload 7, 2) := by decide +kernel
theorem dc_We_weave_329 : decode m_We_weave.2.1 329 = .ok (.goto 4, 3) := by decide +kernel
theorem dc_We_weave_332 : decode m_We_weave.2.1 332 = .ok (.iconst (-1), 1) := by decide +kernel
theorem dc_We_weave_333 : decode m_We_weave.2.1 333 = .ok (.iload 9, 2) := by decide +kernel
theorem dc_We_weave_335 : decode m_We_weave.2.1 335 = .ok (.invokevirtual 77, 3) := by decide +kernel
theorem dc_We_weave_338 : decode m_We_weave.2.1 338 = .ok (.ifCond .eq 26, 3) := by decide +kernel
theorem dc_We_weave_341 : decode m_We_weave.2.1 341 = .ok (.aload_n 0, 1) := by decide +kernel
theorem dc_We_weave_342 : decode m_We_weave.2.1 342 = .ok (.iload 12, 2) := by decide +kernel
theorem dc_We_weave_344 : decode m_We_weave.2.1 344 = .ok (.ifCond .ne 8, 3) := by decide +kernel
theorem dc_We_weave_347 : decode m_We_weave.2.1 347 = .ok (.iload 7, 2) := by decide +kernel
theorem dc_We_weave_349 : decode m_We_weave.2.1 349 = .ok (.goto 4, 3) := by decide +kernel
theorem dc_We_weave_352 : decode m_We_weave.2.1 352 = .ok (.iconst (-1), 1) := by decide +kernel
theorem dc_We_weave_353 : decode m_We_weave.2.1 353 = .ok (.iload 9, 2) := by decide +kernel
theorem dc_We_weave_355 : decode m_We_weave.2.1 355 = .ok (.iload 6, 2) := by decide +kernel
theorem dc_We_weave_357 : decode m_We_weave.2.1 357 = .ok (.iload 4, 2) := by decide +kernel
theorem dc_We_weave_359 : decode m_We_weave.2.1 359 = .ok (.iconst 1, 1) := by decide +kernel
theorem dc_We_weave_360 : decode m_We_weave.2.1 360 = .ok (.iadd, 1) := by decide +kernel
theorem dc_We_weave_361 : decode m_We_weave.2.1 361 = .ok (.invokevirtual 33, 3) := by decide +kernel
theorem dc_We_weave_364 : decode m_We_weave.2.1 364 = .ok (.iload 12, 2) := by decide +kernel
theorem dc_We_weave_366 : decode m_We_weave.2.1 366 = .ok (.ifCond .gt 19, 3) := by decide +kernel
theorem dc_We_weave_369 : decode m_We_weave.2.1 369 = .ok (.iload 7, 2) := by decide +kernel
theorem dc_We_weave_371 : decode m_We_weave.2.1 371 = .ok (.aload_n 0, 1) := by decide +kernel
theorem dc_We_weave_372 : decode m_We_weave.2.1 372 = .ok (.getfield 9, 3) := by decide +kernel
theorem dc_We_weave_375 : decode m_We_weave.2.1 375 = .ok (.getfield 60, 3) := by decide +kernel
theorem dc_We_weave_378 : decode m_We_weave.2.1 378 = .ok (.iload 7, 2) := by decide +kernel
theorem dc_We_weave_380 : decode m_We_weave.2.1 380 = .ok (.iaload, 1) := by decide +kernel
theorem dc_We_weave_381 : decode m_We_weave.2.1 381 = .ok (.iadd, 1) := by decide +kernel
theorem dc_We_weave_382 : decode m_We_weave.2.1 382 = .ok (.goto 5, 3) := by decide +kernel
theorem dc_We_weave_385 : decode m_We_weave.2.1 385 = .ok (.iload 7, 2) := by decide +kernel
theorem dc_We_weave_387 : decode m_We_weave.2.1 387 = .ok (.istore 7, 2) := by decide +kernel
theorem dc_We_weave_389 : decode m_We_weave.2.1 389 = .ok (.iload 12, 2) := by decide +kernel
theorem dc_We_weave_391 : decode m_We_weave.2.1 391 = .ok (.ifCond .lt 19, 3) := by decide +kernel
theorem dc_We_weave_394 : decode m_We_weave.2.1 394 = .ok (.iload 9, 2) := by decide +kernel
theorem dc_We_weave_396 : decode m_We_weave.2.1 396 = .ok (.aload_n 0, 1) := by decide +kernel
theorem dc_We_weave_397 : decode m_We_weave.2.1 397 = .ok (.getfield 15, 3) := by decide +kernel
theorem dc_We_weave_400 : decode m_We_weave.2.1 400 = .ok (.getfield 60, 3) := by decide +kernel
theorem dc_We_weave_403 : decode m_We_weave.2.1 403 = .ok (.iload 9, 2) := by decide +kernel
theorem dc_We_weave_405 : decode m_We_weave.2.1 405 = .ok (.iaload, 1) := by decide +kernel
theorem dc_We_weave_406 : decode m_We_weave.2.1 406 = .ok (.iadd, 1) := by decide +kernel
theorem dc_We_weave_407 : decode m_We_weave.2.1 407 = .ok (.goto 5, 3) := by decide +kernel
theorem dc_We_weave_410 : decode m_We_weave.2.1 410 = .ok (.iload 9, 2) := by decide +kernel
theorem dc_We_weave_412 : decode m_We_weave.2.1 412 = .ok (.istore 9, 2) := by decide +kernel
theorem dc_We_weave_414 : decode m_We_weave.2.1 414 = .ok (.iinc 11 1, 3) := by decide +kernel
theorem dc_We_weave_417 : decode m_We_weave.2.1 417 = .ok (.goto (-212), 3) := by decide +kernel
theorem dc_We_weave_420 : decode m_We_weave.2.1 420 = .ok (.return_, 1) := by decide +kernel
theorem b_We_weave_0 {E : En_t} {d : Nat} {σ : S_t} {Q : Option Value → S_t → Prop} {x1 : Int32} {x2 : Int32} {x3 : Int32} {x4 : Int32}
    (h : (x4 ≤ (30 : Int32) → (x1 = (-1 : Int32) → JE E (d + 1) m_We_weave 39 [(0, pv E 71), (1, .int x1), (2, .int x2), (3, .int x3), (4, .int x4)] [] σ Q) ∧ (¬ x1 = (-1 : Int32) → ∃ t1, gR σ 71 0 = some t1 ∧ kindP t1 = 11 ∧ (vp_in x1 500 ∧ ((¬ (gI σ (t1 + 1) x1.toNatClampNeg) = (6 : Int32) → JE E (d + 1) m_We_weave 39 [(0, pv E 71), (1, .int x1), (2, .int x2), (3, .int x3), (4, .int x4)] [] σ Q) ∧ ((gI σ (t1 + 1) x1.toNatClampNeg) = (6 : Int32) → JE E (d + 1) m_We_weave 40 [(0, pv E 71), (1, .int x1), (2, .int x2), (3, .int x3), (4, .int x4)] [.int (1 : Int32)] σ Q))))) ∧ (¬ x4 ≤ (30 : Int32) → ∃ t2, gR σ 71 2 = some t2 ∧ kindP t2 = 11 ∧ (Q none (sI σ t2 14 (1 : Int32))))) :
    JE E (d + 1) m_We_weave 0 [(0, pv E 71), (1, .int x1), (2, .int x2), (3, .int x3), (4, .int x4)] [] σ Q := by
  refine J_iload dc_We_weave_0 (Eq.refl 2) 4 rfl ?_
  refine J_bipush (v := (30 : Int32)) dc_We_weave_2 (Eq.refl 4) rfl ?_
  refine J_icmp_le dc_We_weave_4 (Eq.refl 7) rfl (fun hc => ?_) (fun hc => ?_)
  · have h := h.1 hc
    refine J_iload_n dc_We_weave_16 (Eq.refl 17) 1 rfl ?_
    refine J_iconst (v := (-1 : Int32)) dc_We_weave_17 (Eq.refl 18) rfl ?_
    refine J_icmp_eq dc_We_weave_18 (Eq.refl 21) rfl (fun hc => ?_) (fun hc => ?_)
    · have h := h.1 hc
      exact h
    · have h := h.2 hc
      refine J_aload_n dc_We_weave_21 (Eq.refl 22) 0 rfl ?_
      obtain ⟨t1, hr_t1, hk_t1, h⟩ := h
      refine J_getR dc_We_weave_22 (Eq.refl 25) fl_We_9 (Nat.le_of_ble_eq_true rfl) rfl rfl hr_t1 ?_
      refine J_getF (y := t1 + 1) dc_We_weave_25 (Eq.refl 28) fl_We_40 (Nat.le_of_ble_eq_true rfl) hk_t1 (Or.inl rfl) rfl ?_
      refine J_iload_n dc_We_weave_28 (Eq.refl 29) 1 rfl ?_
      obtain ⟨hg, h⟩ := h
      refine J_iald dc_We_weave_29 (Eq.refl 30) (ak_Tr_0 hk_t1).1 (ak_Tr_0 hk_t1).2 hg ?_
      refine J_bipush (v := (6 : Int32)) dc_We_weave_30 (Eq.refl 32) rfl ?_
      refine J_icmp_ne dc_We_weave_32 (Eq.refl 35) rfl (fun hc => ?_) (fun hc => ?_)
      · have h := h.1 hc
        exact h
      · have h := h.2 hc
        refine J_iconst (v := (1 : Int32)) dc_We_weave_35 (Eq.refl 36) rfl ?_
        refine J_goto dc_We_weave_36 rfl ?_
        exact h
  · have h := h.2 hc
    refine J_aload_n dc_We_weave_7 (Eq.refl 8) 0 rfl ?_
    obtain ⟨t2, hr_t2, hk_t2, h⟩ := h
    refine J_getR dc_We_weave_8 (Eq.refl 11) fl_We_18 (Nat.le_of_ble_eq_true rfl) rfl rfl hr_t2 ?_
    refine J_iconst (v := (1 : Int32)) dc_We_weave_11 (Eq.refl 12) rfl ?_
    refine J_putZ dc_We_weave_12 (Eq.refl 15) pl_We_37 (Nat.le_of_ble_eq_true rfl) hk_t2 rfl (Or.inr rfl) ?_
    exact J_vret dc_We_weave_15 rfl h
theorem b_We_weave_39 {E : En_t} {d : Nat} {σ : S_t} {Q : Option Value → S_t → Prop} {x1 : Int32} {x2 : Int32} {x3 : Int32} {x4 : Int32}
    (h : JE E (d + 1) m_We_weave 40 [(0, pv E 71), (1, .int x1), (2, .int x2), (3, .int x3), (4, .int x4)] [.int (0 : Int32)] σ Q) :
    JE E (d + 1) m_We_weave 39 [(0, pv E 71), (1, .int x1), (2, .int x2), (3, .int x3), (4, .int x4)] [] σ Q := by
  refine J_iconst (v := (0 : Int32)) dc_We_weave_39 (Eq.refl 40) rfl ?_
  exact h
theorem b_We_weave_40 {E : En_t} {d : Nat} {σ : S_t} {Q : Option Value → S_t → Prop} {x1 : Int32} {x2 : Int32} {x3 : Int32} {x4 : Int32} {s0 : Int32}
    (h : ∃ t1, gR σ 71 1 = some t1 ∧ kindP t1 = 11 ∧ (vp_in x2 500 ∧ ((¬ (gI σ (t1 + 1) x2.toNatClampNeg) = (6 : Int32) → JE E (d + 1) m_We_weave 68 [(0, pv E 71), (2, .int x2), (3, .int x3)] [] σ Q) ∧ ((gI σ (t1 + 1) x2.toNatClampNeg) = (6 : Int32) → ((gI σ 71 3) = 0 → JE E (d + 1) m_We_weave 113 [(0, pv E 71), (1, .int x1), (2, .int x2), (3, .int x3), (4, .int x4), (5, .int s0)] [] σ Q) ∧ (¬ (gI σ 71 3) = 0 → (¬ s0 = 0 → JE E (d + 1) m_We_weave 113 [(0, pv E 71), (1, .int x1), (2, .int x2), (3, .int x3), (4, .int x4), (5, .int s0)] [] σ Q) ∧ (s0 = 0 → JE E (d + 1) m_We_weave 68 [(0, pv E 71), (2, .int x2), (3, .int x3)] [] σ Q)))))) :
    JE E (d + 1) m_We_weave 40 [(0, pv E 71), (1, .int x1), (2, .int x2), (3, .int x3), (4, .int x4)] [.int s0] σ Q := by
  refine J_istore (L' := [(5, .int s0), (0, pv E 71), (1, .int x1), (2, .int x2), (3, .int x3), (4, .int x4)]) dc_We_weave_40 (Eq.refl 42) (Nat.le_of_ble_eq_true rfl) rfl ?_
  refine J_aload_n dc_We_weave_42 (Eq.refl 43) 1 rfl ?_
  obtain ⟨t1, hr_t1, hk_t1, h⟩ := h
  refine J_getR dc_We_weave_43 (Eq.refl 46) fl_We_15 (Nat.le_of_ble_eq_true rfl) rfl rfl hr_t1 ?_
  refine J_getF (y := t1 + 1) dc_We_weave_46 (Eq.refl 49) fl_We_40 (Nat.le_of_ble_eq_true rfl) hk_t1 (Or.inl rfl) rfl ?_
  refine J_iload_n dc_We_weave_49 (Eq.refl 50) 3 rfl ?_
  obtain ⟨hg, h⟩ := h
  refine J_iald dc_We_weave_50 (Eq.refl 51) (ak_Tr_0 hk_t1).1 (ak_Tr_0 hk_t1).2 hg ?_
  refine J_bipush (v := (6 : Int32)) dc_We_weave_51 (Eq.refl 53) rfl ?_
  refine J_icmp_ne dc_We_weave_53 (Eq.refl 56) rfl (fun hc => ?_) (fun hc => ?_)
  · have h := h.1 hc
    refine J_sub [1, 3, 4] rfl ?_
    exact h
  · have h := h.2 hc
    refine J_aload_n dc_We_weave_56 (Eq.refl 57) 1 rfl ?_
    refine J_getI dc_We_weave_57 (Eq.refl 60) fl_We_21 (Nat.le_of_ble_eq_true rfl) rfl (Or.inr rfl) ?_
    refine J_if_eq dc_We_weave_60 (Eq.refl 63) rfl (fun hc => ?_) (fun hc => ?_)
    · have h := h.1 hc
      refine J_sub [1, 2, 3, 4, 5, 0] rfl ?_
      exact h
    · have h := h.2 hc
      refine J_iload dc_We_weave_63 (Eq.refl 65) 0 rfl ?_
      refine J_if_ne dc_We_weave_65 (Eq.refl 68) rfl (fun hc => ?_) (fun hc => ?_)
      · have h := h.1 hc
        refine J_sub [1, 2, 3, 4, 5, 0] rfl ?_
        exact h
      · have h := h.2 hc
        refine J_sub [1, 3, 4] rfl ?_
        exact h
theorem b_We_weave_68 {E : En_t} {d : Nat} {σ : S_t} {Q : Option Value → S_t → Prop} {x2 : Int32} {x3 : Int32}
    (h : ∃ t1, gR σ 71 2 = some t1 ∧ kindP t1 = 11 ∧ (∃ t2, gR σ 71 1 = some t2 ∧ kindP t2 = 11 ∧ (CV E d m_Tr_addWhole [pv E t1, pv E t2, .int x2, .int x3] σ (fun σ3 => (¬ (gI σ3 71 4) = 0 → JE E (d + 1) m_We_weave 104 [] [pv E 71] σ3 Q) ∧ ((gI σ3 71 4) = 0 → ((gI σ3 71 3) = 0 → Q none (sI σ3 71 4 (0 : Int32))) ∧ (¬ (gI σ3 71 3) = 0 → CI E d m_We_hasNullPart [pv E 71, .int x2] σ3 (fun r5 σ4 => (r5 = 0 → Q none (sI σ4 71 4 (0 : Int32))) ∧ (¬ r5 = 0 → JE E (d + 1) m_We_weave 104 [] [pv E 71] σ4 Q)))))))) :
    JE E (d + 1) m_We_weave 68 [(0, pv E 71), (2, .int x2), (3, .int x3)] [] σ Q := by
  refine J_aload_n dc_We_weave_68 (Eq.refl 69) 0 rfl ?_
  obtain ⟨t1, hr_t1, hk_t1, h⟩ := h
  refine J_getR dc_We_weave_69 (Eq.refl 72) fl_We_18 (Nat.le_of_ble_eq_true rfl) rfl rfl hr_t1 ?_
  refine J_aload_n dc_We_weave_72 (Eq.refl 73) 0 rfl ?_
  obtain ⟨t2, hr_t2, hk_t2, h⟩ := h
  refine J_getR dc_We_weave_73 (Eq.refl 76) fl_We_15 (Nat.le_of_ble_eq_true rfl) rfl rfl hr_t2 ?_
  refine J_iload_n dc_We_weave_76 (Eq.refl 77) 1 rfl ?_
  refine J_iload_n dc_We_weave_77 (Eq.refl 78) 2 rfl ?_
  refine J_callVV (As := [pv E t2, .int x2, .int x3]) (st := []) dc_We_weave_78 (Eq.refl 81) lk_We_44 mi_Tr_addWhole hk_t1 (Nat.le_of_ble_eq_true rfl) rfl rfl (Nat.le_of_ble_eq_true rfl) rfl (Nat.le_of_ble_eq_true rfl) (CV.mono h (fun σ3 h => ?_))
  refine J_aload_n dc_We_weave_81 (Eq.refl 82) 0 rfl ?_
  refine J_aload_n dc_We_weave_82 (Eq.refl 83) 0 rfl ?_
  refine J_getI dc_We_weave_83 (Eq.refl 86) fl_We_25 (Nat.le_of_ble_eq_true rfl) rfl (Or.inr rfl) ?_
  refine J_if_ne dc_We_weave_86 (Eq.refl 89) rfl (fun hc => ?_) (fun hc => ?_)
  · have h := h.1 hc
    refine J_sub [] rfl ?_
    exact h
  · have h := h.2 hc
    refine J_aload_n dc_We_weave_89 (Eq.refl 90) 0 rfl ?_
    refine J_getI dc_We_weave_90 (Eq.refl 93) fl_We_21 (Nat.le_of_ble_eq_true rfl) rfl (Or.inr rfl) ?_
    refine J_if_eq dc_We_weave_93 (Eq.refl 96) rfl (fun hc => ?_) (fun hc => ?_)
    · have h := h.1 hc
      refine J_iconst (v := (0 : Int32)) dc_We_weave_108 (Eq.refl 109) rfl ?_
      refine J_putZ dc_We_weave_109 (Eq.refl 112) pl_We_25 (Nat.le_of_ble_eq_true rfl) rfl rfl (Or.inl rfl) ?_
      exact J_vret dc_We_weave_112 rfl h
    · have h := h.2 hc
      refine J_aload_n dc_We_weave_96 (Eq.refl 97) 0 rfl ?_
      refine J_iload_n dc_We_weave_97 (Eq.refl 98) 1 rfl ?_
      refine J_callVI (As := [.int x2]) (st := [pv E 71]) dc_We_weave_98 (Eq.refl 101) lk_We_48 mi_We_hasNullPart rfl (Nat.le_of_ble_eq_true rfl) rfl rfl (Nat.le_of_ble_eq_true rfl) rfl (Nat.le_of_ble_eq_true rfl) (CI.mono h (fun r5 σ4 h => ?_))
      refine J_if_eq dc_We_weave_101 (Eq.refl 104) rfl (fun hc => ?_) (fun hc => ?_)
      · have h := h.1 hc
        refine J_iconst (v := (0 : Int32)) dc_We_weave_108 (Eq.refl 109) rfl ?_
        refine J_putZ dc_We_weave_109 (Eq.refl 112) pl_We_25 (Nat.le_of_ble_eq_true rfl) rfl rfl (Or.inl rfl) ?_
        exact J_vret dc_We_weave_112 rfl h
      · have h := h.2 hc
        refine J_sub [] rfl ?_
        exact h
theorem b_We_weave_104 {E : En_t} {d : Nat} {σ : S_t} {Q : Option Value → S_t → Prop}
    (h : Q none (sI σ 71 4 (1 : Int32))) :
    JE E (d + 1) m_We_weave 104 [] [pv E 71] σ Q := by
  refine J_iconst (v := (1 : Int32)) dc_We_weave_104 (Eq.refl 105) rfl ?_
  refine J_goto dc_We_weave_105 rfl ?_
  refine J_putZ dc_We_weave_109 (Eq.refl 112) pl_We_25 (Nat.le_of_ble_eq_true rfl) rfl rfl (Or.inr rfl) ?_
  exact J_vret dc_We_weave_112 rfl h
theorem b_We_weave_113 {E : En_t} {d : Nat} {σ : S_t} {Q : Option Value → S_t → Prop} {x1 : Int32} {x2 : Int32} {x3 : Int32} {x4 : Int32} {x5 : Int32}
    (h : ∃ t1, gR σ 71 2 = some t1 ∧ kindP t1 = 11 ∧ (∃ t2, gR σ 71 1 = some t2 ∧ kindP t2 = 11 ∧ (CI E d m_Tr_addLike [pv E t1, pv E t2, .int x2, .int x3] σ (fun r4 σ3 => (x5 = 0 → JE E (d + 1) m_We_weave 140 [(0, pv E 71), (1, .int x1), (2, .int x2), (4, .int x4), (5, .int x5), (6, .int r4)] [.int (0 : Int32)] σ3 Q) ∧ (¬ x5 = 0 → JE E (d + 1) m_We_weave 140 [(0, pv E 71), (1, .int x1), (2, .int x2), (4, .int x4), (5, .int x5), (6, .int r4)] [.int (x1 + (1 : Int32))] σ3 Q))))) :
    JE E (d + 1) m_We_weave 113 [(0, pv E 71), (1, .int x1), (2, .int x2), (3, .int x3), (4, .int x4), (5, .int x5)] [] σ Q := by
  refine J_aload_n dc_We_weave_113 (Eq.refl 114) 0 rfl ?_
  obtain ⟨t1, hr_t1, hk_t1, h⟩ := h
  refine J_getR dc_We_weave_114 (Eq.refl 117) fl_We_18 (Nat.le_of_ble_eq_true rfl) rfl rfl hr_t1 ?_
  refine J_aload_n dc_We_weave_117 (Eq.refl 118) 0 rfl ?_
  obtain ⟨t2, hr_t2, hk_t2, h⟩ := h
  refine J_getR dc_We_weave_118 (Eq.refl 121) fl_We_15 (Nat.le_of_ble_eq_true rfl) rfl rfl hr_t2 ?_
  refine J_iload_n dc_We_weave_121 (Eq.refl 122) 2 rfl ?_
  refine J_iload_n dc_We_weave_122 (Eq.refl 123) 3 rfl ?_
  refine J_callVI (As := [pv E t2, .int x2, .int x3]) (st := []) dc_We_weave_123 (Eq.refl 126) lk_We_52 mi_Tr_addLike hk_t1 (Nat.le_of_ble_eq_true rfl) rfl rfl (Nat.le_of_ble_eq_true rfl) rfl (Nat.le_of_ble_eq_true rfl) (CI.mono h (fun r4 σ3 h => ?_))
  refine J_istore (L' := [(6, .int r4), (0, pv E 71), (1, .int x1), (2, .int x2), (3, .int x3), (4, .int x4), (5, .int x5)]) dc_We_weave_126 (Eq.refl 128) (Nat.le_of_ble_eq_true rfl) rfl ?_
  refine J_iload dc_We_weave_128 (Eq.refl 130) 6 rfl ?_
  refine J_if_eq dc_We_weave_130 (Eq.refl 133) rfl (fun hc => ?_) (fun hc => ?_)
  · have h := h.1 hc
    refine J_iconst (v := (0 : Int32)) dc_We_weave_139 (Eq.refl 140) rfl ?_
    refine J_sub [1, 2, 3, 5, 6, 0] rfl ?_
    exact h
  · have h := h.2 hc
    refine J_iload_n dc_We_weave_133 (Eq.refl 134) 2 rfl ?_
    refine J_iconst (v := (1 : Int32)) dc_We_weave_134 (Eq.refl 135) rfl ?_
    refine J_iadd dc_We_weave_135 (Eq.refl 136) ?_
    refine J_goto dc_We_weave_136 rfl ?_
    refine J_sub [1, 2, 3, 5, 6, 0] rfl ?_
    exact h
theorem b_We_weave_140 {E : En_t} {d : Nat} {σ : S_t} {Q : Option Value → S_t → Prop} {x1 : Int32} {x2 : Int32} {x4 : Int32} {x5 : Int32} {x6 : Int32} {s0 : Int32}
    (h : (x5 = 0 → JE E (d + 1) m_We_weave 172 [(0, pv E 71), (2, .int x2), (4, .int x4), (6, .int x6), (7, .int s0)] [.int (0 : Int32)] σ Q) ∧ (¬ x5 = 0 → ∃ t1, gR σ 71 0 = some t1 ∧ kindP t1 = 11 ∧ (∃ t2, gR σ 71 0 = some t2 ∧ kindP t2 = 11 ∧ (vp_in x1 500 ∧ (∀ r3, r3 = mnI (gI σ t1 13) (x1 + (gI σ (t2 + 5) x1.toNatClampNeg)) → (JE E (d + 1) m_We_weave 172 [(0, pv E 71), (2, .int x2), (4, .int x4), (6, .int x6), (7, .int s0)] [.int r3] σ Q)))))) :
    JE E (d + 1) m_We_weave 140 [(0, pv E 71), (1, .int x1), (2, .int x2), (4, .int x4), (5, .int x5), (6, .int x6)] [.int s0] σ Q := by
  refine J_istore (L' := [(7, .int s0), (0, pv E 71), (1, .int x1), (2, .int x2), (4, .int x4), (5, .int x5), (6, .int x6)]) dc_We_weave_140 (Eq.refl 142) (Nat.le_of_ble_eq_true rfl) rfl ?_
  refine J_iload dc_We_weave_142 (Eq.refl 144) 5 rfl ?_
  refine J_if_eq dc_We_weave_144 (Eq.refl 147) rfl (fun hc => ?_) (fun hc => ?_)
  · have h := h.1 hc
    refine J_iconst (v := (0 : Int32)) dc_We_weave_171 (Eq.refl 172) rfl ?_
    refine J_sub [1, 3, 4, 6, 0] rfl ?_
    exact h
  · have h := h.2 hc
    refine J_aload_n dc_We_weave_147 (Eq.refl 148) 1 rfl ?_
    obtain ⟨t1, hr_t1, hk_t1, h⟩ := h
    refine J_getR dc_We_weave_148 (Eq.refl 151) fl_We_9 (Nat.le_of_ble_eq_true rfl) rfl rfl hr_t1 ?_
    refine J_getI dc_We_weave_151 (Eq.refl 154) fl_We_56 (Nat.le_of_ble_eq_true rfl) hk_t1 (Or.inl rfl) ?_
    refine J_iload_n dc_We_weave_154 (Eq.refl 155) 2 rfl ?_
    refine J_aload_n dc_We_weave_155 (Eq.refl 156) 1 rfl ?_
    obtain ⟨t2, hr_t2, hk_t2, h⟩ := h
    refine J_getR dc_We_weave_156 (Eq.refl 159) fl_We_9 (Nat.le_of_ble_eq_true rfl) rfl rfl hr_t2 ?_
    refine J_getF (y := t2 + 5) dc_We_weave_159 (Eq.refl 162) fl_We_60 (Nat.le_of_ble_eq_true rfl) hk_t2 (Or.inl rfl) rfl ?_
    refine J_iload_n dc_We_weave_162 (Eq.refl 163) 2 rfl ?_
    obtain ⟨hg, h⟩ := h
    refine J_iald dc_We_weave_163 (Eq.refl 164) (ak_Tr_4 hk_t2).1 (ak_Tr_4 hk_t2).2 hg ?_
    refine J_iadd dc_We_weave_164 (Eq.refl 165) ?_
    refine J_mmin dc_We_weave_165 (Eq.refl 168) lk_We_63 (Nat.le_of_ble_eq_true rfl) (fun r3 er3 => ?_)
    have h := h r3 er3
    refine J_goto dc_We_weave_168 rfl ?_
    refine J_sub [1, 3, 4, 6, 0] rfl ?_
    exact h
theorem b_We_weave_172 {E : En_t} {d : Nat} {σ : S_t} {Q : Option Value → S_t → Prop} {x2 : Int32} {x4 : Int32} {x6 : Int32} {x7 : Int32} {s0 : Int32}
    (h : ∃ t1, gR σ 71 1 = some t1 ∧ kindP t1 = 11 ∧ (∃ t2, gR σ 71 1 = some t2 ∧ kindP t2 = 11 ∧ (vp_in x2 500 ∧ (∀ r3, r3 = mnI (gI σ t1 13) (x2 + (gI σ (t2 + 5) x2.toNatClampNeg)) → (JE E (d + 1) m_We_weave 205 [(0, pv E 71), (4, .int x4), (6, .int x6), (7, .int x7), (8, .int s0), (9, .int (x2 + (1 : Int32))), (10, .int r3), (11, .int (0 : Int32))] [] σ Q))))) :
    JE E (d + 1) m_We_weave 172 [(0, pv E 71), (2, .int x2), (4, .int x4), (6, .int x6), (7, .int x7)] [.int s0] σ Q := by
  refine J_istore (L' := [(8, .int s0), (0, pv E 71), (2, .int x2), (4, .int x4), (6, .int x6), (7, .int x7)]) dc_We_weave_172 (Eq.refl 174) (Nat.le_of_ble_eq_true rfl) rfl ?_
  refine J_iload_n dc_We_weave_174 (Eq.refl 175) 2 rfl ?_
  refine J_iconst (v := (1 : Int32)) dc_We_weave_175 (Eq.refl 176) rfl ?_
  refine J_iadd dc_We_weave_176 (Eq.refl 177) ?_
  refine J_istore (L' := [(9, .int (x2 + (1 : Int32))), (8, .int s0), (0, pv E 71), (2, .int x2), (4, .int x4), (6, .int x6), (7, .int x7)]) dc_We_weave_177 (Eq.refl 179) (Nat.le_of_ble_eq_true rfl) rfl ?_
  refine J_aload_n dc_We_weave_179 (Eq.refl 180) 2 rfl ?_
  obtain ⟨t1, hr_t1, hk_t1, h⟩ := h
  refine J_getR dc_We_weave_180 (Eq.refl 183) fl_We_15 (Nat.le_of_ble_eq_true rfl) rfl rfl hr_t1 ?_
  refine J_getI dc_We_weave_183 (Eq.refl 186) fl_We_56 (Nat.le_of_ble_eq_true rfl) hk_t1 (Or.inl rfl) ?_
  refine J_iload_n dc_We_weave_186 (Eq.refl 187) 3 rfl ?_
  refine J_aload_n dc_We_weave_187 (Eq.refl 188) 2 rfl ?_
  obtain ⟨t2, hr_t2, hk_t2, h⟩ := h
  refine J_getR dc_We_weave_188 (Eq.refl 191) fl_We_15 (Nat.le_of_ble_eq_true rfl) rfl rfl hr_t2 ?_
  refine J_getF (y := t2 + 5) dc_We_weave_191 (Eq.refl 194) fl_We_60 (Nat.le_of_ble_eq_true rfl) hk_t2 (Or.inl rfl) rfl ?_
  refine J_iload_n dc_We_weave_194 (Eq.refl 195) 3 rfl ?_
  obtain ⟨hg, h⟩ := h
  refine J_iald dc_We_weave_195 (Eq.refl 196) (ak_Tr_4 hk_t2).1 (ak_Tr_4 hk_t2).2 hg ?_
  refine J_iadd dc_We_weave_196 (Eq.refl 197) ?_
  refine J_mmin dc_We_weave_197 (Eq.refl 200) lk_We_63 (Nat.le_of_ble_eq_true rfl) (fun r3 er3 => ?_)
  have h := h r3 er3
  refine J_istore (L' := [(10, .int r3), (9, .int (x2 + (1 : Int32))), (8, .int s0), (0, pv E 71), (2, .int x2), (4, .int x4), (6, .int x6), (7, .int x7)]) dc_We_weave_200 (Eq.refl 202) (Nat.le_of_ble_eq_true rfl) rfl ?_
  refine J_iconst (v := (0 : Int32)) dc_We_weave_202 (Eq.refl 203) rfl ?_
  refine J_istore (L' := [(11, .int (0 : Int32)), (10, .int r3), (9, .int (x2 + (1 : Int32))), (8, .int s0), (0, pv E 71), (2, .int x2), (4, .int x4), (6, .int x6), (7, .int x7)]) dc_We_weave_203 (Eq.refl 205) (Nat.le_of_ble_eq_true rfl) rfl ?_
  refine J_sub [4, 6, 7, 8, 3, 2, 1, 0] rfl ?_
  exact h
theorem b_We_weave_205 {E : En_t} {d : Nat} {σ : S_t} {Q : Option Value → S_t → Prop} {x4 : Int32} {x6 : Int32} {x7 : Int32} {x8 : Int32} {x9 : Int32} {x10 : Int32} {x11 : Int32}
    (h : ((1000 : Int32) ≤ x11 → Q none σ) ∧ (¬ (1000 : Int32) ≤ x11 → (x7 < x8 → JE E (d + 1) m_We_weave 227 [(0, pv E 71), (4, .int x4), (6, .int x6), (7, .int x7), (8, .int x8), (9, .int x9), (10, .int x10), (11, .int x11)] [] σ Q) ∧ (¬ x7 < x8 → (x10 ≤ x9 → Q none σ) ∧ (¬ x10 ≤ x9 → JE E (d + 1) m_We_weave 227 [(0, pv E 71), (4, .int x4), (6, .int x6), (7, .int x7), (8, .int x8), (9, .int x9), (10, .int x10), (11, .int x11)] [] σ Q)))) :
    JE E (d + 1) m_We_weave 205 [(0, pv E 71), (4, .int x4), (6, .int x6), (7, .int x7), (8, .int x8), (9, .int x9), (10, .int x10), (11, .int x11)] [] σ Q := by
  refine J_iload dc_We_weave_205 (Eq.refl 207) 7 rfl ?_
  refine J_sipush (v := (1000 : Int32)) dc_We_weave_207 (Eq.refl 210) rfl ?_
  refine J_icmp_ge dc_We_weave_210 (Eq.refl 213) rfl (fun hc => ?_) (fun hc => ?_)
  · have h := h.1 hc
    exact J_vret dc_We_weave_420 rfl h
  · have h := h.2 hc
    refine J_iload dc_We_weave_213 (Eq.refl 215) 3 rfl ?_
    refine J_iload dc_We_weave_215 (Eq.refl 217) 4 rfl ?_
    refine J_icmp_lt dc_We_weave_217 (Eq.refl 220) rfl (fun hc => ?_) (fun hc => ?_)
    · have h := h.1 hc
      exact h
    · have h := h.2 hc
      refine J_iload dc_We_weave_220 (Eq.refl 222) 5 rfl ?_
      refine J_iload dc_We_weave_222 (Eq.refl 224) 6 rfl ?_
      refine J_icmp_ge dc_We_weave_224 (Eq.refl 227) rfl (fun hc => ?_) (fun hc => ?_)
      · have h := h.1 hc
        exact J_vret dc_We_weave_420 rfl h
      · have h := h.2 hc
        exact h
theorem b_We_weave_227 {E : En_t} {d : Nat} {σ : S_t} {Q : Option Value → S_t → Prop} {x4 : Int32} {x6 : Int32} {x7 : Int32} {x8 : Int32} {x9 : Int32} {x10 : Int32} {x11 : Int32}
    (h : (x7 < x8 → (x9 < x10 → ∃ t1, gR σ 71 0 = some t1 ∧ kindP t1 = 11 ∧ (∃ t2, gR σ 71 1 = some t2 ∧ kindP t2 = 11 ∧ (CI E d m_Tr_compareNames [pv E t1, .int x7, pv E t2, .int x9] σ (fun r4 σ3 => JE E (d + 1) m_We_weave 264 [(0, pv E 71), (4, .int x4), (6, .int x6), (7, .int x7), (8, .int x8), (9, .int x9), (10, .int x10), (11, .int x11)] [.int r4] σ3 Q)))) ∧ (¬ x9 < x10 → JE E (d + 1) m_We_weave 264 [(0, pv E 71), (4, .int x4), (6, .int x6), (7, .int x7), (8, .int x8), (9, .int x9), (10, .int x10), (11, .int x11)] [.int (-1 : Int32)] σ Q)) ∧ (¬ x7 < x8 → JE E (d + 1) m_We_weave 264 [(0, pv E 71), (4, .int x4), (6, .int x6), (7, .int x7), (8, .int x8), (9, .int x9), (10, .int x10), (11, .int x11)] [.int (1 : Int32)] σ Q)) :
    JE E (d + 1) m_We_weave 227 [(0, pv E 71), (4, .int x4), (6, .int x6), (7, .int x7), (8, .int x8), (9, .int x9), (10, .int x10), (11, .int x11)] [] σ Q := by
  refine J_iload dc_We_weave_227 (Eq.refl 229) 3 rfl ?_
  refine J_iload dc_We_weave_229 (Eq.refl 231) 4 rfl ?_
  refine J_icmp_lt dc_We_weave_231 (Eq.refl 234) rfl (fun hc => ?_) (fun hc => ?_)
  · have h := h.1 hc
    refine J_iload dc_We_weave_238 (Eq.refl 240) 5 rfl ?_
    refine J_iload dc_We_weave_240 (Eq.refl 242) 6 rfl ?_
    refine J_icmp_lt dc_We_weave_242 (Eq.refl 245) rfl (fun hc => ?_) (fun hc => ?_)
    · have h := h.1 hc
      refine J_aload_n dc_We_weave_249 (Eq.refl 250) 0 rfl ?_
      obtain ⟨t1, hr_t1, hk_t1, h⟩ := h
      refine J_getR dc_We_weave_250 (Eq.refl 253) fl_We_9 (Nat.le_of_ble_eq_true rfl) rfl rfl hr_t1 ?_
      refine J_iload dc_We_weave_253 (Eq.refl 255) 3 rfl ?_
      refine J_aload_n dc_We_weave_255 (Eq.refl 256) 0 rfl ?_
      obtain ⟨t2, hr_t2, hk_t2, h⟩ := h
      refine J_getR dc_We_weave_256 (Eq.refl 259) fl_We_15 (Nat.le_of_ble_eq_true rfl) rfl rfl hr_t2 ?_
      refine J_iload dc_We_weave_259 (Eq.refl 261) 5 rfl ?_
      refine J_callVI (As := [.int x7, pv E t2, .int x9]) (st := []) dc_We_weave_261 (Eq.refl 264) lk_We_69 mi_Tr_compareNames hk_t1 (Nat.le_of_ble_eq_true rfl) rfl rfl (Nat.le_of_ble_eq_true rfl) rfl (Nat.le_of_ble_eq_true rfl) (CI.mono h (fun r4 σ3 h => ?_))
      exact h
    · have h := h.2 hc
      refine J_iconst (v := (-1 : Int32)) dc_We_weave_245 (Eq.refl 246) rfl ?_
      refine J_goto dc_We_weave_246 rfl ?_
      exact h
  · have h := h.2 hc
    refine J_iconst (v := (1 : Int32)) dc_We_weave_234 (Eq.refl 235) rfl ?_
    refine J_goto dc_We_weave_235 rfl ?_
    exact h
theorem b_We_weave_264 {E : En_t} {d : Nat} {σ : S_t} {Q : Option Value → S_t → Prop} {x4 : Int32} {x6 : Int32} {x7 : Int32} {x8 : Int32} {x9 : Int32} {x10 : Int32} {x11 : Int32} {s0 : Int32}
    (h : (0 ≤ s0 → JE E (d + 1) m_We_weave 298 [(0, pv E 71), (4, .int x4), (6, .int x6), (7, .int x7), (8, .int x8), (9, .int x9), (10, .int x10), (11, .int x11), (12, .int s0)] [] σ Q) ∧ (¬ 0 ≤ s0 → ((gI σ 71 3) = 0 → JE E (d + 1) m_We_weave 298 [(0, pv E 71), (4, .int x4), (6, .int x6), (7, .int x7), (8, .int x8), (9, .int x9), (10, .int x10), (11, .int x11), (12, .int s0)] [] σ Q) ∧ (¬ (gI σ 71 3) = 0 → ∃ t1, gR σ 71 2 = some t1 ∧ kindP t1 = 11 ∧ (∃ t2, gR σ 71 0 = some t2 ∧ kindP t2 = 11 ∧ (CI E d m_Tr_addNamed [pv E t1, .int (0 : Int32), pv E t2, .int x7, .int x6] σ (fun r4 σ3 => JE E (d + 1) m_We_weave 364 [(0, pv E 71), (4, .int x4), (6, .int x6), (7, .int x7), (8, .int x8), (9, .int x9), (10, .int x10), (11, .int x11), (12, .int s0)] [] σ3 Q)))))) :
    JE E (d + 1) m_We_weave 264 [(0, pv E 71), (4, .int x4), (6, .int x6), (7, .int x7), (8, .int x8), (9, .int x9), (10, .int x10), (11, .int x11)] [.int s0] σ Q := by
  refine J_istore (L' := [(12, .int s0), (0, pv E 71), (4, .int x4), (6, .int x6), (7, .int x7), (8, .int x8), (9, .int x9), (10, .int x10), (11, .int x11)]) dc_We_weave_264 (Eq.refl 266) (Nat.le_of_ble_eq_true rfl) rfl ?_
  refine J_iload dc_We_weave_266 (Eq.refl 268) 0 rfl ?_
  refine J_if_ge dc_We_weave_268 (Eq.refl 271) rfl (fun hc => ?_) (fun hc => ?_)
  · have h := h.1 hc
    refine J_sub [1, 2, 3, 4, 5, 6, 7, 8, 0] rfl ?_
    exact h
  · have h := h.2 hc
    refine J_aload_n dc_We_weave_271 (Eq.refl 272) 1 rfl ?_
    refine J_getI dc_We_weave_272 (Eq.refl 275) fl_We_21 (Nat.le_of_ble_eq_true rfl) rfl (Or.inr rfl) ?_
    refine J_if_eq dc_We_weave_275 (Eq.refl 278) rfl (fun hc => ?_) (fun hc => ?_)
    · have h := h.1 hc
      refine J_sub [1, 2, 3, 4, 5, 6, 7, 8, 0] rfl ?_
      exact h
    · have h := h.2 hc
      refine J_aload_n dc_We_weave_278 (Eq.refl 279) 1 rfl ?_
      obtain ⟨t1, hr_t1, hk_t1, h⟩ := h
      refine J_getR dc_We_weave_279 (Eq.refl 282) fl_We_18 (Nat.le_of_ble_eq_true rfl) rfl rfl hr_t1 ?_
      refine J_iconst (v := (0 : Int32)) dc_We_weave_282 (Eq.refl 283) rfl ?_
      refine J_aload_n dc_We_weave_283 (Eq.refl 284) 1 rfl ?_
      obtain ⟨t2, hr_t2, hk_t2, h⟩ := h
      refine J_getR dc_We_weave_284 (Eq.refl 287) fl_We_9 (Nat.le_of_ble_eq_true rfl) rfl rfl hr_t2 ?_
      refine J_iload dc_We_weave_287 (Eq.refl 289) 4 rfl ?_
      refine J_iload dc_We_weave_289 (Eq.refl 291) 3 rfl ?_
      refine J_callVI (As := [.int (0 : Int32), pv E t2, .int x7, .int x6]) (st := []) dc_We_weave_291 (Eq.refl 294) lk_We_73 mi_Tr_addNamed hk_t1 (Nat.le_of_ble_eq_true rfl) rfl rfl (Nat.le_of_ble_eq_true rfl) rfl (Nat.le_of_ble_eq_true rfl) (CI.mono h (fun r4 σ3 h => ?_))
      refine J_pop dc_We_weave_294 (Eq.refl 295) rfl ?_
      refine J_goto dc_We_weave_295 rfl ?_
      refine J_sub [1, 2, 3, 4, 5, 6, 7, 8, 0] rfl ?_
      exact h
theorem b_We_weave_298 {E : En_t} {d : Nat} {σ : S_t} {Q : Option Value → S_t → Prop} {x4 : Int32} {x6 : Int32} {x7 : Int32} {x8 : Int32} {x9 : Int32} {x10 : Int32} {x11 : Int32} {x12 : Int32}
    (h : (0 ≤ x12 → (¬ x12 = 0 → JE E (d + 1) m_We_weave 333 [(0, pv E 71), (4, .int x4), (6, .int x6), (7, .int x7), (8, .int x8), (9, .int x9), (10, .int x10), (11, .int x11), (12, .int x12)] [.int (-1 : Int32), pv E 71] σ Q) ∧ (x12 = 0 → JE E (d + 1) m_We_weave 333 [(0, pv E 71), (4, .int x4), (6, .int x6), (7, .int x7), (8, .int x8), (9, .int x9), (10, .int x10), (11, .int x11), (12, .int x12)] [.int x7, pv E 71] σ Q)) ∧ (¬ 0 ≤ x12 → ∃ t1, gR σ 71 2 = some t1 ∧ kindP t1 = 11 ∧ (∃ t2, gR σ 71 0 = some t2 ∧ kindP t2 = 11 ∧ (CV E d m_Tr_addWhole [pv E t1, pv E t2, .int x7, .int x6] σ (fun σ3 => JE E (d + 1) m_We_weave 364 [(0, pv E 71), (4, .int x4), (6, .int x6), (7, .int x7), (8, .int x8), (9, .int x9), (10, .int x10), (11, .int x11), (12, .int x12)] [] σ3 Q))))) :
    JE E (d + 1) m_We_weave 298 [(0, pv E 71), (4, .int x4), (6, .int x6), (7, .int x7), (8, .int x8), (9, .int x9), (10, .int x10), (11, .int x11), (12, .int x12)] [] σ Q := by
  refine J_iload dc_We_weave_298 (Eq.refl 300) 8 rfl ?_
  refine J_if_ge dc_We_weave_300 (Eq.refl 303) rfl (fun hc => ?_) (fun hc => ?_)
  · have h := h.1 hc
    refine J_aload_n dc_We_weave_321 (Eq.refl 322) 0 rfl ?_
    refine J_iload dc_We_weave_322 (Eq.refl 324) 8 rfl ?_
    refine J_if_ne dc_We_weave_324 (Eq.refl 327) rfl (fun hc => ?_) (fun hc => ?_)
    · have h := h.1 hc
      refine J_iconst (v := (-1 : Int32)) dc_We_weave_332 (Eq.refl 333) rfl ?_
      exact h
    · have h := h.2 hc
      refine J_iload dc_We_weave_327 (Eq.refl 329) 3 rfl ?_
      refine J_goto dc_We_weave_329 rfl ?_
      exact h
  · have h := h.2 hc
    refine J_aload_n dc_We_weave_303 (Eq.refl 304) 0 rfl ?_
    obtain ⟨t1, hr_t1, hk_t1, h⟩ := h
    refine J_getR dc_We_weave_304 (Eq.refl 307) fl_We_18 (Nat.le_of_ble_eq_true rfl) rfl rfl hr_t1 ?_
    refine J_aload_n dc_We_weave_307 (Eq.refl 308) 0 rfl ?_
    obtain ⟨t2, hr_t2, hk_t2, h⟩ := h
    refine J_getR dc_We_weave_308 (Eq.refl 311) fl_We_9 (Nat.le_of_ble_eq_true rfl) rfl rfl hr_t2 ?_
    refine J_iload dc_We_weave_311 (Eq.refl 313) 3 rfl ?_
    refine J_iload dc_We_weave_313 (Eq.refl 315) 2 rfl ?_
    refine J_callVV (As := [pv E t2, .int x7, .int x6]) (st := []) dc_We_weave_315 (Eq.refl 318) lk_We_44 mi_Tr_addWhole hk_t1 (Nat.le_of_ble_eq_true rfl) rfl rfl (Nat.le_of_ble_eq_true rfl) rfl (Nat.le_of_ble_eq_true rfl) (CV.mono h (fun σ3 h => ?_))
    refine J_goto dc_We_weave_318 rfl ?_
    exact h
theorem b_We_weave_333 {E : En_t} {d : Nat} {σ : S_t} {Q : Option Value → S_t → Prop} {x4 : Int32} {x6 : Int32} {x7 : Int32} {x8 : Int32} {x9 : Int32} {x10 : Int32} {x11 : Int32} {x12 : Int32} {s0 : Int32}
    (h : CI E d m_We_isWanted [pv E 71, .int s0, .int x9] σ (fun r2 σ1 => (r2 = 0 → JE E (d + 1) m_We_weave 364 [(0, pv E 71), (4, .int x4), (6, .int x6), (7, .int x7), (8, .int x8), (9, .int x9), (10, .int x10), (11, .int x11), (12, .int x12)] [] σ1 Q) ∧ (¬ r2 = 0 → (¬ x12 = 0 → JE E (d + 1) m_We_weave 353 [(0, pv E 71), (4, .int x4), (6, .int x6), (7, .int x7), (8, .int x8), (9, .int x9), (10, .int x10), (11, .int x11), (12, .int x12)] [.int (-1 : Int32), pv E 71] σ1 Q) ∧ (x12 = 0 → JE E (d + 1) m_We_weave 353 [(0, pv E 71), (4, .int x4), (6, .int x6), (7, .int x7), (8, .int x8), (9, .int x9), (10, .int x10), (11, .int x11), (12, .int x12)] [.int x7, pv E 71] σ1 Q)))) :
    JE E (d + 1) m_We_weave 333 [(0, pv E 71), (4, .int x4), (6, .int x6), (7, .int x7), (8, .int x8), (9, .int x9), (10, .int x10), (11, .int x11), (12, .int x12)] [.int s0, pv E 71] σ Q := by
  refine J_iload dc_We_weave_333 (Eq.refl 335) 5 rfl ?_
  refine J_callVI (As := [.int s0, .int x9]) (st := []) dc_We_weave_335 (Eq.refl 338) lk_We_77 mi_We_isWanted rfl (Nat.le_of_ble_eq_true rfl) rfl rfl (Nat.le_of_ble_eq_true rfl) rfl (Nat.le_of_ble_eq_true rfl) (CI.mono h (fun r2 σ1 h => ?_))
  refine J_if_eq dc_We_weave_338 (Eq.refl 341) rfl (fun hc => ?_) (fun hc => ?_)
  · have h := h.1 hc
    exact h
  · have h := h.2 hc
    refine J_aload_n dc_We_weave_341 (Eq.refl 342) 0 rfl ?_
    refine J_iload dc_We_weave_342 (Eq.refl 344) 8 rfl ?_
    refine J_if_ne dc_We_weave_344 (Eq.refl 347) rfl (fun hc => ?_) (fun hc => ?_)
    · have h := h.1 hc
      refine J_iconst (v := (-1 : Int32)) dc_We_weave_352 (Eq.refl 353) rfl ?_
      exact h
    · have h := h.2 hc
      refine J_iload dc_We_weave_347 (Eq.refl 349) 3 rfl ?_
      refine J_goto dc_We_weave_349 rfl ?_
      exact h
theorem b_We_weave_353 {E : En_t} {d : Nat} {σ : S_t} {Q : Option Value → S_t → Prop} {x4 : Int32} {x6 : Int32} {x7 : Int32} {x8 : Int32} {x9 : Int32} {x10 : Int32} {x11 : Int32} {x12 : Int32} {s0 : Int32}
    (h : CV E d m_We_weave [pv E 71, .int s0, .int x9, .int x6, .int (x4 + (1 : Int32))] σ (fun σ1 => JE E (d + 1) m_We_weave 364 [(0, pv E 71), (4, .int x4), (6, .int x6), (7, .int x7), (8, .int x8), (9, .int x9), (10, .int x10), (11, .int x11), (12, .int x12)] [] σ1 Q)) :
    JE E (d + 1) m_We_weave 353 [(0, pv E 71), (4, .int x4), (6, .int x6), (7, .int x7), (8, .int x8), (9, .int x9), (10, .int x10), (11, .int x11), (12, .int x12)] [.int s0, pv E 71] σ Q := by
  refine J_iload dc_We_weave_353 (Eq.refl 355) 5 rfl ?_
  refine J_iload dc_We_weave_355 (Eq.refl 357) 2 rfl ?_
  refine J_iload dc_We_weave_357 (Eq.refl 359) 1 rfl ?_
  refine J_iconst (v := (1 : Int32)) dc_We_weave_359 (Eq.refl 360) rfl ?_
  refine J_iadd dc_We_weave_360 (Eq.refl 361) ?_
  refine J_callVV (As := [.int s0, .int x9, .int x6, .int (x4 + (1 : Int32))]) (st := []) dc_We_weave_361 (Eq.refl 364) lk_We_33 mi_We_weave rfl (Nat.le_of_ble_eq_true rfl) rfl rfl (Nat.le_of_ble_eq_true rfl) rfl (Nat.le_of_ble_eq_true rfl) (CV.mono h (fun σ1 h => ?_))
  exact h
theorem b_We_weave_364 {E : En_t} {d : Nat} {σ : S_t} {Q : Option Value → S_t → Prop} {x4 : Int32} {x6 : Int32} {x7 : Int32} {x8 : Int32} {x9 : Int32} {x10 : Int32} {x11 : Int32} {x12 : Int32}
    (h : (0 < x12 → JE E (d + 1) m_We_weave 387 [(0, pv E 71), (4, .int x4), (6, .int x6), (8, .int x8), (9, .int x9), (10, .int x10), (11, .int x11), (12, .int x12)] [.int x7] σ Q) ∧ (¬ 0 < x12 → ∃ t1, gR σ 71 0 = some t1 ∧ kindP t1 = 11 ∧ (vp_in x7 500 ∧ (JE E (d + 1) m_We_weave 387 [(0, pv E 71), (4, .int x4), (6, .int x6), (8, .int x8), (9, .int x9), (10, .int x10), (11, .int x11), (12, .int x12)] [.int (x7 + (gI σ (t1 + 5) x7.toNatClampNeg))] σ Q)))) :
    JE E (d + 1) m_We_weave 364 [(0, pv E 71), (4, .int x4), (6, .int x6), (7, .int x7), (8, .int x8), (9, .int x9), (10, .int x10), (11, .int x11), (12, .int x12)] [] σ Q := by
  refine J_iload dc_We_weave_364 (Eq.refl 366) 8 rfl ?_
  refine J_if_gt dc_We_weave_366 (Eq.refl 369) rfl (fun hc => ?_) (fun hc => ?_)
  · have h := h.1 hc
    refine J_iload dc_We_weave_385 (Eq.refl 387) 3 rfl ?_
    refine J_sub [0, 1, 2, 4, 5, 6, 7, 8] rfl ?_
    exact h
  · have h := h.2 hc
    refine J_iload dc_We_weave_369 (Eq.refl 371) 3 rfl ?_
    refine J_aload_n dc_We_weave_371 (Eq.refl 372) 0 rfl ?_
    obtain ⟨t1, hr_t1, hk_t1, h⟩ := h
    refine J_getR dc_We_weave_372 (Eq.refl 375) fl_We_9 (Nat.le_of_ble_eq_true rfl) rfl rfl hr_t1 ?_
    refine J_getF (y := t1 + 5) dc_We_weave_375 (Eq.refl 378) fl_We_60 (Nat.le_of_ble_eq_true rfl) hk_t1 (Or.inl rfl) rfl ?_
    refine J_iload dc_We_weave_378 (Eq.refl 380) 3 rfl ?_
    obtain ⟨hg, h⟩ := h
    refine J_iald dc_We_weave_380 (Eq.refl 381) (ak_Tr_4 hk_t1).1 (ak_Tr_4 hk_t1).2 hg ?_
    refine J_iadd dc_We_weave_381 (Eq.refl 382) ?_
    refine J_goto dc_We_weave_382 rfl ?_
    refine J_sub [0, 1, 2, 4, 5, 6, 7, 8] rfl ?_
    exact h
theorem b_We_weave_387 {E : En_t} {d : Nat} {σ : S_t} {Q : Option Value → S_t → Prop} {x4 : Int32} {x6 : Int32} {x8 : Int32} {x9 : Int32} {x10 : Int32} {x11 : Int32} {x12 : Int32} {s0 : Int32}
    (h : (x12 < 0 → JE E (d + 1) m_We_weave 412 [(0, pv E 71), (4, .int x4), (6, .int x6), (7, .int s0), (8, .int x8), (10, .int x10), (11, .int x11)] [.int x9] σ Q) ∧ (¬ x12 < 0 → ∃ t1, gR σ 71 1 = some t1 ∧ kindP t1 = 11 ∧ (vp_in x9 500 ∧ (JE E (d + 1) m_We_weave 412 [(0, pv E 71), (4, .int x4), (6, .int x6), (7, .int s0), (8, .int x8), (10, .int x10), (11, .int x11)] [.int (x9 + (gI σ (t1 + 5) x9.toNatClampNeg))] σ Q)))) :
    JE E (d + 1) m_We_weave 387 [(0, pv E 71), (4, .int x4), (6, .int x6), (8, .int x8), (9, .int x9), (10, .int x10), (11, .int x11), (12, .int x12)] [.int s0] σ Q := by
  refine J_istore (L' := [(7, .int s0), (0, pv E 71), (4, .int x4), (6, .int x6), (8, .int x8), (9, .int x9), (10, .int x10), (11, .int x11), (12, .int x12)]) dc_We_weave_387 (Eq.refl 389) (Nat.le_of_ble_eq_true rfl) rfl ?_
  refine J_iload dc_We_weave_389 (Eq.refl 391) 8 rfl ?_
  refine J_if_lt dc_We_weave_391 (Eq.refl 394) rfl (fun hc => ?_) (fun hc => ?_)
  · have h := h.1 hc
    refine J_iload dc_We_weave_410 (Eq.refl 412) 5 rfl ?_
    refine J_sub [1, 2, 3, 0, 4, 6, 7] rfl ?_
    exact h
  · have h := h.2 hc
    refine J_iload dc_We_weave_394 (Eq.refl 396) 5 rfl ?_
    refine J_aload_n dc_We_weave_396 (Eq.refl 397) 1 rfl ?_
    obtain ⟨t1, hr_t1, hk_t1, h⟩ := h
    refine J_getR dc_We_weave_397 (Eq.refl 400) fl_We_15 (Nat.le_of_ble_eq_true rfl) rfl rfl hr_t1 ?_
    refine J_getF (y := t1 + 5) dc_We_weave_400 (Eq.refl 403) fl_We_60 (Nat.le_of_ble_eq_true rfl) hk_t1 (Or.inl rfl) rfl ?_
    refine J_iload dc_We_weave_403 (Eq.refl 405) 5 rfl ?_
    obtain ⟨hg, h⟩ := h
    refine J_iald dc_We_weave_405 (Eq.refl 406) (ak_Tr_4 hk_t1).1 (ak_Tr_4 hk_t1).2 hg ?_
    refine J_iadd dc_We_weave_406 (Eq.refl 407) ?_
    refine J_goto dc_We_weave_407 rfl ?_
    refine J_sub [1, 2, 3, 0, 4, 6, 7] rfl ?_
    exact h
theorem b_We_weave_412 {E : En_t} {d : Nat} {σ : S_t} {Q : Option Value → S_t → Prop} {x4 : Int32} {x6 : Int32} {x7 : Int32} {x8 : Int32} {x10 : Int32} {x11 : Int32} {s0 : Int32}
    (h : JE E (d + 1) m_We_weave 205 [(0, pv E 71), (4, .int x4), (6, .int x6), (7, .int x7), (8, .int x8), (9, .int s0), (10, .int x10), (11, .int (x11 + (1 : Int32)))] [] σ Q) :
    JE E (d + 1) m_We_weave 412 [(0, pv E 71), (4, .int x4), (6, .int x6), (7, .int x7), (8, .int x8), (10, .int x10), (11, .int x11)] [.int s0] σ Q := by
  refine J_istore (L' := [(9, .int s0), (0, pv E 71), (4, .int x4), (6, .int x6), (7, .int x7), (8, .int x8), (10, .int x10), (11, .int x11)]) dc_We_weave_412 (Eq.refl 414) (Nat.le_of_ble_eq_true rfl) rfl ?_
  refine J_iinc (v := x11 + (1 : Int32)) (L' := [(11, .int (x11 + (1 : Int32))), (9, .int s0), (0, pv E 71), (4, .int x4), (6, .int x6), (7, .int x7), (8, .int x8), (10, .int x10)]) dc_We_weave_414 (Eq.refl 417) 7 rfl rfl (Nat.le_of_ble_eq_true rfl) rfl ?_
  refine J_goto dc_We_weave_417 rfl ?_
  refine J_sub [2, 3, 4, 5, 6, 1, 7, 0] rfl ?_
  exact h
theorem dc_We_hasNullPart_0 : decode m_We_hasNullPart.2.1 0 = .ok (.aload_n 0, 1) := by decide +kernel
theorem dc_We_hasNullPart_1 : decode m_We_hasNullPart.2.1 1 = .ok (.getfield 15, 3) := by decide +kernel
theorem dc_We_hasNullPart_4 : decode m_We_hasNullPart.2.1 4 = .ok (.getfield 56, 3) := by decide +kernel
theorem dc_We_hasNullPart_7 : decode m_We_hasNullPart.2.1 7 = .ok (.iload_n 1, 1) := by decide +kernel
theorem dc_We_hasNullPart_8 : decode m_We_hasNullPart.2.1 8 = .ok (.aload_n 0, 1) := by decide +kernel
theorem dc_We_hasNullPart_9 : decode m_We_hasNullPart.2.1 9 = .ok (.getfield 15, 3) := by decide +kernel
theorem dc_We_hasNullPart_12 : decode m_We_hasNullPart.2.1 12 = .ok (.getfield 60, 3) := by decide +kernel
theorem dc_We_hasNullPart_15 : decode m_We_hasNullPart.2.1 15 = .ok (.iload_n 1, 1) := by decide +kernel
theorem dc_We_hasNullPart_16 : decode m_We_hasNullPart.2.1 16 = .ok (.iaload, 1) := by decide +kernel
theorem dc_We_hasNullPart_17 : decode m_We_hasNullPart.2.1 17 = .ok (.iadd, 1) := by decide +kernel
theorem dc_We_hasNullPart_18 : decode m_We_hasNullPart.2.1 18 = .ok (.invokestatic 63, 3) := by decide +kernel
theorem dc_We_hasNullPart_21 : decode m_We_hasNullPart.2.1 21 = .ok (.istore_n 2, 1) := by decide +kernel
theorem dc_We_hasNullPart_22 : decode m_We_hasNullPart.2.1 22 = .ok (.iload_n 1, 1) := by decide +kernel
theorem dc_We_hasNullPart_23 : decode m_We_hasNullPart.2.1 23 = .ok (.istore_n 3, 1) := by decide +kernel
theorem dc_We_hasNullPart_24 : decode m_We_hasNullPart.2.1 24 = .ok (.iconst 0, 1) := by decide +kernel
theorem dc_We_hasNullPart_25 : decode m_We_hasNullPart.2.1 25 = .ok (.istore 4, 2) := by decide +kernel
theorem dc_We_hasNullPart_27 : decode m_We_hasNullPart.2.1 27 = .ok (.iload 4, 2) := by decide +kernel
theorem dc_We_hasNullPart_29 : decode m_We_hasNullPart.2.1 29 = .ok (.sipush 500, 3) := by decide +kernel
theorem dc_We_hasNullPart_32 : decode m_We_hasNullPart.2.1 32 = .ok (.if_icmp .ge 65, 3) := by decide +kernel
theorem dc_We_hasNullPart_35 : decode m_We_hasNullPart.2.1 35 = .ok (.iload_n 3, 1) := by decide +kernel
theorem dc_We_hasNullPart_36 : decode m_We_hasNullPart.2.1 36 = .ok (.iload_n 2, 1) := by decide +kernel
theorem dc_We_hasNullPart_37 : decode m_We_hasNullPart.2.1 37 = .ok (.if_icmp .ge 60, 3) := by decide +kernel
theorem dc_We_hasNullPart_40 : decode m_We_hasNullPart.2.1 40 = .ok (.aload_n 0, 1) := by decide +kernel
theorem dc_We_hasNullPart_41 : decode m_We_hasNullPart.2.1 41 = .ok (.getfield 15, 3) := by decide +kernel
theorem dc_We_hasNullPart_44 : decode m_We_hasNullPart.2.1 44 = .ok (.getfield 40, 3) := by decide +kernel
theorem dc_We_hasNullPart_47 : decode m_We_hasNullPart.2.1 47 = .ok (.iload_n 3, 1) := by decide +kernel
theorem dc_We_hasNullPart_48 : decode m_We_hasNullPart.2.1 48 = .ok (.iaload, 1) := by decide +kernel
theorem dc_We_hasNullPart_49 : decode m_We_hasNullPart.2.1 49 = .ok (.ifCond .ne 9, 3) := by decide +kernel
theorem dc_We_hasNullPart_52 : decode m_We_hasNullPart.2.1 52 = .ok (.iload_n 3, 1) := by decide +kernel
theorem dc_We_hasNullPart_53 : decode m_We_hasNullPart.2.1 53 = .ok (.ifCond .le 5, 3) := by decide +kernel
theorem dc_We_hasNullPart_56 : decode m_We_hasNullPart.2.1 56 = .ok (.iconst 1, 1) := by decide +kernel
theorem dc_We_hasNullPart_57 : decode m_We_hasNullPart.2.1 57 = .ok (.ireturn, 1) := by decide +kernel
theorem dc_We_hasNullPart_58 : decode m_We_hasNullPart.2.1 58 = .ok (.iload_n 3, 1) := by decide +kernel
theorem dc_We_hasNullPart_59 : decode m_We_hasNullPart.2.1 59 = .ok (.aload_n 0, 1) := by decide +kernel
theorem dc_We_hasNullPart_60 : decode m_We_hasNullPart.2.1 60 = .ok (.getfield 15, 3) := by decide +kernel
theorem dc_We_hasNullPart_63 : decode m_We_hasNullPart.2.1 63 = .ok (.getfield 40, 3) := by decide +kernel
theorem dc_We_hasNullPart_66 : decode m_We_hasNullPart.2.1 66 = .ok (.iload_n 3, 1) := by decide +kernel
theorem dc_We_hasNullPart_67 : decode m_We_hasNullPart.2.1 67 = .ok (.iaload, 1) := by decide +kernel
theorem dc_We_hasNullPart_68 : decode m_We_hasNullPart.2.1 68 = .ok (.iconst 5, 1) := by decide +kernel
theorem dc_We_hasNullPart_69 : decode m_We_hasNullPart.2.1 69 = .ok (.if_icmp .ne 19, 3) := by decide +kernel
theorem dc_We_hasNullPart_72 : decode m_We_hasNullPart.2.1 72 = .ok (.iconst 1, 1) := by decide +kernel
theorem dc_We_hasNullPart_73 : decode m_We_hasNullPart.2.1 73 = .ok (.aload_n 0, 1) := by decide +kernel
theorem dc_We_hasNullPart_74 : decode m_We_hasNullPart.2.1 74 = .ok (.getfield 15, 3) := by decide +kernel
theorem dc_We_hasNullPart_77 : decode m_We_hasNullPart.2.1 77 = .ok (.getfield 60, 3) := by decide +kernel
theorem dc_We_hasNullPart_80 : decode m_We_hasNullPart.2.1 80 = .ok (.iload_n 3, 1) := by decide +kernel
theorem dc_We_hasNullPart_81 : decode m_We_hasNullPart.2.1 81 = .ok (.iaload, 1) := by decide +kernel
theorem dc_We_hasNullPart_82 : decode m_We_hasNullPart.2.1 82 = .ok (.invokestatic 85, 3) := by decide +kernel
theorem dc_We_hasNullPart_85 : decode m_We_hasNullPart.2.1 85 = .ok (.goto 4, 3) := by decide +kernel
theorem dc_We_hasNullPart_88 : decode m_We_hasNullPart.2.1 88 = .ok (.iconst 1, 1) := by decide +kernel
theorem dc_We_hasNullPart_89 : decode m_We_hasNullPart.2.1 89 = .ok (.iadd, 1) := by decide +kernel
theorem dc_We_hasNullPart_90 : decode m_We_hasNullPart.2.1 90 = .ok (.istore_n 3, 1) := by decide +kernel
theorem dc_We_hasNullPart_91 : decode m_We_hasNullPart.2.1 91 = .ok (.iinc 4 1, 3) := by decide +kernel
theorem dc_We_hasNullPart_94 : decode m_We_hasNullPart.2.1 94 = .ok (.goto (-67), 3) := by decide +kernel
theorem dc_We_hasNullPart_97 : decode m_We_hasNullPart.2.1 97 = .ok (.iconst 0, 1) := by decide +kernel
theorem dc_We_hasNullPart_98 : decode m_We_hasNullPart.2.1 98 = .ok (.ireturn, 1) := by decide +kernel
theorem b_We_hasNullPart_0 {E : En_t} {d : Nat} {σ : S_t} {Q : Option Value → S_t → Prop} {x1 : Int32}
    (h : ∃ t1, gR σ 71 1 = some t1 ∧ kindP t1 = 11 ∧ (∃ t2, gR σ 71 1 = some t2 ∧ kindP t2 = 11 ∧ (vp_in x1 500 ∧ (∀ r3, r3 = mnI (gI σ t1 13) (x1 + (gI σ (t2 + 5) x1.toNatClampNeg)) → (JE E (d + 1) m_We_hasNullPart 27 [(0, pv E 71), (2, .int r3), (3, .int x1), (4, .int (0 : Int32))] [] σ Q))))) :
    JE E (d + 1) m_We_hasNullPart 0 [(0, pv E 71), (1, .int x1)] [] σ Q := by
  refine J_aload_n dc_We_hasNullPart_0 (Eq.refl 1) 0 rfl ?_
  obtain ⟨t1, hr_t1, hk_t1, h⟩ := h
  refine J_getR dc_We_hasNullPart_1 (Eq.refl 4) fl_We_15 (Nat.le_of_ble_eq_true rfl) rfl rfl hr_t1 ?_
  refine J_getI dc_We_hasNullPart_4 (Eq.refl 7) fl_We_56 (Nat.le_of_ble_eq_true rfl) hk_t1 (Or.inl rfl) ?_
  refine J_iload_n dc_We_hasNullPart_7 (Eq.refl 8) 1 rfl ?_
  refine J_aload_n dc_We_hasNullPart_8 (Eq.refl 9) 0 rfl ?_
  obtain ⟨t2, hr_t2, hk_t2, h⟩ := h
  refine J_getR dc_We_hasNullPart_9 (Eq.refl 12) fl_We_15 (Nat.le_of_ble_eq_true rfl) rfl rfl hr_t2 ?_
  refine J_getF (y := t2 + 5) dc_We_hasNullPart_12 (Eq.refl 15) fl_We_60 (Nat.le_of_ble_eq_true rfl) hk_t2 (Or.inl rfl) rfl ?_
  refine J_iload_n dc_We_hasNullPart_15 (Eq.refl 16) 1 rfl ?_
  obtain ⟨hg, h⟩ := h
  refine J_iald dc_We_hasNullPart_16 (Eq.refl 17) (ak_Tr_4 hk_t2).1 (ak_Tr_4 hk_t2).2 hg ?_
  refine J_iadd dc_We_hasNullPart_17 (Eq.refl 18) ?_
  refine J_mmin dc_We_hasNullPart_18 (Eq.refl 21) lk_We_63 (Nat.le_of_ble_eq_true rfl) (fun r3 er3 => ?_)
  have h := h r3 er3
  refine J_istore_n (L' := [(2, .int r3), (0, pv E 71), (1, .int x1)]) dc_We_hasNullPart_21 (Eq.refl 22) (Nat.le_of_ble_eq_true rfl) rfl ?_
  refine J_iload_n dc_We_hasNullPart_22 (Eq.refl 23) 2 rfl ?_
  refine J_istore_n (L' := [(3, .int x1), (2, .int r3), (0, pv E 71), (1, .int x1)]) dc_We_hasNullPart_23 (Eq.refl 24) (Nat.le_of_ble_eq_true rfl) rfl ?_
  refine J_iconst (v := (0 : Int32)) dc_We_hasNullPart_24 (Eq.refl 25) rfl ?_
  refine J_istore (L' := [(4, .int (0 : Int32)), (3, .int x1), (2, .int r3), (0, pv E 71), (1, .int x1)]) dc_We_hasNullPart_25 (Eq.refl 27) (Nat.le_of_ble_eq_true rfl) rfl ?_
  refine J_sub [3, 2, 1, 0] rfl ?_
  exact h
theorem b_We_hasNullPart_27 {E : En_t} {d : Nat} {σ : S_t} {Q : Option Value → S_t → Prop} {x2 : Int32} {x3 : Int32} {x4 : Int32}
    (h : ((500 : Int32) ≤ x4 → Q (some (.int (0 : Int32))) σ) ∧ (¬ (500 : Int32) ≤ x4 → (x2 ≤ x3 → Q (some (.int (0 : Int32))) σ) ∧ (¬ x2 ≤ x3 → ∃ t1, gR σ 71 1 = some t1 ∧ kindP t1 = 11 ∧ (vp_in x3 500 ∧ ((¬ (gI σ (t1 + 1) x3.toNatClampNeg) = 0 → JE E (d + 1) m_We_hasNullPart 58 [(0, pv E 71), (2, .int x2), (3, .int x3), (4, .int x4)] [] σ Q) ∧ ((gI σ (t1 + 1) x3.toNatClampNeg) = 0 → (x3 ≤ 0 → JE E (d + 1) m_We_hasNullPart 58 [(0, pv E 71), (2, .int x2), (3, .int x3), (4, .int x4)] [] σ Q) ∧ (¬ x3 ≤ 0 → Q (some (.int (1 : Int32))) σ))))))) :
    JE E (d + 1) m_We_hasNullPart 27 [(0, pv E 71), (2, .int x2), (3, .int x3), (4, .int x4)] [] σ Q := by
  refine J_iload dc_We_hasNullPart_27 (Eq.refl 29) 3 rfl ?_
  refine J_sipush (v := (500 : Int32)) dc_We_hasNullPart_29 (Eq.refl 32) rfl ?_
  refine J_icmp_ge dc_We_hasNullPart_32 (Eq.refl 35) rfl (fun hc => ?_) (fun hc => ?_)
  · have h := h.1 hc
    refine J_iconst (v := (0 : Int32)) dc_We_hasNullPart_97 (Eq.refl 98) rfl ?_
    exact J_zret dc_We_hasNullPart_98 rfl rfl h
  · have h := h.2 hc
    refine J_iload_n dc_We_hasNullPart_35 (Eq.refl 36) 2 rfl ?_
    refine J_iload_n dc_We_hasNullPart_36 (Eq.refl 37) 1 rfl ?_
    refine J_icmp_ge dc_We_hasNullPart_37 (Eq.refl 40) rfl (fun hc => ?_) (fun hc => ?_)
    · have h := h.1 hc
      refine J_iconst (v := (0 : Int32)) dc_We_hasNullPart_97 (Eq.refl 98) rfl ?_
      exact J_zret dc_We_hasNullPart_98 rfl rfl h
    · have h := h.2 hc
      refine J_aload_n dc_We_hasNullPart_40 (Eq.refl 41) 0 rfl ?_
      obtain ⟨t1, hr_t1, hk_t1, h⟩ := h
      refine J_getR dc_We_hasNullPart_41 (Eq.refl 44) fl_We_15 (Nat.le_of_ble_eq_true rfl) rfl rfl hr_t1 ?_
      refine J_getF (y := t1 + 1) dc_We_hasNullPart_44 (Eq.refl 47) fl_We_40 (Nat.le_of_ble_eq_true rfl) hk_t1 (Or.inl rfl) rfl ?_
      refine J_iload_n dc_We_hasNullPart_47 (Eq.refl 48) 2 rfl ?_
      obtain ⟨hg, h⟩ := h
      refine J_iald dc_We_hasNullPart_48 (Eq.refl 49) (ak_Tr_0 hk_t1).1 (ak_Tr_0 hk_t1).2 hg ?_
      refine J_if_ne dc_We_hasNullPart_49 (Eq.refl 52) rfl (fun hc => ?_) (fun hc => ?_)
      · have h := h.1 hc
        exact h
      · have h := h.2 hc
        refine J_iload_n dc_We_hasNullPart_52 (Eq.refl 53) 2 rfl ?_
        refine J_if_le dc_We_hasNullPart_53 (Eq.refl 56) rfl (fun hc => ?_) (fun hc => ?_)
        · have h := h.1 hc
          exact h
        · have h := h.2 hc
          refine J_iconst (v := (1 : Int32)) dc_We_hasNullPart_56 (Eq.refl 57) rfl ?_
          exact J_zret dc_We_hasNullPart_57 rfl rfl h
theorem b_We_hasNullPart_58 {E : En_t} {d : Nat} {σ : S_t} {Q : Option Value → S_t → Prop} {x2 : Int32} {x3 : Int32} {x4 : Int32}
    (h : ∃ t1, gR σ 71 1 = some t1 ∧ kindP t1 = 11 ∧ (vp_in x3 500 ∧ ((¬ (gI σ (t1 + 1) x3.toNatClampNeg) = (5 : Int32) → JE E (d + 1) m_We_hasNullPart 89 [(0, pv E 71), (2, .int x2), (4, .int x4)] [.int (1 : Int32), .int x3] σ Q) ∧ ((gI σ (t1 + 1) x3.toNatClampNeg) = (5 : Int32) → ∃ t2, gR σ 71 1 = some t2 ∧ kindP t2 = 11 ∧ (vp_in x3 500 ∧ (∀ r3, r3 = mxI (1 : Int32) (gI σ (t2 + 5) x3.toNatClampNeg) → (JE E (d + 1) m_We_hasNullPart 89 [(0, pv E 71), (2, .int x2), (4, .int x4)] [.int r3, .int x3] σ Q))))))) :
    JE E (d + 1) m_We_hasNullPart 58 [(0, pv E 71), (2, .int x2), (3, .int x3), (4, .int x4)] [] σ Q := by
  refine J_iload_n dc_We_hasNullPart_58 (Eq.refl 59) 2 rfl ?_
  refine J_aload_n dc_We_hasNullPart_59 (Eq.refl 60) 0 rfl ?_
  obtain ⟨t1, hr_t1, hk_t1, h⟩ := h
  refine J_getR dc_We_hasNullPart_60 (Eq.refl 63) fl_We_15 (Nat.le_of_ble_eq_true rfl) rfl rfl hr_t1 ?_
  refine J_getF (y := t1 + 1) dc_We_hasNullPart_63 (Eq.refl 66) fl_We_40 (Nat.le_of_ble_eq_true rfl) hk_t1 (Or.inl rfl) rfl ?_
  refine J_iload_n dc_We_hasNullPart_66 (Eq.refl 67) 2 rfl ?_
  obtain ⟨hg, h⟩ := h
  refine J_iald dc_We_hasNullPart_67 (Eq.refl 68) (ak_Tr_0 hk_t1).1 (ak_Tr_0 hk_t1).2 hg ?_
  refine J_iconst (v := (5 : Int32)) dc_We_hasNullPart_68 (Eq.refl 69) rfl ?_
  refine J_icmp_ne dc_We_hasNullPart_69 (Eq.refl 72) rfl (fun hc => ?_) (fun hc => ?_)
  · have h := h.1 hc
    refine J_iconst (v := (1 : Int32)) dc_We_hasNullPart_88 (Eq.refl 89) rfl ?_
    refine J_sub [0, 1, 3] rfl ?_
    exact h
  · have h := h.2 hc
    refine J_iconst (v := (1 : Int32)) dc_We_hasNullPart_72 (Eq.refl 73) rfl ?_
    refine J_aload_n dc_We_hasNullPart_73 (Eq.refl 74) 0 rfl ?_
    obtain ⟨t2, hr_t2, hk_t2, h⟩ := h
    refine J_getR dc_We_hasNullPart_74 (Eq.refl 77) fl_We_15 (Nat.le_of_ble_eq_true rfl) rfl rfl hr_t2 ?_
    refine J_getF (y := t2 + 5) dc_We_hasNullPart_77 (Eq.refl 80) fl_We_60 (Nat.le_of_ble_eq_true rfl) hk_t2 (Or.inl rfl) rfl ?_
    refine J_iload_n dc_We_hasNullPart_80 (Eq.refl 81) 2 rfl ?_
    obtain ⟨hg, h⟩ := h
    refine J_iald dc_We_hasNullPart_81 (Eq.refl 82) (ak_Tr_4 hk_t2).1 (ak_Tr_4 hk_t2).2 hg ?_
    refine J_mmax dc_We_hasNullPart_82 (Eq.refl 85) lk_We_85 (Nat.le_of_ble_eq_true rfl) (fun r3 er3 => ?_)
    have h := h r3 er3
    refine J_goto dc_We_hasNullPart_85 rfl ?_
    refine J_sub [0, 1, 3] rfl ?_
    exact h
theorem b_We_hasNullPart_89 {E : En_t} {d : Nat} {σ : S_t} {Q : Option Value → S_t → Prop} {x2 : Int32} {x4 : Int32} {s0 : Int32} {s1 : Int32}
    (h : JE E (d + 1) m_We_hasNullPart 27 [(0, pv E 71), (2, .int x2), (3, .int (s1 + s0)), (4, .int (x4 + (1 : Int32)))] [] σ Q) :
    JE E (d + 1) m_We_hasNullPart 89 [(0, pv E 71), (2, .int x2), (4, .int x4)] [.int s0, .int s1] σ Q := by
  refine J_iadd dc_We_hasNullPart_89 (Eq.refl 90) ?_
  refine J_istore_n (L' := [(3, .int (s1 + s0)), (0, pv E 71), (2, .int x2), (4, .int x4)]) dc_We_hasNullPart_90 (Eq.refl 91) (Nat.le_of_ble_eq_true rfl) rfl ?_
  refine J_iinc (v := x4 + (1 : Int32)) (L' := [(4, .int (x4 + (1 : Int32))), (3, .int (s1 + s0)), (0, pv E 71), (2, .int x2)]) dc_We_hasNullPart_91 (Eq.refl 94) 3 rfl rfl (Nat.le_of_ble_eq_true rfl) rfl ?_
  refine J_goto dc_We_hasNullPart_94 rfl ?_
  refine J_sub [2, 3, 1, 0] rfl ?_
  exact h
theorem dc_We_isWanted_0 : decode m_We_isWanted.2.1 0 = .ok (.aload_n 0, 1) := by decide +kernel
theorem dc_We_isWanted_1 : decode m_We_isWanted.2.1 1 = .ok (.getfield 21, 3) := by decide +kernel
theorem dc_We_isWanted_4 : decode m_We_isWanted.2.1 4 = .ok (.ifCond .eq 30, 3) := by decide +kernel
theorem dc_We_isWanted_7 : decode m_We_isWanted.2.1 7 = .ok (.iload_n 1, 1) := by decide +kernel
theorem dc_We_isWanted_8 : decode m_We_isWanted.2.1 8 = .ok (.iconst (-1), 1) := by decide +kernel
theorem dc_We_isWanted_9 : decode m_We_isWanted.2.1 9 = .ok (.if_icmp .eq 19, 3) := by decide +kernel
theorem dc_We_isWanted_12 : decode m_We_isWanted.2.1 12 = .ok (.aload_n 0, 1) := by decide +kernel
theorem dc_We_isWanted_13 : decode m_We_isWanted.2.1 13 = .ok (.getfield 9, 3) := by decide +kernel
theorem dc_We_isWanted_16 : decode m_We_isWanted.2.1 16 = .ok (.iload_n 1, 1) := by decide +kernel
theorem dc_We_isWanted_17 : decode m_We_isWanted.2.1 17 = .ok (.aload_n 0, 1) := by decide +kernel
theorem dc_We_isWanted_18 : decode m_We_isWanted.2.1 18 = .ok (.getfield 15, 3) := by decide +kernel
theorem dc_We_isWanted_21 : decode m_We_isWanted.2.1 21 = .ok (.iload_n 2, 1) := by decide +kernel
theorem dc_We_isWanted_22 : decode m_We_isWanted.2.1 22 = .ok (.invokevirtual 81, 3) := by decide +kernel
theorem dc_We_isWanted_25 : decode m_We_isWanted.2.1 25 = .ok (.ifCond .ne 7, 3) := by decide +kernel
theorem dc_We_isWanted_28 : decode m_We_isWanted.2.1 28 = .ok (.iconst 1, 1) := by decide +kernel
theorem dc_We_isWanted_29 : decode m_We_isWanted.2.1 29 = .ok (.goto 4, 3) := by decide +kernel
theorem dc_We_isWanted_32 : decode m_We_isWanted.2.1 32 = .ok (.iconst 0, 1) := by decide +kernel
theorem dc_We_isWanted_33 : decode m_We_isWanted.2.1 33 = .ok (.ireturn, 1) := by decide +kernel
theorem dc_We_isWanted_34 : decode m_We_isWanted.2.1 34 = .ok (.aload_n 0, 1) := by decide +kernel
theorem dc_We_isWanted_35 : decode m_We_isWanted.2.1 35 = .ok (.getfield 15, 3) := by decide +kernel
theorem dc_We_isWanted_38 : decode m_We_isWanted.2.1 38 = .ok (.getfield 40, 3) := by decide +kernel
theorem dc_We_isWanted_41 : decode m_We_isWanted.2.1 41 = .ok (.iload_n 2, 1) := by decide +kernel
theorem dc_We_isWanted_42 : decode m_We_isWanted.2.1 42 = .ok (.iaload, 1) := by decide +kernel
theorem dc_We_isWanted_43 : decode m_We_isWanted.2.1 43 = .ok (.ifCond .eq 7, 3) := by decide +kernel
theorem dc_We_isWanted_46 : decode m_We_isWanted.2.1 46 = .ok (.iconst 1, 1) := by decide +kernel
theorem dc_We_isWanted_47 : decode m_We_isWanted.2.1 47 = .ok (.goto 4, 3) := by decide +kernel
theorem dc_We_isWanted_50 : decode m_We_isWanted.2.1 50 = .ok (.iconst 0, 1) := by decide +kernel
theorem dc_We_isWanted_51 : decode m_We_isWanted.2.1 51 = .ok (.ireturn, 1) := by decide +kernel
theorem b_We_isWanted_0 {E : En_t} {d : Nat} {σ : S_t} {Q : Option Value → S_t → Prop} {x1 : Int32} {x2 : Int32}
    (h : ((gI σ 71 3) = 0 → ∃ t1, gR σ 71 1 = some t1 ∧ kindP t1 = 11 ∧ (vp_in x2 500 ∧ (((gI σ (t1 + 1) x2.toNatClampNeg) = 0 → Q (some (.int (0 : Int32))) σ) ∧ (¬ (gI σ (t1 + 1) x2.toNatClampNeg) = 0 → Q (some (.int (1 : Int32))) σ)))) ∧ (¬ (gI σ 71 3) = 0 → (x1 = (-1 : Int32) → JE E (d + 1) m_We_isWanted 28 [] [] σ Q) ∧ (¬ x1 = (-1 : Int32) → ∃ t2, gR σ 71 0 = some t2 ∧ kindP t2 = 11 ∧ (∃ t3, gR σ 71 1 = some t3 ∧ kindP t3 = 11 ∧ (CI E d m_Tr_isAlike [pv E t2, .int x1, pv E t3, .int x2] σ (fun r5 σ4 => (¬ r5 = 0 → Q (some (.int (0 : Int32))) σ4) ∧ (r5 = 0 → JE E (d + 1) m_We_isWanted 28 [] [] σ4 Q))))))) :
    JE E (d + 1) m_We_isWanted 0 [(0, pv E 71), (1, .int x1), (2, .int x2)] [] σ Q := by
  refine J_aload_n dc_We_isWanted_0 (Eq.refl 1) 0 rfl ?_
  refine J_getI dc_We_isWanted_1 (Eq.refl 4) fl_We_21 (Nat.le_of_ble_eq_true rfl) rfl (Or.inr rfl) ?_
  refine J_if_eq dc_We_isWanted_4 (Eq.refl 7) rfl (fun hc => ?_) (fun hc => ?_)
  · have h := h.1 hc
    refine J_aload_n dc_We_isWanted_34 (Eq.refl 35) 0 rfl ?_
    obtain ⟨t1, hr_t1, hk_t1, h⟩ := h
    refine J_getR dc_We_isWanted_35 (Eq.refl 38) fl_We_15 (Nat.le_of_ble_eq_true rfl) rfl rfl hr_t1 ?_
    refine J_getF (y := t1 + 1) dc_We_isWanted_38 (Eq.refl 41) fl_We_40 (Nat.le_of_ble_eq_true rfl) hk_t1 (Or.inl rfl) rfl ?_
    refine J_iload_n dc_We_isWanted_41 (Eq.refl 42) 2 rfl ?_
    obtain ⟨hg, h⟩ := h
    refine J_iald dc_We_isWanted_42 (Eq.refl 43) (ak_Tr_0 hk_t1).1 (ak_Tr_0 hk_t1).2 hg ?_
    refine J_if_eq dc_We_isWanted_43 (Eq.refl 46) rfl (fun hc => ?_) (fun hc => ?_)
    · have h := h.1 hc
      refine J_iconst (v := (0 : Int32)) dc_We_isWanted_50 (Eq.refl 51) rfl ?_
      exact J_zret dc_We_isWanted_51 rfl rfl h
    · have h := h.2 hc
      refine J_iconst (v := (1 : Int32)) dc_We_isWanted_46 (Eq.refl 47) rfl ?_
      refine J_goto dc_We_isWanted_47 rfl ?_
      exact J_zret dc_We_isWanted_51 rfl rfl h
  · have h := h.2 hc
    refine J_iload_n dc_We_isWanted_7 (Eq.refl 8) 1 rfl ?_
    refine J_iconst (v := (-1 : Int32)) dc_We_isWanted_8 (Eq.refl 9) rfl ?_
    refine J_icmp_eq dc_We_isWanted_9 (Eq.refl 12) rfl (fun hc => ?_) (fun hc => ?_)
    · have h := h.1 hc
      refine J_sub [] rfl ?_
      exact h
    · have h := h.2 hc
      refine J_aload_n dc_We_isWanted_12 (Eq.refl 13) 0 rfl ?_
      obtain ⟨t2, hr_t2, hk_t2, h⟩ := h
      refine J_getR dc_We_isWanted_13 (Eq.refl 16) fl_We_9 (Nat.le_of_ble_eq_true rfl) rfl rfl hr_t2 ?_
      refine J_iload_n dc_We_isWanted_16 (Eq.refl 17) 1 rfl ?_
      refine J_aload_n dc_We_isWanted_17 (Eq.refl 18) 0 rfl ?_
      obtain ⟨t3, hr_t3, hk_t3, h⟩ := h
      refine J_getR dc_We_isWanted_18 (Eq.refl 21) fl_We_15 (Nat.le_of_ble_eq_true rfl) rfl rfl hr_t3 ?_
      refine J_iload_n dc_We_isWanted_21 (Eq.refl 22) 2 rfl ?_
      refine J_callVI (As := [.int x1, pv E t3, .int x2]) (st := []) dc_We_isWanted_22 (Eq.refl 25) lk_We_81 mi_Tr_isAlike hk_t2 (Nat.le_of_ble_eq_true rfl) rfl rfl (Nat.le_of_ble_eq_true rfl) rfl (Nat.le_of_ble_eq_true rfl) (CI.mono h (fun r5 σ4 h => ?_))
      refine J_if_ne dc_We_isWanted_25 (Eq.refl 28) rfl (fun hc => ?_) (fun hc => ?_)
      · have h := h.1 hc
        refine J_iconst (v := (0 : Int32)) dc_We_isWanted_32 (Eq.refl 33) rfl ?_
        exact J_zret dc_We_isWanted_33 rfl rfl h
      · have h := h.2 hc
        refine J_sub [] rfl ?_
        exact h
theorem b_We_isWanted_28 {E : En_t} {d : Nat} {σ : S_t} {Q : Option Value → S_t → Prop}
    (h : Q (some (.int (1 : Int32))) σ) :
    JE E (d + 1) m_We_isWanted 28 [] [] σ Q := by
  refine J_iconst (v := (1 : Int32)) dc_We_isWanted_28 (Eq.refl 29) rfl ?_
  refine J_goto dc_We_isWanted_29 rfl ?_
  exact J_zret dc_We_isWanted_33 rfl rfl h
