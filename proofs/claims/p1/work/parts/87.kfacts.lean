theorem dc_Tr_init_0 : decode m_Tr_init.2.1 0 = .ok (.aload_n 0, 1) := by decide +kernel
theorem dc_Tr_init_1 : decode m_Tr_init.2.1 1 = .ok (.invokespecial 3, 3) := by decide +kernel
theorem oi_Tr : Cond.methodLink "CanonPress$Tree" 3 objectInit ∈ tb := tb_mem 257 (by decide +kernel) (by decide +kernel)
theorem dc_Tr_init_4 : decode m_Tr_init.2.1 4 = .ok (.aload_n 0, 1) := by decide +kernel
theorem dc_Tr_init_5 : decode m_Tr_init.2.1 5 = .ok (.sipush 500, 3) := by decide +kernel
theorem dc_Tr_init_8 : decode m_Tr_init.2.1 8 = .ok (.newarray .int, 2) := by decide +kernel
theorem dc_Tr_init_10 : decode m_Tr_init.2.1 10 = .ok (.putfield 9, 3) := by decide +kernel
theorem qk_Tr_9 : QLt "CanonPress$Tree" 9 11 0 (.array .int) := ⟨_, rfl, by decide, rfl, tb_mem 258 (by decide +kernel) (by decide +kernel), by decide, rfl, by decide +kernel⟩
theorem dc_Tr_init_13 : decode m_Tr_init.2.1 13 = .ok (.aload_n 0, 1) := by decide +kernel
theorem dc_Tr_init_14 : decode m_Tr_init.2.1 14 = .ok (.sipush 500, 3) := by decide +kernel
theorem dc_Tr_init_17 : decode m_Tr_init.2.1 17 = .ok (.newarray .int, 2) := by decide +kernel
theorem dc_Tr_init_19 : decode m_Tr_init.2.1 19 = .ok (.putfield 15, 3) := by decide +kernel
theorem qk_Tr_15 : QLt "CanonPress$Tree" 15 11 1 (.array .int) := ⟨_, rfl, by decide, rfl, tb_mem 264 (by decide +kernel) (by decide +kernel), by decide, rfl, by decide +kernel⟩
theorem dc_Tr_init_22 : decode m_Tr_init.2.1 22 = .ok (.aload_n 0, 1) := by decide +kernel
theorem dc_Tr_init_23 : decode m_Tr_init.2.1 23 = .ok (.sipush 500, 3) := by decide +kernel
theorem dc_Tr_init_26 : decode m_Tr_init.2.1 26 = .ok (.newarray .int, 2) := by decide +kernel
theorem dc_Tr_init_28 : decode m_Tr_init.2.1 28 = .ok (.putfield 18, 3) := by decide +kernel
theorem qk_Tr_18 : QLt "CanonPress$Tree" 18 11 2 (.array .int) := ⟨_, rfl, by decide, rfl, tb_mem 268 (by decide +kernel) (by decide +kernel), by decide, rfl, by decide +kernel⟩
theorem dc_Tr_init_31 : decode m_Tr_init.2.1 31 = .ok (.aload_n 0, 1) := by decide +kernel
theorem dc_Tr_init_32 : decode m_Tr_init.2.1 32 = .ok (.sipush 500, 3) := by decide +kernel
theorem dc_Tr_init_35 : decode m_Tr_init.2.1 35 = .ok (.newarray .int, 2) := by decide +kernel
theorem dc_Tr_init_37 : decode m_Tr_init.2.1 37 = .ok (.putfield 21, 3) := by decide +kernel
theorem qk_Tr_21 : QLt "CanonPress$Tree" 21 11 3 (.array .int) := ⟨_, rfl, by decide, rfl, tb_mem 272 (by decide +kernel) (by decide +kernel), by decide, rfl, by decide +kernel⟩
theorem dc_Tr_init_40 : decode m_Tr_init.2.1 40 = .ok (.aload_n 0, 1) := by decide +kernel
theorem dc_Tr_init_41 : decode m_Tr_init.2.1 41 = .ok (.sipush 500, 3) := by decide +kernel
theorem dc_Tr_init_44 : decode m_Tr_init.2.1 44 = .ok (.newarray .int, 2) := by decide +kernel
theorem dc_Tr_init_46 : decode m_Tr_init.2.1 46 = .ok (.putfield 24, 3) := by decide +kernel
theorem qk_Tr_24 : QLt "CanonPress$Tree" 24 11 4 (.array .int) := ⟨_, rfl, by decide, rfl, tb_mem 276 (by decide +kernel) (by decide +kernel), by decide, rfl, by decide +kernel⟩
theorem dc_Tr_init_49 : decode m_Tr_init.2.1 49 = .ok (.aload_n 0, 1) := by decide +kernel
theorem dc_Tr_init_50 : decode m_Tr_init.2.1 50 = .ok (.sipush 500, 3) := by decide +kernel
theorem dc_Tr_init_53 : decode m_Tr_init.2.1 53 = .ok (.newarray .int, 2) := by decide +kernel
theorem dc_Tr_init_55 : decode m_Tr_init.2.1 55 = .ok (.putfield 27, 3) := by decide +kernel
theorem qk_Tr_27 : QLt "CanonPress$Tree" 27 11 5 (.array .int) := ⟨_, rfl, by decide, rfl, tb_mem 281 (by decide +kernel) (by decide +kernel), by decide, rfl, by decide +kernel⟩
theorem dc_Tr_init_58 : decode m_Tr_init.2.1 58 = .ok (.aload_n 0, 1) := by decide +kernel
theorem dc_Tr_init_59 : decode m_Tr_init.2.1 59 = .ok (.sipush 500, 3) := by decide +kernel
theorem dc_Tr_init_62 : decode m_Tr_init.2.1 62 = .ok (.newarray .long, 2) := by decide +kernel
theorem dc_Tr_init_64 : decode m_Tr_init.2.1 64 = .ok (.putfield 30, 3) := by decide +kernel
theorem qk_Tr_30 : QLt "CanonPress$Tree" 30 11 6 (.array .long) := ⟨_, rfl, by decide, rfl, tb_mem 283 (by decide +kernel) (by decide +kernel), by decide, rfl, by decide +kernel⟩
theorem dc_Tr_init_67 : decode m_Tr_init.2.1 67 = .ok (.aload_n 0, 1) := by decide +kernel
theorem dc_Tr_init_68 : decode m_Tr_init.2.1 68 = .ok (.sipush 500, 3) := by decide +kernel
theorem dc_Tr_init_71 : decode m_Tr_init.2.1 71 = .ok (.newarray .int, 2) := by decide +kernel
theorem dc_Tr_init_73 : decode m_Tr_init.2.1 73 = .ok (.putfield 34, 3) := by decide +kernel
theorem qk_Tr_34 : QLt "CanonPress$Tree" 34 11 7 (.array .int) := ⟨_, rfl, by decide, rfl, tb_mem 287 (by decide +kernel) (by decide +kernel), by decide, rfl, by decide +kernel⟩
theorem dc_Tr_init_76 : decode m_Tr_init.2.1 76 = .ok (.aload_n 0, 1) := by decide +kernel
theorem dc_Tr_init_77 : decode m_Tr_init.2.1 77 = .ok (.sipush 500, 3) := by decide +kernel
theorem dc_Tr_init_80 : decode m_Tr_init.2.1 80 = .ok (.newarray .int, 2) := by decide +kernel
theorem dc_Tr_init_82 : decode m_Tr_init.2.1 82 = .ok (.putfield 37, 3) := by decide +kernel
theorem qk_Tr_37 : QLt "CanonPress$Tree" 37 11 8 (.array .int) := ⟨_, rfl, by decide, rfl, tb_mem 290 (by decide +kernel) (by decide +kernel), by decide, rfl, by decide +kernel⟩
theorem dc_Tr_init_85 : decode m_Tr_init.2.1 85 = .ok (.aload_n 0, 1) := by decide +kernel
theorem dc_Tr_init_86 : decode m_Tr_init.2.1 86 = .ok (.sipush 500, 3) := by decide +kernel
theorem dc_Tr_init_89 : decode m_Tr_init.2.1 89 = .ok (.newarray .int, 2) := by decide +kernel
theorem dc_Tr_init_91 : decode m_Tr_init.2.1 91 = .ok (.putfield 40, 3) := by decide +kernel
theorem qk_Tr_40 : QLt "CanonPress$Tree" 40 11 9 (.array .int) := ⟨_, rfl, by decide, rfl, tb_mem 294 (by decide +kernel) (by decide +kernel), by decide, rfl, by decide +kernel⟩
theorem dc_Tr_init_94 : decode m_Tr_init.2.1 94 = .ok (.aload_n 0, 1) := by decide +kernel
theorem dc_Tr_init_95 : decode m_Tr_init.2.1 95 = .ok (.sipush 4000, 3) := by decide +kernel
theorem dc_Tr_init_98 : decode m_Tr_init.2.1 98 = .ok (.newarray .int, 2) := by decide +kernel
theorem dc_Tr_init_100 : decode m_Tr_init.2.1 100 = .ok (.putfield 43, 3) := by decide +kernel
theorem qk_Tr_43 : QLt "CanonPress$Tree" 43 11 10 (.array .int) := ⟨_, rfl, by decide, rfl, tb_mem 297 (by decide +kernel) (by decide +kernel), by decide, rfl, by decide +kernel⟩
theorem dc_Tr_init_103 : decode m_Tr_init.2.1 103 = .ok (.return_, 1) := by decide +kernel
theorem dc_Bi_init_0 : decode m_Bi_init.2.1 0 = .ok (.aload_n 0, 1) := by decide +kernel
theorem dc_Bi_init_1 : decode m_Bi_init.2.1 1 = .ok (.invokespecial 1, 3) := by decide +kernel
theorem oi_Bi : Cond.methodLink "CanonPress$Big" 1 objectInit ∈ tb := tb_mem 192 (by decide +kernel) (by decide +kernel)
theorem dc_Bi_init_4 : decode m_Bi_init.2.1 4 = .ok (.aload_n 0, 1) := by decide +kernel
theorem dc_Bi_init_5 : decode m_Bi_init.2.1 5 = .ok (.bipush 96, 2) := by decide +kernel
theorem dc_Bi_init_7 : decode m_Bi_init.2.1 7 = .ok (.newarray .int, 2) := by decide +kernel
theorem dc_Bi_init_9 : decode m_Bi_init.2.1 9 = .ok (.putfield 9, 3) := by decide +kernel
theorem qk_Bi_9 : QLt "CanonPress$Big" 9 5 0 (.array .int) := ⟨_, rfl, by decide, rfl, tb_mem 193 (by decide +kernel) (by decide +kernel), by decide, rfl, by decide +kernel⟩
theorem dc_Bi_init_12 : decode m_Bi_init.2.1 12 = .ok (.return_, 1) := by decide +kernel
theorem dc_Te_init_0 : decode m_Te_init.2.1 0 = .ok (.aload_n 0, 1) := by decide +kernel
theorem dc_Te_init_1 : decode m_Te_init.2.1 1 = .ok (.invokespecial 3, 3) := by decide +kernel
theorem oi_Te : Cond.methodLink "CanonPress$Text" 3 objectInit ∈ tb := tb_mem 146 (by decide +kernel) (by decide +kernel)
theorem dc_Te_init_4 : decode m_Te_init.2.1 4 = .ok (.aload_n 0, 1) := by decide +kernel
theorem dc_Te_init_5 : decode m_Te_init.2.1 5 = .ok (.sipush 2000, 3) := by decide +kernel
theorem dc_Te_init_8 : decode m_Te_init.2.1 8 = .ok (.newarray .byte, 2) := by decide +kernel
theorem dc_Te_init_10 : decode m_Te_init.2.1 10 = .ok (.putfield 9, 3) := by decide +kernel
theorem qk_Te_9 : QLt "CanonPress$Text" 9 2 0 (.array .byte) := ⟨_, rfl, by decide, rfl, tb_mem 147 (by decide +kernel) (by decide +kernel), by decide, rfl, by decide +kernel⟩
theorem dc_Te_init_13 : decode m_Te_init.2.1 13 = .ok (.return_, 1) := by decide +kernel
theorem dc_Ou_init_0 : decode m_Ou_init.2.1 0 = .ok (.aload_n 0, 1) := by decide +kernel
theorem dc_Ou_init_1 : decode m_Ou_init.2.1 1 = .ok (.invokespecial 3, 3) := by decide +kernel
theorem oi_Ou : Cond.methodLink "CanonPress$Out" 3 objectInit ∈ tb := tb_mem 171 (by decide +kernel) (by decide +kernel)
theorem dc_Ou_init_4 : decode m_Ou_init.2.1 4 = .ok (.aload_n 0, 1) := by decide +kernel
theorem dc_Ou_init_5 : decode m_Ou_init.2.1 5 = .ok (.sipush 12000, 3) := by decide +kernel
theorem dc_Ou_init_8 : decode m_Ou_init.2.1 8 = .ok (.newarray .byte, 2) := by decide +kernel
theorem dc_Ou_init_10 : decode m_Ou_init.2.1 10 = .ok (.putfield 9, 3) := by decide +kernel
theorem qk_Ou_9 : QLt "CanonPress$Out" 9 3 0 (.array .byte) := ⟨_, rfl, by decide, rfl, tb_mem 172 (by decide +kernel) (by decide +kernel), by decide, rfl, by decide +kernel⟩
theorem dc_Ou_init_13 : decode m_Ou_init.2.1 13 = .ok (.return_, 1) := by decide +kernel
theorem dc_Po_init_0 : decode m_Po_init.2.1 0 = .ok (.aload_n 0, 1) := by decide +kernel
theorem dc_Po_init_1 : decode m_Po_init.2.1 1 = .ok (.invokespecial 3, 3) := by decide +kernel
theorem oi_Po : Cond.methodLink "CanonPress$Pointer" 3 objectInit ∈ tb := tb_mem 406 (by decide +kernel) (by decide +kernel)
theorem dc_Po_init_4 : decode m_Po_init.2.1 4 = .ok (.aload_n 0, 1) := by decide +kernel
theorem dc_Po_init_5 : decode m_Po_init.2.1 5 = .ok (.sipush 2000, 3) := by decide +kernel
theorem dc_Po_init_8 : decode m_Po_init.2.1 8 = .ok (.newarray .int, 2) := by decide +kernel
theorem dc_Po_init_10 : decode m_Po_init.2.1 10 = .ok (.putfield 9, 3) := by decide +kernel
theorem qk_Po_9 : QLt "CanonPress$Pointer" 9 9 0 (.array .int) := ⟨_, rfl, by decide, rfl, tb_mem 407 (by decide +kernel) (by decide +kernel), by decide, rfl, by decide +kernel⟩
theorem dc_Po_init_13 : decode m_Po_init.2.1 13 = .ok (.return_, 1) := by decide +kernel
theorem dc_We_init_0 : decode m_We_init.2.1 0 = .ok (.aload_n 0, 1) := by decide +kernel
theorem dc_We_init_1 : decode m_We_init.2.1 1 = .ok (.invokespecial 3, 3) := by decide +kernel
theorem oi_We : Cond.methodLink "CanonPress$Weaver" 3 objectInit ∈ tb := tb_mem 419 (by decide +kernel) (by decide +kernel)
theorem dc_We_init_4 : decode m_We_init.2.1 4 = .ok (.return_, 1) := by decide +kernel
theorem dc_Nu_init_0 : decode m_Nu_init.2.1 0 = .ok (.aload_n 0, 1) := by decide +kernel
theorem dc_Nu_init_1 : decode m_Nu_init.2.1 1 = .ok (.invokespecial 3, 3) := by decide +kernel
theorem oi_Nu : Cond.methodLink "CanonPress$Numeral" 3 objectInit ∈ tb := tb_mem 186 (by decide +kernel) (by decide +kernel)
theorem dc_Nu_init_4 : decode m_Nu_init.2.1 4 = .ok (.aload_n 0, 1) := by decide +kernel
theorem dc_Nu_init_5 : decode m_Nu_init.2.1 5 = .ok (.sipush 800, 3) := by decide +kernel
theorem dc_Nu_init_8 : decode m_Nu_init.2.1 8 = .ok (.newarray .byte, 2) := by decide +kernel
theorem dc_Nu_init_10 : decode m_Nu_init.2.1 10 = .ok (.putfield 11, 3) := by decide +kernel
theorem qk_Nu_11 : QLt "CanonPress$Numeral" 11 4 0 (.array .byte) := ⟨_, rfl, by decide, rfl, tb_mem 206 (by decide +kernel) (by decide +kernel), by decide, rfl, by decide +kernel⟩
theorem dc_Nu_init_13 : decode m_Nu_init.2.1 13 = .ok (.aload_n 0, 1) := by decide +kernel
theorem dc_Nu_init_14 : decode m_Nu_init.2.1 14 = .ok (.new 15, 3) := by decide +kernel
theorem nk_Nu_15 : NWt "CanonPress$Numeral" 15 5 := ⟨_, rfl, tb_mem 187 (by decide +kernel) (by decide +kernel), tb_mem 188 (by decide +kernel) (by decide +kernel), tb_mem 116 (by decide +kernel) (by decide +kernel), rfl, by decide⟩
theorem df_Bi : dfOK 5 := by
  intro r hr k hk
  cases hr
  exact (by decide +kernel : ∀ k, k < 3 → (parseFieldDescriptor ((classes.getD 5 ("", fun _ => ("", "", "", false), 0)).2.1 k).2.2.1).map defaultValue = some (dfK 5 k)) k hk
theorem dc_Nu_init_17 : decode m_Nu_init.2.1 17 = .ok (.dup, 1) := by decide +kernel
theorem dc_Nu_init_18 : decode m_Nu_init.2.1 18 = .ok (.invokespecial 17, 3) := by decide +kernel
theorem mk_Bi : MKt m_Bi_init 0 := ⟨tb_mem 190 (by decide +kernel) (by decide +kernel), tb_mem 116 (by decide +kernel) (by decide +kernel), tb_mem 191 (by decide +kernel) (by decide +kernel), by decide, by decide, by decide +kernel, rfl, rfl, by decide⟩
theorem dc_Nu_init_21 : decode m_Nu_init.2.1 21 = .ok (.putfield 18, 3) := by decide +kernel
theorem qk_Nu_18 : QLt "CanonPress$Numeral" 18 4 1 (.object "CanonPress$Big") := ⟨_, rfl, by decide, rfl, tb_mem 207 (by decide +kernel) (by decide +kernel), by decide, rfl, by decide +kernel⟩
theorem dc_Nu_init_24 : decode m_Nu_init.2.1 24 = .ok (.return_, 1) := by decide +kernel
theorem dc_Pr_init_0 : decode m_Pr_init.2.1 0 = .ok (.aload_n 0, 1) := by decide +kernel
theorem dc_Pr_init_1 : decode m_Pr_init.2.1 1 = .ok (.invokespecial 3, 3) := by decide +kernel
theorem oi_Pr : Cond.methodLink "CanonPress$Printer" 3 objectInit ∈ tb := tb_mem 230 (by decide +kernel) (by decide +kernel)
theorem dc_Pr_init_4 : decode m_Pr_init.2.1 4 = .ok (.aload_n 0, 1) := by decide +kernel
theorem dc_Pr_init_5 : decode m_Pr_init.2.1 5 = .ok (.new 9, 3) := by decide +kernel
theorem nk_Pr_9 : NWt "CanonPress$Printer" 9 5 := ⟨_, rfl, tb_mem 231 (by decide +kernel) (by decide +kernel), tb_mem 188 (by decide +kernel) (by decide +kernel), tb_mem 116 (by decide +kernel) (by decide +kernel), rfl, by decide⟩
theorem dc_Pr_init_8 : decode m_Pr_init.2.1 8 = .ok (.dup, 1) := by decide +kernel
theorem dc_Pr_init_9 : decode m_Pr_init.2.1 9 = .ok (.invokespecial 11, 3) := by decide +kernel
theorem dc_Pr_init_12 : decode m_Pr_init.2.1 12 = .ok (.putfield 12, 3) := by decide +kernel
theorem qk_Pr_12 : QLt "CanonPress$Printer" 12 6 0 (.object "CanonPress$Big") := ⟨_, rfl, by decide, rfl, tb_mem 233 (by decide +kernel) (by decide +kernel), by decide, rfl, by decide +kernel⟩
theorem dc_Pr_init_15 : decode m_Pr_init.2.1 15 = .ok (.aload_n 0, 1) := by decide +kernel
theorem dc_Pr_init_16 : decode m_Pr_init.2.1 16 = .ok (.sipush 810, 3) := by decide +kernel
theorem dc_Pr_init_19 : decode m_Pr_init.2.1 19 = .ok (.newarray .byte, 2) := by decide +kernel
theorem dc_Pr_init_21 : decode m_Pr_init.2.1 21 = .ok (.putfield 18, 3) := by decide +kernel
theorem qk_Pr_18 : QLt "CanonPress$Printer" 18 6 1 (.array .byte) := ⟨_, rfl, by decide, rfl, tb_mem 234 (by decide +kernel) (by decide +kernel), by decide, rfl, by decide +kernel⟩
theorem dc_Pr_init_24 : decode m_Pr_init.2.1 24 = .ok (.return_, 1) := by decide +kernel
theorem dc_Re_init_0 : decode m_Re_init.2.1 0 = .ok (.aload_n 0, 1) := by decide +kernel
theorem dc_Re_init_1 : decode m_Re_init.2.1 1 = .ok (.invokespecial 3, 3) := by decide +kernel
theorem oi_Re : Cond.methodLink "CanonPress$Reader" 3 objectInit ∈ tb := tb_mem 251 (by decide +kernel) (by decide +kernel)
theorem dc_Re_init_4 : decode m_Re_init.2.1 4 = .ok (.aload_n 0, 1) := by decide +kernel
theorem dc_Re_init_5 : decode m_Re_init.2.1 5 = .ok (.new 9, 3) := by decide +kernel
theorem nk_Re_9 : NWt "CanonPress$Reader" 9 11 := ⟨_, rfl, tb_mem 252 (by decide +kernel) (by decide +kernel), tb_mem 253 (by decide +kernel) (by decide +kernel), tb_mem 119 (by decide +kernel) (by decide +kernel), rfl, by decide⟩
theorem df_Tr : dfOK 11 := by
  intro r hr k hk
  cases hr
  exact (by decide +kernel : ∀ k, k < 15 → (parseFieldDescriptor ((classes.getD 11 ("", fun _ => ("", "", "", false), 0)).2.1 k).2.2.1).map defaultValue = some (dfK 11 k)) k hk
theorem dc_Re_init_8 : decode m_Re_init.2.1 8 = .ok (.dup, 1) := by decide +kernel
theorem dc_Re_init_9 : decode m_Re_init.2.1 9 = .ok (.invokespecial 11, 3) := by decide +kernel
theorem mk_Tr : MKt m_Tr_init 0 := ⟨tb_mem 255 (by decide +kernel) (by decide +kernel), tb_mem 119 (by decide +kernel) (by decide +kernel), tb_mem 256 (by decide +kernel) (by decide +kernel), by decide, by decide, by decide +kernel, rfl, rfl, by decide⟩
theorem dc_Re_init_12 : decode m_Re_init.2.1 12 = .ok (.putfield 12, 3) := by decide +kernel
theorem qk_Re_12 : QLt "CanonPress$Reader" 12 7 2 (.object "CanonPress$Tree") := ⟨_, rfl, by decide, rfl, tb_mem 346 (by decide +kernel) (by decide +kernel), by decide, rfl, by decide +kernel⟩
theorem dc_Re_init_15 : decode m_Re_init.2.1 15 = .ok (.aload_n 0, 1) := by decide +kernel
theorem dc_Re_init_16 : decode m_Re_init.2.1 16 = .ok (.sipush 500, 3) := by decide +kernel
theorem dc_Re_init_19 : decode m_Re_init.2.1 19 = .ok (.newarray .int, 2) := by decide +kernel
theorem dc_Re_init_21 : decode m_Re_init.2.1 21 = .ok (.putfield 18, 3) := by decide +kernel
theorem qk_Re_18 : QLt "CanonPress$Reader" 18 7 3 (.array .int) := ⟨_, rfl, by decide, rfl, tb_mem 347 (by decide +kernel) (by decide +kernel), by decide, rfl, by decide +kernel⟩
theorem dc_Re_init_24 : decode m_Re_init.2.1 24 = .ok (.aload_n 0, 1) := by decide +kernel
theorem dc_Re_init_25 : decode m_Re_init.2.1 25 = .ok (.sipush 500, 3) := by decide +kernel
theorem dc_Re_init_28 : decode m_Re_init.2.1 28 = .ok (.newarray .int, 2) := by decide +kernel
theorem dc_Re_init_30 : decode m_Re_init.2.1 30 = .ok (.putfield 22, 3) := by decide +kernel
theorem qk_Re_22 : QLt "CanonPress$Reader" 22 7 4 (.array .int) := ⟨_, rfl, by decide, rfl, tb_mem 348 (by decide +kernel) (by decide +kernel), by decide, rfl, by decide +kernel⟩
theorem dc_Re_init_33 : decode m_Re_init.2.1 33 = .ok (.aload_n 0, 1) := by decide +kernel
theorem dc_Re_init_34 : decode m_Re_init.2.1 34 = .ok (.sipush 500, 3) := by decide +kernel
theorem dc_Re_init_37 : decode m_Re_init.2.1 37 = .ok (.newarray .int, 2) := by decide +kernel
theorem dc_Re_init_39 : decode m_Re_init.2.1 39 = .ok (.putfield 25, 3) := by decide +kernel
theorem qk_Re_25 : QLt "CanonPress$Reader" 25 7 5 (.array .int) := ⟨_, rfl, by decide, rfl, tb_mem 349 (by decide +kernel) (by decide +kernel), by decide, rfl, by decide +kernel⟩
theorem dc_Re_init_42 : decode m_Re_init.2.1 42 = .ok (.aload_n 0, 1) := by decide +kernel
theorem dc_Re_init_43 : decode m_Re_init.2.1 43 = .ok (.sipush 500, 3) := by decide +kernel
theorem dc_Re_init_46 : decode m_Re_init.2.1 46 = .ok (.newarray .int, 2) := by decide +kernel
theorem dc_Re_init_48 : decode m_Re_init.2.1 48 = .ok (.putfield 28, 3) := by decide +kernel
theorem qk_Re_28 : QLt "CanonPress$Reader" 28 7 6 (.array .int) := ⟨_, rfl, by decide, rfl, tb_mem 350 (by decide +kernel) (by decide +kernel), by decide, rfl, by decide +kernel⟩
theorem dc_Re_init_51 : decode m_Re_init.2.1 51 = .ok (.aload_n 0, 1) := by decide +kernel
theorem dc_Re_init_52 : decode m_Re_init.2.1 52 = .ok (.aload_n 1, 1) := by decide +kernel
theorem dc_Re_init_53 : decode m_Re_init.2.1 53 = .ok (.putfield 31, 3) := by decide +kernel
theorem qk_Re_31 : QLt "CanonPress$Reader" 31 7 0 (.object "CanonPress$Text") := ⟨_, rfl, by decide, rfl, tb_mem 344 (by decide +kernel) (by decide +kernel), by decide, rfl, by decide +kernel⟩
theorem dc_Re_init_56 : decode m_Re_init.2.1 56 = .ok (.aload_n 0, 1) := by decide +kernel
theorem dc_Re_init_57 : decode m_Re_init.2.1 57 = .ok (.aload_n 2, 1) := by decide +kernel
theorem dc_Re_init_58 : decode m_Re_init.2.1 58 = .ok (.putfield 35, 3) := by decide +kernel
theorem qk_Re_35 : QLt "CanonPress$Reader" 35 7 1 (.object "CanonPress$Numeral") := ⟨_, rfl, by decide, rfl, tb_mem 345 (by decide +kernel) (by decide +kernel), by decide, rfl, by decide +kernel⟩
theorem dc_Re_init_61 : decode m_Re_init.2.1 61 = .ok (.return_, 1) := by decide +kernel
theorem dc_Fo_init_0 : decode m_Fo_init.2.1 0 = .ok (.aload_n 0, 1) := by decide +kernel
theorem dc_Fo_init_1 : decode m_Fo_init.2.1 1 = .ok (.invokespecial 3, 3) := by decide +kernel
theorem oi_Fo : Cond.methodLink "CanonPress$Former" 3 objectInit ∈ tb := tb_mem 396 (by decide +kernel) (by decide +kernel)
theorem dc_Fo_init_4 : decode m_Fo_init.2.1 4 = .ok (.aload_n 0, 1) := by decide +kernel
theorem dc_Fo_init_5 : decode m_Fo_init.2.1 5 = .ok (.aload_n 1, 1) := by decide +kernel
theorem dc_Fo_init_6 : decode m_Fo_init.2.1 6 = .ok (.putfield 9, 3) := by decide +kernel
theorem qk_Fo_9 : QLt "CanonPress$Former" 9 8 0 (.object "CanonPress$Printer") := ⟨_, rfl, by decide, rfl, tb_mem 397 (by decide +kernel) (by decide +kernel), by decide, rfl, by decide +kernel⟩
theorem dc_Fo_init_9 : decode m_Fo_init.2.1 9 = .ok (.return_, 1) := by decide +kernel
theorem dc_Cp_init_0 : decode m_Cp_init.2.1 0 = .ok (.aload_n 0, 1) := by decide +kernel
theorem dc_Cp_init_1 : decode m_Cp_init.2.1 1 = .ok (.invokespecial 1, 3) := by decide +kernel
theorem oi_Cp : Cond.methodLink "CanonPress" 1 objectInit ∈ tb := tb_mem 138 (by decide +kernel) (by decide +kernel)
theorem dc_Cp_init_4 : decode m_Cp_init.2.1 4 = .ok (.aload_n 0, 1) := by decide +kernel
theorem dc_Cp_init_5 : decode m_Cp_init.2.1 5 = .ok (.new 7, 3) := by decide +kernel
theorem nk_Cp_7 : NWt "CanonPress" 7 2 := ⟨_, rfl, tb_mem 141 (by decide +kernel) (by decide +kernel), tb_mem 142 (by decide +kernel) (by decide +kernel), tb_mem 113 (by decide +kernel) (by decide +kernel), rfl, by decide⟩
theorem df_Te : dfOK 2 := by
  intro r hr k hk
  cases hr
  exact (by decide +kernel : ∀ k, k < 3 → (parseFieldDescriptor ((classes.getD 2 ("", fun _ => ("", "", "", false), 0)).2.1 k).2.2.1).map defaultValue = some (dfK 2 k)) k hk
theorem dc_Cp_init_8 : decode m_Cp_init.2.1 8 = .ok (.dup, 1) := by decide +kernel
theorem dc_Cp_init_9 : decode m_Cp_init.2.1 9 = .ok (.invokespecial 9, 3) := by decide +kernel
theorem mk_Te : MKt m_Te_init 0 := ⟨tb_mem 144 (by decide +kernel) (by decide +kernel), tb_mem 113 (by decide +kernel) (by decide +kernel), tb_mem 145 (by decide +kernel) (by decide +kernel), by decide, by decide, by decide +kernel, rfl, rfl, by decide⟩
theorem dc_Cp_init_12 : decode m_Cp_init.2.1 12 = .ok (.putfield 10, 3) := by decide +kernel
theorem qk_Cp_10 : QLt "CanonPress" 10 1 0 (.object "CanonPress$Text") := ⟨_, rfl, by decide, rfl, tb_mem 440 (by decide +kernel) (by decide +kernel), by decide, rfl, by decide +kernel⟩
theorem dc_Cp_init_15 : decode m_Cp_init.2.1 15 = .ok (.aload_n 0, 1) := by decide +kernel
theorem dc_Cp_init_16 : decode m_Cp_init.2.1 16 = .ok (.new 16, 3) := by decide +kernel
theorem nk_Cp_16 : NWt "CanonPress" 16 3 := ⟨_, rfl, tb_mem 166 (by decide +kernel) (by decide +kernel), tb_mem 167 (by decide +kernel) (by decide +kernel), tb_mem 114 (by decide +kernel) (by decide +kernel), rfl, by decide⟩
theorem df_Ou : dfOK 3 := by
  intro r hr k hk
  cases hr
  exact (by decide +kernel : ∀ k, k < 2 → (parseFieldDescriptor ((classes.getD 3 ("", fun _ => ("", "", "", false), 0)).2.1 k).2.2.1).map defaultValue = some (dfK 3 k)) k hk
theorem dc_Cp_init_19 : decode m_Cp_init.2.1 19 = .ok (.dup, 1) := by decide +kernel
theorem dc_Cp_init_20 : decode m_Cp_init.2.1 20 = .ok (.invokespecial 18, 3) := by decide +kernel
theorem mk_Ou : MKt m_Ou_init 0 := ⟨tb_mem 169 (by decide +kernel) (by decide +kernel), tb_mem 114 (by decide +kernel) (by decide +kernel), tb_mem 170 (by decide +kernel) (by decide +kernel), by decide, by decide, by decide +kernel, rfl, rfl, by decide⟩
theorem dc_Cp_init_23 : decode m_Cp_init.2.1 23 = .ok (.putfield 19, 3) := by decide +kernel
theorem qk_Cp_19 : QLt "CanonPress" 19 1 1 (.object "CanonPress$Out") := ⟨_, rfl, by decide, rfl, tb_mem 441 (by decide +kernel) (by decide +kernel), by decide, rfl, by decide +kernel⟩
theorem dc_Cp_init_26 : decode m_Cp_init.2.1 26 = .ok (.aload_n 0, 1) := by decide +kernel
theorem dc_Cp_init_27 : decode m_Cp_init.2.1 27 = .ok (.new 23, 3) := by decide +kernel
theorem nk_Cp_23 : NWt "CanonPress" 23 4 := ⟨_, rfl, tb_mem 181 (by decide +kernel) (by decide +kernel), tb_mem 182 (by decide +kernel) (by decide +kernel), tb_mem 115 (by decide +kernel) (by decide +kernel), rfl, by decide⟩
theorem df_Nu : dfOK 4 := by
  intro r hr k hk
  cases hr
  exact (by decide +kernel : ∀ k, k < 6 → (parseFieldDescriptor ((classes.getD 4 ("", fun _ => ("", "", "", false), 0)).2.1 k).2.2.1).map defaultValue = some (dfK 4 k)) k hk
theorem dc_Cp_init_30 : decode m_Cp_init.2.1 30 = .ok (.dup, 1) := by decide +kernel
theorem dc_Cp_init_31 : decode m_Cp_init.2.1 31 = .ok (.invokespecial 25, 3) := by decide +kernel
theorem mk_Nu : MKt m_Nu_init 0 := ⟨tb_mem 184 (by decide +kernel) (by decide +kernel), tb_mem 115 (by decide +kernel) (by decide +kernel), tb_mem 185 (by decide +kernel) (by decide +kernel), by decide, by decide, by decide +kernel, rfl, rfl, by decide⟩
theorem dc_Cp_init_34 : decode m_Cp_init.2.1 34 = .ok (.putfield 26, 3) := by decide +kernel
theorem qk_Cp_26 : QLt "CanonPress" 26 1 2 (.object "CanonPress$Numeral") := ⟨_, rfl, by decide, rfl, tb_mem 442 (by decide +kernel) (by decide +kernel), by decide, rfl, by decide +kernel⟩
theorem dc_Cp_init_37 : decode m_Cp_init.2.1 37 = .ok (.aload_n 0, 1) := by decide +kernel
theorem dc_Cp_init_38 : decode m_Cp_init.2.1 38 = .ok (.new 30, 3) := by decide +kernel
theorem nk_Cp_30 : NWt "CanonPress" 30 6 := ⟨_, rfl, tb_mem 225 (by decide +kernel) (by decide +kernel), tb_mem 226 (by decide +kernel) (by decide +kernel), tb_mem 117 (by decide +kernel) (by decide +kernel), rfl, by decide⟩
theorem df_Pr : dfOK 6 := by
  intro r hr k hk
  cases hr
  exact (by decide +kernel : ∀ k, k < 4 → (parseFieldDescriptor ((classes.getD 6 ("", fun _ => ("", "", "", false), 0)).2.1 k).2.2.1).map defaultValue = some (dfK 6 k)) k hk
theorem dc_Cp_init_41 : decode m_Cp_init.2.1 41 = .ok (.dup, 1) := by decide +kernel
theorem dc_Cp_init_42 : decode m_Cp_init.2.1 42 = .ok (.invokespecial 32, 3) := by decide +kernel
theorem mk_Pr : MKt m_Pr_init 0 := ⟨tb_mem 228 (by decide +kernel) (by decide +kernel), tb_mem 117 (by decide +kernel) (by decide +kernel), tb_mem 229 (by decide +kernel) (by decide +kernel), by decide, by decide, by decide +kernel, rfl, rfl, by decide⟩
theorem dc_Cp_init_45 : decode m_Cp_init.2.1 45 = .ok (.putfield 33, 3) := by decide +kernel
theorem qk_Cp_33 : QLt "CanonPress" 33 1 3 (.object "CanonPress$Printer") := ⟨_, rfl, by decide, rfl, tb_mem 443 (by decide +kernel) (by decide +kernel), by decide, rfl, by decide +kernel⟩
theorem dc_Cp_init_48 : decode m_Cp_init.2.1 48 = .ok (.aload_n 0, 1) := by decide +kernel
theorem dc_Cp_init_49 : decode m_Cp_init.2.1 49 = .ok (.new 37, 3) := by decide +kernel
theorem nk_Cp_37 : NWt "CanonPress" 37 7 := ⟨_, rfl, tb_mem 246 (by decide +kernel) (by decide +kernel), tb_mem 247 (by decide +kernel) (by decide +kernel), tb_mem 118 (by decide +kernel) (by decide +kernel), rfl, by decide⟩
theorem df_Re : dfOK 7 := by
  intro r hr k hk
  cases hr
  exact (by decide +kernel : ∀ k, k < 15 → (parseFieldDescriptor ((classes.getD 7 ("", fun _ => ("", "", "", false), 0)).2.1 k).2.2.1).map defaultValue = some (dfK 7 k)) k hk
theorem dc_Cp_init_52 : decode m_Cp_init.2.1 52 = .ok (.dup, 1) := by decide +kernel
theorem dc_Cp_init_53 : decode m_Cp_init.2.1 53 = .ok (.aload_n 0, 1) := by decide +kernel
theorem dc_Cp_init_54 : decode m_Cp_init.2.1 54 = .ok (.getfield 10, 3) := by decide +kernel
theorem gk_Cp_10 : FLt "CanonPress" 10 1 0 := ⟨_, rfl, by decide, rfl, tb_mem 440 (by decide +kernel) (by decide +kernel)⟩
theorem dc_Cp_init_57 : decode m_Cp_init.2.1 57 = .ok (.aload_n 0, 1) := by decide +kernel
theorem dc_Cp_init_58 : decode m_Cp_init.2.1 58 = .ok (.getfield 26, 3) := by decide +kernel
theorem gk_Cp_26 : FLt "CanonPress" 26 1 2 := ⟨_, rfl, by decide, rfl, tb_mem 442 (by decide +kernel) (by decide +kernel)⟩
theorem ml_Cp_39 : Cond.methodLink "CanonPress" 39 m_Re_init.1 ∈ tb := tb_mem 248 (by decide +kernel) (by decide +kernel)
theorem dc_Cp_init_61 : decode m_Cp_init.2.1 61 = .ok (.invokespecial 39, 3) := by decide +kernel
theorem mk_Re : MKt m_Re_init 2 := ⟨tb_mem 249 (by decide +kernel) (by decide +kernel), tb_mem 118 (by decide +kernel) (by decide +kernel), tb_mem 250 (by decide +kernel) (by decide +kernel), by decide, by decide, by decide +kernel, rfl, rfl, by decide⟩
theorem dc_Cp_init_64 : decode m_Cp_init.2.1 64 = .ok (.putfield 42, 3) := by decide +kernel
theorem qk_Cp_42 : QLt "CanonPress" 42 1 4 (.object "CanonPress$Reader") := ⟨_, rfl, by decide, rfl, tb_mem 444 (by decide +kernel) (by decide +kernel), by decide, rfl, by decide +kernel⟩
theorem dc_Cp_init_67 : decode m_Cp_init.2.1 67 = .ok (.aload_n 0, 1) := by decide +kernel
theorem dc_Cp_init_68 : decode m_Cp_init.2.1 68 = .ok (.new 46, 3) := by decide +kernel
theorem nk_Cp_46 : NWt "CanonPress" 46 8 := ⟨_, rfl, tb_mem 391 (by decide +kernel) (by decide +kernel), tb_mem 392 (by decide +kernel) (by decide +kernel), tb_mem 120 (by decide +kernel) (by decide +kernel), rfl, by decide⟩
theorem df_Fo : dfOK 8 := by
  intro r hr k hk
  cases hr
  exact (by decide +kernel : ∀ k, k < 1 → (parseFieldDescriptor ((classes.getD 8 ("", fun _ => ("", "", "", false), 0)).2.1 k).2.2.1).map defaultValue = some (dfK 8 k)) k hk
theorem dc_Cp_init_71 : decode m_Cp_init.2.1 71 = .ok (.dup, 1) := by decide +kernel
theorem dc_Cp_init_72 : decode m_Cp_init.2.1 72 = .ok (.aload_n 0, 1) := by decide +kernel
theorem dc_Cp_init_73 : decode m_Cp_init.2.1 73 = .ok (.getfield 33, 3) := by decide +kernel
theorem gk_Cp_33 : FLt "CanonPress" 33 1 3 := ⟨_, rfl, by decide, rfl, tb_mem 443 (by decide +kernel) (by decide +kernel)⟩
theorem ml_Cp_48 : Cond.methodLink "CanonPress" 48 m_Fo_init.1 ∈ tb := tb_mem 393 (by decide +kernel) (by decide +kernel)
theorem dc_Cp_init_76 : decode m_Cp_init.2.1 76 = .ok (.invokespecial 48, 3) := by decide +kernel
theorem mk_Fo : MKt m_Fo_init 1 := ⟨tb_mem 394 (by decide +kernel) (by decide +kernel), tb_mem 120 (by decide +kernel) (by decide +kernel), tb_mem 395 (by decide +kernel) (by decide +kernel), by decide, by decide, by decide +kernel, rfl, rfl, by decide⟩
theorem dc_Cp_init_79 : decode m_Cp_init.2.1 79 = .ok (.putfield 51, 3) := by decide +kernel
theorem qk_Cp_51 : QLt "CanonPress" 51 1 5 (.object "CanonPress$Former") := ⟨_, rfl, by decide, rfl, tb_mem 445 (by decide +kernel) (by decide +kernel), by decide, rfl, by decide +kernel⟩
theorem dc_Cp_init_82 : decode m_Cp_init.2.1 82 = .ok (.aload_n 0, 1) := by decide +kernel
theorem dc_Cp_init_83 : decode m_Cp_init.2.1 83 = .ok (.new 55, 3) := by decide +kernel
theorem nk_Cp_55 : NWt "CanonPress" 55 9 := ⟨_, rfl, tb_mem 401 (by decide +kernel) (by decide +kernel), tb_mem 402 (by decide +kernel) (by decide +kernel), tb_mem 121 (by decide +kernel) (by decide +kernel), rfl, by decide⟩
theorem df_Po : dfOK 9 := by
  intro r hr k hk
  cases hr
  exact (by decide +kernel : ∀ k, k < 2 → (parseFieldDescriptor ((classes.getD 9 ("", fun _ => ("", "", "", false), 0)).2.1 k).2.2.1).map defaultValue = some (dfK 9 k)) k hk
theorem dc_Cp_init_86 : decode m_Cp_init.2.1 86 = .ok (.dup, 1) := by decide +kernel
theorem dc_Cp_init_87 : decode m_Cp_init.2.1 87 = .ok (.invokespecial 57, 3) := by decide +kernel
theorem mk_Po : MKt m_Po_init 0 := ⟨tb_mem 404 (by decide +kernel) (by decide +kernel), tb_mem 121 (by decide +kernel) (by decide +kernel), tb_mem 405 (by decide +kernel) (by decide +kernel), by decide, by decide, by decide +kernel, rfl, rfl, by decide⟩
theorem dc_Cp_init_90 : decode m_Cp_init.2.1 90 = .ok (.putfield 58, 3) := by decide +kernel
theorem qk_Cp_58 : QLt "CanonPress" 58 1 6 (.object "CanonPress$Pointer") := ⟨_, rfl, by decide, rfl, tb_mem 446 (by decide +kernel) (by decide +kernel), by decide, rfl, by decide +kernel⟩
theorem dc_Cp_init_93 : decode m_Cp_init.2.1 93 = .ok (.aload_n 0, 1) := by decide +kernel
theorem dc_Cp_init_94 : decode m_Cp_init.2.1 94 = .ok (.new 62, 3) := by decide +kernel
theorem nk_Cp_62 : NWt "CanonPress" 62 10 := ⟨_, rfl, tb_mem 414 (by decide +kernel) (by decide +kernel), tb_mem 415 (by decide +kernel) (by decide +kernel), tb_mem 122 (by decide +kernel) (by decide +kernel), rfl, by decide⟩
theorem df_We : dfOK 10 := by
  intro r hr k hk
  cases hr
  exact (by decide +kernel : ∀ k, k < 5 → (parseFieldDescriptor ((classes.getD 10 ("", fun _ => ("", "", "", false), 0)).2.1 k).2.2.1).map defaultValue = some (dfK 10 k)) k hk
theorem dc_Cp_init_97 : decode m_Cp_init.2.1 97 = .ok (.dup, 1) := by decide +kernel
theorem dc_Cp_init_98 : decode m_Cp_init.2.1 98 = .ok (.invokespecial 64, 3) := by decide +kernel
theorem mk_We : MKt m_We_init 0 := ⟨tb_mem 417 (by decide +kernel) (by decide +kernel), tb_mem 122 (by decide +kernel) (by decide +kernel), tb_mem 418 (by decide +kernel) (by decide +kernel), by decide, by decide, by decide +kernel, rfl, rfl, by decide⟩
theorem dc_Cp_init_101 : decode m_Cp_init.2.1 101 = .ok (.putfield 65, 3) := by decide +kernel
theorem qk_Cp_65 : QLt "CanonPress" 65 1 7 (.object "CanonPress$Weaver") := ⟨_, rfl, by decide, rfl, tb_mem 447 (by decide +kernel) (by decide +kernel), by decide, rfl, by decide +kernel⟩
theorem dc_Cp_init_104 : decode m_Cp_init.2.1 104 = .ok (.aload_n 0, 1) := by decide +kernel
theorem dc_Cp_init_105 : decode m_Cp_init.2.1 105 = .ok (.bipush 8, 2) := by decide +kernel
theorem ck_Cp_69 : Cond.classLink "CanonPress" 69 "CanonPress$Tree" ∈ tb := tb_mem 437 (by decide +kernel) (by decide +kernel)
theorem dc_Cp_init_107 : decode m_Cp_init.2.1 107 = .ok (.anewarray 69, 3) := by decide +kernel
theorem dc_Cp_init_110 : decode m_Cp_init.2.1 110 = .ok (.putfield 71, 3) := by decide +kernel
theorem qk_Cp_71 : QLt "CanonPress" 71 1 8 (.array (.object "CanonPress$Tree")) := ⟨_, rfl, by decide, rfl, tb_mem 448 (by decide +kernel) (by decide +kernel), by decide, rfl, by decide +kernel⟩
theorem dc_Cp_init_113 : decode m_Cp_init.2.1 113 = .ok (.aload_n 0, 1) := by decide +kernel
theorem dc_Cp_init_114 : decode m_Cp_init.2.1 114 = .ok (.new 69, 3) := by decide +kernel
theorem nk_Cp_69 : NWt "CanonPress" 69 11 := ⟨_, rfl, tb_mem 437 (by decide +kernel) (by decide +kernel), tb_mem 253 (by decide +kernel) (by decide +kernel), tb_mem 119 (by decide +kernel) (by decide +kernel), rfl, by decide⟩
theorem dc_Cp_init_117 : decode m_Cp_init.2.1 117 = .ok (.dup, 1) := by decide +kernel
theorem dc_Cp_init_118 : decode m_Cp_init.2.1 118 = .ok (.invokespecial 75, 3) := by decide +kernel
theorem dc_Cp_init_121 : decode m_Cp_init.2.1 121 = .ok (.putfield 76, 3) := by decide +kernel
theorem pk_Cp_76 : PLt "CanonPress" 76 1 9 (.object "CanonPress$Tree") := ⟨_, rfl, by decide, rfl, tb_mem 449 (by decide +kernel) (by decide +kernel), by decide, by decide +kernel⟩
theorem dc_Cp_init_124 : decode m_Cp_init.2.1 124 = .ok (.aload_n 0, 1) := by decide +kernel
theorem dc_Cp_init_125 : decode m_Cp_init.2.1 125 = .ok (.iconst (-1), 1) := by decide +kernel
theorem dc_Cp_init_126 : decode m_Cp_init.2.1 126 = .ok (.putfield 80, 3) := by decide +kernel
theorem pk_Cp_80 : PLt "CanonPress" 80 1 10 .int := ⟨_, rfl, by decide, rfl, tb_mem 450 (by decide +kernel) (by decide +kernel), by decide, by decide +kernel⟩
theorem dc_Cp_init_129 : decode m_Cp_init.2.1 129 = .ok (.iconst 0, 1) := by decide +kernel
theorem dc_Cp_init_130 : decode m_Cp_init.2.1 130 = .ok (.istore_n 1, 1) := by decide +kernel
theorem dc_Cp_init_131 : decode m_Cp_init.2.1 131 = .ok (.iload_n 1, 1) := by decide +kernel
theorem dc_Cp_init_132 : decode m_Cp_init.2.1 132 = .ok (.bipush 8, 2) := by decide +kernel
theorem dc_Cp_init_134 : decode m_Cp_init.2.1 134 = .ok (.if_icmp .ge 22, 3) := by decide +kernel
theorem dc_Cp_init_137 : decode m_Cp_init.2.1 137 = .ok (.aload_n 0, 1) := by decide +kernel
theorem dc_Cp_init_138 : decode m_Cp_init.2.1 138 = .ok (.getfield 71, 3) := by decide +kernel
theorem gk_Cp_71 : FLt "CanonPress" 71 1 8 := ⟨_, rfl, by decide, rfl, tb_mem 448 (by decide +kernel) (by decide +kernel)⟩
theorem dc_Cp_init_141 : decode m_Cp_init.2.1 141 = .ok (.iload_n 1, 1) := by decide +kernel
theorem dc_Cp_init_142 : decode m_Cp_init.2.1 142 = .ok (.new 69, 3) := by decide +kernel
theorem dc_Cp_init_145 : decode m_Cp_init.2.1 145 = .ok (.dup, 1) := by decide +kernel
theorem dc_Cp_init_146 : decode m_Cp_init.2.1 146 = .ok (.invokespecial 75, 3) := by decide +kernel
theorem dc_Cp_init_149 : decode m_Cp_init.2.1 149 = .ok (.aastore, 1) := by decide +kernel
theorem dc_Cp_init_150 : decode m_Cp_init.2.1 150 = .ok (.iinc 1 1, 3) := by decide +kernel
theorem dc_Cp_init_153 : decode m_Cp_init.2.1 153 = .ok (.goto (-22), 3) := by decide +kernel
theorem dc_Cp_init_156 : decode m_Cp_init.2.1 156 = .ok (.return_, 1) := by decide +kernel
theorem dc_Mo_init_0 : decode m_Mo_init.2.1 0 = .ok (.aload_n 0, 1) := by decide +kernel
theorem dc_Mo_init_1 : decode m_Mo_init.2.1 1 = .ok (.invokespecial 1, 3) := by decide +kernel
theorem oi_Mo : Cond.methodLink "CanonPressModel" 1 objectInit ∈ tb := tb_mem 1233 (by decide +kernel) (by decide +kernel)
theorem dc_Mo_init_4 : decode m_Mo_init.2.1 4 = .ok (.aload_n 0, 1) := by decide +kernel
theorem dc_Mo_init_5 : decode m_Mo_init.2.1 5 = .ok (.sipush 2000, 3) := by decide +kernel
theorem dc_Mo_init_8 : decode m_Mo_init.2.1 8 = .ok (.newarray .int, 2) := by decide +kernel
theorem dc_Mo_init_10 : decode m_Mo_init.2.1 10 = .ok (.putfield 7, 3) := by decide +kernel
theorem qk_Mo_7 : QLt "CanonPressModel" 7 0 0 (.array .int) := ⟨_, rfl, by decide, rfl, tb_mem 1236 (by decide +kernel) (by decide +kernel), by decide, rfl, by decide +kernel⟩
theorem dc_Mo_init_13 : decode m_Mo_init.2.1 13 = .ok (.aload_n 0, 1) := by decide +kernel
theorem dc_Mo_init_14 : decode m_Mo_init.2.1 14 = .ok (.sipush 12000, 3) := by decide +kernel
theorem dc_Mo_init_17 : decode m_Mo_init.2.1 17 = .ok (.newarray .int, 2) := by decide +kernel
theorem dc_Mo_init_19 : decode m_Mo_init.2.1 19 = .ok (.putfield 13, 3) := by decide +kernel
theorem qk_Mo_13 : QLt "CanonPressModel" 13 0 2 (.array .int) := ⟨_, rfl, by decide, rfl, tb_mem 1238 (by decide +kernel) (by decide +kernel), by decide, rfl, by decide +kernel⟩
theorem dc_Mo_init_22 : decode m_Mo_init.2.1 22 = .ok (.aload_n 0, 1) := by decide +kernel
theorem dc_Mo_init_23 : decode m_Mo_init.2.1 23 = .ok (.sipush 6000, 3) := by decide +kernel
theorem dc_Mo_init_26 : decode m_Mo_init.2.1 26 = .ok (.newarray .int, 2) := by decide +kernel
theorem dc_Mo_init_28 : decode m_Mo_init.2.1 28 = .ok (.putfield 16, 3) := by decide +kernel
theorem qk_Mo_16 : QLt "CanonPressModel" 16 0 5 (.array .int) := ⟨_, rfl, by decide, rfl, tb_mem 1241 (by decide +kernel) (by decide +kernel), by decide, rfl, by decide +kernel⟩
theorem dc_Mo_init_31 : decode m_Mo_init.2.1 31 = .ok (.aload_n 0, 1) := by decide +kernel
theorem dc_Mo_init_32 : decode m_Mo_init.2.1 32 = .ok (.bipush 12, 2) := by decide +kernel
theorem dc_Mo_init_34 : decode m_Mo_init.2.1 34 = .ok (.newarray .int, 2) := by decide +kernel
theorem dc_Mo_init_36 : decode m_Mo_init.2.1 36 = .ok (.putfield 19, 3) := by decide +kernel
theorem qk_Mo_19 : QLt "CanonPressModel" 19 0 8 (.array .int) := ⟨_, rfl, by decide, rfl, tb_mem 1244 (by decide +kernel) (by decide +kernel), by decide, rfl, by decide +kernel⟩
theorem dc_Mo_init_39 : decode m_Mo_init.2.1 39 = .ok (.aload_n 0, 1) := by decide +kernel
theorem dc_Mo_init_40 : decode m_Mo_init.2.1 40 = .ok (.sipush 1200, 3) := by decide +kernel
theorem dc_Mo_init_43 : decode m_Mo_init.2.1 43 = .ok (.newarray .int, 2) := by decide +kernel
theorem dc_Mo_init_45 : decode m_Mo_init.2.1 45 = .ok (.putfield 22, 3) := by decide +kernel
theorem qk_Mo_22 : QLt "CanonPressModel" 22 0 11 (.array .int) := ⟨_, rfl, by decide, rfl, tb_mem 1247 (by decide +kernel) (by decide +kernel), by decide, rfl, by decide +kernel⟩
theorem dc_Mo_init_48 : decode m_Mo_init.2.1 48 = .ok (.aload_n 0, 1) := by decide +kernel
theorem dc_Mo_init_49 : decode m_Mo_init.2.1 49 = .ok (.bipush 20, 2) := by decide +kernel
theorem dc_Mo_init_51 : decode m_Mo_init.2.1 51 = .ok (.newarray .int, 2) := by decide +kernel
theorem dc_Mo_init_53 : decode m_Mo_init.2.1 53 = .ok (.putfield 25, 3) := by decide +kernel
theorem qk_Mo_25 : QLt "CanonPressModel" 25 0 12 (.array .int) := ⟨_, rfl, by decide, rfl, tb_mem 1248 (by decide +kernel) (by decide +kernel), by decide, rfl, by decide +kernel⟩
theorem dc_Mo_init_56 : decode m_Mo_init.2.1 56 = .ok (.aload_n 0, 1) := by decide +kernel
theorem dc_Mo_init_57 : decode m_Mo_init.2.1 57 = .ok (.bipush 40, 2) := by decide +kernel
theorem dc_Mo_init_59 : decode m_Mo_init.2.1 59 = .ok (.newarray .int, 2) := by decide +kernel
theorem dc_Mo_init_61 : decode m_Mo_init.2.1 61 = .ok (.putfield 28, 3) := by decide +kernel
theorem qk_Mo_28 : QLt "CanonPressModel" 28 0 17 (.array .int) := ⟨_, rfl, by decide, rfl, tb_mem 1253 (by decide +kernel) (by decide +kernel), by decide, rfl, by decide +kernel⟩
theorem dc_Mo_init_64 : decode m_Mo_init.2.1 64 = .ok (.aload_n 0, 1) := by decide +kernel
theorem dc_Mo_init_65 : decode m_Mo_init.2.1 65 = .ok (.bipush 9, 2) := by decide +kernel
theorem dc_Mo_init_67 : decode m_Mo_init.2.1 67 = .ok (.newarray .boolean, 2) := by decide +kernel
theorem dc_Mo_init_69 : decode m_Mo_init.2.1 69 = .ok (.putfield 31, 3) := by decide +kernel
theorem qk_Mo_31 : QLt "CanonPressModel" 31 0 19 (.array .boolean) := ⟨_, rfl, by decide, rfl, tb_mem 1255 (by decide +kernel) (by decide +kernel), by decide, rfl, by decide +kernel⟩
theorem dc_Mo_init_72 : decode m_Mo_init.2.1 72 = .ok (.aload_n 0, 1) := by decide +kernel
theorem dc_Mo_init_73 : decode m_Mo_init.2.1 73 = .ok (.bipush 9, 2) := by decide +kernel
theorem dc_Mo_init_75 : decode m_Mo_init.2.1 75 = .ok (.newarray .int, 2) := by decide +kernel
theorem dc_Mo_init_77 : decode m_Mo_init.2.1 77 = .ok (.putfield 35, 3) := by decide +kernel
theorem qk_Mo_35 : QLt "CanonPressModel" 35 0 20 (.array .int) := ⟨_, rfl, by decide, rfl, tb_mem 1256 (by decide +kernel) (by decide +kernel), by decide, rfl, by decide +kernel⟩
theorem dc_Mo_init_80 : decode m_Mo_init.2.1 80 = .ok (.aload_n 0, 1) := by decide +kernel
theorem dc_Mo_init_81 : decode m_Mo_init.2.1 81 = .ok (.bipush 9, 2) := by decide +kernel
theorem dc_Mo_init_83 : decode m_Mo_init.2.1 83 = .ok (.newarray .int, 2) := by decide +kernel
theorem dc_Mo_init_85 : decode m_Mo_init.2.1 85 = .ok (.putfield 38, 3) := by decide +kernel
theorem qk_Mo_38 : QLt "CanonPressModel" 38 0 21 (.array .int) := ⟨_, rfl, by decide, rfl, tb_mem 1257 (by decide +kernel) (by decide +kernel), by decide, rfl, by decide +kernel⟩
theorem dc_Mo_init_88 : decode m_Mo_init.2.1 88 = .ok (.aload_n 0, 1) := by decide +kernel
theorem dc_Mo_init_89 : decode m_Mo_init.2.1 89 = .ok (.bipush 9, 2) := by decide +kernel
theorem dc_Mo_init_91 : decode m_Mo_init.2.1 91 = .ok (.newarray .int, 2) := by decide +kernel
theorem dc_Mo_init_93 : decode m_Mo_init.2.1 93 = .ok (.putfield 41, 3) := by decide +kernel
theorem qk_Mo_41 : QLt "CanonPressModel" 41 0 22 (.array .int) := ⟨_, rfl, by decide, rfl, tb_mem 1258 (by decide +kernel) (by decide +kernel), by decide, rfl, by decide +kernel⟩
theorem dc_Mo_init_96 : decode m_Mo_init.2.1 96 = .ok (.aload_n 0, 1) := by decide +kernel
theorem dc_Mo_init_97 : decode m_Mo_init.2.1 97 = .ok (.bipush 9, 2) := by decide +kernel
theorem dc_Mo_init_99 : decode m_Mo_init.2.1 99 = .ok (.newarray .int, 2) := by decide +kernel
theorem dc_Mo_init_101 : decode m_Mo_init.2.1 101 = .ok (.putfield 44, 3) := by decide +kernel
theorem qk_Mo_44 : QLt "CanonPressModel" 44 0 23 (.array .int) := ⟨_, rfl, by decide, rfl, tb_mem 1259 (by decide +kernel) (by decide +kernel), by decide, rfl, by decide +kernel⟩
theorem dc_Mo_init_104 : decode m_Mo_init.2.1 104 = .ok (.aload_n 0, 1) := by decide +kernel
theorem dc_Mo_init_105 : decode m_Mo_init.2.1 105 = .ok (.sipush 4500, 3) := by decide +kernel
theorem dc_Mo_init_108 : decode m_Mo_init.2.1 108 = .ok (.newarray .int, 2) := by decide +kernel
theorem dc_Mo_init_110 : decode m_Mo_init.2.1 110 = .ok (.putfield 47, 3) := by decide +kernel
theorem qk_Mo_47 : QLt "CanonPressModel" 47 0 24 (.array .int) := ⟨_, rfl, by decide, rfl, tb_mem 1260 (by decide +kernel) (by decide +kernel), by decide, rfl, by decide +kernel⟩
theorem dc_Mo_init_113 : decode m_Mo_init.2.1 113 = .ok (.aload_n 0, 1) := by decide +kernel
theorem dc_Mo_init_114 : decode m_Mo_init.2.1 114 = .ok (.sipush 4500, 3) := by decide +kernel
theorem dc_Mo_init_117 : decode m_Mo_init.2.1 117 = .ok (.newarray .int, 2) := by decide +kernel
theorem dc_Mo_init_119 : decode m_Mo_init.2.1 119 = .ok (.putfield 50, 3) := by decide +kernel
theorem qk_Mo_50 : QLt "CanonPressModel" 50 0 25 (.array .int) := ⟨_, rfl, by decide, rfl, tb_mem 1261 (by decide +kernel) (by decide +kernel), by decide, rfl, by decide +kernel⟩
theorem dc_Mo_init_122 : decode m_Mo_init.2.1 122 = .ok (.aload_n 0, 1) := by decide +kernel
theorem dc_Mo_init_123 : decode m_Mo_init.2.1 123 = .ok (.sipush 4500, 3) := by decide +kernel
theorem dc_Mo_init_126 : decode m_Mo_init.2.1 126 = .ok (.newarray .int, 2) := by decide +kernel
theorem dc_Mo_init_128 : decode m_Mo_init.2.1 128 = .ok (.putfield 53, 3) := by decide +kernel
theorem qk_Mo_53 : QLt "CanonPressModel" 53 0 26 (.array .int) := ⟨_, rfl, by decide, rfl, tb_mem 1262 (by decide +kernel) (by decide +kernel), by decide, rfl, by decide +kernel⟩
theorem dc_Mo_init_131 : decode m_Mo_init.2.1 131 = .ok (.aload_n 0, 1) := by decide +kernel
theorem dc_Mo_init_132 : decode m_Mo_init.2.1 132 = .ok (.sipush 4500, 3) := by decide +kernel
theorem dc_Mo_init_135 : decode m_Mo_init.2.1 135 = .ok (.newarray .int, 2) := by decide +kernel
theorem dc_Mo_init_137 : decode m_Mo_init.2.1 137 = .ok (.putfield 56, 3) := by decide +kernel
theorem qk_Mo_56 : QLt "CanonPressModel" 56 0 27 (.array .int) := ⟨_, rfl, by decide, rfl, tb_mem 1263 (by decide +kernel) (by decide +kernel), by decide, rfl, by decide +kernel⟩
theorem dc_Mo_init_140 : decode m_Mo_init.2.1 140 = .ok (.aload_n 0, 1) := by decide +kernel
theorem dc_Mo_init_141 : decode m_Mo_init.2.1 141 = .ok (.sipush 4500, 3) := by decide +kernel
theorem dc_Mo_init_144 : decode m_Mo_init.2.1 144 = .ok (.newarray .int, 2) := by decide +kernel
theorem dc_Mo_init_146 : decode m_Mo_init.2.1 146 = .ok (.putfield 59, 3) := by decide +kernel
theorem qk_Mo_59 : QLt "CanonPressModel" 59 0 28 (.array .int) := ⟨_, rfl, by decide, rfl, tb_mem 1264 (by decide +kernel) (by decide +kernel), by decide, rfl, by decide +kernel⟩
theorem dc_Mo_init_149 : decode m_Mo_init.2.1 149 = .ok (.aload_n 0, 1) := by decide +kernel
theorem dc_Mo_init_150 : decode m_Mo_init.2.1 150 = .ok (.sipush 4500, 3) := by decide +kernel
theorem dc_Mo_init_153 : decode m_Mo_init.2.1 153 = .ok (.newarray .int, 2) := by decide +kernel
theorem dc_Mo_init_155 : decode m_Mo_init.2.1 155 = .ok (.putfield 62, 3) := by decide +kernel
theorem qk_Mo_62 : QLt "CanonPressModel" 62 0 29 (.array .int) := ⟨_, rfl, by decide, rfl, tb_mem 1265 (by decide +kernel) (by decide +kernel), by decide, rfl, by decide +kernel⟩
theorem dc_Mo_init_158 : decode m_Mo_init.2.1 158 = .ok (.aload_n 0, 1) := by decide +kernel
theorem dc_Mo_init_159 : decode m_Mo_init.2.1 159 = .ok (.sipush 4500, 3) := by decide +kernel
theorem dc_Mo_init_162 : decode m_Mo_init.2.1 162 = .ok (.newarray .int, 2) := by decide +kernel
theorem dc_Mo_init_164 : decode m_Mo_init.2.1 164 = .ok (.putfield 65, 3) := by decide +kernel
theorem qk_Mo_65 : QLt "CanonPressModel" 65 0 30 (.array .int) := ⟨_, rfl, by decide, rfl, tb_mem 1266 (by decide +kernel) (by decide +kernel), by decide, rfl, by decide +kernel⟩
theorem dc_Mo_init_167 : decode m_Mo_init.2.1 167 = .ok (.aload_n 0, 1) := by decide +kernel
theorem dc_Mo_init_168 : decode m_Mo_init.2.1 168 = .ok (.sipush 4500, 3) := by decide +kernel
theorem dc_Mo_init_171 : decode m_Mo_init.2.1 171 = .ok (.newarray .int, 2) := by decide +kernel
theorem dc_Mo_init_173 : decode m_Mo_init.2.1 173 = .ok (.putfield 68, 3) := by decide +kernel
theorem qk_Mo_68 : QLt "CanonPressModel" 68 0 31 (.array .int) := ⟨_, rfl, by decide, rfl, tb_mem 1267 (by decide +kernel) (by decide +kernel), by decide, rfl, by decide +kernel⟩
theorem dc_Mo_init_176 : decode m_Mo_init.2.1 176 = .ok (.aload_n 0, 1) := by decide +kernel
theorem dc_Mo_init_177 : decode m_Mo_init.2.1 177 = .ok (.sipush 4500, 3) := by decide +kernel
theorem dc_Mo_init_180 : decode m_Mo_init.2.1 180 = .ok (.newarray .int, 2) := by decide +kernel
theorem dc_Mo_init_182 : decode m_Mo_init.2.1 182 = .ok (.putfield 71, 3) := by decide +kernel
theorem qk_Mo_71 : QLt "CanonPressModel" 71 0 32 (.array .int) := ⟨_, rfl, by decide, rfl, tb_mem 1268 (by decide +kernel) (by decide +kernel), by decide, rfl, by decide +kernel⟩
theorem dc_Mo_init_185 : decode m_Mo_init.2.1 185 = .ok (.aload_n 0, 1) := by decide +kernel
theorem dc_Mo_init_186 : decode m_Mo_init.2.1 186 = .ok (.sipush 4500, 3) := by decide +kernel
theorem dc_Mo_init_189 : decode m_Mo_init.2.1 189 = .ok (.newarray .int, 2) := by decide +kernel
theorem dc_Mo_init_191 : decode m_Mo_init.2.1 191 = .ok (.putfield 74, 3) := by decide +kernel
theorem qk_Mo_74 : QLt "CanonPressModel" 74 0 33 (.array .int) := ⟨_, rfl, by decide, rfl, tb_mem 1269 (by decide +kernel) (by decide +kernel), by decide, rfl, by decide +kernel⟩
theorem dc_Mo_init_194 : decode m_Mo_init.2.1 194 = .ok (.aload_n 0, 1) := by decide +kernel
theorem dc_Mo_init_195 : decode m_Mo_init.2.1 195 = .ok (.sipush 4500, 3) := by decide +kernel
theorem dc_Mo_init_198 : decode m_Mo_init.2.1 198 = .ok (.newarray .int, 2) := by decide +kernel
theorem dc_Mo_init_200 : decode m_Mo_init.2.1 200 = .ok (.putfield 77, 3) := by decide +kernel
theorem qk_Mo_77 : QLt "CanonPressModel" 77 0 34 (.array .int) := ⟨_, rfl, by decide, rfl, tb_mem 1270 (by decide +kernel) (by decide +kernel), by decide, rfl, by decide +kernel⟩
theorem dc_Mo_init_203 : decode m_Mo_init.2.1 203 = .ok (.aload_n 0, 1) := by decide +kernel
theorem dc_Mo_init_204 : decode m_Mo_init.2.1 204 = .ok (.sipush 4500, 3) := by decide +kernel
theorem dc_Mo_init_207 : decode m_Mo_init.2.1 207 = .ok (.newarray .int, 2) := by decide +kernel
theorem dc_Mo_init_209 : decode m_Mo_init.2.1 209 = .ok (.putfield 80, 3) := by decide +kernel
theorem qk_Mo_80 : QLt "CanonPressModel" 80 0 35 (.array .int) := ⟨_, rfl, by decide, rfl, tb_mem 1271 (by decide +kernel) (by decide +kernel), by decide, rfl, by decide +kernel⟩
theorem dc_Mo_init_212 : decode m_Mo_init.2.1 212 = .ok (.aload_n 0, 1) := by decide +kernel
theorem dc_Mo_init_213 : decode m_Mo_init.2.1 213 = .ok (.sipush 4500, 3) := by decide +kernel
theorem dc_Mo_init_216 : decode m_Mo_init.2.1 216 = .ok (.newarray .long, 2) := by decide +kernel
theorem dc_Mo_init_218 : decode m_Mo_init.2.1 218 = .ok (.putfield 83, 3) := by decide +kernel
theorem qk_Mo_83 : QLt "CanonPressModel" 83 0 36 (.array .long) := ⟨_, rfl, by decide, rfl, tb_mem 1272 (by decide +kernel) (by decide +kernel), by decide, rfl, by decide +kernel⟩
theorem dc_Mo_init_221 : decode m_Mo_init.2.1 221 = .ok (.aload_n 0, 1) := by decide +kernel
theorem kk_Mo_87 : Cond.constant "CanonPressModel" 87 (36000 : Int32) ∈ tb := tb_mem 1234 (by decide +kernel) (by decide +kernel)
theorem dc_Mo_init_222 : decode m_Mo_init.2.1 222 = .ok (.ldc 87, 2) := by decide +kernel
theorem dc_Mo_init_224 : decode m_Mo_init.2.1 224 = .ok (.newarray .int, 2) := by decide +kernel
theorem dc_Mo_init_226 : decode m_Mo_init.2.1 226 = .ok (.putfield 88, 3) := by decide +kernel
theorem qk_Mo_88 : QLt "CanonPressModel" 88 0 37 (.array .int) := ⟨_, rfl, by decide, rfl, tb_mem 1273 (by decide +kernel) (by decide +kernel), by decide, rfl, by decide +kernel⟩
theorem dc_Mo_init_229 : decode m_Mo_init.2.1 229 = .ok (.aload_n 0, 1) := by decide +kernel
theorem kk_Mo_91 : Cond.constant "CanonPressModel" 91 (117000 : Int32) ∈ tb := tb_mem 1235 (by decide +kernel) (by decide +kernel)
theorem dc_Mo_init_230 : decode m_Mo_init.2.1 230 = .ok (.ldc 91, 2) := by decide +kernel
theorem dc_Mo_init_232 : decode m_Mo_init.2.1 232 = .ok (.newarray .int, 2) := by decide +kernel
theorem dc_Mo_init_234 : decode m_Mo_init.2.1 234 = .ok (.putfield 92, 3) := by decide +kernel
theorem qk_Mo_92 : QLt "CanonPressModel" 92 0 38 (.array .int) := ⟨_, rfl, by decide, rfl, tb_mem 1274 (by decide +kernel) (by decide +kernel), by decide, rfl, by decide +kernel⟩
theorem dc_Mo_init_237 : decode m_Mo_init.2.1 237 = .ok (.aload_n 0, 1) := by decide +kernel
theorem dc_Mo_init_238 : decode m_Mo_init.2.1 238 = .ok (.bipush 40, 2) := by decide +kernel
theorem dc_Mo_init_240 : decode m_Mo_init.2.1 240 = .ok (.newarray .int, 2) := by decide +kernel
theorem dc_Mo_init_242 : decode m_Mo_init.2.1 242 = .ok (.putfield 95, 3) := by decide +kernel
theorem qk_Mo_95 : QLt "CanonPressModel" 95 0 40 (.array .int) := ⟨_, rfl, by decide, rfl, tb_mem 1276 (by decide +kernel) (by decide +kernel), by decide, rfl, by decide +kernel⟩
theorem dc_Mo_init_245 : decode m_Mo_init.2.1 245 = .ok (.aload_n 0, 1) := by decide +kernel
theorem dc_Mo_init_246 : decode m_Mo_init.2.1 246 = .ok (.iconst (-1), 1) := by decide +kernel
theorem dc_Mo_init_247 : decode m_Mo_init.2.1 247 = .ok (.putfield 98, 3) := by decide +kernel
theorem pk_Mo_98 : PLt "CanonPressModel" 98 0 42 .int := ⟨_, rfl, by decide, rfl, tb_mem 1278 (by decide +kernel) (by decide +kernel), by decide, by decide +kernel⟩
theorem dc_Mo_init_250 : decode m_Mo_init.2.1 250 = .ok (.aload_n 0, 1) := by decide +kernel
theorem dc_Mo_init_251 : decode m_Mo_init.2.1 251 = .ok (.sipush 500, 3) := by decide +kernel
theorem dc_Mo_init_254 : decode m_Mo_init.2.1 254 = .ok (.newarray .int, 2) := by decide +kernel
theorem dc_Mo_init_256 : decode m_Mo_init.2.1 256 = .ok (.putfield 102, 3) := by decide +kernel
theorem qk_Mo_102 : QLt "CanonPressModel" 102 0 45 (.array .int) := ⟨_, rfl, by decide, rfl, tb_mem 1281 (by decide +kernel) (by decide +kernel), by decide, rfl, by decide +kernel⟩
theorem dc_Mo_init_259 : decode m_Mo_init.2.1 259 = .ok (.aload_n 0, 1) := by decide +kernel
theorem dc_Mo_init_260 : decode m_Mo_init.2.1 260 = .ok (.sipush 500, 3) := by decide +kernel
theorem dc_Mo_init_263 : decode m_Mo_init.2.1 263 = .ok (.newarray .int, 2) := by decide +kernel
theorem dc_Mo_init_265 : decode m_Mo_init.2.1 265 = .ok (.putfield 105, 3) := by decide +kernel
theorem qk_Mo_105 : QLt "CanonPressModel" 105 0 46 (.array .int) := ⟨_, rfl, by decide, rfl, tb_mem 1282 (by decide +kernel) (by decide +kernel), by decide, rfl, by decide +kernel⟩
theorem dc_Mo_init_268 : decode m_Mo_init.2.1 268 = .ok (.aload_n 0, 1) := by decide +kernel
theorem dc_Mo_init_269 : decode m_Mo_init.2.1 269 = .ok (.sipush 500, 3) := by decide +kernel
theorem dc_Mo_init_272 : decode m_Mo_init.2.1 272 = .ok (.newarray .int, 2) := by decide +kernel
theorem dc_Mo_init_274 : decode m_Mo_init.2.1 274 = .ok (.putfield 108, 3) := by decide +kernel
theorem qk_Mo_108 : QLt "CanonPressModel" 108 0 47 (.array .int) := ⟨_, rfl, by decide, rfl, tb_mem 1283 (by decide +kernel) (by decide +kernel), by decide, rfl, by decide +kernel⟩
theorem dc_Mo_init_277 : decode m_Mo_init.2.1 277 = .ok (.aload_n 0, 1) := by decide +kernel
theorem dc_Mo_init_278 : decode m_Mo_init.2.1 278 = .ok (.sipush 500, 3) := by decide +kernel
theorem dc_Mo_init_281 : decode m_Mo_init.2.1 281 = .ok (.newarray .int, 2) := by decide +kernel
theorem dc_Mo_init_283 : decode m_Mo_init.2.1 283 = .ok (.putfield 111, 3) := by decide +kernel
theorem qk_Mo_111 : QLt "CanonPressModel" 111 0 48 (.array .int) := ⟨_, rfl, by decide, rfl, tb_mem 1284 (by decide +kernel) (by decide +kernel), by decide, rfl, by decide +kernel⟩
theorem dc_Mo_init_286 : decode m_Mo_init.2.1 286 = .ok (.aload_n 0, 1) := by decide +kernel
theorem dc_Mo_init_287 : decode m_Mo_init.2.1 287 = .ok (.sipush 500, 3) := by decide +kernel
theorem dc_Mo_init_290 : decode m_Mo_init.2.1 290 = .ok (.newarray .int, 2) := by decide +kernel
theorem dc_Mo_init_292 : decode m_Mo_init.2.1 292 = .ok (.putfield 114, 3) := by decide +kernel
theorem qk_Mo_114 : QLt "CanonPressModel" 114 0 49 (.array .int) := ⟨_, rfl, by decide, rfl, tb_mem 1285 (by decide +kernel) (by decide +kernel), by decide, rfl, by decide +kernel⟩
theorem dc_Mo_init_295 : decode m_Mo_init.2.1 295 = .ok (.aload_n 0, 1) := by decide +kernel
theorem dc_Mo_init_296 : decode m_Mo_init.2.1 296 = .ok (.sipush 500, 3) := by decide +kernel
theorem dc_Mo_init_299 : decode m_Mo_init.2.1 299 = .ok (.newarray .int, 2) := by decide +kernel
theorem dc_Mo_init_301 : decode m_Mo_init.2.1 301 = .ok (.putfield 117, 3) := by decide +kernel
theorem qk_Mo_117 : QLt "CanonPressModel" 117 0 50 (.array .int) := ⟨_, rfl, by decide, rfl, tb_mem 1286 (by decide +kernel) (by decide +kernel), by decide, rfl, by decide +kernel⟩
theorem dc_Mo_init_304 : decode m_Mo_init.2.1 304 = .ok (.aload_n 0, 1) := by decide +kernel
theorem dc_Mo_init_305 : decode m_Mo_init.2.1 305 = .ok (.sipush 500, 3) := by decide +kernel
theorem dc_Mo_init_308 : decode m_Mo_init.2.1 308 = .ok (.newarray .int, 2) := by decide +kernel
theorem dc_Mo_init_310 : decode m_Mo_init.2.1 310 = .ok (.putfield 120, 3) := by decide +kernel
theorem qk_Mo_120 : QLt "CanonPressModel" 120 0 51 (.array .int) := ⟨_, rfl, by decide, rfl, tb_mem 1287 (by decide +kernel) (by decide +kernel), by decide, rfl, by decide +kernel⟩
theorem dc_Mo_init_313 : decode m_Mo_init.2.1 313 = .ok (.aload_n 0, 1) := by decide +kernel
theorem dc_Mo_init_314 : decode m_Mo_init.2.1 314 = .ok (.sipush 500, 3) := by decide +kernel
theorem dc_Mo_init_317 : decode m_Mo_init.2.1 317 = .ok (.newarray .int, 2) := by decide +kernel
theorem dc_Mo_init_319 : decode m_Mo_init.2.1 319 = .ok (.putfield 123, 3) := by decide +kernel
theorem qk_Mo_123 : QLt "CanonPressModel" 123 0 52 (.array .int) := ⟨_, rfl, by decide, rfl, tb_mem 1288 (by decide +kernel) (by decide +kernel), by decide, rfl, by decide +kernel⟩
theorem dc_Mo_init_322 : decode m_Mo_init.2.1 322 = .ok (.aload_n 0, 1) := by decide +kernel
theorem dc_Mo_init_323 : decode m_Mo_init.2.1 323 = .ok (.sipush 500, 3) := by decide +kernel
theorem dc_Mo_init_326 : decode m_Mo_init.2.1 326 = .ok (.newarray .int, 2) := by decide +kernel
theorem dc_Mo_init_328 : decode m_Mo_init.2.1 328 = .ok (.putfield 126, 3) := by decide +kernel
theorem qk_Mo_126 : QLt "CanonPressModel" 126 0 53 (.array .int) := ⟨_, rfl, by decide, rfl, tb_mem 1289 (by decide +kernel) (by decide +kernel), by decide, rfl, by decide +kernel⟩
theorem dc_Mo_init_331 : decode m_Mo_init.2.1 331 = .ok (.aload_n 0, 1) := by decide +kernel
theorem dc_Mo_init_332 : decode m_Mo_init.2.1 332 = .ok (.sipush 500, 3) := by decide +kernel
theorem dc_Mo_init_335 : decode m_Mo_init.2.1 335 = .ok (.newarray .long, 2) := by decide +kernel
theorem dc_Mo_init_337 : decode m_Mo_init.2.1 337 = .ok (.putfield 129, 3) := by decide +kernel
theorem qk_Mo_129 : QLt "CanonPressModel" 129 0 54 (.array .long) := ⟨_, rfl, by decide, rfl, tb_mem 1290 (by decide +kernel) (by decide +kernel), by decide, rfl, by decide +kernel⟩
theorem dc_Mo_init_340 : decode m_Mo_init.2.1 340 = .ok (.aload_n 0, 1) := by decide +kernel
theorem dc_Mo_init_341 : decode m_Mo_init.2.1 341 = .ok (.sipush 2100, 3) := by decide +kernel
theorem dc_Mo_init_344 : decode m_Mo_init.2.1 344 = .ok (.newarray .int, 2) := by decide +kernel
theorem dc_Mo_init_346 : decode m_Mo_init.2.1 346 = .ok (.putfield 132, 3) := by decide +kernel
theorem qk_Mo_132 : QLt "CanonPressModel" 132 0 55 (.array .int) := ⟨_, rfl, by decide, rfl, tb_mem 1291 (by decide +kernel) (by decide +kernel), by decide, rfl, by decide +kernel⟩
theorem dc_Mo_init_349 : decode m_Mo_init.2.1 349 = .ok (.aload_n 0, 1) := by decide +kernel
theorem dc_Mo_init_350 : decode m_Mo_init.2.1 350 = .ok (.bipush 13, 2) := by decide +kernel
theorem dc_Mo_init_352 : decode m_Mo_init.2.1 352 = .ok (.newarray .int, 2) := by decide +kernel
theorem dc_Mo_init_354 : decode m_Mo_init.2.1 354 = .ok (.dup, 1) := by decide +kernel
theorem dc_Mo_init_355 : decode m_Mo_init.2.1 355 = .ok (.iconst 0, 1) := by decide +kernel
theorem dc_Mo_init_356 : decode m_Mo_init.2.1 356 = .ok (.bipush 110, 2) := by decide +kernel
theorem dc_Mo_init_358 : decode m_Mo_init.2.1 358 = .ok (.iastore, 1) := by decide +kernel
theorem dc_Mo_init_359 : decode m_Mo_init.2.1 359 = .ok (.dup, 1) := by decide +kernel
theorem dc_Mo_init_360 : decode m_Mo_init.2.1 360 = .ok (.iconst 1, 1) := by decide +kernel
theorem dc_Mo_init_361 : decode m_Mo_init.2.1 361 = .ok (.bipush 117, 2) := by decide +kernel
theorem dc_Mo_init_363 : decode m_Mo_init.2.1 363 = .ok (.iastore, 1) := by decide +kernel
theorem dc_Mo_init_364 : decode m_Mo_init.2.1 364 = .ok (.dup, 1) := by decide +kernel
theorem dc_Mo_init_365 : decode m_Mo_init.2.1 365 = .ok (.iconst 2, 1) := by decide +kernel
theorem dc_Mo_init_366 : decode m_Mo_init.2.1 366 = .ok (.bipush 108, 2) := by decide +kernel
theorem dc_Mo_init_368 : decode m_Mo_init.2.1 368 = .ok (.iastore, 1) := by decide +kernel
theorem dc_Mo_init_369 : decode m_Mo_init.2.1 369 = .ok (.dup, 1) := by decide +kernel
theorem dc_Mo_init_370 : decode m_Mo_init.2.1 370 = .ok (.iconst 3, 1) := by decide +kernel
theorem dc_Mo_init_371 : decode m_Mo_init.2.1 371 = .ok (.bipush 108, 2) := by decide +kernel
theorem dc_Mo_init_373 : decode m_Mo_init.2.1 373 = .ok (.iastore, 1) := by decide +kernel
theorem dc_Mo_init_374 : decode m_Mo_init.2.1 374 = .ok (.dup, 1) := by decide +kernel
theorem dc_Mo_init_375 : decode m_Mo_init.2.1 375 = .ok (.iconst 4, 1) := by decide +kernel
theorem dc_Mo_init_376 : decode m_Mo_init.2.1 376 = .ok (.bipush 102, 2) := by decide +kernel
theorem dc_Mo_init_378 : decode m_Mo_init.2.1 378 = .ok (.iastore, 1) := by decide +kernel
theorem dc_Mo_init_379 : decode m_Mo_init.2.1 379 = .ok (.dup, 1) := by decide +kernel
theorem dc_Mo_init_380 : decode m_Mo_init.2.1 380 = .ok (.iconst 5, 1) := by decide +kernel
theorem dc_Mo_init_381 : decode m_Mo_init.2.1 381 = .ok (.bipush 97, 2) := by decide +kernel
theorem dc_Mo_init_383 : decode m_Mo_init.2.1 383 = .ok (.iastore, 1) := by decide +kernel
theorem dc_Mo_init_384 : decode m_Mo_init.2.1 384 = .ok (.dup, 1) := by decide +kernel
theorem dc_Mo_init_385 : decode m_Mo_init.2.1 385 = .ok (.bipush 6, 2) := by decide +kernel
theorem dc_Mo_init_387 : decode m_Mo_init.2.1 387 = .ok (.bipush 108, 2) := by decide +kernel
theorem dc_Mo_init_389 : decode m_Mo_init.2.1 389 = .ok (.iastore, 1) := by decide +kernel
theorem dc_Mo_init_390 : decode m_Mo_init.2.1 390 = .ok (.dup, 1) := by decide +kernel
theorem dc_Mo_init_391 : decode m_Mo_init.2.1 391 = .ok (.bipush 7, 2) := by decide +kernel
theorem dc_Mo_init_393 : decode m_Mo_init.2.1 393 = .ok (.bipush 115, 2) := by decide +kernel
theorem dc_Mo_init_395 : decode m_Mo_init.2.1 395 = .ok (.iastore, 1) := by decide +kernel
theorem dc_Mo_init_396 : decode m_Mo_init.2.1 396 = .ok (.dup, 1) := by decide +kernel
theorem dc_Mo_init_397 : decode m_Mo_init.2.1 397 = .ok (.bipush 8, 2) := by decide +kernel
theorem dc_Mo_init_399 : decode m_Mo_init.2.1 399 = .ok (.bipush 101, 2) := by decide +kernel
theorem dc_Mo_init_401 : decode m_Mo_init.2.1 401 = .ok (.iastore, 1) := by decide +kernel
theorem dc_Mo_init_402 : decode m_Mo_init.2.1 402 = .ok (.dup, 1) := by decide +kernel
theorem dc_Mo_init_403 : decode m_Mo_init.2.1 403 = .ok (.bipush 9, 2) := by decide +kernel
theorem dc_Mo_init_405 : decode m_Mo_init.2.1 405 = .ok (.bipush 116, 2) := by decide +kernel
theorem dc_Mo_init_407 : decode m_Mo_init.2.1 407 = .ok (.iastore, 1) := by decide +kernel
theorem dc_Mo_init_408 : decode m_Mo_init.2.1 408 = .ok (.dup, 1) := by decide +kernel
theorem dc_Mo_init_409 : decode m_Mo_init.2.1 409 = .ok (.bipush 10, 2) := by decide +kernel
theorem dc_Mo_init_411 : decode m_Mo_init.2.1 411 = .ok (.bipush 114, 2) := by decide +kernel
theorem dc_Mo_init_413 : decode m_Mo_init.2.1 413 = .ok (.iastore, 1) := by decide +kernel
theorem dc_Mo_init_414 : decode m_Mo_init.2.1 414 = .ok (.dup, 1) := by decide +kernel
theorem dc_Mo_init_415 : decode m_Mo_init.2.1 415 = .ok (.bipush 11, 2) := by decide +kernel
theorem dc_Mo_init_417 : decode m_Mo_init.2.1 417 = .ok (.bipush 117, 2) := by decide +kernel
theorem dc_Mo_init_419 : decode m_Mo_init.2.1 419 = .ok (.iastore, 1) := by decide +kernel
theorem dc_Mo_init_420 : decode m_Mo_init.2.1 420 = .ok (.dup, 1) := by decide +kernel
theorem dc_Mo_init_421 : decode m_Mo_init.2.1 421 = .ok (.bipush 12, 2) := by decide +kernel
theorem dc_Mo_init_423 : decode m_Mo_init.2.1 423 = .ok (.bipush 101, 2) := by decide +kernel
theorem dc_Mo_init_425 : decode m_Mo_init.2.1 425 = .ok (.iastore, 1) := by decide +kernel
theorem dc_Mo_init_426 : decode m_Mo_init.2.1 426 = .ok (.putfield 135, 3) := by decide +kernel
theorem qk_Mo_135 : QLt "CanonPressModel" 135 0 57 (.array .int) := ⟨_, rfl, by decide, rfl, tb_mem 1293 (by decide +kernel) (by decide +kernel), by decide, rfl, by decide +kernel⟩
theorem dc_Mo_init_429 : decode m_Mo_init.2.1 429 = .ok (.aload_n 0, 1) := by decide +kernel
theorem dc_Mo_init_430 : decode m_Mo_init.2.1 430 = .ok (.sipush 500, 3) := by decide +kernel
theorem dc_Mo_init_433 : decode m_Mo_init.2.1 433 = .ok (.newarray .int, 2) := by decide +kernel
theorem dc_Mo_init_435 : decode m_Mo_init.2.1 435 = .ok (.putfield 138, 3) := by decide +kernel
theorem qk_Mo_138 : QLt "CanonPressModel" 138 0 58 (.array .int) := ⟨_, rfl, by decide, rfl, tb_mem 1294 (by decide +kernel) (by decide +kernel), by decide, rfl, by decide +kernel⟩
theorem dc_Mo_init_438 : decode m_Mo_init.2.1 438 = .ok (.aload_n 0, 1) := by decide +kernel
theorem dc_Mo_init_439 : decode m_Mo_init.2.1 439 = .ok (.sipush 2100, 3) := by decide +kernel
theorem dc_Mo_init_442 : decode m_Mo_init.2.1 442 = .ok (.newarray .int, 2) := by decide +kernel
theorem dc_Mo_init_444 : decode m_Mo_init.2.1 444 = .ok (.putfield 141, 3) := by decide +kernel
theorem qk_Mo_141 : QLt "CanonPressModel" 141 0 59 (.array .int) := ⟨_, rfl, by decide, rfl, tb_mem 1295 (by decide +kernel) (by decide +kernel), by decide, rfl, by decide +kernel⟩
theorem dc_Mo_init_447 : decode m_Mo_init.2.1 447 = .ok (.aload_n 0, 1) := by decide +kernel
theorem dc_Mo_init_448 : decode m_Mo_init.2.1 448 = .ok (.sipush 2001, 3) := by decide +kernel
theorem dc_Mo_init_451 : decode m_Mo_init.2.1 451 = .ok (.newarray .int, 2) := by decide +kernel
theorem dc_Mo_init_453 : decode m_Mo_init.2.1 453 = .ok (.putfield 144, 3) := by decide +kernel
theorem qk_Mo_144 : QLt "CanonPressModel" 144 0 60 (.array .int) := ⟨_, rfl, by decide, rfl, tb_mem 1296 (by decide +kernel) (by decide +kernel), by decide, rfl, by decide +kernel⟩
theorem dc_Mo_init_456 : decode m_Mo_init.2.1 456 = .ok (.aload_n 0, 1) := by decide +kernel
theorem dc_Mo_init_457 : decode m_Mo_init.2.1 457 = .ok (.sipush 2001, 3) := by decide +kernel
theorem dc_Mo_init_460 : decode m_Mo_init.2.1 460 = .ok (.newarray .int, 2) := by decide +kernel
theorem dc_Mo_init_462 : decode m_Mo_init.2.1 462 = .ok (.putfield 147, 3) := by decide +kernel
theorem qk_Mo_147 : QLt "CanonPressModel" 147 0 61 (.array .int) := ⟨_, rfl, by decide, rfl, tb_mem 1297 (by decide +kernel) (by decide +kernel), by decide, rfl, by decide +kernel⟩
theorem dc_Mo_init_465 : decode m_Mo_init.2.1 465 = .ok (.aload_n 0, 1) := by decide +kernel
theorem dc_Mo_init_466 : decode m_Mo_init.2.1 466 = .ok (.bipush 40, 2) := by decide +kernel
theorem dc_Mo_init_468 : decode m_Mo_init.2.1 468 = .ok (.newarray .int, 2) := by decide +kernel
theorem dc_Mo_init_470 : decode m_Mo_init.2.1 470 = .ok (.putfield 150, 3) := by decide +kernel
theorem qk_Mo_150 : QLt "CanonPressModel" 150 0 63 (.array .int) := ⟨_, rfl, by decide, rfl, tb_mem 1299 (by decide +kernel) (by decide +kernel), by decide, rfl, by decide +kernel⟩
theorem dc_Mo_init_473 : decode m_Mo_init.2.1 473 = .ok (.aload_n 0, 1) := by decide +kernel
theorem dc_Mo_init_474 : decode m_Mo_init.2.1 474 = .ok (.bipush 40, 2) := by decide +kernel
theorem dc_Mo_init_476 : decode m_Mo_init.2.1 476 = .ok (.newarray .int, 2) := by decide +kernel
theorem dc_Mo_init_478 : decode m_Mo_init.2.1 478 = .ok (.putfield 153, 3) := by decide +kernel
theorem qk_Mo_153 : QLt "CanonPressModel" 153 0 64 (.array .int) := ⟨_, rfl, by decide, rfl, tb_mem 1300 (by decide +kernel) (by decide +kernel), by decide, rfl, by decide +kernel⟩
theorem dc_Mo_init_481 : decode m_Mo_init.2.1 481 = .ok (.aload_n 0, 1) := by decide +kernel
theorem dc_Mo_init_482 : decode m_Mo_init.2.1 482 = .ok (.bipush 40, 2) := by decide +kernel
theorem dc_Mo_init_484 : decode m_Mo_init.2.1 484 = .ok (.newarray .int, 2) := by decide +kernel
theorem dc_Mo_init_486 : decode m_Mo_init.2.1 486 = .ok (.putfield 156, 3) := by decide +kernel
theorem qk_Mo_156 : QLt "CanonPressModel" 156 0 65 (.array .int) := ⟨_, rfl, by decide, rfl, tb_mem 1301 (by decide +kernel) (by decide +kernel), by decide, rfl, by decide +kernel⟩
theorem dc_Mo_init_489 : decode m_Mo_init.2.1 489 = .ok (.aload_n 0, 1) := by decide +kernel
theorem dc_Mo_init_490 : decode m_Mo_init.2.1 490 = .ok (.bipush 40, 2) := by decide +kernel
theorem dc_Mo_init_492 : decode m_Mo_init.2.1 492 = .ok (.newarray .int, 2) := by decide +kernel
theorem dc_Mo_init_494 : decode m_Mo_init.2.1 494 = .ok (.putfield 159, 3) := by decide +kernel
theorem qk_Mo_159 : QLt "CanonPressModel" 159 0 66 (.array .int) := ⟨_, rfl, by decide, rfl, tb_mem 1302 (by decide +kernel) (by decide +kernel), by decide, rfl, by decide +kernel⟩
theorem dc_Mo_init_497 : decode m_Mo_init.2.1 497 = .ok (.return_, 1) := by decide +kernel
