theorem dc_Mo_same_0 : decode m_Mo_same.2.1 0 = .ok (.aload_n 0, 1) := by decide +kernel
theorem dc_Mo_same_1 : decode m_Mo_same.2.1 1 = .ok (.iload_n 1, 1) := by decide +kernel
theorem dc_Mo_same_2 : decode m_Mo_same.2.1 2 = .ok (.iload_n 2, 1) := by decide +kernel
theorem dc_Mo_same_3 : decode m_Mo_same.2.1 3 = .ok (.invokevirtual 408, 3) := by decide +kernel
theorem dc_Mo_same_6 : decode m_Mo_same.2.1 6 = .ok (.ifCond .eq 13, 3) := by decide +kernel
theorem dc_Mo_same_9 : decode m_Mo_same.2.1 9 = .ok (.aload_n 0, 1) := by decide +kernel
theorem dc_Mo_same_10 : decode m_Mo_same.2.1 10 = .ok (.iload_n 3, 1) := by decide +kernel
theorem dc_Mo_same_11 : decode m_Mo_same.2.1 11 = .ok (.iload 4, 2) := by decide +kernel
theorem dc_Mo_same_13 : decode m_Mo_same.2.1 13 = .ok (.invokevirtual 408, 3) := by decide +kernel
theorem dc_Mo_same_16 : decode m_Mo_same.2.1 16 = .ok (.ifCond .ne 7, 3) := by decide +kernel
theorem dc_Mo_same_19 : decode m_Mo_same.2.1 19 = .ok (.iconst (-1), 1) := by decide +kernel
theorem dc_Mo_same_20 : decode m_Mo_same.2.1 20 = .ok (.goto 20, 3) := by decide +kernel
theorem dc_Mo_same_23 : decode m_Mo_same.2.1 23 = .ok (.aload_n 0, 1) := by decide +kernel
theorem dc_Mo_same_24 : decode m_Mo_same.2.1 24 = .ok (.iload_n 1, 1) := by decide +kernel
theorem dc_Mo_same_25 : decode m_Mo_same.2.1 25 = .ok (.iload_n 2, 1) := by decide +kernel
theorem dc_Mo_same_26 : decode m_Mo_same.2.1 26 = .ok (.iload_n 3, 1) := by decide +kernel
theorem dc_Mo_same_27 : decode m_Mo_same.2.1 27 = .ok (.iload 4, 2) := by decide +kernel
theorem dc_Mo_same_29 : decode m_Mo_same.2.1 29 = .ok (.invokevirtual 432, 3) := by decide +kernel
theorem dc_Mo_same_32 : decode m_Mo_same.2.1 32 = .ok (.ifCond .eq 7, 3) := by decide +kernel
theorem dc_Mo_same_35 : decode m_Mo_same.2.1 35 = .ok (.iconst 1, 1) := by decide +kernel
theorem dc_Mo_same_36 : decode m_Mo_same.2.1 36 = .ok (.goto 4, 3) := by decide +kernel
theorem dc_Mo_same_39 : decode m_Mo_same.2.1 39 = .ok (.iconst 0, 1) := by decide +kernel
theorem dc_Mo_same_40 : decode m_Mo_same.2.1 40 = .ok (.ireturn, 1) := by decide +kernel
theorem b_Mo_same_0 {E : En_t} {d : Nat} {σ : S_t} {Q : Option Value → S_t → Prop} {x1 : Int32} {x2 : Int32} {x3 : Int32} {x4 : Int32}
    (h : CI E d m_Mo_has [pv E 0, .int x1, .int x2] σ (fun r2 σ1 => (r2 = 0 → JE E (d + 1) m_Mo_same 19 [] [] σ1 Q) ∧ (¬ r2 = 0 → CI E d m_Mo_has [pv E 0, .int x3, .int x4] σ1 (fun r4 σ3 => (¬ r4 = 0 → CI E d m_Mo_isSame [pv E 0, .int x1, .int x2, .int x3, .int x4] σ3 (fun r6 σ5 => (r6 = 0 → Q (some (.int (0 : Int32))) σ5) ∧ (¬ r6 = 0 → Q (some (.int (1 : Int32))) σ5))) ∧ (r4 = 0 → JE E (d + 1) m_Mo_same 19 [] [] σ3 Q))))) :
    JE E (d + 1) m_Mo_same 0 [(0, pv E 0), (1, .int x1), (2, .int x2), (3, .int x3), (4, .int x4)] [] σ Q := by
  refine J_aload_n dc_Mo_same_0 (Eq.refl 1) 0 rfl ?_
  refine J_iload_n dc_Mo_same_1 (Eq.refl 2) 1 rfl ?_
  refine J_iload_n dc_Mo_same_2 (Eq.refl 3) 2 rfl ?_
  refine J_callVI (As := [.int x1, .int x2]) (st := []) dc_Mo_same_3 (Eq.refl 6) lk_Mo_408 mi_Mo_has rfl (Nat.le_of_ble_eq_true rfl) rfl rfl (Nat.le_of_ble_eq_true rfl) rfl (Nat.le_of_ble_eq_true rfl) (CI.mono h (fun r2 σ1 h => ?_))
  refine J_if_eq dc_Mo_same_6 (Eq.refl 9) rfl (fun hc => ?_) (fun hc => ?_)
  · have h := h.1 hc
    refine J_sub [] rfl ?_
    exact h
  · have h := h.2 hc
    refine J_aload_n dc_Mo_same_9 (Eq.refl 10) 0 rfl ?_
    refine J_iload_n dc_Mo_same_10 (Eq.refl 11) 3 rfl ?_
    refine J_iload dc_Mo_same_11 (Eq.refl 13) 4 rfl ?_
    refine J_callVI (As := [.int x3, .int x4]) (st := []) dc_Mo_same_13 (Eq.refl 16) lk_Mo_408 mi_Mo_has rfl (Nat.le_of_ble_eq_true rfl) rfl rfl (Nat.le_of_ble_eq_true rfl) rfl (Nat.le_of_ble_eq_true rfl) (CI.mono h (fun r4 σ3 h => ?_))
    refine J_if_ne dc_Mo_same_16 (Eq.refl 19) rfl (fun hc => ?_) (fun hc => ?_)
    · have h := h.1 hc
      refine J_aload_n dc_Mo_same_23 (Eq.refl 24) 0 rfl ?_
      refine J_iload_n dc_Mo_same_24 (Eq.refl 25) 1 rfl ?_
      refine J_iload_n dc_Mo_same_25 (Eq.refl 26) 2 rfl ?_
      refine J_iload_n dc_Mo_same_26 (Eq.refl 27) 3 rfl ?_
      refine J_iload dc_Mo_same_27 (Eq.refl 29) 4 rfl ?_
      refine J_callVI (As := [.int x1, .int x2, .int x3, .int x4]) (st := []) dc_Mo_same_29 (Eq.refl 32) lk_Mo_432 mi_Mo_isSame rfl (Nat.le_of_ble_eq_true rfl) rfl rfl (Nat.le_of_ble_eq_true rfl) rfl (Nat.le_of_ble_eq_true rfl) (CI.mono h (fun r6 σ5 h => ?_))
      refine J_if_eq dc_Mo_same_32 (Eq.refl 35) rfl (fun hc => ?_) (fun hc => ?_)
      · have h := h.1 hc
        refine J_iconst (v := (0 : Int32)) dc_Mo_same_39 (Eq.refl 40) rfl ?_
        exact J_iret dc_Mo_same_40 rfl h
      · have h := h.2 hc
        refine J_iconst (v := (1 : Int32)) dc_Mo_same_35 (Eq.refl 36) rfl ?_
        refine J_goto dc_Mo_same_36 rfl ?_
        exact J_iret dc_Mo_same_40 rfl h
    · have h := h.2 hc
      refine J_sub [] rfl ?_
      exact h
theorem b_Mo_same_19 {E : En_t} {d : Nat} {σ : S_t} {Q : Option Value → S_t → Prop}
    (h : Q (some (.int (-1 : Int32))) σ) :
    JE E (d + 1) m_Mo_same 19 [] [] σ Q := by
  refine J_iconst (v := (-1 : Int32)) dc_Mo_same_19 (Eq.refl 20) rfl ?_
  refine J_goto dc_Mo_same_20 rfl ?_
  exact J_iret dc_Mo_same_40 rfl h
theorem dc_Mo_isSame_0 : decode m_Mo_isSame.2.1 0 = .ok (.aload_n 0, 1) := by decide +kernel
theorem dc_Mo_isSame_1 : decode m_Mo_isSame.2.1 1 = .ok (.getfield 59, 3) := by decide +kernel
theorem dc_Mo_isSame_4 : decode m_Mo_isSame.2.1 4 = .ok (.sipush 500, 3) := by decide +kernel
theorem dc_Mo_isSame_7 : decode m_Mo_isSame.2.1 7 = .ok (.iload_n 1, 1) := by decide +kernel
theorem dc_Mo_isSame_8 : decode m_Mo_isSame.2.1 8 = .ok (.imul, 1) := by decide +kernel
theorem dc_Mo_isSame_9 : decode m_Mo_isSame.2.1 9 = .ok (.iload_n 2, 1) := by decide +kernel
theorem dc_Mo_isSame_10 : decode m_Mo_isSame.2.1 10 = .ok (.iadd, 1) := by decide +kernel
theorem dc_Mo_isSame_11 : decode m_Mo_isSame.2.1 11 = .ok (.iaload, 1) := by decide +kernel
theorem dc_Mo_isSame_12 : decode m_Mo_isSame.2.1 12 = .ok (.istore 5, 2) := by decide +kernel
theorem dc_Mo_isSame_14 : decode m_Mo_isSame.2.1 14 = .ok (.iload 5, 2) := by decide +kernel
theorem dc_Mo_isSame_16 : decode m_Mo_isSame.2.1 16 = .ok (.aload_n 0, 1) := by decide +kernel
theorem dc_Mo_isSame_17 : decode m_Mo_isSame.2.1 17 = .ok (.getfield 59, 3) := by decide +kernel
theorem dc_Mo_isSame_20 : decode m_Mo_isSame.2.1 20 = .ok (.sipush 500, 3) := by decide +kernel
theorem dc_Mo_isSame_23 : decode m_Mo_isSame.2.1 23 = .ok (.iload_n 3, 1) := by decide +kernel
theorem dc_Mo_isSame_24 : decode m_Mo_isSame.2.1 24 = .ok (.imul, 1) := by decide +kernel
theorem dc_Mo_isSame_25 : decode m_Mo_isSame.2.1 25 = .ok (.iload 4, 2) := by decide +kernel
theorem dc_Mo_isSame_27 : decode m_Mo_isSame.2.1 27 = .ok (.iadd, 1) := by decide +kernel
theorem dc_Mo_isSame_28 : decode m_Mo_isSame.2.1 28 = .ok (.iaload, 1) := by decide +kernel
theorem dc_Mo_isSame_29 : decode m_Mo_isSame.2.1 29 = .ok (.if_icmp .ne 7, 3) := by decide +kernel
theorem dc_Mo_isSame_32 : decode m_Mo_isSame.2.1 32 = .ok (.iconst 1, 1) := by decide +kernel
theorem dc_Mo_isSame_33 : decode m_Mo_isSame.2.1 33 = .ok (.goto 4, 3) := by decide +kernel
theorem dc_Mo_isSame_36 : decode m_Mo_isSame.2.1 36 = .ok (.iconst 0, 1) := by decide +kernel
theorem dc_Mo_isSame_37 : decode m_Mo_isSame.2.1 37 = .ok (.istore 6, 2) := by decide +kernel
theorem dc_Mo_isSame_39 : decode m_Mo_isSame.2.1 39 = .ok (.iconst 0, 1) := by decide +kernel
theorem dc_Mo_isSame_40 : decode m_Mo_isSame.2.1 40 = .ok (.istore 7, 2) := by decide +kernel
theorem dc_Mo_isSame_42 : decode m_Mo_isSame.2.1 42 = .ok (.iload 7, 2) := by decide +kernel
theorem dc_Mo_isSame_44 : decode m_Mo_isSame.2.1 44 = .ok (.iload 5, 2) := by decide +kernel
theorem dc_Mo_isSame_46 : decode m_Mo_isSame.2.1 46 = .ok (.if_icmp .ge 118, 3) := by decide +kernel
theorem dc_Mo_isSame_49 : decode m_Mo_isSame.2.1 49 = .ok (.iload 6, 2) := by decide +kernel
theorem dc_Mo_isSame_51 : decode m_Mo_isSame.2.1 51 = .ok (.ifCond .eq 113, 3) := by decide +kernel
theorem dc_Mo_isSame_54 : decode m_Mo_isSame.2.1 54 = .ok (.aload_n 0, 1) := by decide +kernel
theorem dc_Mo_isSame_55 : decode m_Mo_isSame.2.1 55 = .ok (.iload_n 1, 1) := by decide +kernel
theorem dc_Mo_isSame_56 : decode m_Mo_isSame.2.1 56 = .ok (.iload_n 2, 1) := by decide +kernel
theorem dc_Mo_isSame_57 : decode m_Mo_isSame.2.1 57 = .ok (.iload 7, 2) := by decide +kernel
theorem dc_Mo_isSame_59 : decode m_Mo_isSame.2.1 59 = .ok (.iadd, 1) := by decide +kernel
theorem dc_Mo_isSame_60 : decode m_Mo_isSame.2.1 60 = .ok (.iload_n 3, 1) := by decide +kernel
theorem dc_Mo_isSame_61 : decode m_Mo_isSame.2.1 61 = .ok (.iload 4, 2) := by decide +kernel
theorem dc_Mo_isSame_63 : decode m_Mo_isSame.2.1 63 = .ok (.iload 7, 2) := by decide +kernel
theorem dc_Mo_isSame_65 : decode m_Mo_isSame.2.1 65 = .ok (.iadd, 1) := by decide +kernel
theorem dc_Mo_isSame_66 : decode m_Mo_isSame.2.1 66 = .ok (.invokevirtual 424, 3) := by decide +kernel
theorem dc_Mo_isSame_69 : decode m_Mo_isSame.2.1 69 = .ok (.istore 6, 2) := by decide +kernel
theorem dc_Mo_isSame_71 : decode m_Mo_isSame.2.1 71 = .ok (.iload 6, 2) := by decide +kernel
theorem dc_Mo_isSame_73 : decode m_Mo_isSame.2.1 73 = .ok (.ifCond .eq 85, 3) := by decide +kernel
theorem dc_Mo_isSame_76 : decode m_Mo_isSame.2.1 76 = .ok (.iload 7, 2) := by decide +kernel
theorem dc_Mo_isSame_78 : decode m_Mo_isSame.2.1 78 = .ok (.ifCond .le 80, 3) := by decide +kernel
theorem dc_Mo_isSame_81 : decode m_Mo_isSame.2.1 81 = .ok (.aload_n 0, 1) := by decide +kernel
theorem dc_Mo_isSame_82 : decode m_Mo_isSame.2.1 82 = .ok (.getfield 68, 3) := by decide +kernel
theorem dc_Mo_isSame_85 : decode m_Mo_isSame.2.1 85 = .ok (.sipush 500, 3) := by decide +kernel
theorem dc_Mo_isSame_88 : decode m_Mo_isSame.2.1 88 = .ok (.iload_n 1, 1) := by decide +kernel
theorem dc_Mo_isSame_89 : decode m_Mo_isSame.2.1 89 = .ok (.imul, 1) := by decide +kernel
theorem dc_Mo_isSame_90 : decode m_Mo_isSame.2.1 90 = .ok (.iload_n 2, 1) := by decide +kernel
theorem dc_Mo_isSame_91 : decode m_Mo_isSame.2.1 91 = .ok (.iadd, 1) := by decide +kernel
theorem dc_Mo_isSame_92 : decode m_Mo_isSame.2.1 92 = .ok (.iload 7, 2) := by decide +kernel
theorem dc_Mo_isSame_94 : decode m_Mo_isSame.2.1 94 = .ok (.iadd, 1) := by decide +kernel
theorem dc_Mo_isSame_95 : decode m_Mo_isSame.2.1 95 = .ok (.iaload, 1) := by decide +kernel
theorem dc_Mo_isSame_96 : decode m_Mo_isSame.2.1 96 = .ok (.aload_n 0, 1) := by decide +kernel
theorem dc_Mo_isSame_97 : decode m_Mo_isSame.2.1 97 = .ok (.getfield 68, 3) := by decide +kernel
theorem dc_Mo_isSame_100 : decode m_Mo_isSame.2.1 100 = .ok (.sipush 500, 3) := by decide +kernel
theorem dc_Mo_isSame_103 : decode m_Mo_isSame.2.1 103 = .ok (.iload_n 3, 1) := by decide +kernel
theorem dc_Mo_isSame_104 : decode m_Mo_isSame.2.1 104 = .ok (.imul, 1) := by decide +kernel
theorem dc_Mo_isSame_105 : decode m_Mo_isSame.2.1 105 = .ok (.iload 4, 2) := by decide +kernel
theorem dc_Mo_isSame_107 : decode m_Mo_isSame.2.1 107 = .ok (.iadd, 1) := by decide +kernel
theorem dc_Mo_isSame_108 : decode m_Mo_isSame.2.1 108 = .ok (.iload 7, 2) := by decide +kernel
theorem dc_Mo_isSame_110 : decode m_Mo_isSame.2.1 110 = .ok (.iadd, 1) := by decide +kernel
theorem dc_Mo_isSame_111 : decode m_Mo_isSame.2.1 111 = .ok (.iaload, 1) := by decide +kernel
theorem dc_Mo_isSame_112 : decode m_Mo_isSame.2.1 112 = .ok (.if_icmp .ne 43, 3) := by decide +kernel
theorem dc_Mo_isSame_115 : decode m_Mo_isSame.2.1 115 = .ok (.aload_n 0, 1) := by decide +kernel
theorem dc_Mo_isSame_116 : decode m_Mo_isSame.2.1 116 = .ok (.getfield 68, 3) := by decide +kernel
theorem dc_Mo_isSame_119 : decode m_Mo_isSame.2.1 119 = .ok (.sipush 500, 3) := by decide +kernel
theorem dc_Mo_isSame_122 : decode m_Mo_isSame.2.1 122 = .ok (.iload_n 1, 1) := by decide +kernel
theorem dc_Mo_isSame_123 : decode m_Mo_isSame.2.1 123 = .ok (.imul, 1) := by decide +kernel
theorem dc_Mo_isSame_124 : decode m_Mo_isSame.2.1 124 = .ok (.iload_n 2, 1) := by decide +kernel
theorem dc_Mo_isSame_125 : decode m_Mo_isSame.2.1 125 = .ok (.iadd, 1) := by decide +kernel
theorem dc_Mo_isSame_126 : decode m_Mo_isSame.2.1 126 = .ok (.iload 7, 2) := by decide +kernel
theorem dc_Mo_isSame_128 : decode m_Mo_isSame.2.1 128 = .ok (.iadd, 1) := by decide +kernel
theorem dc_Mo_isSame_129 : decode m_Mo_isSame.2.1 129 = .ok (.iaload, 1) := by decide +kernel
theorem dc_Mo_isSame_130 : decode m_Mo_isSame.2.1 130 = .ok (.ifCond .lt 21, 3) := by decide +kernel
theorem dc_Mo_isSame_133 : decode m_Mo_isSame.2.1 133 = .ok (.aload_n 0, 1) := by decide +kernel
theorem dc_Mo_isSame_134 : decode m_Mo_isSame.2.1 134 = .ok (.iload_n 1, 1) := by decide +kernel
theorem dc_Mo_isSame_135 : decode m_Mo_isSame.2.1 135 = .ok (.iload_n 2, 1) := by decide +kernel
theorem dc_Mo_isSame_136 : decode m_Mo_isSame.2.1 136 = .ok (.iload 7, 2) := by decide +kernel
theorem dc_Mo_isSame_138 : decode m_Mo_isSame.2.1 138 = .ok (.iadd, 1) := by decide +kernel
theorem dc_Mo_isSame_139 : decode m_Mo_isSame.2.1 139 = .ok (.iload_n 3, 1) := by decide +kernel
theorem dc_Mo_isSame_140 : decode m_Mo_isSame.2.1 140 = .ok (.iload 4, 2) := by decide +kernel
theorem dc_Mo_isSame_142 : decode m_Mo_isSame.2.1 142 = .ok (.iload 7, 2) := by decide +kernel
theorem dc_Mo_isSame_144 : decode m_Mo_isSame.2.1 144 = .ok (.iadd, 1) := by decide +kernel
theorem dc_Mo_isSame_145 : decode m_Mo_isSame.2.1 145 = .ok (.invokevirtual 428, 3) := by decide +kernel
theorem dc_Mo_isSame_148 : decode m_Mo_isSame.2.1 148 = .ok (.ifCond .ne 7, 3) := by decide +kernel
theorem dc_Mo_isSame_151 : decode m_Mo_isSame.2.1 151 = .ok (.iconst 1, 1) := by decide +kernel
theorem dc_Mo_isSame_152 : decode m_Mo_isSame.2.1 152 = .ok (.goto 4, 3) := by decide +kernel
theorem dc_Mo_isSame_155 : decode m_Mo_isSame.2.1 155 = .ok (.iconst 0, 1) := by decide +kernel
theorem dc_Mo_isSame_156 : decode m_Mo_isSame.2.1 156 = .ok (.istore 6, 2) := by decide +kernel
theorem dc_Mo_isSame_158 : decode m_Mo_isSame.2.1 158 = .ok (.iinc 7 1, 3) := by decide +kernel
theorem dc_Mo_isSame_161 : decode m_Mo_isSame.2.1 161 = .ok (.goto (-119), 3) := by decide +kernel
theorem dc_Mo_isSame_164 : decode m_Mo_isSame.2.1 164 = .ok (.iload 6, 2) := by decide +kernel
theorem dc_Mo_isSame_166 : decode m_Mo_isSame.2.1 166 = .ok (.ireturn, 1) := by decide +kernel
theorem b_Mo_isSame_0 {E : En_t} {d : Nat} {σ : S_t} {Q : Option Value → S_t → Prop} {x1 : Int32} {x2 : Int32} {x3 : Int32} {x4 : Int32}
    (h : vp_in (((500 : Int32) * x1) + x2) 4500 ∧ (vp_in (((500 : Int32) * x3) + x4) 4500 ∧ ((¬ (gI σ 17 (((500 : Int32) * x1) + x2).toNatClampNeg) = (gI σ 17 (((500 : Int32) * x3) + x4).toNatClampNeg) → JE E (d + 1) m_Mo_isSame 37 [(0, pv E 0), (1, .int x1), (2, .int x2), (3, .int x3), (4, .int x4), (5, .int (gI σ 17 (((500 : Int32) * x1) + x2).toNatClampNeg))] [.int (0 : Int32)] σ Q) ∧ ((gI σ 17 (((500 : Int32) * x1) + x2).toNatClampNeg) = (gI σ 17 (((500 : Int32) * x3) + x4).toNatClampNeg) → JE E (d + 1) m_Mo_isSame 37 [(0, pv E 0), (1, .int x1), (2, .int x2), (3, .int x3), (4, .int x4), (5, .int (gI σ 17 (((500 : Int32) * x1) + x2).toNatClampNeg))] [.int (1 : Int32)] σ Q)))) :
    JE E (d + 1) m_Mo_isSame 0 [(0, pv E 0), (1, .int x1), (2, .int x2), (3, .int x3), (4, .int x4)] [] σ Q := by
  refine J_aload_n dc_Mo_isSame_0 (Eq.refl 1) 0 rfl ?_
  refine J_getF (y := 17) dc_Mo_isSame_1 (Eq.refl 4) fl_Mo_59 (Nat.le_of_ble_eq_true rfl) rfl (Or.inl rfl) rfl ?_
  refine J_sipush (v := (500 : Int32)) dc_Mo_isSame_4 (Eq.refl 7) rfl ?_
  refine J_iload_n dc_Mo_isSame_7 (Eq.refl 8) 1 rfl ?_
  refine J_imul dc_Mo_isSame_8 (Eq.refl 9) ?_
  refine J_iload_n dc_Mo_isSame_9 (Eq.refl 10) 2 rfl ?_
  refine J_iadd dc_Mo_isSame_10 (Eq.refl 11) ?_
  obtain ⟨hg, h⟩ := h
  refine J_iald dc_Mo_isSame_11 (Eq.refl 12) rfl rfl hg ?_
  refine J_istore (L' := [(5, .int (gI σ 17 (((500 : Int32) * x1) + x2).toNatClampNeg)), (0, pv E 0), (1, .int x1), (2, .int x2), (3, .int x3), (4, .int x4)]) dc_Mo_isSame_12 (Eq.refl 14) (Nat.le_of_ble_eq_true rfl) rfl ?_
  refine J_iload dc_Mo_isSame_14 (Eq.refl 16) 0 rfl ?_
  refine J_aload_n dc_Mo_isSame_16 (Eq.refl 17) 1 rfl ?_
  refine J_getF (y := 17) dc_Mo_isSame_17 (Eq.refl 20) fl_Mo_59 (Nat.le_of_ble_eq_true rfl) rfl (Or.inl rfl) rfl ?_
  refine J_sipush (v := (500 : Int32)) dc_Mo_isSame_20 (Eq.refl 23) rfl ?_
  refine J_iload_n dc_Mo_isSame_23 (Eq.refl 24) 4 rfl ?_
  refine J_imul dc_Mo_isSame_24 (Eq.refl 25) ?_
  refine J_iload dc_Mo_isSame_25 (Eq.refl 27) 5 rfl ?_
  refine J_iadd dc_Mo_isSame_27 (Eq.refl 28) ?_
  obtain ⟨hg, h⟩ := h
  refine J_iald dc_Mo_isSame_28 (Eq.refl 29) rfl rfl hg ?_
  refine J_icmp_ne dc_Mo_isSame_29 (Eq.refl 32) rfl (fun hc => ?_) (fun hc => ?_)
  · have h := h.1 hc
    refine J_iconst (v := (0 : Int32)) dc_Mo_isSame_36 (Eq.refl 37) rfl ?_
    refine J_sub [1, 2, 3, 4, 5, 0] rfl ?_
    exact h
  · have h := h.2 hc
    refine J_iconst (v := (1 : Int32)) dc_Mo_isSame_32 (Eq.refl 33) rfl ?_
    refine J_goto dc_Mo_isSame_33 rfl ?_
    refine J_sub [1, 2, 3, 4, 5, 0] rfl ?_
    exact h
theorem b_Mo_isSame_37 {E : En_t} {d : Nat} {σ : S_t} {Q : Option Value → S_t → Prop} {x1 : Int32} {x2 : Int32} {x3 : Int32} {x4 : Int32} {x5 : Int32} {s0 : Int32}
    (h : JE E (d + 1) m_Mo_isSame 42 [(0, pv E 0), (1, .int x1), (2, .int x2), (3, .int x3), (4, .int x4), (5, .int x5), (6, .int s0), (7, .int (0 : Int32))] [] σ Q) :
    JE E (d + 1) m_Mo_isSame 37 [(0, pv E 0), (1, .int x1), (2, .int x2), (3, .int x3), (4, .int x4), (5, .int x5)] [.int s0] σ Q := by
  refine J_istore (L' := [(6, .int s0), (0, pv E 0), (1, .int x1), (2, .int x2), (3, .int x3), (4, .int x4), (5, .int x5)]) dc_Mo_isSame_37 (Eq.refl 39) (Nat.le_of_ble_eq_true rfl) rfl ?_
  refine J_iconst (v := (0 : Int32)) dc_Mo_isSame_39 (Eq.refl 40) rfl ?_
  refine J_istore (L' := [(7, .int (0 : Int32)), (6, .int s0), (0, pv E 0), (1, .int x1), (2, .int x2), (3, .int x3), (4, .int x4), (5, .int x5)]) dc_Mo_isSame_40 (Eq.refl 42) (Nat.le_of_ble_eq_true rfl) rfl ?_
  refine J_sub [2, 3, 4, 5, 6, 7, 1, 0] rfl ?_
  exact h
theorem b_Mo_isSame_42 {E : En_t} {d : Nat} {σ : S_t} {Q : Option Value → S_t → Prop} {x1 : Int32} {x2 : Int32} {x3 : Int32} {x4 : Int32} {x5 : Int32} {x6 : Int32} {x7 : Int32}
    (h : (x5 ≤ x7 → narrow .boolean (.int x6) = .int x6 ∧ Q (some (.int x6)) σ) ∧ (¬ x5 ≤ x7 → (x6 = 0 → narrow .boolean (.int x6) = .int x6 ∧ Q (some (.int x6)) σ) ∧ (¬ x6 = 0 → CI E d m_Mo_isLike [pv E 0, .int x1, .int (x2 + x7), .int x3, .int (x4 + x7)] σ (fun r2 σ1 => (r2 = 0 → JE E (d + 1) m_Mo_isSame 158 [(0, pv E 0), (1, .int x1), (2, .int x2), (3, .int x3), (4, .int x4), (5, .int x5), (6, .int r2), (7, .int x7)] [] σ1 Q) ∧ (¬ r2 = 0 → (x7 ≤ 0 → JE E (d + 1) m_Mo_isSame 158 [(0, pv E 0), (1, .int x1), (2, .int x2), (3, .int x3), (4, .int x4), (5, .int x5), (6, .int r2), (7, .int x7)] [] σ1 Q) ∧ (¬ x7 ≤ 0 → vp_in ((((500 : Int32) * x1) + x2) + x7) 4500 ∧ (vp_in ((((500 : Int32) * x3) + x4) + x7) 4500 ∧ ((¬ (gI σ1 20 ((((500 : Int32) * x1) + x2) + x7).toNatClampNeg) = (gI σ1 20 ((((500 : Int32) * x3) + x4) + x7).toNatClampNeg) → JE E (d + 1) m_Mo_isSame 155 [(0, pv E 0), (1, .int x1), (2, .int x2), (3, .int x3), (4, .int x4), (5, .int x5), (7, .int x7)] [] σ1 Q) ∧ ((gI σ1 20 ((((500 : Int32) * x1) + x2) + x7).toNatClampNeg) = (gI σ1 20 ((((500 : Int32) * x3) + x4) + x7).toNatClampNeg) → vp_in ((((500 : Int32) * x1) + x2) + x7) 4500 ∧ (((gI σ1 20 ((((500 : Int32) * x1) + x2) + x7).toNatClampNeg) < 0 → JE E (d + 1) m_Mo_isSame 151 [(0, pv E 0), (1, .int x1), (2, .int x2), (3, .int x3), (4, .int x4), (5, .int x5), (7, .int x7)] [] σ1 Q) ∧ (¬ (gI σ1 20 ((((500 : Int32) * x1) + x2) + x7).toNatClampNeg) < 0 → CI E d m_Mo_namedLike [pv E 0, .int x1, .int (x2 + x7), .int x3, .int (x4 + x7)] σ1 (fun r4 σ3 => (¬ r4 = 0 → JE E (d + 1) m_Mo_isSame 155 [(0, pv E 0), (1, .int x1), (2, .int x2), (3, .int x3), (4, .int x4), (5, .int x5), (7, .int x7)] [] σ3 Q) ∧ (r4 = 0 → JE E (d + 1) m_Mo_isSame 151 [(0, pv E 0), (1, .int x1), (2, .int x2), (3, .int x3), (4, .int x4), (5, .int x5), (7, .int x7)] [] σ3 Q))))))))))))) :
    JE E (d + 1) m_Mo_isSame 42 [(0, pv E 0), (1, .int x1), (2, .int x2), (3, .int x3), (4, .int x4), (5, .int x5), (6, .int x6), (7, .int x7)] [] σ Q := by
  refine J_iload dc_Mo_isSame_42 (Eq.refl 44) 7 rfl ?_
  refine J_iload dc_Mo_isSame_44 (Eq.refl 46) 5 rfl ?_
  refine J_icmp_ge dc_Mo_isSame_46 (Eq.refl 49) rfl (fun hc => ?_) (fun hc => ?_)
  · have h := h.1 hc
    refine J_iload dc_Mo_isSame_164 (Eq.refl 166) 6 rfl ?_
    exact J_zret dc_Mo_isSame_166 rfl h.1 h.2
  · have h := h.2 hc
    refine J_iload dc_Mo_isSame_49 (Eq.refl 51) 6 rfl ?_
    refine J_if_eq dc_Mo_isSame_51 (Eq.refl 54) rfl (fun hc => ?_) (fun hc => ?_)
    · have h := h.1 hc
      refine J_iload dc_Mo_isSame_164 (Eq.refl 166) 6 rfl ?_
      exact J_zret dc_Mo_isSame_166 rfl h.1 h.2
    · have h := h.2 hc
      refine J_aload_n dc_Mo_isSame_54 (Eq.refl 55) 0 rfl ?_
      refine J_iload_n dc_Mo_isSame_55 (Eq.refl 56) 1 rfl ?_
      refine J_iload_n dc_Mo_isSame_56 (Eq.refl 57) 2 rfl ?_
      refine J_iload dc_Mo_isSame_57 (Eq.refl 59) 7 rfl ?_
      refine J_iadd dc_Mo_isSame_59 (Eq.refl 60) ?_
      refine J_iload_n dc_Mo_isSame_60 (Eq.refl 61) 3 rfl ?_
      refine J_iload dc_Mo_isSame_61 (Eq.refl 63) 4 rfl ?_
      refine J_iload dc_Mo_isSame_63 (Eq.refl 65) 7 rfl ?_
      refine J_iadd dc_Mo_isSame_65 (Eq.refl 66) ?_
      refine J_callVI (As := [.int x1, .int (x2 + x7), .int x3, .int (x4 + x7)]) (st := []) dc_Mo_isSame_66 (Eq.refl 69) lk_Mo_424 mi_Mo_isLike rfl (Nat.le_of_ble_eq_true rfl) rfl rfl (Nat.le_of_ble_eq_true rfl) rfl (Nat.le_of_ble_eq_true rfl) (CI.mono h (fun r2 σ1 h => ?_))
      refine J_istore (L' := [(6, .int r2), (0, pv E 0), (1, .int x1), (2, .int x2), (3, .int x3), (4, .int x4), (5, .int x5), (7, .int x7)]) dc_Mo_isSame_69 (Eq.refl 71) (Nat.le_of_ble_eq_true rfl) rfl ?_
      refine J_iload dc_Mo_isSame_71 (Eq.refl 73) 0 rfl ?_
      refine J_if_eq dc_Mo_isSame_73 (Eq.refl 76) rfl (fun hc => ?_) (fun hc => ?_)
      · have h := h.1 hc
        refine J_sub [1, 2, 3, 4, 5, 6, 0, 7] rfl ?_
        exact h
      · have h := h.2 hc
        refine J_iload dc_Mo_isSame_76 (Eq.refl 78) 7 rfl ?_
        refine J_if_le dc_Mo_isSame_78 (Eq.refl 81) rfl (fun hc => ?_) (fun hc => ?_)
        · have h := h.1 hc
          refine J_sub [1, 2, 3, 4, 5, 6, 0, 7] rfl ?_
          exact h
        · have h := h.2 hc
          refine J_aload_n dc_Mo_isSame_81 (Eq.refl 82) 1 rfl ?_
          refine J_getF (y := 20) dc_Mo_isSame_82 (Eq.refl 85) fl_Mo_68 (Nat.le_of_ble_eq_true rfl) rfl (Or.inl rfl) rfl ?_
          refine J_sipush (v := (500 : Int32)) dc_Mo_isSame_85 (Eq.refl 88) rfl ?_
          refine J_iload_n dc_Mo_isSame_88 (Eq.refl 89) 2 rfl ?_
          refine J_imul dc_Mo_isSame_89 (Eq.refl 90) ?_
          refine J_iload_n dc_Mo_isSame_90 (Eq.refl 91) 3 rfl ?_
          refine J_iadd dc_Mo_isSame_91 (Eq.refl 92) ?_
          refine J_iload dc_Mo_isSame_92 (Eq.refl 94) 7 rfl ?_
          refine J_iadd dc_Mo_isSame_94 (Eq.refl 95) ?_
          obtain ⟨hg, h⟩ := h
          refine J_iald dc_Mo_isSame_95 (Eq.refl 96) rfl rfl hg ?_
          refine J_aload_n dc_Mo_isSame_96 (Eq.refl 97) 1 rfl ?_
          refine J_getF (y := 20) dc_Mo_isSame_97 (Eq.refl 100) fl_Mo_68 (Nat.le_of_ble_eq_true rfl) rfl (Or.inl rfl) rfl ?_
          refine J_sipush (v := (500 : Int32)) dc_Mo_isSame_100 (Eq.refl 103) rfl ?_
          refine J_iload_n dc_Mo_isSame_103 (Eq.refl 104) 4 rfl ?_
          refine J_imul dc_Mo_isSame_104 (Eq.refl 105) ?_
          refine J_iload dc_Mo_isSame_105 (Eq.refl 107) 5 rfl ?_
          refine J_iadd dc_Mo_isSame_107 (Eq.refl 108) ?_
          refine J_iload dc_Mo_isSame_108 (Eq.refl 110) 7 rfl ?_
          refine J_iadd dc_Mo_isSame_110 (Eq.refl 111) ?_
          obtain ⟨hg, h⟩ := h
          refine J_iald dc_Mo_isSame_111 (Eq.refl 112) rfl rfl hg ?_
          refine J_icmp_ne dc_Mo_isSame_112 (Eq.refl 115) rfl (fun hc => ?_) (fun hc => ?_)
          · have h := h.1 hc
            refine J_sub [1, 2, 3, 4, 5, 6, 7] rfl ?_
            exact h
          · have h := h.2 hc
            refine J_aload_n dc_Mo_isSame_115 (Eq.refl 116) 1 rfl ?_
            refine J_getF (y := 20) dc_Mo_isSame_116 (Eq.refl 119) fl_Mo_68 (Nat.le_of_ble_eq_true rfl) rfl (Or.inl rfl) rfl ?_
            refine J_sipush (v := (500 : Int32)) dc_Mo_isSame_119 (Eq.refl 122) rfl ?_
            refine J_iload_n dc_Mo_isSame_122 (Eq.refl 123) 2 rfl ?_
            refine J_imul dc_Mo_isSame_123 (Eq.refl 124) ?_
            refine J_iload_n dc_Mo_isSame_124 (Eq.refl 125) 3 rfl ?_
            refine J_iadd dc_Mo_isSame_125 (Eq.refl 126) ?_
            refine J_iload dc_Mo_isSame_126 (Eq.refl 128) 7 rfl ?_
            refine J_iadd dc_Mo_isSame_128 (Eq.refl 129) ?_
            obtain ⟨hg, h⟩ := h
            refine J_iald dc_Mo_isSame_129 (Eq.refl 130) rfl rfl hg ?_
            refine J_if_lt dc_Mo_isSame_130 (Eq.refl 133) rfl (fun hc => ?_) (fun hc => ?_)
            · have h := h.1 hc
              refine J_sub [1, 2, 3, 4, 5, 6, 7] rfl ?_
              exact h
            · have h := h.2 hc
              refine J_aload_n dc_Mo_isSame_133 (Eq.refl 134) 1 rfl ?_
              refine J_iload_n dc_Mo_isSame_134 (Eq.refl 135) 2 rfl ?_
              refine J_iload_n dc_Mo_isSame_135 (Eq.refl 136) 3 rfl ?_
              refine J_iload dc_Mo_isSame_136 (Eq.refl 138) 7 rfl ?_
              refine J_iadd dc_Mo_isSame_138 (Eq.refl 139) ?_
              refine J_iload_n dc_Mo_isSame_139 (Eq.refl 140) 4 rfl ?_
              refine J_iload dc_Mo_isSame_140 (Eq.refl 142) 5 rfl ?_
              refine J_iload dc_Mo_isSame_142 (Eq.refl 144) 7 rfl ?_
              refine J_iadd dc_Mo_isSame_144 (Eq.refl 145) ?_
              refine J_callVI (As := [.int x1, .int (x2 + x7), .int x3, .int (x4 + x7)]) (st := []) dc_Mo_isSame_145 (Eq.refl 148) lk_Mo_428 mi_Mo_namedLike rfl (Nat.le_of_ble_eq_true rfl) rfl rfl (Nat.le_of_ble_eq_true rfl) rfl (Nat.le_of_ble_eq_true rfl) (CI.mono h (fun r4 σ3 h => ?_))
              refine J_if_ne dc_Mo_isSame_148 (Eq.refl 151) rfl (fun hc => ?_) (fun hc => ?_)
              · have h := h.1 hc
                refine J_sub [1, 2, 3, 4, 5, 6, 7] rfl ?_
                exact h
              · have h := h.2 hc
                refine J_sub [1, 2, 3, 4, 5, 6, 7] rfl ?_
                exact h
theorem b_Mo_isSame_151 {E : En_t} {d : Nat} {σ : S_t} {Q : Option Value → S_t → Prop} {x1 : Int32} {x2 : Int32} {x3 : Int32} {x4 : Int32} {x5 : Int32} {x7 : Int32}
    (h : JE E (d + 1) m_Mo_isSame 156 [(0, pv E 0), (1, .int x1), (2, .int x2), (3, .int x3), (4, .int x4), (5, .int x5), (7, .int x7)] [.int (1 : Int32)] σ Q) :
    JE E (d + 1) m_Mo_isSame 151 [(0, pv E 0), (1, .int x1), (2, .int x2), (3, .int x3), (4, .int x4), (5, .int x5), (7, .int x7)] [] σ Q := by
  refine J_iconst (v := (1 : Int32)) dc_Mo_isSame_151 (Eq.refl 152) rfl ?_
  refine J_goto dc_Mo_isSame_152 rfl ?_
  exact h
theorem b_Mo_isSame_155 {E : En_t} {d : Nat} {σ : S_t} {Q : Option Value → S_t → Prop} {x1 : Int32} {x2 : Int32} {x3 : Int32} {x4 : Int32} {x5 : Int32} {x7 : Int32}
    (h : JE E (d + 1) m_Mo_isSame 156 [(0, pv E 0), (1, .int x1), (2, .int x2), (3, .int x3), (4, .int x4), (5, .int x5), (7, .int x7)] [.int (0 : Int32)] σ Q) :
    JE E (d + 1) m_Mo_isSame 155 [(0, pv E 0), (1, .int x1), (2, .int x2), (3, .int x3), (4, .int x4), (5, .int x5), (7, .int x7)] [] σ Q := by
  refine J_iconst (v := (0 : Int32)) dc_Mo_isSame_155 (Eq.refl 156) rfl ?_
  exact h
theorem b_Mo_isSame_156 {E : En_t} {d : Nat} {σ : S_t} {Q : Option Value → S_t → Prop} {x1 : Int32} {x2 : Int32} {x3 : Int32} {x4 : Int32} {x5 : Int32} {x7 : Int32} {s0 : Int32}
    (h : JE E (d + 1) m_Mo_isSame 158 [(0, pv E 0), (1, .int x1), (2, .int x2), (3, .int x3), (4, .int x4), (5, .int x5), (6, .int s0), (7, .int x7)] [] σ Q) :
    JE E (d + 1) m_Mo_isSame 156 [(0, pv E 0), (1, .int x1), (2, .int x2), (3, .int x3), (4, .int x4), (5, .int x5), (7, .int x7)] [.int s0] σ Q := by
  refine J_istore (L' := [(6, .int s0), (0, pv E 0), (1, .int x1), (2, .int x2), (3, .int x3), (4, .int x4), (5, .int x5), (7, .int x7)]) dc_Mo_isSame_156 (Eq.refl 158) (Nat.le_of_ble_eq_true rfl) rfl ?_
  refine J_sub [1, 2, 3, 4, 5, 6, 0, 7] rfl ?_
  exact h
theorem b_Mo_isSame_158 {E : En_t} {d : Nat} {σ : S_t} {Q : Option Value → S_t → Prop} {x1 : Int32} {x2 : Int32} {x3 : Int32} {x4 : Int32} {x5 : Int32} {x6 : Int32} {x7 : Int32}
    (h : JE E (d + 1) m_Mo_isSame 42 [(0, pv E 0), (1, .int x1), (2, .int x2), (3, .int x3), (4, .int x4), (5, .int x5), (6, .int x6), (7, .int (x7 + (1 : Int32)))] [] σ Q) :
    JE E (d + 1) m_Mo_isSame 158 [(0, pv E 0), (1, .int x1), (2, .int x2), (3, .int x3), (4, .int x4), (5, .int x5), (6, .int x6), (7, .int x7)] [] σ Q := by
  refine J_iinc (v := x7 + (1 : Int32)) (L' := [(7, .int (x7 + (1 : Int32))), (0, pv E 0), (1, .int x1), (2, .int x2), (3, .int x3), (4, .int x4), (5, .int x5), (6, .int x6)]) dc_Mo_isSame_158 (Eq.refl 161) 7 rfl rfl (Nat.le_of_ble_eq_true rfl) rfl ?_
  refine J_goto dc_Mo_isSame_161 rfl ?_
  refine J_sub [1, 2, 3, 4, 5, 6, 7, 0] rfl ?_
  exact h
theorem dc_Mo_isLike_0 : decode m_Mo_isLike.2.1 0 = .ok (.sipush 500, 3) := by decide +kernel
theorem dc_Mo_isLike_3 : decode m_Mo_isLike.2.1 3 = .ok (.iload_n 1, 1) := by decide +kernel
theorem dc_Mo_isLike_4 : decode m_Mo_isLike.2.1 4 = .ok (.imul, 1) := by decide +kernel
theorem dc_Mo_isLike_5 : decode m_Mo_isLike.2.1 5 = .ok (.iload_n 2, 1) := by decide +kernel
theorem dc_Mo_isLike_6 : decode m_Mo_isLike.2.1 6 = .ok (.iadd, 1) := by decide +kernel
theorem dc_Mo_isLike_7 : decode m_Mo_isLike.2.1 7 = .ok (.istore 5, 2) := by decide +kernel
theorem dc_Mo_isLike_9 : decode m_Mo_isLike.2.1 9 = .ok (.sipush 500, 3) := by decide +kernel
theorem dc_Mo_isLike_12 : decode m_Mo_isLike.2.1 12 = .ok (.iload_n 3, 1) := by decide +kernel
theorem dc_Mo_isLike_13 : decode m_Mo_isLike.2.1 13 = .ok (.imul, 1) := by decide +kernel
theorem dc_Mo_isLike_14 : decode m_Mo_isLike.2.1 14 = .ok (.iload 4, 2) := by decide +kernel
theorem dc_Mo_isLike_16 : decode m_Mo_isLike.2.1 16 = .ok (.iadd, 1) := by decide +kernel
theorem dc_Mo_isLike_17 : decode m_Mo_isLike.2.1 17 = .ok (.istore 6, 2) := by decide +kernel
theorem dc_Mo_isLike_19 : decode m_Mo_isLike.2.1 19 = .ok (.aload_n 0, 1) := by decide +kernel
theorem dc_Mo_isLike_20 : decode m_Mo_isLike.2.1 20 = .ok (.getfield 47, 3) := by decide +kernel
theorem dc_Mo_isLike_23 : decode m_Mo_isLike.2.1 23 = .ok (.iload 5, 2) := by decide +kernel
theorem dc_Mo_isLike_25 : decode m_Mo_isLike.2.1 25 = .ok (.iaload, 1) := by decide +kernel
theorem dc_Mo_isLike_26 : decode m_Mo_isLike.2.1 26 = .ok (.aload_n 0, 1) := by decide +kernel
theorem dc_Mo_isLike_27 : decode m_Mo_isLike.2.1 27 = .ok (.getfield 47, 3) := by decide +kernel
theorem dc_Mo_isLike_30 : decode m_Mo_isLike.2.1 30 = .ok (.iload 6, 2) := by decide +kernel
theorem dc_Mo_isLike_32 : decode m_Mo_isLike.2.1 32 = .ok (.iaload, 1) := by decide +kernel
theorem dc_Mo_isLike_33 : decode m_Mo_isLike.2.1 33 = .ok (.if_icmp .ne 37, 3) := by decide +kernel
theorem dc_Mo_isLike_36 : decode m_Mo_isLike.2.1 36 = .ok (.aload_n 0, 1) := by decide +kernel
theorem dc_Mo_isLike_37 : decode m_Mo_isLike.2.1 37 = .ok (.getfield 56, 3) := by decide +kernel
theorem dc_Mo_isLike_40 : decode m_Mo_isLike.2.1 40 = .ok (.iload 5, 2) := by decide +kernel
theorem dc_Mo_isLike_42 : decode m_Mo_isLike.2.1 42 = .ok (.iaload, 1) := by decide +kernel
theorem dc_Mo_isLike_43 : decode m_Mo_isLike.2.1 43 = .ok (.aload_n 0, 1) := by decide +kernel
theorem dc_Mo_isLike_44 : decode m_Mo_isLike.2.1 44 = .ok (.getfield 56, 3) := by decide +kernel
theorem dc_Mo_isLike_47 : decode m_Mo_isLike.2.1 47 = .ok (.iload 6, 2) := by decide +kernel
theorem dc_Mo_isLike_49 : decode m_Mo_isLike.2.1 49 = .ok (.iaload, 1) := by decide +kernel
theorem dc_Mo_isLike_50 : decode m_Mo_isLike.2.1 50 = .ok (.if_icmp .ne 20, 3) := by decide +kernel
theorem dc_Mo_isLike_53 : decode m_Mo_isLike.2.1 53 = .ok (.aload_n 0, 1) := by decide +kernel
theorem dc_Mo_isLike_54 : decode m_Mo_isLike.2.1 54 = .ok (.getfield 74, 3) := by decide +kernel
theorem dc_Mo_isLike_57 : decode m_Mo_isLike.2.1 57 = .ok (.iload 5, 2) := by decide +kernel
theorem dc_Mo_isLike_59 : decode m_Mo_isLike.2.1 59 = .ok (.iaload, 1) := by decide +kernel
theorem dc_Mo_isLike_60 : decode m_Mo_isLike.2.1 60 = .ok (.aload_n 0, 1) := by decide +kernel
theorem dc_Mo_isLike_61 : decode m_Mo_isLike.2.1 61 = .ok (.getfield 74, 3) := by decide +kernel
theorem dc_Mo_isLike_64 : decode m_Mo_isLike.2.1 64 = .ok (.iload 6, 2) := by decide +kernel
theorem dc_Mo_isLike_66 : decode m_Mo_isLike.2.1 66 = .ok (.iaload, 1) := by decide +kernel
theorem dc_Mo_isLike_67 : decode m_Mo_isLike.2.1 67 = .ok (.if_icmp .eq 5, 3) := by decide +kernel
theorem dc_Mo_isLike_70 : decode m_Mo_isLike.2.1 70 = .ok (.iconst 0, 1) := by decide +kernel
theorem dc_Mo_isLike_71 : decode m_Mo_isLike.2.1 71 = .ok (.ireturn, 1) := by decide +kernel
theorem dc_Mo_isLike_72 : decode m_Mo_isLike.2.1 72 = .ok (.aload_n 0, 1) := by decide +kernel
theorem dc_Mo_isLike_73 : decode m_Mo_isLike.2.1 73 = .ok (.getfield 47, 3) := by decide +kernel
theorem dc_Mo_isLike_76 : decode m_Mo_isLike.2.1 76 = .ok (.iload 5, 2) := by decide +kernel
theorem dc_Mo_isLike_78 : decode m_Mo_isLike.2.1 78 = .ok (.iaload, 1) := by decide +kernel
theorem dc_Mo_isLike_79 : decode m_Mo_isLike.2.1 79 = .ok (.iconst 4, 1) := by decide +kernel
theorem dc_Mo_isLike_80 : decode m_Mo_isLike.2.1 80 = .ok (.if_icmp .ne 63, 3) := by decide +kernel
theorem dc_Mo_isLike_83 : decode m_Mo_isLike.2.1 83 = .ok (.aload_n 0, 1) := by decide +kernel
theorem dc_Mo_isLike_84 : decode m_Mo_isLike.2.1 84 = .ok (.getfield 88, 3) := by decide +kernel
theorem dc_Mo_isLike_87 : decode m_Mo_isLike.2.1 87 = .ok (.sipush 4000, 3) := by decide +kernel
theorem dc_Mo_isLike_90 : decode m_Mo_isLike.2.1 90 = .ok (.iload_n 1, 1) := by decide +kernel
theorem dc_Mo_isLike_91 : decode m_Mo_isLike.2.1 91 = .ok (.imul, 1) := by decide +kernel
theorem dc_Mo_isLike_92 : decode m_Mo_isLike.2.1 92 = .ok (.aload_n 0, 1) := by decide +kernel
theorem dc_Mo_isLike_93 : decode m_Mo_isLike.2.1 93 = .ok (.getfield 71, 3) := by decide +kernel
theorem dc_Mo_isLike_96 : decode m_Mo_isLike.2.1 96 = .ok (.iload 5, 2) := by decide +kernel
theorem dc_Mo_isLike_98 : decode m_Mo_isLike.2.1 98 = .ok (.iaload, 1) := by decide +kernel
theorem dc_Mo_isLike_99 : decode m_Mo_isLike.2.1 99 = .ok (.iadd, 1) := by decide +kernel
theorem dc_Mo_isLike_100 : decode m_Mo_isLike.2.1 100 = .ok (.aload_n 0, 1) := by decide +kernel
theorem dc_Mo_isLike_101 : decode m_Mo_isLike.2.1 101 = .ok (.getfield 74, 3) := by decide +kernel
theorem dc_Mo_isLike_104 : decode m_Mo_isLike.2.1 104 = .ok (.iload 5, 2) := by decide +kernel
theorem dc_Mo_isLike_106 : decode m_Mo_isLike.2.1 106 = .ok (.iaload, 1) := by decide +kernel
theorem dc_Mo_isLike_107 : decode m_Mo_isLike.2.1 107 = .ok (.aload_n 0, 1) := by decide +kernel
theorem dc_Mo_isLike_108 : decode m_Mo_isLike.2.1 108 = .ok (.getfield 88, 3) := by decide +kernel
theorem dc_Mo_isLike_111 : decode m_Mo_isLike.2.1 111 = .ok (.sipush 4000, 3) := by decide +kernel
theorem dc_Mo_isLike_114 : decode m_Mo_isLike.2.1 114 = .ok (.iload_n 3, 1) := by decide +kernel
theorem dc_Mo_isLike_115 : decode m_Mo_isLike.2.1 115 = .ok (.imul, 1) := by decide +kernel
theorem dc_Mo_isLike_116 : decode m_Mo_isLike.2.1 116 = .ok (.aload_n 0, 1) := by decide +kernel
theorem dc_Mo_isLike_117 : decode m_Mo_isLike.2.1 117 = .ok (.getfield 71, 3) := by decide +kernel
theorem dc_Mo_isLike_120 : decode m_Mo_isLike.2.1 120 = .ok (.iload 6, 2) := by decide +kernel
theorem dc_Mo_isLike_122 : decode m_Mo_isLike.2.1 122 = .ok (.iaload, 1) := by decide +kernel
theorem dc_Mo_isLike_123 : decode m_Mo_isLike.2.1 123 = .ok (.iadd, 1) := by decide +kernel
theorem dc_Mo_isLike_124 : decode m_Mo_isLike.2.1 124 = .ok (.aload_n 0, 1) := by decide +kernel
theorem dc_Mo_isLike_125 : decode m_Mo_isLike.2.1 125 = .ok (.getfield 74, 3) := by decide +kernel
theorem dc_Mo_isLike_128 : decode m_Mo_isLike.2.1 128 = .ok (.iload 6, 2) := by decide +kernel
theorem dc_Mo_isLike_130 : decode m_Mo_isLike.2.1 130 = .ok (.iaload, 1) := by decide +kernel
theorem dc_Mo_isLike_131 : decode m_Mo_isLike.2.1 131 = .ok (.invokestatic 356, 3) := by decide +kernel
theorem dc_Mo_isLike_134 : decode m_Mo_isLike.2.1 134 = .ok (.ifCond .ne 7, 3) := by decide +kernel
theorem dc_Mo_isLike_137 : decode m_Mo_isLike.2.1 137 = .ok (.iconst 1, 1) := by decide +kernel
theorem dc_Mo_isLike_138 : decode m_Mo_isLike.2.1 138 = .ok (.goto 4, 3) := by decide +kernel
theorem dc_Mo_isLike_141 : decode m_Mo_isLike.2.1 141 = .ok (.iconst 0, 1) := by decide +kernel
theorem dc_Mo_isLike_142 : decode m_Mo_isLike.2.1 142 = .ok (.ireturn, 1) := by decide +kernel
theorem dc_Mo_isLike_143 : decode m_Mo_isLike.2.1 143 = .ok (.aload_n 0, 1) := by decide +kernel
theorem dc_Mo_isLike_144 : decode m_Mo_isLike.2.1 144 = .ok (.getfield 83, 3) := by decide +kernel
theorem dc_Mo_isLike_147 : decode m_Mo_isLike.2.1 147 = .ok (.iload 5, 2) := by decide +kernel
theorem dc_Mo_isLike_149 : decode m_Mo_isLike.2.1 149 = .ok (.laload, 1) := by decide +kernel
theorem dc_Mo_isLike_150 : decode m_Mo_isLike.2.1 150 = .ok (.ldc2_w 270, 3) := by decide +kernel
theorem dc_Mo_isLike_153 : decode m_Mo_isLike.2.1 153 = .ok (.land, 1) := by decide +kernel
theorem dc_Mo_isLike_154 : decode m_Mo_isLike.2.1 154 = .ok (.lconst 0, 1) := by decide +kernel
theorem dc_Mo_isLike_155 : decode m_Mo_isLike.2.1 155 = .ok (.lcmp, 1) := by decide +kernel
theorem dc_Mo_isLike_156 : decode m_Mo_isLike.2.1 156 = .ok (.ifCond .ne 23, 3) := by decide +kernel
theorem dc_Mo_isLike_159 : decode m_Mo_isLike.2.1 159 = .ok (.aload_n 0, 1) := by decide +kernel
theorem dc_Mo_isLike_160 : decode m_Mo_isLike.2.1 160 = .ok (.getfield 83, 3) := by decide +kernel
theorem dc_Mo_isLike_163 : decode m_Mo_isLike.2.1 163 = .ok (.iload 6, 2) := by decide +kernel
theorem dc_Mo_isLike_165 : decode m_Mo_isLike.2.1 165 = .ok (.laload, 1) := by decide +kernel
theorem dc_Mo_isLike_166 : decode m_Mo_isLike.2.1 166 = .ok (.ldc2_w 270, 3) := by decide +kernel
theorem dc_Mo_isLike_169 : decode m_Mo_isLike.2.1 169 = .ok (.land, 1) := by decide +kernel
theorem dc_Mo_isLike_170 : decode m_Mo_isLike.2.1 170 = .ok (.lconst 0, 1) := by decide +kernel
theorem dc_Mo_isLike_171 : decode m_Mo_isLike.2.1 171 = .ok (.lcmp, 1) := by decide +kernel
theorem dc_Mo_isLike_172 : decode m_Mo_isLike.2.1 172 = .ok (.ifCond .ne 7, 3) := by decide +kernel
theorem dc_Mo_isLike_175 : decode m_Mo_isLike.2.1 175 = .ok (.iconst 1, 1) := by decide +kernel
theorem dc_Mo_isLike_176 : decode m_Mo_isLike.2.1 176 = .ok (.goto 4, 3) := by decide +kernel
theorem dc_Mo_isLike_179 : decode m_Mo_isLike.2.1 179 = .ok (.iconst 0, 1) := by decide +kernel
theorem dc_Mo_isLike_180 : decode m_Mo_isLike.2.1 180 = .ok (.istore 7, 2) := by decide +kernel
theorem dc_Mo_isLike_182 : decode m_Mo_isLike.2.1 182 = .ok (.iload 7, 2) := by decide +kernel
theorem dc_Mo_isLike_184 : decode m_Mo_isLike.2.1 184 = .ok (.ifCond .ne 21, 3) := by decide +kernel
theorem dc_Mo_isLike_187 : decode m_Mo_isLike.2.1 187 = .ok (.aload_n 0, 1) := by decide +kernel
theorem dc_Mo_isLike_188 : decode m_Mo_isLike.2.1 188 = .ok (.getfield 83, 3) := by decide +kernel
theorem dc_Mo_isLike_191 : decode m_Mo_isLike.2.1 191 = .ok (.iload 5, 2) := by decide +kernel
theorem dc_Mo_isLike_193 : decode m_Mo_isLike.2.1 193 = .ok (.laload, 1) := by decide +kernel
theorem dc_Mo_isLike_194 : decode m_Mo_isLike.2.1 194 = .ok (.aload_n 0, 1) := by decide +kernel
theorem dc_Mo_isLike_195 : decode m_Mo_isLike.2.1 195 = .ok (.getfield 83, 3) := by decide +kernel
theorem dc_Mo_isLike_198 : decode m_Mo_isLike.2.1 198 = .ok (.iload 6, 2) := by decide +kernel
theorem dc_Mo_isLike_200 : decode m_Mo_isLike.2.1 200 = .ok (.laload, 1) := by decide +kernel
theorem dc_Mo_isLike_201 : decode m_Mo_isLike.2.1 201 = .ok (.lcmp, 1) := by decide +kernel
theorem dc_Mo_isLike_202 : decode m_Mo_isLike.2.1 202 = .ok (.ifCond .ne 7, 3) := by decide +kernel
theorem dc_Mo_isLike_205 : decode m_Mo_isLike.2.1 205 = .ok (.iconst 1, 1) := by decide +kernel
theorem dc_Mo_isLike_206 : decode m_Mo_isLike.2.1 206 = .ok (.goto 4, 3) := by decide +kernel
theorem dc_Mo_isLike_209 : decode m_Mo_isLike.2.1 209 = .ok (.iconst 0, 1) := by decide +kernel
theorem dc_Mo_isLike_210 : decode m_Mo_isLike.2.1 210 = .ok (.ireturn, 1) := by decide +kernel
theorem b_Mo_isLike_0 {E : En_t} {d : Nat} {σ : S_t} {Q : Option Value → S_t → Prop} {x1 : Int32} {x2 : Int32} {x3 : Int32} {x4 : Int32}
    (h : vp_in (((500 : Int32) * x1) + x2) 4500 ∧ (vp_in (((500 : Int32) * x3) + x4) 4500 ∧ ((¬ (gI σ 13 (((500 : Int32) * x1) + x2).toNatClampNeg) = (gI σ 13 (((500 : Int32) * x3) + x4).toNatClampNeg) → Q (some (.int (0 : Int32))) σ) ∧ ((gI σ 13 (((500 : Int32) * x1) + x2).toNatClampNeg) = (gI σ 13 (((500 : Int32) * x3) + x4).toNatClampNeg) → vp_in (((500 : Int32) * x1) + x2) 4500 ∧ (vp_in (((500 : Int32) * x3) + x4) 4500 ∧ ((¬ (gI σ 16 (((500 : Int32) * x1) + x2).toNatClampNeg) = (gI σ 16 (((500 : Int32) * x3) + x4).toNatClampNeg) → Q (some (.int (0 : Int32))) σ) ∧ ((gI σ 16 (((500 : Int32) * x1) + x2).toNatClampNeg) = (gI σ 16 (((500 : Int32) * x3) + x4).toNatClampNeg) → vp_in (((500 : Int32) * x1) + x2) 4500 ∧ (vp_in (((500 : Int32) * x3) + x4) 4500 ∧ (((gI σ 22 (((500 : Int32) * x1) + x2).toNatClampNeg) = (gI σ 22 (((500 : Int32) * x3) + x4).toNatClampNeg) → vp_in (((500 : Int32) * x1) + x2) 4500 ∧ ((¬ (gI σ 13 (((500 : Int32) * x1) + x2).toNatClampNeg) = (4 : Int32) → vp_in (((500 : Int32) * x1) + x2) 4500 ∧ ((¬ (lg_cmp ((gL σ 25 (((500 : Int32) * x1) + x2).toNatClampNeg) &&& (9223372036854775807 : Int64)) (0 : Int64)) = 0 → JE E (d + 1) m_Mo_isLike 179 [(0, pv E 0), (5, .int (((500 : Int32) * x1) + x2)), (6, .int (((500 : Int32) * x3) + x4))] [] σ Q) ∧ ((lg_cmp ((gL σ 25 (((500 : Int32) * x1) + x2).toNatClampNeg) &&& (9223372036854775807 : Int64)) (0 : Int64)) = 0 → vp_in (((500 : Int32) * x3) + x4) 4500 ∧ ((¬ (lg_cmp ((gL σ 25 (((500 : Int32) * x3) + x4).toNatClampNeg) &&& (9223372036854775807 : Int64)) (0 : Int64)) = 0 → JE E (d + 1) m_Mo_isLike 179 [(0, pv E 0), (5, .int (((500 : Int32) * x1) + x2)), (6, .int (((500 : Int32) * x3) + x4))] [] σ Q) ∧ ((lg_cmp ((gL σ 25 (((500 : Int32) * x3) + x4).toNatClampNeg) &&& (9223372036854775807 : Int64)) (0 : Int64)) = 0 → JE E (d + 1) m_Mo_isLike 180 [(0, pv E 0), (5, .int (((500 : Int32) * x1) + x2)), (6, .int (((500 : Int32) * x3) + x4))] [.int (1 : Int32)] σ Q))))) ∧ ((gI σ 13 (((500 : Int32) * x1) + x2).toNatClampNeg) = (4 : Int32) → vp_in (((500 : Int32) * x1) + x2) 4500 ∧ (vp_in (((500 : Int32) * x1) + x2) 4500 ∧ (vp_in (((500 : Int32) * x3) + x4) 4500 ∧ (vp_in (((500 : Int32) * x3) + x4) 4500 ∧ (CI E d m_Mo_compared [pv E 26, .int (((4000 : Int32) * x1) + (gI σ 21 (((500 : Int32) * x1) + x2).toNatClampNeg)), .int (gI σ 22 (((500 : Int32) * x1) + x2).toNatClampNeg), pv E 26, .int (((4000 : Int32) * x3) + (gI σ 21 (((500 : Int32) * x3) + x4).toNatClampNeg)), .int (gI σ 22 (((500 : Int32) * x3) + x4).toNatClampNeg)] σ (fun r2 σ1 => (¬ r2 = 0 → Q (some (.int (0 : Int32))) σ1) ∧ (r2 = 0 → Q (some (.int (1 : Int32))) σ1))))))))) ∧ (¬ (gI σ 22 (((500 : Int32) * x1) + x2).toNatClampNeg) = (gI σ 22 (((500 : Int32) * x3) + x4).toNatClampNeg) → Q (some (.int (0 : Int32))) σ)))))))))) :
    JE E (d + 1) m_Mo_isLike 0 [(0, pv E 0), (1, .int x1), (2, .int x2), (3, .int x3), (4, .int x4)] [] σ Q := by
  refine J_sipush (v := (500 : Int32)) dc_Mo_isLike_0 (Eq.refl 3) rfl ?_
  refine J_iload_n dc_Mo_isLike_3 (Eq.refl 4) 1 rfl ?_
  refine J_imul dc_Mo_isLike_4 (Eq.refl 5) ?_
  refine J_iload_n dc_Mo_isLike_5 (Eq.refl 6) 2 rfl ?_
  refine J_iadd dc_Mo_isLike_6 (Eq.refl 7) ?_
  refine J_istore (L' := [(5, .int (((500 : Int32) * x1) + x2)), (0, pv E 0), (1, .int x1), (2, .int x2), (3, .int x3), (4, .int x4)]) dc_Mo_isLike_7 (Eq.refl 9) (Nat.le_of_ble_eq_true rfl) rfl ?_
  refine J_sipush (v := (500 : Int32)) dc_Mo_isLike_9 (Eq.refl 12) rfl ?_
  refine J_iload_n dc_Mo_isLike_12 (Eq.refl 13) 4 rfl ?_
  refine J_imul dc_Mo_isLike_13 (Eq.refl 14) ?_
  refine J_iload dc_Mo_isLike_14 (Eq.refl 16) 5 rfl ?_
  refine J_iadd dc_Mo_isLike_16 (Eq.refl 17) ?_
  refine J_istore (L' := [(6, .int (((500 : Int32) * x3) + x4)), (5, .int (((500 : Int32) * x1) + x2)), (0, pv E 0), (1, .int x1), (2, .int x2), (3, .int x3), (4, .int x4)]) dc_Mo_isLike_17 (Eq.refl 19) (Nat.le_of_ble_eq_true rfl) rfl ?_
  refine J_aload_n dc_Mo_isLike_19 (Eq.refl 20) 2 rfl ?_
  refine J_getF (y := 13) dc_Mo_isLike_20 (Eq.refl 23) fl_Mo_47 (Nat.le_of_ble_eq_true rfl) rfl (Or.inl rfl) rfl ?_
  refine J_iload dc_Mo_isLike_23 (Eq.refl 25) 1 rfl ?_
  obtain ⟨hg, h⟩ := h
  refine J_iald dc_Mo_isLike_25 (Eq.refl 26) rfl rfl hg ?_
  refine J_aload_n dc_Mo_isLike_26 (Eq.refl 27) 2 rfl ?_
  refine J_getF (y := 13) dc_Mo_isLike_27 (Eq.refl 30) fl_Mo_47 (Nat.le_of_ble_eq_true rfl) rfl (Or.inl rfl) rfl ?_
  refine J_iload dc_Mo_isLike_30 (Eq.refl 32) 0 rfl ?_
  obtain ⟨hg, h⟩ := h
  refine J_iald dc_Mo_isLike_32 (Eq.refl 33) rfl rfl hg ?_
  refine J_icmp_ne dc_Mo_isLike_33 (Eq.refl 36) rfl (fun hc => ?_) (fun hc => ?_)
  · have h := h.1 hc
    refine J_iconst (v := (0 : Int32)) dc_Mo_isLike_70 (Eq.refl 71) rfl ?_
    exact J_zret dc_Mo_isLike_71 rfl rfl h
  · have h := h.2 hc
    refine J_aload_n dc_Mo_isLike_36 (Eq.refl 37) 2 rfl ?_
    refine J_getF (y := 16) dc_Mo_isLike_37 (Eq.refl 40) fl_Mo_56 (Nat.le_of_ble_eq_true rfl) rfl (Or.inl rfl) rfl ?_
    refine J_iload dc_Mo_isLike_40 (Eq.refl 42) 1 rfl ?_
    obtain ⟨hg, h⟩ := h
    refine J_iald dc_Mo_isLike_42 (Eq.refl 43) rfl rfl hg ?_
    refine J_aload_n dc_Mo_isLike_43 (Eq.refl 44) 2 rfl ?_
    refine J_getF (y := 16) dc_Mo_isLike_44 (Eq.refl 47) fl_Mo_56 (Nat.le_of_ble_eq_true rfl) rfl (Or.inl rfl) rfl ?_
    refine J_iload dc_Mo_isLike_47 (Eq.refl 49) 0 rfl ?_
    obtain ⟨hg, h⟩ := h
    refine J_iald dc_Mo_isLike_49 (Eq.refl 50) rfl rfl hg ?_
    refine J_icmp_ne dc_Mo_isLike_50 (Eq.refl 53) rfl (fun hc => ?_) (fun hc => ?_)
    · have h := h.1 hc
      refine J_iconst (v := (0 : Int32)) dc_Mo_isLike_70 (Eq.refl 71) rfl ?_
      exact J_zret dc_Mo_isLike_71 rfl rfl h
    · have h := h.2 hc
      refine J_aload_n dc_Mo_isLike_53 (Eq.refl 54) 2 rfl ?_
      refine J_getF (y := 22) dc_Mo_isLike_54 (Eq.refl 57) fl_Mo_74 (Nat.le_of_ble_eq_true rfl) rfl (Or.inl rfl) rfl ?_
      refine J_iload dc_Mo_isLike_57 (Eq.refl 59) 1 rfl ?_
      obtain ⟨hg, h⟩ := h
      refine J_iald dc_Mo_isLike_59 (Eq.refl 60) rfl rfl hg ?_
      refine J_aload_n dc_Mo_isLike_60 (Eq.refl 61) 2 rfl ?_
      refine J_getF (y := 22) dc_Mo_isLike_61 (Eq.refl 64) fl_Mo_74 (Nat.le_of_ble_eq_true rfl) rfl (Or.inl rfl) rfl ?_
      refine J_iload dc_Mo_isLike_64 (Eq.refl 66) 0 rfl ?_
      obtain ⟨hg, h⟩ := h
      refine J_iald dc_Mo_isLike_66 (Eq.refl 67) rfl rfl hg ?_
      refine J_icmp_eq dc_Mo_isLike_67 (Eq.refl 70) rfl (fun hc => ?_) (fun hc => ?_)
      · have h := h.1 hc
        refine J_aload_n dc_Mo_isLike_72 (Eq.refl 73) 2 rfl ?_
        refine J_getF (y := 13) dc_Mo_isLike_73 (Eq.refl 76) fl_Mo_47 (Nat.le_of_ble_eq_true rfl) rfl (Or.inl rfl) rfl ?_
        refine J_iload dc_Mo_isLike_76 (Eq.refl 78) 1 rfl ?_
        obtain ⟨hg, h⟩ := h
        refine J_iald dc_Mo_isLike_78 (Eq.refl 79) rfl rfl hg ?_
        refine J_iconst (v := (4 : Int32)) dc_Mo_isLike_79 (Eq.refl 80) rfl ?_
        refine J_icmp_ne dc_Mo_isLike_80 (Eq.refl 83) rfl (fun hc => ?_) (fun hc => ?_)
        · have h := h.1 hc
          refine J_aload_n dc_Mo_isLike_143 (Eq.refl 144) 2 rfl ?_
          refine J_getF (y := 25) dc_Mo_isLike_144 (Eq.refl 147) fl_Mo_83 (Nat.le_of_ble_eq_true rfl) rfl (Or.inl rfl) rfl ?_
          refine J_iload dc_Mo_isLike_147 (Eq.refl 149) 1 rfl ?_
          obtain ⟨hg, h⟩ := h
          refine J_lald dc_Mo_isLike_149 (Eq.refl 150) rfl rfl hg ?_
          refine J_ldc2 dc_Mo_isLike_150 (Eq.refl 153) kc_Mo_270 ?_
          refine J_land dc_Mo_isLike_153 (Eq.refl 154) ?_
          refine J_lconst (v := (0 : Int64)) dc_Mo_isLike_154 (Eq.refl 155) rfl ?_
          refine J_lcmp dc_Mo_isLike_155 (Eq.refl 156) ?_
          refine J_if_ne dc_Mo_isLike_156 (Eq.refl 159) rfl (fun hc => ?_) (fun hc => ?_)
          · have h := h.1 hc
            refine J_sub [2, 1, 0] rfl ?_
            exact h
          · have h := h.2 hc
            refine J_aload_n dc_Mo_isLike_159 (Eq.refl 160) 2 rfl ?_
            refine J_getF (y := 25) dc_Mo_isLike_160 (Eq.refl 163) fl_Mo_83 (Nat.le_of_ble_eq_true rfl) rfl (Or.inl rfl) rfl ?_
            refine J_iload dc_Mo_isLike_163 (Eq.refl 165) 0 rfl ?_
            obtain ⟨hg, h⟩ := h
            refine J_lald dc_Mo_isLike_165 (Eq.refl 166) rfl rfl hg ?_
            refine J_ldc2 dc_Mo_isLike_166 (Eq.refl 169) kc_Mo_270 ?_
            refine J_land dc_Mo_isLike_169 (Eq.refl 170) ?_
            refine J_lconst (v := (0 : Int64)) dc_Mo_isLike_170 (Eq.refl 171) rfl ?_
            refine J_lcmp dc_Mo_isLike_171 (Eq.refl 172) ?_
            refine J_if_ne dc_Mo_isLike_172 (Eq.refl 175) rfl (fun hc => ?_) (fun hc => ?_)
            · have h := h.1 hc
              refine J_sub [2, 1, 0] rfl ?_
              exact h
            · have h := h.2 hc
              refine J_iconst (v := (1 : Int32)) dc_Mo_isLike_175 (Eq.refl 176) rfl ?_
              refine J_goto dc_Mo_isLike_176 rfl ?_
              refine J_sub [2, 1, 0] rfl ?_
              exact h
        · have h := h.2 hc
          refine J_aload_n dc_Mo_isLike_83 (Eq.refl 84) 2 rfl ?_
          refine J_getF (y := 26) dc_Mo_isLike_84 (Eq.refl 87) fl_Mo_88 (Nat.le_of_ble_eq_true rfl) rfl (Or.inl rfl) rfl ?_
          refine J_sipush (v := (4000 : Int32)) dc_Mo_isLike_87 (Eq.refl 90) rfl ?_
          refine J_iload_n dc_Mo_isLike_90 (Eq.refl 91) 3 rfl ?_
          refine J_imul dc_Mo_isLike_91 (Eq.refl 92) ?_
          refine J_aload_n dc_Mo_isLike_92 (Eq.refl 93) 2 rfl ?_
          refine J_getF (y := 21) dc_Mo_isLike_93 (Eq.refl 96) fl_Mo_71 (Nat.le_of_ble_eq_true rfl) rfl (Or.inl rfl) rfl ?_
          refine J_iload dc_Mo_isLike_96 (Eq.refl 98) 1 rfl ?_
          obtain ⟨hg, h⟩ := h
          refine J_iald dc_Mo_isLike_98 (Eq.refl 99) rfl rfl hg ?_
          refine J_iadd dc_Mo_isLike_99 (Eq.refl 100) ?_
          refine J_aload_n dc_Mo_isLike_100 (Eq.refl 101) 2 rfl ?_
          refine J_getF (y := 22) dc_Mo_isLike_101 (Eq.refl 104) fl_Mo_74 (Nat.le_of_ble_eq_true rfl) rfl (Or.inl rfl) rfl ?_
          refine J_iload dc_Mo_isLike_104 (Eq.refl 106) 1 rfl ?_
          obtain ⟨hg, h⟩ := h
          refine J_iald dc_Mo_isLike_106 (Eq.refl 107) rfl rfl hg ?_
          refine J_aload_n dc_Mo_isLike_107 (Eq.refl 108) 2 rfl ?_
          refine J_getF (y := 26) dc_Mo_isLike_108 (Eq.refl 111) fl_Mo_88 (Nat.le_of_ble_eq_true rfl) rfl (Or.inl rfl) rfl ?_
          refine J_sipush (v := (4000 : Int32)) dc_Mo_isLike_111 (Eq.refl 114) rfl ?_
          refine J_iload_n dc_Mo_isLike_114 (Eq.refl 115) 5 rfl ?_
          refine J_imul dc_Mo_isLike_115 (Eq.refl 116) ?_
          refine J_aload_n dc_Mo_isLike_116 (Eq.refl 117) 2 rfl ?_
          refine J_getF (y := 21) dc_Mo_isLike_117 (Eq.refl 120) fl_Mo_71 (Nat.le_of_ble_eq_true rfl) rfl (Or.inl rfl) rfl ?_
          refine J_iload dc_Mo_isLike_120 (Eq.refl 122) 0 rfl ?_
          obtain ⟨hg, h⟩ := h
          refine J_iald dc_Mo_isLike_122 (Eq.refl 123) rfl rfl hg ?_
          refine J_iadd dc_Mo_isLike_123 (Eq.refl 124) ?_
          refine J_aload_n dc_Mo_isLike_124 (Eq.refl 125) 2 rfl ?_
          refine J_getF (y := 22) dc_Mo_isLike_125 (Eq.refl 128) fl_Mo_74 (Nat.le_of_ble_eq_true rfl) rfl (Or.inl rfl) rfl ?_
          refine J_iload dc_Mo_isLike_128 (Eq.refl 130) 0 rfl ?_
          obtain ⟨hg, h⟩ := h
          refine J_iald dc_Mo_isLike_130 (Eq.refl 131) rfl rfl hg ?_
          refine J_callSI (As := [pv E 26, .int (((4000 : Int32) * x1) + (gI σ 21 (((500 : Int32) * x1) + x2).toNatClampNeg)), .int (gI σ 22 (((500 : Int32) * x1) + x2).toNatClampNeg), pv E 26, .int (((4000 : Int32) * x3) + (gI σ 21 (((500 : Int32) * x3) + x4).toNatClampNeg)), .int (gI σ 22 (((500 : Int32) * x3) + x4).toNatClampNeg)]) (st := []) dc_Mo_isLike_131 (Eq.refl 134) lk_Mo_356 mi_Mo_compared (Nat.le_of_ble_eq_true rfl) rfl (Nat.le_of_ble_eq_true rfl) (CI.mono h (fun r2 σ1 h => ?_))
          refine J_if_ne dc_Mo_isLike_134 (Eq.refl 137) rfl (fun hc => ?_) (fun hc => ?_)
          · have h := h.1 hc
            refine J_iconst (v := (0 : Int32)) dc_Mo_isLike_141 (Eq.refl 142) rfl ?_
            exact J_zret dc_Mo_isLike_142 rfl rfl h
          · have h := h.2 hc
            refine J_iconst (v := (1 : Int32)) dc_Mo_isLike_137 (Eq.refl 138) rfl ?_
            refine J_goto dc_Mo_isLike_138 rfl ?_
            exact J_zret dc_Mo_isLike_142 rfl rfl h
      · have h := h.2 hc
        refine J_iconst (v := (0 : Int32)) dc_Mo_isLike_70 (Eq.refl 71) rfl ?_
        exact J_zret dc_Mo_isLike_71 rfl rfl h
theorem b_Mo_isLike_179 {E : En_t} {d : Nat} {σ : S_t} {Q : Option Value → S_t → Prop} {x5 : Int32} {x6 : Int32}
    (h : JE E (d + 1) m_Mo_isLike 180 [(0, pv E 0), (5, .int x5), (6, .int x6)] [.int (0 : Int32)] σ Q) :
    JE E (d + 1) m_Mo_isLike 179 [(0, pv E 0), (5, .int x5), (6, .int x6)] [] σ Q := by
  refine J_iconst (v := (0 : Int32)) dc_Mo_isLike_179 (Eq.refl 180) rfl ?_
  exact h
theorem b_Mo_isLike_180 {E : En_t} {d : Nat} {σ : S_t} {Q : Option Value → S_t → Prop} {x5 : Int32} {x6 : Int32} {s0 : Int32}
    (h : (¬ s0 = 0 → JE E (d + 1) m_Mo_isLike 205 [] [] σ Q) ∧ (s0 = 0 → vp_in x5 4500 ∧ (vp_in x6 4500 ∧ ((¬ (lg_cmp (gL σ 25 x5.toNatClampNeg) (gL σ 25 x6.toNatClampNeg)) = 0 → Q (some (.int (0 : Int32))) σ) ∧ ((lg_cmp (gL σ 25 x5.toNatClampNeg) (gL σ 25 x6.toNatClampNeg)) = 0 → JE E (d + 1) m_Mo_isLike 205 [] [] σ Q))))) :
    JE E (d + 1) m_Mo_isLike 180 [(0, pv E 0), (5, .int x5), (6, .int x6)] [.int s0] σ Q := by
  refine J_istore (L' := [(7, .int s0), (0, pv E 0), (5, .int x5), (6, .int x6)]) dc_Mo_isLike_180 (Eq.refl 182) (Nat.le_of_ble_eq_true rfl) rfl ?_
  refine J_iload dc_Mo_isLike_182 (Eq.refl 184) 0 rfl ?_
  refine J_if_ne dc_Mo_isLike_184 (Eq.refl 187) rfl (fun hc => ?_) (fun hc => ?_)
  · have h := h.1 hc
    refine J_sub [] rfl ?_
    exact h
  · have h := h.2 hc
    refine J_aload_n dc_Mo_isLike_187 (Eq.refl 188) 1 rfl ?_
    refine J_getF (y := 25) dc_Mo_isLike_188 (Eq.refl 191) fl_Mo_83 (Nat.le_of_ble_eq_true rfl) rfl (Or.inl rfl) rfl ?_
    refine J_iload dc_Mo_isLike_191 (Eq.refl 193) 2 rfl ?_
    obtain ⟨hg, h⟩ := h
    refine J_lald dc_Mo_isLike_193 (Eq.refl 194) rfl rfl hg ?_
    refine J_aload_n dc_Mo_isLike_194 (Eq.refl 195) 1 rfl ?_
    refine J_getF (y := 25) dc_Mo_isLike_195 (Eq.refl 198) fl_Mo_83 (Nat.le_of_ble_eq_true rfl) rfl (Or.inl rfl) rfl ?_
    refine J_iload dc_Mo_isLike_198 (Eq.refl 200) 3 rfl ?_
    obtain ⟨hg, h⟩ := h
    refine J_lald dc_Mo_isLike_200 (Eq.refl 201) rfl rfl hg ?_
    refine J_lcmp dc_Mo_isLike_201 (Eq.refl 202) ?_
    refine J_if_ne dc_Mo_isLike_202 (Eq.refl 205) rfl (fun hc => ?_) (fun hc => ?_)
    · have h := h.1 hc
      refine J_iconst (v := (0 : Int32)) dc_Mo_isLike_209 (Eq.refl 210) rfl ?_
      exact J_zret dc_Mo_isLike_210 rfl rfl h
    · have h := h.2 hc
      refine J_sub [] rfl ?_
      exact h
theorem b_Mo_isLike_205 {E : En_t} {d : Nat} {σ : S_t} {Q : Option Value → S_t → Prop}
    (h : Q (some (.int (1 : Int32))) σ) :
    JE E (d + 1) m_Mo_isLike 205 [] [] σ Q := by
  refine J_iconst (v := (1 : Int32)) dc_Mo_isLike_205 (Eq.refl 206) rfl ?_
  refine J_goto dc_Mo_isLike_206 rfl ?_
  exact J_zret dc_Mo_isLike_210 rfl rfl h
theorem dc_Mo_namedLike_0 : decode m_Mo_namedLike.2.1 0 = .ok (.aload_n 0, 1) := by decide +kernel
theorem dc_Mo_namedLike_1 : decode m_Mo_namedLike.2.1 1 = .ok (.getfield 88, 3) := by decide +kernel
theorem dc_Mo_namedLike_4 : decode m_Mo_namedLike.2.1 4 = .ok (.sipush 4000, 3) := by decide +kernel
theorem dc_Mo_namedLike_7 : decode m_Mo_namedLike.2.1 7 = .ok (.iload_n 1, 1) := by decide +kernel
theorem dc_Mo_namedLike_8 : decode m_Mo_namedLike.2.1 8 = .ok (.imul, 1) := by decide +kernel
theorem dc_Mo_namedLike_9 : decode m_Mo_namedLike.2.1 9 = .ok (.aload_n 0, 1) := by decide +kernel
theorem dc_Mo_namedLike_10 : decode m_Mo_namedLike.2.1 10 = .ok (.getfield 65, 3) := by decide +kernel
theorem dc_Mo_namedLike_13 : decode m_Mo_namedLike.2.1 13 = .ok (.sipush 500, 3) := by decide +kernel
theorem dc_Mo_namedLike_16 : decode m_Mo_namedLike.2.1 16 = .ok (.iload_n 1, 1) := by decide +kernel
theorem dc_Mo_namedLike_17 : decode m_Mo_namedLike.2.1 17 = .ok (.imul, 1) := by decide +kernel
theorem dc_Mo_namedLike_18 : decode m_Mo_namedLike.2.1 18 = .ok (.iload_n 2, 1) := by decide +kernel
theorem dc_Mo_namedLike_19 : decode m_Mo_namedLike.2.1 19 = .ok (.iadd, 1) := by decide +kernel
theorem dc_Mo_namedLike_20 : decode m_Mo_namedLike.2.1 20 = .ok (.iaload, 1) := by decide +kernel
theorem dc_Mo_namedLike_21 : decode m_Mo_namedLike.2.1 21 = .ok (.iadd, 1) := by decide +kernel
theorem dc_Mo_namedLike_22 : decode m_Mo_namedLike.2.1 22 = .ok (.aload_n 0, 1) := by decide +kernel
theorem dc_Mo_namedLike_23 : decode m_Mo_namedLike.2.1 23 = .ok (.getfield 68, 3) := by decide +kernel
theorem dc_Mo_namedLike_26 : decode m_Mo_namedLike.2.1 26 = .ok (.sipush 500, 3) := by decide +kernel
theorem dc_Mo_namedLike_29 : decode m_Mo_namedLike.2.1 29 = .ok (.iload_n 1, 1) := by decide +kernel
theorem dc_Mo_namedLike_30 : decode m_Mo_namedLike.2.1 30 = .ok (.imul, 1) := by decide +kernel
theorem dc_Mo_namedLike_31 : decode m_Mo_namedLike.2.1 31 = .ok (.iload_n 2, 1) := by decide +kernel
theorem dc_Mo_namedLike_32 : decode m_Mo_namedLike.2.1 32 = .ok (.iadd, 1) := by decide +kernel
theorem dc_Mo_namedLike_33 : decode m_Mo_namedLike.2.1 33 = .ok (.iaload, 1) := by decide +kernel
theorem dc_Mo_namedLike_34 : decode m_Mo_namedLike.2.1 34 = .ok (.aload_n 0, 1) := by decide +kernel
theorem dc_Mo_namedLike_35 : decode m_Mo_namedLike.2.1 35 = .ok (.getfield 88, 3) := by decide +kernel
theorem dc_Mo_namedLike_38 : decode m_Mo_namedLike.2.1 38 = .ok (.sipush 4000, 3) := by decide +kernel
theorem dc_Mo_namedLike_41 : decode m_Mo_namedLike.2.1 41 = .ok (.iload_n 3, 1) := by decide +kernel
theorem dc_Mo_namedLike_42 : decode m_Mo_namedLike.2.1 42 = .ok (.imul, 1) := by decide +kernel
theorem dc_Mo_namedLike_43 : decode m_Mo_namedLike.2.1 43 = .ok (.aload_n 0, 1) := by decide +kernel
theorem dc_Mo_namedLike_44 : decode m_Mo_namedLike.2.1 44 = .ok (.getfield 65, 3) := by decide +kernel
theorem dc_Mo_namedLike_47 : decode m_Mo_namedLike.2.1 47 = .ok (.sipush 500, 3) := by decide +kernel
theorem dc_Mo_namedLike_50 : decode m_Mo_namedLike.2.1 50 = .ok (.iload_n 3, 1) := by decide +kernel
theorem dc_Mo_namedLike_51 : decode m_Mo_namedLike.2.1 51 = .ok (.imul, 1) := by decide +kernel
theorem dc_Mo_namedLike_52 : decode m_Mo_namedLike.2.1 52 = .ok (.iload 4, 2) := by decide +kernel
theorem dc_Mo_namedLike_54 : decode m_Mo_namedLike.2.1 54 = .ok (.iadd, 1) := by decide +kernel
theorem dc_Mo_namedLike_55 : decode m_Mo_namedLike.2.1 55 = .ok (.iaload, 1) := by decide +kernel
theorem dc_Mo_namedLike_56 : decode m_Mo_namedLike.2.1 56 = .ok (.iadd, 1) := by decide +kernel
theorem dc_Mo_namedLike_57 : decode m_Mo_namedLike.2.1 57 = .ok (.aload_n 0, 1) := by decide +kernel
theorem dc_Mo_namedLike_58 : decode m_Mo_namedLike.2.1 58 = .ok (.getfield 68, 3) := by decide +kernel
theorem dc_Mo_namedLike_61 : decode m_Mo_namedLike.2.1 61 = .ok (.sipush 500, 3) := by decide +kernel
theorem dc_Mo_namedLike_64 : decode m_Mo_namedLike.2.1 64 = .ok (.iload_n 3, 1) := by decide +kernel
theorem dc_Mo_namedLike_65 : decode m_Mo_namedLike.2.1 65 = .ok (.imul, 1) := by decide +kernel
theorem dc_Mo_namedLike_66 : decode m_Mo_namedLike.2.1 66 = .ok (.iload 4, 2) := by decide +kernel
theorem dc_Mo_namedLike_68 : decode m_Mo_namedLike.2.1 68 = .ok (.iadd, 1) := by decide +kernel
theorem dc_Mo_namedLike_69 : decode m_Mo_namedLike.2.1 69 = .ok (.iaload, 1) := by decide +kernel
theorem dc_Mo_namedLike_70 : decode m_Mo_namedLike.2.1 70 = .ok (.invokestatic 356, 3) := by decide +kernel
theorem dc_Mo_namedLike_73 : decode m_Mo_namedLike.2.1 73 = .ok (.ireturn, 1) := by decide +kernel
theorem b_Mo_namedLike_0 {E : En_t} {d : Nat} {σ : S_t} {Q : Option Value → S_t → Prop} {x1 : Int32} {x2 : Int32} {x3 : Int32} {x4 : Int32}
    (h : vp_in (((500 : Int32) * x1) + x2) 4500 ∧ (vp_in (((500 : Int32) * x1) + x2) 4500 ∧ (vp_in (((500 : Int32) * x3) + x4) 4500 ∧ (vp_in (((500 : Int32) * x3) + x4) 4500 ∧ (CI E d m_Mo_compared [pv E 26, .int (((4000 : Int32) * x1) + (gI σ 19 (((500 : Int32) * x1) + x2).toNatClampNeg)), .int (gI σ 20 (((500 : Int32) * x1) + x2).toNatClampNeg), pv E 26, .int (((4000 : Int32) * x3) + (gI σ 19 (((500 : Int32) * x3) + x4).toNatClampNeg)), .int (gI σ 20 (((500 : Int32) * x3) + x4).toNatClampNeg)] σ (fun r2 σ1 => Q (some (.int r2)) σ1)))))) :
    JE E (d + 1) m_Mo_namedLike 0 [(0, pv E 0), (1, .int x1), (2, .int x2), (3, .int x3), (4, .int x4)] [] σ Q := by
  refine J_aload_n dc_Mo_namedLike_0 (Eq.refl 1) 0 rfl ?_
  refine J_getF (y := 26) dc_Mo_namedLike_1 (Eq.refl 4) fl_Mo_88 (Nat.le_of_ble_eq_true rfl) rfl (Or.inl rfl) rfl ?_
  refine J_sipush (v := (4000 : Int32)) dc_Mo_namedLike_4 (Eq.refl 7) rfl ?_
  refine J_iload_n dc_Mo_namedLike_7 (Eq.refl 8) 1 rfl ?_
  refine J_imul dc_Mo_namedLike_8 (Eq.refl 9) ?_
  refine J_aload_n dc_Mo_namedLike_9 (Eq.refl 10) 0 rfl ?_
  refine J_getF (y := 19) dc_Mo_namedLike_10 (Eq.refl 13) fl_Mo_65 (Nat.le_of_ble_eq_true rfl) rfl (Or.inl rfl) rfl ?_
  refine J_sipush (v := (500 : Int32)) dc_Mo_namedLike_13 (Eq.refl 16) rfl ?_
  refine J_iload_n dc_Mo_namedLike_16 (Eq.refl 17) 1 rfl ?_
  refine J_imul dc_Mo_namedLike_17 (Eq.refl 18) ?_
  refine J_iload_n dc_Mo_namedLike_18 (Eq.refl 19) 2 rfl ?_
  refine J_iadd dc_Mo_namedLike_19 (Eq.refl 20) ?_
  obtain ⟨hg, h⟩ := h
  refine J_iald dc_Mo_namedLike_20 (Eq.refl 21) rfl rfl hg ?_
  refine J_iadd dc_Mo_namedLike_21 (Eq.refl 22) ?_
  refine J_aload_n dc_Mo_namedLike_22 (Eq.refl 23) 0 rfl ?_
  refine J_getF (y := 20) dc_Mo_namedLike_23 (Eq.refl 26) fl_Mo_68 (Nat.le_of_ble_eq_true rfl) rfl (Or.inl rfl) rfl ?_
  refine J_sipush (v := (500 : Int32)) dc_Mo_namedLike_26 (Eq.refl 29) rfl ?_
  refine J_iload_n dc_Mo_namedLike_29 (Eq.refl 30) 1 rfl ?_
  refine J_imul dc_Mo_namedLike_30 (Eq.refl 31) ?_
  refine J_iload_n dc_Mo_namedLike_31 (Eq.refl 32) 2 rfl ?_
  refine J_iadd dc_Mo_namedLike_32 (Eq.refl 33) ?_
  obtain ⟨hg, h⟩ := h
  refine J_iald dc_Mo_namedLike_33 (Eq.refl 34) rfl rfl hg ?_
  refine J_aload_n dc_Mo_namedLike_34 (Eq.refl 35) 0 rfl ?_
  refine J_getF (y := 26) dc_Mo_namedLike_35 (Eq.refl 38) fl_Mo_88 (Nat.le_of_ble_eq_true rfl) rfl (Or.inl rfl) rfl ?_
  refine J_sipush (v := (4000 : Int32)) dc_Mo_namedLike_38 (Eq.refl 41) rfl ?_
  refine J_iload_n dc_Mo_namedLike_41 (Eq.refl 42) 3 rfl ?_
  refine J_imul dc_Mo_namedLike_42 (Eq.refl 43) ?_
  refine J_aload_n dc_Mo_namedLike_43 (Eq.refl 44) 0 rfl ?_
  refine J_getF (y := 19) dc_Mo_namedLike_44 (Eq.refl 47) fl_Mo_65 (Nat.le_of_ble_eq_true rfl) rfl (Or.inl rfl) rfl ?_
  refine J_sipush (v := (500 : Int32)) dc_Mo_namedLike_47 (Eq.refl 50) rfl ?_
  refine J_iload_n dc_Mo_namedLike_50 (Eq.refl 51) 3 rfl ?_
  refine J_imul dc_Mo_namedLike_51 (Eq.refl 52) ?_
  refine J_iload dc_Mo_namedLike_52 (Eq.refl 54) 4 rfl ?_
  refine J_iadd dc_Mo_namedLike_54 (Eq.refl 55) ?_
  obtain ⟨hg, h⟩ := h
  refine J_iald dc_Mo_namedLike_55 (Eq.refl 56) rfl rfl hg ?_
  refine J_iadd dc_Mo_namedLike_56 (Eq.refl 57) ?_
  refine J_aload_n dc_Mo_namedLike_57 (Eq.refl 58) 0 rfl ?_
  refine J_getF (y := 20) dc_Mo_namedLike_58 (Eq.refl 61) fl_Mo_68 (Nat.le_of_ble_eq_true rfl) rfl (Or.inl rfl) rfl ?_
  refine J_sipush (v := (500 : Int32)) dc_Mo_namedLike_61 (Eq.refl 64) rfl ?_
  refine J_iload_n dc_Mo_namedLike_64 (Eq.refl 65) 3 rfl ?_
  refine J_imul dc_Mo_namedLike_65 (Eq.refl 66) ?_
  refine J_iload dc_Mo_namedLike_66 (Eq.refl 68) 4 rfl ?_
  refine J_iadd dc_Mo_namedLike_68 (Eq.refl 69) ?_
  obtain ⟨hg, h⟩ := h
  refine J_iald dc_Mo_namedLike_69 (Eq.refl 70) rfl rfl hg ?_
  refine J_callSI (As := [pv E 26, .int (((4000 : Int32) * x1) + (gI σ 19 (((500 : Int32) * x1) + x2).toNatClampNeg)), .int (gI σ 20 (((500 : Int32) * x1) + x2).toNatClampNeg), pv E 26, .int (((4000 : Int32) * x3) + (gI σ 19 (((500 : Int32) * x3) + x4).toNatClampNeg)), .int (gI σ 20 (((500 : Int32) * x3) + x4).toNatClampNeg)]) (st := []) dc_Mo_namedLike_70 (Eq.refl 73) lk_Mo_356 mi_Mo_compared (Nat.le_of_ble_eq_true rfl) rfl (Nat.le_of_ble_eq_true rfl) (CI.mono h (fun r2 σ1 h => ?_))
  exact J_iret dc_Mo_namedLike_73 rfl h
theorem dc_Mo_merge_0 : decode m_Mo_merge.2.1 0 = .ok (.aload_n 0, 1) := by decide +kernel
theorem dc_Mo_merge_1 : decode m_Mo_merge.2.1 1 = .ok (.iload_n 1, 1) := by decide +kernel
theorem dc_Mo_merge_2 : decode m_Mo_merge.2.1 2 = .ok (.iconst 0, 1) := by decide +kernel
theorem dc_Mo_merge_3 : decode m_Mo_merge.2.1 3 = .ok (.invokevirtual 408, 3) := by decide +kernel
theorem dc_Mo_merge_6 : decode m_Mo_merge.2.1 6 = .ok (.ifCond .eq 19, 3) := by decide +kernel
theorem dc_Mo_merge_9 : decode m_Mo_merge.2.1 9 = .ok (.aload_n 0, 1) := by decide +kernel
theorem dc_Mo_merge_10 : decode m_Mo_merge.2.1 10 = .ok (.iload_n 2, 1) := by decide +kernel
theorem dc_Mo_merge_11 : decode m_Mo_merge.2.1 11 = .ok (.iconst 0, 1) := by decide +kernel
theorem dc_Mo_merge_12 : decode m_Mo_merge.2.1 12 = .ok (.invokevirtual 408, 3) := by decide +kernel
theorem dc_Mo_merge_15 : decode m_Mo_merge.2.1 15 = .ok (.ifCond .eq 10, 3) := by decide +kernel
theorem dc_Mo_merge_18 : decode m_Mo_merge.2.1 18 = .ok (.iload_n 3, 1) := by decide +kernel
theorem dc_Mo_merge_19 : decode m_Mo_merge.2.1 19 = .ok (.invokestatic 291, 3) := by decide +kernel
theorem dc_Mo_merge_22 : decode m_Mo_merge.2.1 22 = .ok (.ifCond .ne 5, 3) := by decide +kernel
theorem dc_Mo_merge_25 : decode m_Mo_merge.2.1 25 = .ok (.iconst (-1), 1) := by decide +kernel
theorem dc_Mo_merge_26 : decode m_Mo_merge.2.1 26 = .ok (.ireturn, 1) := by decide +kernel
theorem dc_Mo_merge_27 : decode m_Mo_merge.2.1 27 = .ok (.aload_n 0, 1) := by decide +kernel
theorem dc_Mo_merge_28 : decode m_Mo_merge.2.1 28 = .ok (.invokevirtual 376, 3) := by decide +kernel
theorem dc_Mo_merge_31 : decode m_Mo_merge.2.1 31 = .ok (.aload_n 0, 1) := by decide +kernel
theorem dc_Mo_merge_32 : decode m_Mo_merge.2.1 32 = .ok (.iload_n 2, 1) := by decide +kernel
theorem dc_Mo_merge_33 : decode m_Mo_merge.2.1 33 = .ok (.iconst 0, 1) := by decide +kernel
theorem dc_Mo_merge_34 : decode m_Mo_merge.2.1 34 = .ok (.invokevirtual 435, 3) := by decide +kernel
theorem dc_Mo_merge_37 : decode m_Mo_merge.2.1 37 = .ok (.ifCond .ne 14, 3) := by decide +kernel
theorem dc_Mo_merge_40 : decode m_Mo_merge.2.1 40 = .ok (.aload_n 0, 1) := by decide +kernel
theorem dc_Mo_merge_41 : decode m_Mo_merge.2.1 41 = .ok (.iload_n 2, 1) := by decide +kernel
theorem dc_Mo_merge_42 : decode m_Mo_merge.2.1 42 = .ok (.iconst 0, 1) := by decide +kernel
theorem dc_Mo_merge_43 : decode m_Mo_merge.2.1 43 = .ok (.iconst 0, 1) := by decide +kernel
theorem dc_Mo_merge_44 : decode m_Mo_merge.2.1 44 = .ok (.iconst 0, 1) := by decide +kernel
theorem dc_Mo_merge_45 : decode m_Mo_merge.2.1 45 = .ok (.invokevirtual 438, 3) := by decide +kernel
theorem dc_Mo_merge_48 : decode m_Mo_merge.2.1 48 = .ok (.goto 255, 3) := by decide +kernel
theorem dc_Mo_merge_51 : decode m_Mo_merge.2.1 51 = .ok (.aload_n 0, 1) := by decide +kernel
theorem dc_Mo_merge_52 : decode m_Mo_merge.2.1 52 = .ok (.bipush 6, 2) := by decide +kernel
theorem dc_Mo_merge_54 : decode m_Mo_merge.2.1 54 = .ok (.iconst 0, 1) := by decide +kernel
theorem dc_Mo_merge_55 : decode m_Mo_merge.2.1 55 = .ok (.iload_n 2, 1) := by decide +kernel
theorem dc_Mo_merge_56 : decode m_Mo_merge.2.1 56 = .ok (.iconst 0, 1) := by decide +kernel
theorem dc_Mo_merge_57 : decode m_Mo_merge.2.1 57 = .ok (.iconst 0, 1) := by decide +kernel
theorem dc_Mo_merge_58 : decode m_Mo_merge.2.1 58 = .ok (.invokevirtual 442, 3) := by decide +kernel
theorem dc_Mo_merge_61 : decode m_Mo_merge.2.1 61 = .ok (.aload_n 0, 1) := by decide +kernel
theorem dc_Mo_merge_62 : decode m_Mo_merge.2.1 62 = .ok (.iconst 0, 1) := by decide +kernel
theorem dc_Mo_merge_63 : decode m_Mo_merge.2.1 63 = .ok (.iload_n 1, 1) := by decide +kernel
theorem dc_Mo_merge_64 : decode m_Mo_merge.2.1 64 = .ok (.iconst 0, 1) := by decide +kernel
theorem dc_Mo_merge_65 : decode m_Mo_merge.2.1 65 = .ok (.iload_n 2, 1) := by decide +kernel
theorem dc_Mo_merge_66 : decode m_Mo_merge.2.1 66 = .ok (.iconst 0, 1) := by decide +kernel
theorem dc_Mo_merge_67 : decode m_Mo_merge.2.1 67 = .ok (.invokevirtual 446, 3) := by decide +kernel
theorem dc_Mo_merge_70 : decode m_Mo_merge.2.1 70 = .ok (.iconst 0, 1) := by decide +kernel
theorem dc_Mo_merge_71 : decode m_Mo_merge.2.1 71 = .ok (.istore 4, 2) := by decide +kernel
theorem dc_Mo_merge_73 : decode m_Mo_merge.2.1 73 = .ok (.iload 4, 2) := by decide +kernel
theorem dc_Mo_merge_75 : decode m_Mo_merge.2.1 75 = .ok (.ifCond .lt 228, 3) := by decide +kernel
theorem dc_Mo_merge_78 : decode m_Mo_merge.2.1 78 = .ok (.aload_n 0, 1) := by decide +kernel
theorem dc_Mo_merge_79 : decode m_Mo_merge.2.1 79 = .ok (.getfield 156, 3) := by decide +kernel
theorem dc_Mo_merge_82 : decode m_Mo_merge.2.1 82 = .ok (.iload 4, 2) := by decide +kernel
theorem dc_Mo_merge_84 : decode m_Mo_merge.2.1 84 = .ok (.iaload, 1) := by decide +kernel
theorem dc_Mo_merge_85 : decode m_Mo_merge.2.1 85 = .ok (.ifCond .ne 19, 3) := by decide +kernel
theorem dc_Mo_merge_88 : decode m_Mo_merge.2.1 88 = .ok (.aload_n 0, 1) := by decide +kernel
theorem dc_Mo_merge_89 : decode m_Mo_merge.2.1 89 = .ok (.getfield 159, 3) := by decide +kernel
theorem dc_Mo_merge_92 : decode m_Mo_merge.2.1 92 = .ok (.iload 4, 2) := by decide +kernel
theorem dc_Mo_merge_94 : decode m_Mo_merge.2.1 94 = .ok (.iaload, 1) := by decide +kernel
theorem dc_Mo_merge_95 : decode m_Mo_merge.2.1 95 = .ok (.ifCond .ne 9, 3) := by decide +kernel
theorem dc_Mo_merge_98 : decode m_Mo_merge.2.1 98 = .ok (.iinc 4 (-1), 3) := by decide +kernel
theorem dc_Mo_merge_101 : decode m_Mo_merge.2.1 101 = .ok (.goto (-28), 3) := by decide +kernel
theorem dc_Mo_merge_104 : decode m_Mo_merge.2.1 104 = .ok (.aload_n 0, 1) := by decide +kernel
theorem dc_Mo_merge_105 : decode m_Mo_merge.2.1 105 = .ok (.iload 4, 2) := by decide +kernel
theorem dc_Mo_merge_107 : decode m_Mo_merge.2.1 107 = .ok (.iload_n 1, 1) := by decide +kernel
theorem dc_Mo_merge_108 : decode m_Mo_merge.2.1 108 = .ok (.iload_n 2, 1) := by decide +kernel
theorem dc_Mo_merge_109 : decode m_Mo_merge.2.1 109 = .ok (.invokevirtual 449, 3) := by decide +kernel
theorem dc_Mo_merge_112 : decode m_Mo_merge.2.1 112 = .ok (.istore 5, 2) := by decide +kernel
theorem dc_Mo_merge_114 : decode m_Mo_merge.2.1 114 = .ok (.iload 5, 2) := by decide +kernel
theorem dc_Mo_merge_116 : decode m_Mo_merge.2.1 116 = .ok (.ifCond .gt 13, 3) := by decide +kernel
theorem dc_Mo_merge_119 : decode m_Mo_merge.2.1 119 = .ok (.aload_n 0, 1) := by decide +kernel
theorem dc_Mo_merge_120 : decode m_Mo_merge.2.1 120 = .ok (.getfield 150, 3) := by decide +kernel
theorem dc_Mo_merge_123 : decode m_Mo_merge.2.1 123 = .ok (.iload 4, 2) := by decide +kernel
theorem dc_Mo_merge_125 : decode m_Mo_merge.2.1 125 = .ok (.iaload, 1) := by decide +kernel
theorem dc_Mo_merge_126 : decode m_Mo_merge.2.1 126 = .ok (.goto 4, 3) := by decide +kernel
theorem dc_Mo_merge_129 : decode m_Mo_merge.2.1 129 = .ok (.iconst (-1), 1) := by decide +kernel
theorem dc_Mo_merge_130 : decode m_Mo_merge.2.1 130 = .ok (.istore 6, 2) := by decide +kernel
theorem dc_Mo_merge_132 : decode m_Mo_merge.2.1 132 = .ok (.iload 5, 2) := by decide +kernel
theorem dc_Mo_merge_134 : decode m_Mo_merge.2.1 134 = .ok (.ifCond .lt 13, 3) := by decide +kernel
theorem dc_Mo_merge_137 : decode m_Mo_merge.2.1 137 = .ok (.aload_n 0, 1) := by decide +kernel
theorem dc_Mo_merge_138 : decode m_Mo_merge.2.1 138 = .ok (.getfield 153, 3) := by decide +kernel
theorem dc_Mo_merge_141 : decode m_Mo_merge.2.1 141 = .ok (.iload 4, 2) := by decide +kernel
theorem dc_Mo_merge_143 : decode m_Mo_merge.2.1 143 = .ok (.iaload, 1) := by decide +kernel
theorem dc_Mo_merge_144 : decode m_Mo_merge.2.1 144 = .ok (.goto 4, 3) := by decide +kernel
theorem dc_Mo_merge_147 : decode m_Mo_merge.2.1 147 = .ok (.iconst (-1), 1) := by decide +kernel
theorem dc_Mo_merge_148 : decode m_Mo_merge.2.1 148 = .ok (.istore 7, 2) := by decide +kernel
theorem dc_Mo_merge_150 : decode m_Mo_merge.2.1 150 = .ok (.iload 6, 2) := by decide +kernel
theorem dc_Mo_merge_152 : decode m_Mo_merge.2.1 152 = .ok (.ifCond .lt 28, 3) := by decide +kernel
theorem dc_Mo_merge_155 : decode m_Mo_merge.2.1 155 = .ok (.aload_n 0, 1) := by decide +kernel
theorem dc_Mo_merge_156 : decode m_Mo_merge.2.1 156 = .ok (.getfield 150, 3) := by decide +kernel
theorem dc_Mo_merge_159 : decode m_Mo_merge.2.1 159 = .ok (.iload 4, 2) := by decide +kernel
theorem dc_Mo_merge_161 : decode m_Mo_merge.2.1 161 = .ok (.aload_n 0, 1) := by decide +kernel
theorem dc_Mo_merge_162 : decode m_Mo_merge.2.1 162 = .ok (.iload_n 1, 1) := by decide +kernel
theorem dc_Mo_merge_163 : decode m_Mo_merge.2.1 163 = .ok (.iload 6, 2) := by decide +kernel
theorem dc_Mo_merge_165 : decode m_Mo_merge.2.1 165 = .ok (.invokevirtual 452, 3) := by decide +kernel
theorem dc_Mo_merge_168 : decode m_Mo_merge.2.1 168 = .ok (.iastore, 1) := by decide +kernel
theorem dc_Mo_merge_169 : decode m_Mo_merge.2.1 169 = .ok (.aload_n 0, 1) := by decide +kernel
theorem dc_Mo_merge_170 : decode m_Mo_merge.2.1 170 = .ok (.getfield 156, 3) := by decide +kernel
theorem dc_Mo_merge_173 : decode m_Mo_merge.2.1 173 = .ok (.iload 4, 2) := by decide +kernel
theorem dc_Mo_merge_175 : decode m_Mo_merge.2.1 175 = .ok (.dup2, 1) := by decide +kernel
theorem dc_Mo_merge_176 : decode m_Mo_merge.2.1 176 = .ok (.iaload, 1) := by decide +kernel
theorem dc_Mo_merge_177 : decode m_Mo_merge.2.1 177 = .ok (.iconst 1, 1) := by decide +kernel
theorem dc_Mo_merge_178 : decode m_Mo_merge.2.1 178 = .ok (.isub, 1) := by decide +kernel
theorem dc_Mo_merge_179 : decode m_Mo_merge.2.1 179 = .ok (.iastore, 1) := by decide +kernel
theorem dc_Mo_merge_180 : decode m_Mo_merge.2.1 180 = .ok (.iload 7, 2) := by decide +kernel
theorem dc_Mo_merge_182 : decode m_Mo_merge.2.1 182 = .ok (.ifCond .lt 28, 3) := by decide +kernel
theorem dc_Mo_merge_185 : decode m_Mo_merge.2.1 185 = .ok (.aload_n 0, 1) := by decide +kernel
theorem dc_Mo_merge_186 : decode m_Mo_merge.2.1 186 = .ok (.getfield 153, 3) := by decide +kernel
theorem dc_Mo_merge_189 : decode m_Mo_merge.2.1 189 = .ok (.iload 4, 2) := by decide +kernel
theorem dc_Mo_merge_191 : decode m_Mo_merge.2.1 191 = .ok (.aload_n 0, 1) := by decide +kernel
theorem dc_Mo_merge_192 : decode m_Mo_merge.2.1 192 = .ok (.iload_n 2, 1) := by decide +kernel
theorem dc_Mo_merge_193 : decode m_Mo_merge.2.1 193 = .ok (.iload 7, 2) := by decide +kernel
theorem dc_Mo_merge_195 : decode m_Mo_merge.2.1 195 = .ok (.invokevirtual 452, 3) := by decide +kernel
theorem dc_Mo_merge_198 : decode m_Mo_merge.2.1 198 = .ok (.iastore, 1) := by decide +kernel
theorem dc_Mo_merge_199 : decode m_Mo_merge.2.1 199 = .ok (.aload_n 0, 1) := by decide +kernel
theorem dc_Mo_merge_200 : decode m_Mo_merge.2.1 200 = .ok (.getfield 159, 3) := by decide +kernel
theorem dc_Mo_merge_203 : decode m_Mo_merge.2.1 203 = .ok (.iload 4, 2) := by decide +kernel
theorem dc_Mo_merge_205 : decode m_Mo_merge.2.1 205 = .ok (.dup2, 1) := by decide +kernel
theorem dc_Mo_merge_206 : decode m_Mo_merge.2.1 206 = .ok (.iaload, 1) := by decide +kernel
theorem dc_Mo_merge_207 : decode m_Mo_merge.2.1 207 = .ok (.iconst 1, 1) := by decide +kernel
theorem dc_Mo_merge_208 : decode m_Mo_merge.2.1 208 = .ok (.isub, 1) := by decide +kernel
theorem dc_Mo_merge_209 : decode m_Mo_merge.2.1 209 = .ok (.iastore, 1) := by decide +kernel
theorem dc_Mo_merge_210 : decode m_Mo_merge.2.1 210 = .ok (.iload 7, 2) := by decide +kernel
theorem dc_Mo_merge_212 : decode m_Mo_merge.2.1 212 = .ok (.ifCond .ge 18, 3) := by decide +kernel
theorem dc_Mo_merge_215 : decode m_Mo_merge.2.1 215 = .ok (.aload_n 0, 1) := by decide +kernel
theorem dc_Mo_merge_216 : decode m_Mo_merge.2.1 216 = .ok (.iload_n 1, 1) := by decide +kernel
theorem dc_Mo_merge_217 : decode m_Mo_merge.2.1 217 = .ok (.iload 6, 2) := by decide +kernel
theorem dc_Mo_merge_219 : decode m_Mo_merge.2.1 219 = .ok (.iload 4, 2) := by decide +kernel
theorem dc_Mo_merge_221 : decode m_Mo_merge.2.1 221 = .ok (.iconst 1, 1) := by decide +kernel
theorem dc_Mo_merge_222 : decode m_Mo_merge.2.1 222 = .ok (.iadd, 1) := by decide +kernel
theorem dc_Mo_merge_223 : decode m_Mo_merge.2.1 223 = .ok (.iconst 1, 1) := by decide +kernel
theorem dc_Mo_merge_224 : decode m_Mo_merge.2.1 224 = .ok (.invokevirtual 438, 3) := by decide +kernel
theorem dc_Mo_merge_227 : decode m_Mo_merge.2.1 227 = .ok (.goto 73, 3) := by decide +kernel
theorem dc_Mo_merge_230 : decode m_Mo_merge.2.1 230 = .ok (.aload_n 0, 1) := by decide +kernel
theorem dc_Mo_merge_231 : decode m_Mo_merge.2.1 231 = .ok (.iload_n 2, 1) := by decide +kernel
theorem dc_Mo_merge_232 : decode m_Mo_merge.2.1 232 = .ok (.iload 7, 2) := by decide +kernel
theorem dc_Mo_merge_234 : decode m_Mo_merge.2.1 234 = .ok (.invokevirtual 435, 3) := by decide +kernel
theorem dc_Mo_merge_237 : decode m_Mo_merge.2.1 237 = .ok (.ifCond .eq 35, 3) := by decide +kernel
theorem dc_Mo_merge_240 : decode m_Mo_merge.2.1 240 = .ok (.aload_n 0, 1) := by decide +kernel
theorem dc_Mo_merge_241 : decode m_Mo_merge.2.1 241 = .ok (.bipush 6, 2) := by decide +kernel
theorem dc_Mo_merge_243 : decode m_Mo_merge.2.1 243 = .ok (.iload 4, 2) := by decide +kernel
theorem dc_Mo_merge_245 : decode m_Mo_merge.2.1 245 = .ok (.iconst 1, 1) := by decide +kernel
theorem dc_Mo_merge_246 : decode m_Mo_merge.2.1 246 = .ok (.iadd, 1) := by decide +kernel
theorem dc_Mo_merge_247 : decode m_Mo_merge.2.1 247 = .ok (.iload_n 2, 1) := by decide +kernel
theorem dc_Mo_merge_248 : decode m_Mo_merge.2.1 248 = .ok (.iload 7, 2) := by decide +kernel
theorem dc_Mo_merge_250 : decode m_Mo_merge.2.1 250 = .ok (.iconst 1, 1) := by decide +kernel
theorem dc_Mo_merge_251 : decode m_Mo_merge.2.1 251 = .ok (.invokevirtual 442, 3) := by decide +kernel
theorem dc_Mo_merge_254 : decode m_Mo_merge.2.1 254 = .ok (.iinc 4 1, 3) := by decide +kernel
theorem dc_Mo_merge_257 : decode m_Mo_merge.2.1 257 = .ok (.aload_n 0, 1) := by decide +kernel
theorem dc_Mo_merge_258 : decode m_Mo_merge.2.1 258 = .ok (.iload 4, 2) := by decide +kernel
theorem dc_Mo_merge_260 : decode m_Mo_merge.2.1 260 = .ok (.iload_n 1, 1) := by decide +kernel
theorem dc_Mo_merge_261 : decode m_Mo_merge.2.1 261 = .ok (.iload 6, 2) := by decide +kernel
theorem dc_Mo_merge_263 : decode m_Mo_merge.2.1 263 = .ok (.iload_n 2, 1) := by decide +kernel
theorem dc_Mo_merge_264 : decode m_Mo_merge.2.1 264 = .ok (.iload 7, 2) := by decide +kernel
theorem dc_Mo_merge_266 : decode m_Mo_merge.2.1 266 = .ok (.invokevirtual 446, 3) := by decide +kernel
theorem dc_Mo_merge_269 : decode m_Mo_merge.2.1 269 = .ok (.goto 31, 3) := by decide +kernel
theorem dc_Mo_merge_272 : decode m_Mo_merge.2.1 272 = .ok (.aload_n 0, 1) := by decide +kernel
theorem dc_Mo_merge_273 : decode m_Mo_merge.2.1 273 = .ok (.getfield 47, 3) := by decide +kernel
theorem dc_Mo_merge_276 : decode m_Mo_merge.2.1 276 = .ok (.sipush 500, 3) := by decide +kernel
theorem dc_Mo_merge_279 : decode m_Mo_merge.2.1 279 = .ok (.iload_n 2, 1) := by decide +kernel
theorem dc_Mo_merge_280 : decode m_Mo_merge.2.1 280 = .ok (.imul, 1) := by decide +kernel
theorem dc_Mo_merge_281 : decode m_Mo_merge.2.1 281 = .ok (.iload 7, 2) := by decide +kernel
theorem dc_Mo_merge_283 : decode m_Mo_merge.2.1 283 = .ok (.iadd, 1) := by decide +kernel
theorem dc_Mo_merge_284 : decode m_Mo_merge.2.1 284 = .ok (.iaload, 1) := by decide +kernel
theorem dc_Mo_merge_285 : decode m_Mo_merge.2.1 285 = .ok (.ifCond .eq 15, 3) := by decide +kernel
theorem dc_Mo_merge_288 : decode m_Mo_merge.2.1 288 = .ok (.aload_n 0, 1) := by decide +kernel
theorem dc_Mo_merge_289 : decode m_Mo_merge.2.1 289 = .ok (.iload_n 2, 1) := by decide +kernel
theorem dc_Mo_merge_290 : decode m_Mo_merge.2.1 290 = .ok (.iload 7, 2) := by decide +kernel
theorem dc_Mo_merge_292 : decode m_Mo_merge.2.1 292 = .ok (.iload 4, 2) := by decide +kernel
theorem dc_Mo_merge_294 : decode m_Mo_merge.2.1 294 = .ok (.iconst 1, 1) := by decide +kernel
theorem dc_Mo_merge_295 : decode m_Mo_merge.2.1 295 = .ok (.iadd, 1) := by decide +kernel
theorem dc_Mo_merge_296 : decode m_Mo_merge.2.1 296 = .ok (.iconst 1, 1) := by decide +kernel
theorem dc_Mo_merge_297 : decode m_Mo_merge.2.1 297 = .ok (.invokevirtual 438, 3) := by decide +kernel
theorem dc_Mo_merge_300 : decode m_Mo_merge.2.1 300 = .ok (.goto (-227), 3) := by decide +kernel
theorem dc_Mo_merge_303 : decode m_Mo_merge.2.1 303 = .ok (.aload_n 0, 1) := by decide +kernel
theorem dc_Mo_merge_304 : decode m_Mo_merge.2.1 304 = .ok (.getfield 299, 3) := by decide +kernel
theorem dc_Mo_merge_307 : decode m_Mo_merge.2.1 307 = .ok (.ifCond .eq 5, 3) := by decide +kernel
theorem dc_Mo_merge_310 : decode m_Mo_merge.2.1 310 = .ok (.iconst (-1), 1) := by decide +kernel
theorem dc_Mo_merge_311 : decode m_Mo_merge.2.1 311 = .ok (.ireturn, 1) := by decide +kernel
theorem dc_Mo_merge_312 : decode m_Mo_merge.2.1 312 = .ok (.aload_n 0, 1) := by decide +kernel
theorem dc_Mo_merge_313 : decode m_Mo_merge.2.1 313 = .ok (.iload_n 3, 1) := by decide +kernel
theorem dc_Mo_merge_314 : decode m_Mo_merge.2.1 314 = .ok (.invokevirtual 392, 3) := by decide +kernel
theorem dc_Mo_merge_317 : decode m_Mo_merge.2.1 317 = .ok (.aload_n 0, 1) := by decide +kernel
theorem dc_Mo_merge_318 : decode m_Mo_merge.2.1 318 = .ok (.getfield 35, 3) := by decide +kernel
theorem dc_Mo_merge_321 : decode m_Mo_merge.2.1 321 = .ok (.iload_n 3, 1) := by decide +kernel
theorem dc_Mo_merge_322 : decode m_Mo_merge.2.1 322 = .ok (.iaload, 1) := by decide +kernel
theorem dc_Mo_merge_323 : decode m_Mo_merge.2.1 323 = .ok (.ireturn, 1) := by decide +kernel
theorem b_Mo_merge_0 {E : En_t} {d : Nat} {σ : S_t} {Q : Option Value → S_t → Prop} {x1 : Int32} {x2 : Int32} {x3 : Int32}
    (h : CI E d m_Mo_has [pv E 0, .int x1, .int (0 : Int32)] σ (fun r2 σ1 => (r2 = 0 → Q (some (.int (-1 : Int32))) σ1) ∧ (¬ r2 = 0 → CI E d m_Mo_has [pv E 0, .int x2, .int (0 : Int32)] σ1 (fun r4 σ3 => (r4 = 0 → Q (some (.int (-1 : Int32))) σ3) ∧ (¬ r4 = 0 → CI E d m_Mo_isShelf [.int x3] σ3 (fun r6 σ5 => (¬ r6 = 0 → CV E d m_Mo_beginMade [pv E 0] σ5 (fun σ7 => CI E d m_Mo_isObject [pv E 0, .int x2, .int (0 : Int32)] σ7 (fun r9 σ8 => (¬ r9 = 0 → CV E d m_Mo_named [pv E 0, .int (6 : Int32), .int (0 : Int32), .int x2, .int (0 : Int32), .int (0 : Int32)] σ8 (fun σ10 => CV E d m_Mo_openPair [pv E 0, .int (0 : Int32), .int x1, .int (0 : Int32), .int x2, .int (0 : Int32)] σ10 (fun σ11 => JE E (d + 1) m_Mo_merge 73 [(0, pv E 0), (1, .int x1), (2, .int x2), (3, .int x3), (4, .int (0 : Int32))] [] σ11 Q))) ∧ (r9 = 0 → CV E d m_Mo_copy [pv E 0, .int x2, .int (0 : Int32), .int (0 : Int32), .int (0 : Int32)] σ8 (fun σ12 => JE E (d + 1) m_Mo_merge 303 [(0, pv E 0), (3, .int x3)] [] σ12 Q))))) ∧ (r6 = 0 → Q (some (.int (-1 : Int32))) σ5))))))) :
    JE E (d + 1) m_Mo_merge 0 [(0, pv E 0), (1, .int x1), (2, .int x2), (3, .int x3)] [] σ Q := by
  refine J_aload_n dc_Mo_merge_0 (Eq.refl 1) 0 rfl ?_
  refine J_iload_n dc_Mo_merge_1 (Eq.refl 2) 1 rfl ?_
  refine J_iconst (v := (0 : Int32)) dc_Mo_merge_2 (Eq.refl 3) rfl ?_
  refine J_callVI (As := [.int x1, .int (0 : Int32)]) (st := []) dc_Mo_merge_3 (Eq.refl 6) lk_Mo_408 mi_Mo_has rfl (Nat.le_of_ble_eq_true rfl) rfl rfl (Nat.le_of_ble_eq_true rfl) rfl (Nat.le_of_ble_eq_true rfl) (CI.mono h (fun r2 σ1 h => ?_))
  refine J_if_eq dc_Mo_merge_6 (Eq.refl 9) rfl (fun hc => ?_) (fun hc => ?_)
  · have h := h.1 hc
    refine J_iconst (v := (-1 : Int32)) dc_Mo_merge_25 (Eq.refl 26) rfl ?_
    exact J_iret dc_Mo_merge_26 rfl h
  · have h := h.2 hc
    refine J_aload_n dc_Mo_merge_9 (Eq.refl 10) 0 rfl ?_
    refine J_iload_n dc_Mo_merge_10 (Eq.refl 11) 2 rfl ?_
    refine J_iconst (v := (0 : Int32)) dc_Mo_merge_11 (Eq.refl 12) rfl ?_
    refine J_callVI (As := [.int x2, .int (0 : Int32)]) (st := []) dc_Mo_merge_12 (Eq.refl 15) lk_Mo_408 mi_Mo_has rfl (Nat.le_of_ble_eq_true rfl) rfl rfl (Nat.le_of_ble_eq_true rfl) rfl (Nat.le_of_ble_eq_true rfl) (CI.mono h (fun r4 σ3 h => ?_))
    refine J_if_eq dc_Mo_merge_15 (Eq.refl 18) rfl (fun hc => ?_) (fun hc => ?_)
    · have h := h.1 hc
      refine J_iconst (v := (-1 : Int32)) dc_Mo_merge_25 (Eq.refl 26) rfl ?_
      exact J_iret dc_Mo_merge_26 rfl h
    · have h := h.2 hc
      refine J_iload_n dc_Mo_merge_18 (Eq.refl 19) 3 rfl ?_
      refine J_callSI (As := [.int x3]) (st := []) dc_Mo_merge_19 (Eq.refl 22) lk_Mo_291 mi_Mo_isShelf (Nat.le_of_ble_eq_true rfl) rfl (Nat.le_of_ble_eq_true rfl) (CI.mono h (fun r6 σ5 h => ?_))
      refine J_if_ne dc_Mo_merge_22 (Eq.refl 25) rfl (fun hc => ?_) (fun hc => ?_)
      · have h := h.1 hc
        refine J_aload_n dc_Mo_merge_27 (Eq.refl 28) 0 rfl ?_
        refine J_callVV (As := []) (st := []) dc_Mo_merge_28 (Eq.refl 31) lk_Mo_376 mi_Mo_beginMade rfl (Nat.le_of_ble_eq_true rfl) rfl rfl (Nat.le_of_ble_eq_true rfl) rfl (Nat.le_of_ble_eq_true rfl) (CV.mono h (fun σ7 h => ?_))
        refine J_aload_n dc_Mo_merge_31 (Eq.refl 32) 0 rfl ?_
        refine J_iload_n dc_Mo_merge_32 (Eq.refl 33) 2 rfl ?_
        refine J_iconst (v := (0 : Int32)) dc_Mo_merge_33 (Eq.refl 34) rfl ?_
        refine J_callVI (As := [.int x2, .int (0 : Int32)]) (st := []) dc_Mo_merge_34 (Eq.refl 37) lk_Mo_435 mi_Mo_isObject rfl (Nat.le_of_ble_eq_true rfl) rfl rfl (Nat.le_of_ble_eq_true rfl) rfl (Nat.le_of_ble_eq_true rfl) (CI.mono h (fun r9 σ8 h => ?_))
        refine J_if_ne dc_Mo_merge_37 (Eq.refl 40) rfl (fun hc => ?_) (fun hc => ?_)
        · have h := h.1 hc
          refine J_aload_n dc_Mo_merge_51 (Eq.refl 52) 0 rfl ?_
          refine J_bipush (v := (6 : Int32)) dc_Mo_merge_52 (Eq.refl 54) rfl ?_
          refine J_iconst (v := (0 : Int32)) dc_Mo_merge_54 (Eq.refl 55) rfl ?_
          refine J_iload_n dc_Mo_merge_55 (Eq.refl 56) 2 rfl ?_
          refine J_iconst (v := (0 : Int32)) dc_Mo_merge_56 (Eq.refl 57) rfl ?_
          refine J_iconst (v := (0 : Int32)) dc_Mo_merge_57 (Eq.refl 58) rfl ?_
          refine J_callVV (As := [.int (6 : Int32), .int (0 : Int32), .int x2, .int (0 : Int32), .int (0 : Int32)]) (st := []) dc_Mo_merge_58 (Eq.refl 61) lk_Mo_442 mi_Mo_named rfl (Nat.le_of_ble_eq_true rfl) rfl rfl (Nat.le_of_ble_eq_true rfl) rfl (Nat.le_of_ble_eq_true rfl) (CV.mono h (fun σ10 h => ?_))
          refine J_aload_n dc_Mo_merge_61 (Eq.refl 62) 0 rfl ?_
          refine J_iconst (v := (0 : Int32)) dc_Mo_merge_62 (Eq.refl 63) rfl ?_
          refine J_iload_n dc_Mo_merge_63 (Eq.refl 64) 1 rfl ?_
          refine J_iconst (v := (0 : Int32)) dc_Mo_merge_64 (Eq.refl 65) rfl ?_
          refine J_iload_n dc_Mo_merge_65 (Eq.refl 66) 2 rfl ?_
          refine J_iconst (v := (0 : Int32)) dc_Mo_merge_66 (Eq.refl 67) rfl ?_
          refine J_callVV (As := [.int (0 : Int32), .int x1, .int (0 : Int32), .int x2, .int (0 : Int32)]) (st := []) dc_Mo_merge_67 (Eq.refl 70) lk_Mo_446 mi_Mo_openPair rfl (Nat.le_of_ble_eq_true rfl) rfl rfl (Nat.le_of_ble_eq_true rfl) rfl (Nat.le_of_ble_eq_true rfl) (CV.mono h (fun σ11 h => ?_))
          refine J_iconst (v := (0 : Int32)) dc_Mo_merge_70 (Eq.refl 71) rfl ?_
          refine J_istore (L' := [(4, .int (0 : Int32)), (0, pv E 0), (1, .int x1), (2, .int x2), (3, .int x3)]) dc_Mo_merge_71 (Eq.refl 73) (Nat.le_of_ble_eq_true rfl) rfl ?_
          refine J_sub [1, 2, 3, 4, 0] rfl ?_
          exact h
        · have h := h.2 hc
          refine J_aload_n dc_Mo_merge_40 (Eq.refl 41) 0 rfl ?_
          refine J_iload_n dc_Mo_merge_41 (Eq.refl 42) 2 rfl ?_
          refine J_iconst (v := (0 : Int32)) dc_Mo_merge_42 (Eq.refl 43) rfl ?_
          refine J_iconst (v := (0 : Int32)) dc_Mo_merge_43 (Eq.refl 44) rfl ?_
          refine J_iconst (v := (0 : Int32)) dc_Mo_merge_44 (Eq.refl 45) rfl ?_
          refine J_callVV (As := [.int x2, .int (0 : Int32), .int (0 : Int32), .int (0 : Int32)]) (st := []) dc_Mo_merge_45 (Eq.refl 48) lk_Mo_438 mi_Mo_copy rfl (Nat.le_of_ble_eq_true rfl) rfl rfl (Nat.le_of_ble_eq_true rfl) rfl (Nat.le_of_ble_eq_true rfl) (CV.mono h (fun σ12 h => ?_))
          refine J_goto dc_Mo_merge_48 rfl ?_
          refine J_sub [0, 3] rfl ?_
          exact h
      · have h := h.2 hc
        refine J_iconst (v := (-1 : Int32)) dc_Mo_merge_25 (Eq.refl 26) rfl ?_
        exact J_iret dc_Mo_merge_26 rfl h
theorem b_Mo_merge_73 {E : En_t} {d : Nat} {σ : S_t} {Q : Option Value → S_t → Prop} {x1 : Int32} {x2 : Int32} {x3 : Int32} {x4 : Int32}
    (h : (x4 < 0 → JE E (d + 1) m_Mo_merge 303 [(0, pv E 0), (3, .int x3)] [] σ Q) ∧ (¬ x4 < 0 → vp_in x4 40 ∧ ((¬ (gI σ 47 x4.toNatClampNeg) = 0 → JE E (d + 1) m_Mo_merge 104 [(0, pv E 0), (1, .int x1), (2, .int x2), (3, .int x3), (4, .int x4)] [] σ Q) ∧ ((gI σ 47 x4.toNatClampNeg) = 0 → vp_in x4 40 ∧ ((¬ (gI σ 48 x4.toNatClampNeg) = 0 → JE E (d + 1) m_Mo_merge 104 [(0, pv E 0), (1, .int x1), (2, .int x2), (3, .int x3), (4, .int x4)] [] σ Q) ∧ ((gI σ 48 x4.toNatClampNeg) = 0 → JE E (d + 1) m_Mo_merge 73 [(0, pv E 0), (1, .int x1), (2, .int x2), (3, .int x3), (4, .int (x4 + (-1 : Int32)))] [] σ Q)))))) :
    JE E (d + 1) m_Mo_merge 73 [(0, pv E 0), (1, .int x1), (2, .int x2), (3, .int x3), (4, .int x4)] [] σ Q := by
  refine J_iload dc_Mo_merge_73 (Eq.refl 75) 4 rfl ?_
  refine J_if_lt dc_Mo_merge_75 (Eq.refl 78) rfl (fun hc => ?_) (fun hc => ?_)
  · have h := h.1 hc
    refine J_sub [0, 3] rfl ?_
    exact h
  · have h := h.2 hc
    refine J_aload_n dc_Mo_merge_78 (Eq.refl 79) 0 rfl ?_
    refine J_getF (y := 47) dc_Mo_merge_79 (Eq.refl 82) fl_Mo_156 (Nat.le_of_ble_eq_true rfl) rfl (Or.inl rfl) rfl ?_
    refine J_iload dc_Mo_merge_82 (Eq.refl 84) 4 rfl ?_
    obtain ⟨hg, h⟩ := h
    refine J_iald dc_Mo_merge_84 (Eq.refl 85) rfl rfl hg ?_
    refine J_if_ne dc_Mo_merge_85 (Eq.refl 88) rfl (fun hc => ?_) (fun hc => ?_)
    · have h := h.1 hc
      exact h
    · have h := h.2 hc
      refine J_aload_n dc_Mo_merge_88 (Eq.refl 89) 0 rfl ?_
      refine J_getF (y := 48) dc_Mo_merge_89 (Eq.refl 92) fl_Mo_159 (Nat.le_of_ble_eq_true rfl) rfl (Or.inl rfl) rfl ?_
      refine J_iload dc_Mo_merge_92 (Eq.refl 94) 4 rfl ?_
      obtain ⟨hg, h⟩ := h
      refine J_iald dc_Mo_merge_94 (Eq.refl 95) rfl rfl hg ?_
      refine J_if_ne dc_Mo_merge_95 (Eq.refl 98) rfl (fun hc => ?_) (fun hc => ?_)
      · have h := h.1 hc
        exact h
      · have h := h.2 hc
        refine J_iinc (v := x4 + (-1 : Int32)) (L' := [(4, .int (x4 + (-1 : Int32))), (0, pv E 0), (1, .int x1), (2, .int x2), (3, .int x3)]) dc_Mo_merge_98 (Eq.refl 101) 4 rfl rfl (Nat.le_of_ble_eq_true rfl) rfl ?_
        refine J_goto dc_Mo_merge_101 rfl ?_
        refine J_sub [1, 2, 3, 4, 0] rfl ?_
        exact h
theorem b_Mo_merge_104 {E : En_t} {d : Nat} {σ : S_t} {Q : Option Value → S_t → Prop} {x1 : Int32} {x2 : Int32} {x3 : Int32} {x4 : Int32}
    (h : CI E d m_Mo_firstOf [pv E 0, .int x4, .int x1, .int x2] σ (fun r2 σ1 => (0 < r2 → JE E (d + 1) m_Mo_merge 130 [(0, pv E 0), (1, .int x1), (2, .int x2), (3, .int x3), (4, .int x4), (5, .int r2)] [.int (-1 : Int32)] σ1 Q) ∧ (¬ 0 < r2 → vp_in x4 40 ∧ (JE E (d + 1) m_Mo_merge 130 [(0, pv E 0), (1, .int x1), (2, .int x2), (3, .int x3), (4, .int x4), (5, .int r2)] [.int (gI σ1 45 x4.toNatClampNeg)] σ1 Q)))) :
    JE E (d + 1) m_Mo_merge 104 [(0, pv E 0), (1, .int x1), (2, .int x2), (3, .int x3), (4, .int x4)] [] σ Q := by
  refine J_aload_n dc_Mo_merge_104 (Eq.refl 105) 0 rfl ?_
  refine J_iload dc_Mo_merge_105 (Eq.refl 107) 4 rfl ?_
  refine J_iload_n dc_Mo_merge_107 (Eq.refl 108) 1 rfl ?_
  refine J_iload_n dc_Mo_merge_108 (Eq.refl 109) 2 rfl ?_
  refine J_callVI (As := [.int x4, .int x1, .int x2]) (st := []) dc_Mo_merge_109 (Eq.refl 112) lk_Mo_449 mi_Mo_firstOf rfl (Nat.le_of_ble_eq_true rfl) rfl rfl (Nat.le_of_ble_eq_true rfl) rfl (Nat.le_of_ble_eq_true rfl) (CI.mono h (fun r2 σ1 h => ?_))
  refine J_istore (L' := [(5, .int r2), (0, pv E 0), (1, .int x1), (2, .int x2), (3, .int x3), (4, .int x4)]) dc_Mo_merge_112 (Eq.refl 114) (Nat.le_of_ble_eq_true rfl) rfl ?_
  refine J_iload dc_Mo_merge_114 (Eq.refl 116) 0 rfl ?_
  refine J_if_gt dc_Mo_merge_116 (Eq.refl 119) rfl (fun hc => ?_) (fun hc => ?_)
  · have h := h.1 hc
    refine J_iconst (v := (-1 : Int32)) dc_Mo_merge_129 (Eq.refl 130) rfl ?_
    refine J_sub [1, 2, 3, 4, 5, 0] rfl ?_
    exact h
  · have h := h.2 hc
    refine J_aload_n dc_Mo_merge_119 (Eq.refl 120) 1 rfl ?_
    refine J_getF (y := 45) dc_Mo_merge_120 (Eq.refl 123) fl_Mo_150 (Nat.le_of_ble_eq_true rfl) rfl (Or.inl rfl) rfl ?_
    refine J_iload dc_Mo_merge_123 (Eq.refl 125) 5 rfl ?_
    obtain ⟨hg, h⟩ := h
    refine J_iald dc_Mo_merge_125 (Eq.refl 126) rfl rfl hg ?_
    refine J_goto dc_Mo_merge_126 rfl ?_
    refine J_sub [1, 2, 3, 4, 5, 0] rfl ?_
    exact h
theorem b_Mo_merge_130 {E : En_t} {d : Nat} {σ : S_t} {Q : Option Value → S_t → Prop} {x1 : Int32} {x2 : Int32} {x3 : Int32} {x4 : Int32} {x5 : Int32} {s0 : Int32}
    (h : (x5 < 0 → JE E (d + 1) m_Mo_merge 148 [(0, pv E 0), (1, .int x1), (2, .int x2), (3, .int x3), (4, .int x4), (6, .int s0)] [.int (-1 : Int32)] σ Q) ∧ (¬ x5 < 0 → vp_in x4 40 ∧ (JE E (d + 1) m_Mo_merge 148 [(0, pv E 0), (1, .int x1), (2, .int x2), (3, .int x3), (4, .int x4), (6, .int s0)] [.int (gI σ 46 x4.toNatClampNeg)] σ Q))) :
    JE E (d + 1) m_Mo_merge 130 [(0, pv E 0), (1, .int x1), (2, .int x2), (3, .int x3), (4, .int x4), (5, .int x5)] [.int s0] σ Q := by
  refine J_istore (L' := [(6, .int s0), (0, pv E 0), (1, .int x1), (2, .int x2), (3, .int x3), (4, .int x4), (5, .int x5)]) dc_Mo_merge_130 (Eq.refl 132) (Nat.le_of_ble_eq_true rfl) rfl ?_
  refine J_iload dc_Mo_merge_132 (Eq.refl 134) 6 rfl ?_
  refine J_if_lt dc_Mo_merge_134 (Eq.refl 137) rfl (fun hc => ?_) (fun hc => ?_)
  · have h := h.1 hc
    refine J_iconst (v := (-1 : Int32)) dc_Mo_merge_147 (Eq.refl 148) rfl ?_
    refine J_sub [1, 2, 3, 4, 5, 0] rfl ?_
    exact h
  · have h := h.2 hc
    refine J_aload_n dc_Mo_merge_137 (Eq.refl 138) 1 rfl ?_
    refine J_getF (y := 46) dc_Mo_merge_138 (Eq.refl 141) fl_Mo_153 (Nat.le_of_ble_eq_true rfl) rfl (Or.inl rfl) rfl ?_
    refine J_iload dc_Mo_merge_141 (Eq.refl 143) 5 rfl ?_
    obtain ⟨hg, h⟩ := h
    refine J_iald dc_Mo_merge_143 (Eq.refl 144) rfl rfl hg ?_
    refine J_goto dc_Mo_merge_144 rfl ?_
    refine J_sub [1, 2, 3, 4, 5, 0] rfl ?_
    exact h
theorem b_Mo_merge_148 {E : En_t} {d : Nat} {σ : S_t} {Q : Option Value → S_t → Prop} {x1 : Int32} {x2 : Int32} {x3 : Int32} {x4 : Int32} {x6 : Int32} {s0 : Int32}
    (h : (x6 < 0 → JE E (d + 1) m_Mo_merge 180 [(0, pv E 0), (1, .int x1), (2, .int x2), (3, .int x3), (4, .int x4), (6, .int x6), (7, .int s0)] [] σ Q) ∧ (¬ x6 < 0 → CI E d m_Mo_nextOf [pv E 0, .int x1, .int x6] σ (fun r2 σ1 => vp_in x4 40 ∧ (vp_in x4 40 ∧ (vp_in x4 40 ∧ (JE E (d + 1) m_Mo_merge 180 [(0, pv E 0), (1, .int x1), (2, .int x2), (3, .int x3), (4, .int x4), (6, .int x6), (7, .int s0)] [] (sI (sI σ1 45 x4.toNatClampNeg r2) 47 x4.toNatClampNeg ((gI (sI σ1 45 x4.toNatClampNeg r2) 47 x4.toNatClampNeg) - (1 : Int32))) Q)))))) :
    JE E (d + 1) m_Mo_merge 148 [(0, pv E 0), (1, .int x1), (2, .int x2), (3, .int x3), (4, .int x4), (6, .int x6)] [.int s0] σ Q := by
  refine J_istore (L' := [(7, .int s0), (0, pv E 0), (1, .int x1), (2, .int x2), (3, .int x3), (4, .int x4), (6, .int x6)]) dc_Mo_merge_148 (Eq.refl 150) (Nat.le_of_ble_eq_true rfl) rfl ?_
  refine J_iload dc_Mo_merge_150 (Eq.refl 152) 6 rfl ?_
  refine J_if_lt dc_Mo_merge_152 (Eq.refl 155) rfl (fun hc => ?_) (fun hc => ?_)
  · have h := h.1 hc
    refine J_sub [1, 2, 3, 4, 5, 6, 0] rfl ?_
    exact h
  · have h := h.2 hc
    refine J_aload_n dc_Mo_merge_155 (Eq.refl 156) 1 rfl ?_
    refine J_getF (y := 45) dc_Mo_merge_156 (Eq.refl 159) fl_Mo_150 (Nat.le_of_ble_eq_true rfl) rfl (Or.inl rfl) rfl ?_
    refine J_iload dc_Mo_merge_159 (Eq.refl 161) 5 rfl ?_
    refine J_aload_n dc_Mo_merge_161 (Eq.refl 162) 1 rfl ?_
    refine J_iload_n dc_Mo_merge_162 (Eq.refl 163) 2 rfl ?_
    refine J_iload dc_Mo_merge_163 (Eq.refl 165) 6 rfl ?_
    refine J_callVI (As := [.int x1, .int x6]) (st := [.int x4, pv E 45]) dc_Mo_merge_165 (Eq.refl 168) lk_Mo_452 mi_Mo_nextOf rfl (Nat.le_of_ble_eq_true rfl) rfl rfl (Nat.le_of_ble_eq_true rfl) rfl (Nat.le_of_ble_eq_true rfl) (CI.mono h (fun r2 σ1 h => ?_))
    obtain ⟨hg, h⟩ := h
    refine J_iast dc_Mo_merge_168 (Eq.refl 169) rfl rfl hg ?_
    refine J_aload_n dc_Mo_merge_169 (Eq.refl 170) 1 rfl ?_
    refine J_getF (y := 47) dc_Mo_merge_170 (Eq.refl 173) fl_Mo_156 (Nat.le_of_ble_eq_true rfl) rfl (Or.inl rfl) rfl ?_
    refine J_iload dc_Mo_merge_173 (Eq.refl 175) 5 rfl ?_
    refine J_dup2_11 dc_Mo_merge_175 (Eq.refl 176) rfl rfl ?_
    obtain ⟨hg, h⟩ := h
    refine J_iald dc_Mo_merge_176 (Eq.refl 177) rfl rfl hg ?_
    refine J_iconst (v := (1 : Int32)) dc_Mo_merge_177 (Eq.refl 178) rfl ?_
    refine J_isub dc_Mo_merge_178 (Eq.refl 179) ?_
    obtain ⟨hg, h⟩ := h
    refine J_iast dc_Mo_merge_179 (Eq.refl 180) rfl rfl hg ?_
    refine J_sub [1, 2, 3, 4, 5, 6, 0] rfl ?_
    exact h
theorem b_Mo_merge_180 {E : En_t} {d : Nat} {σ : S_t} {Q : Option Value → S_t → Prop} {x1 : Int32} {x2 : Int32} {x3 : Int32} {x4 : Int32} {x6 : Int32} {x7 : Int32}
    (h : (x7 < 0 → JE E (d + 1) m_Mo_merge 210 [(0, pv E 0), (1, .int x1), (2, .int x2), (3, .int x3), (4, .int x4), (6, .int x6), (7, .int x7)] [] σ Q) ∧ (¬ x7 < 0 → CI E d m_Mo_nextOf [pv E 0, .int x2, .int x7] σ (fun r2 σ1 => vp_in x4 40 ∧ (vp_in x4 40 ∧ (vp_in x4 40 ∧ (JE E (d + 1) m_Mo_merge 210 [(0, pv E 0), (1, .int x1), (2, .int x2), (3, .int x3), (4, .int x4), (6, .int x6), (7, .int x7)] [] (sI (sI σ1 46 x4.toNatClampNeg r2) 48 x4.toNatClampNeg ((gI (sI σ1 46 x4.toNatClampNeg r2) 48 x4.toNatClampNeg) - (1 : Int32))) Q)))))) :
    JE E (d + 1) m_Mo_merge 180 [(0, pv E 0), (1, .int x1), (2, .int x2), (3, .int x3), (4, .int x4), (6, .int x6), (7, .int x7)] [] σ Q := by
  refine J_iload dc_Mo_merge_180 (Eq.refl 182) 6 rfl ?_
  refine J_if_lt dc_Mo_merge_182 (Eq.refl 185) rfl (fun hc => ?_) (fun hc => ?_)
  · have h := h.1 hc
    exact h
  · have h := h.2 hc
    refine J_aload_n dc_Mo_merge_185 (Eq.refl 186) 0 rfl ?_
    refine J_getF (y := 46) dc_Mo_merge_186 (Eq.refl 189) fl_Mo_153 (Nat.le_of_ble_eq_true rfl) rfl (Or.inl rfl) rfl ?_
    refine J_iload dc_Mo_merge_189 (Eq.refl 191) 4 rfl ?_
    refine J_aload_n dc_Mo_merge_191 (Eq.refl 192) 0 rfl ?_
    refine J_iload_n dc_Mo_merge_192 (Eq.refl 193) 2 rfl ?_
    refine J_iload dc_Mo_merge_193 (Eq.refl 195) 6 rfl ?_
    refine J_callVI (As := [.int x2, .int x7]) (st := [.int x4, pv E 46]) dc_Mo_merge_195 (Eq.refl 198) lk_Mo_452 mi_Mo_nextOf rfl (Nat.le_of_ble_eq_true rfl) rfl rfl (Nat.le_of_ble_eq_true rfl) rfl (Nat.le_of_ble_eq_true rfl) (CI.mono h (fun r2 σ1 h => ?_))
    obtain ⟨hg, h⟩ := h
    refine J_iast dc_Mo_merge_198 (Eq.refl 199) rfl rfl hg ?_
    refine J_aload_n dc_Mo_merge_199 (Eq.refl 200) 0 rfl ?_
    refine J_getF (y := 48) dc_Mo_merge_200 (Eq.refl 203) fl_Mo_159 (Nat.le_of_ble_eq_true rfl) rfl (Or.inl rfl) rfl ?_
    refine J_iload dc_Mo_merge_203 (Eq.refl 205) 4 rfl ?_
    refine J_dup2_11 dc_Mo_merge_205 (Eq.refl 206) rfl rfl ?_
    obtain ⟨hg, h⟩ := h
    refine J_iald dc_Mo_merge_206 (Eq.refl 207) rfl rfl hg ?_
    refine J_iconst (v := (1 : Int32)) dc_Mo_merge_207 (Eq.refl 208) rfl ?_
    refine J_isub dc_Mo_merge_208 (Eq.refl 209) ?_
    obtain ⟨hg, h⟩ := h
    refine J_iast dc_Mo_merge_209 (Eq.refl 210) rfl rfl hg ?_
    exact h
theorem b_Mo_merge_210 {E : En_t} {d : Nat} {σ : S_t} {Q : Option Value → S_t → Prop} {x1 : Int32} {x2 : Int32} {x3 : Int32} {x4 : Int32} {x6 : Int32} {x7 : Int32}
    (h : (0 ≤ x7 → CI E d m_Mo_isObject [pv E 0, .int x2, .int x7] σ (fun r2 σ1 => (r2 = 0 → vp_in (((500 : Int32) * x2) + x7) 4500 ∧ (((gI σ1 13 (((500 : Int32) * x2) + x7).toNatClampNeg) = 0 → JE E (d + 1) m_Mo_merge 300 [(0, pv E 0), (1, .int x1), (2, .int x2), (3, .int x3), (4, .int x4)] [] σ1 Q) ∧ (¬ (gI σ1 13 (((500 : Int32) * x2) + x7).toNatClampNeg) = 0 → CV E d m_Mo_copy [pv E 0, .int x2, .int x7, .int (x4 + (1 : Int32)), .int (1 : Int32)] σ1 (fun σ3 => JE E (d + 1) m_Mo_merge 300 [(0, pv E 0), (1, .int x1), (2, .int x2), (3, .int x3), (4, .int x4)] [] σ3 Q)))) ∧ (¬ r2 = 0 → CV E d m_Mo_named [pv E 0, .int (6 : Int32), .int (x4 + (1 : Int32)), .int x2, .int x7, .int (1 : Int32)] σ1 (fun σ4 => CV E d m_Mo_openPair [pv E 0, .int (x4 + (1 : Int32)), .int x1, .int x6, .int x2, .int x7] σ4 (fun σ5 => JE E (d + 1) m_Mo_merge 300 [(0, pv E 0), (1, .int x1), (2, .int x2), (3, .int x3), (4, .int (x4 + (1 : Int32)))] [] σ5 Q))))) ∧ (¬ 0 ≤ x7 → CV E d m_Mo_copy [pv E 0, .int x1, .int x6, .int (x4 + (1 : Int32)), .int (1 : Int32)] σ (fun σ6 => JE E (d + 1) m_Mo_merge 300 [(0, pv E 0), (1, .int x1), (2, .int x2), (3, .int x3), (4, .int x4)] [] σ6 Q))) :
    JE E (d + 1) m_Mo_merge 210 [(0, pv E 0), (1, .int x1), (2, .int x2), (3, .int x3), (4, .int x4), (6, .int x6), (7, .int x7)] [] σ Q := by
  refine J_iload dc_Mo_merge_210 (Eq.refl 212) 6 rfl ?_
  refine J_if_ge dc_Mo_merge_212 (Eq.refl 215) rfl (fun hc => ?_) (fun hc => ?_)
  · have h := h.1 hc
    refine J_aload_n dc_Mo_merge_230 (Eq.refl 231) 0 rfl ?_
    refine J_iload_n dc_Mo_merge_231 (Eq.refl 232) 2 rfl ?_
    refine J_iload dc_Mo_merge_232 (Eq.refl 234) 6 rfl ?_
    refine J_callVI (As := [.int x2, .int x7]) (st := []) dc_Mo_merge_234 (Eq.refl 237) lk_Mo_435 mi_Mo_isObject rfl (Nat.le_of_ble_eq_true rfl) rfl rfl (Nat.le_of_ble_eq_true rfl) rfl (Nat.le_of_ble_eq_true rfl) (CI.mono h (fun r2 σ1 h => ?_))
    refine J_if_eq dc_Mo_merge_237 (Eq.refl 240) rfl (fun hc => ?_) (fun hc => ?_)
    · have h := h.1 hc
      refine J_aload_n dc_Mo_merge_272 (Eq.refl 273) 0 rfl ?_
      refine J_getF (y := 13) dc_Mo_merge_273 (Eq.refl 276) fl_Mo_47 (Nat.le_of_ble_eq_true rfl) rfl (Or.inl rfl) rfl ?_
      refine J_sipush (v := (500 : Int32)) dc_Mo_merge_276 (Eq.refl 279) rfl ?_
      refine J_iload_n dc_Mo_merge_279 (Eq.refl 280) 2 rfl ?_
      refine J_imul dc_Mo_merge_280 (Eq.refl 281) ?_
      refine J_iload dc_Mo_merge_281 (Eq.refl 283) 6 rfl ?_
      refine J_iadd dc_Mo_merge_283 (Eq.refl 284) ?_
      obtain ⟨hg, h⟩ := h
      refine J_iald dc_Mo_merge_284 (Eq.refl 285) rfl rfl hg ?_
      refine J_if_eq dc_Mo_merge_285 (Eq.refl 288) rfl (fun hc => ?_) (fun hc => ?_)
      · have h := h.1 hc
        refine J_sub [0, 1, 2, 3, 4] rfl ?_
        exact h
      · have h := h.2 hc
        refine J_aload_n dc_Mo_merge_288 (Eq.refl 289) 0 rfl ?_
        refine J_iload_n dc_Mo_merge_289 (Eq.refl 290) 2 rfl ?_
        refine J_iload dc_Mo_merge_290 (Eq.refl 292) 6 rfl ?_
        refine J_iload dc_Mo_merge_292 (Eq.refl 294) 4 rfl ?_
        refine J_iconst (v := (1 : Int32)) dc_Mo_merge_294 (Eq.refl 295) rfl ?_
        refine J_iadd dc_Mo_merge_295 (Eq.refl 296) ?_
        refine J_iconst (v := (1 : Int32)) dc_Mo_merge_296 (Eq.refl 297) rfl ?_
        refine J_callVV (As := [.int x2, .int x7, .int (x4 + (1 : Int32)), .int (1 : Int32)]) (st := []) dc_Mo_merge_297 (Eq.refl 300) lk_Mo_438 mi_Mo_copy rfl (Nat.le_of_ble_eq_true rfl) rfl rfl (Nat.le_of_ble_eq_true rfl) rfl (Nat.le_of_ble_eq_true rfl) (CV.mono h (fun σ3 h => ?_))
        refine J_sub [0, 1, 2, 3, 4] rfl ?_
        exact h
    · have h := h.2 hc
      refine J_aload_n dc_Mo_merge_240 (Eq.refl 241) 0 rfl ?_
      refine J_bipush (v := (6 : Int32)) dc_Mo_merge_241 (Eq.refl 243) rfl ?_
      refine J_iload dc_Mo_merge_243 (Eq.refl 245) 4 rfl ?_
      refine J_iconst (v := (1 : Int32)) dc_Mo_merge_245 (Eq.refl 246) rfl ?_
      refine J_iadd dc_Mo_merge_246 (Eq.refl 247) ?_
      refine J_iload_n dc_Mo_merge_247 (Eq.refl 248) 2 rfl ?_
      refine J_iload dc_Mo_merge_248 (Eq.refl 250) 6 rfl ?_
      refine J_iconst (v := (1 : Int32)) dc_Mo_merge_250 (Eq.refl 251) rfl ?_
      refine J_callVV (As := [.int (6 : Int32), .int (x4 + (1 : Int32)), .int x2, .int x7, .int (1 : Int32)]) (st := []) dc_Mo_merge_251 (Eq.refl 254) lk_Mo_442 mi_Mo_named rfl (Nat.le_of_ble_eq_true rfl) rfl rfl (Nat.le_of_ble_eq_true rfl) rfl (Nat.le_of_ble_eq_true rfl) (CV.mono h (fun σ4 h => ?_))
      refine J_iinc (v := x4 + (1 : Int32)) (L' := [(4, .int (x4 + (1 : Int32))), (0, pv E 0), (1, .int x1), (2, .int x2), (3, .int x3), (6, .int x6), (7, .int x7)]) dc_Mo_merge_254 (Eq.refl 257) 4 rfl rfl (Nat.le_of_ble_eq_true rfl) rfl ?_
      refine J_aload_n dc_Mo_merge_257 (Eq.refl 258) 1 rfl ?_
      refine J_iload dc_Mo_merge_258 (Eq.refl 260) 0 rfl ?_
      refine J_iload_n dc_Mo_merge_260 (Eq.refl 261) 2 rfl ?_
      refine J_iload dc_Mo_merge_261 (Eq.refl 263) 5 rfl ?_
      refine J_iload_n dc_Mo_merge_263 (Eq.refl 264) 3 rfl ?_
      refine J_iload dc_Mo_merge_264 (Eq.refl 266) 6 rfl ?_
      refine J_callVV (As := [.int (x4 + (1 : Int32)), .int x1, .int x6, .int x2, .int x7]) (st := []) dc_Mo_merge_266 (Eq.refl 269) lk_Mo_446 mi_Mo_openPair rfl (Nat.le_of_ble_eq_true rfl) rfl rfl (Nat.le_of_ble_eq_true rfl) rfl (Nat.le_of_ble_eq_true rfl) (CV.mono h (fun σ5 h => ?_))
      refine J_goto dc_Mo_merge_269 rfl ?_
      refine J_sub [1, 2, 3, 4, 0] rfl ?_
      exact h
  · have h := h.2 hc
    refine J_aload_n dc_Mo_merge_215 (Eq.refl 216) 0 rfl ?_
    refine J_iload_n dc_Mo_merge_216 (Eq.refl 217) 1 rfl ?_
    refine J_iload dc_Mo_merge_217 (Eq.refl 219) 5 rfl ?_
    refine J_iload dc_Mo_merge_219 (Eq.refl 221) 4 rfl ?_
    refine J_iconst (v := (1 : Int32)) dc_Mo_merge_221 (Eq.refl 222) rfl ?_
    refine J_iadd dc_Mo_merge_222 (Eq.refl 223) ?_
    refine J_iconst (v := (1 : Int32)) dc_Mo_merge_223 (Eq.refl 224) rfl ?_
    refine J_callVV (As := [.int x1, .int x6, .int (x4 + (1 : Int32)), .int (1 : Int32)]) (st := []) dc_Mo_merge_224 (Eq.refl 227) lk_Mo_438 mi_Mo_copy rfl (Nat.le_of_ble_eq_true rfl) rfl rfl (Nat.le_of_ble_eq_true rfl) rfl (Nat.le_of_ble_eq_true rfl) (CV.mono h (fun σ6 h => ?_))
    refine J_goto dc_Mo_merge_227 rfl ?_
    refine J_sub [0, 1, 2, 3, 4] rfl ?_
    exact h
theorem b_Mo_merge_300 {E : En_t} {d : Nat} {σ : S_t} {Q : Option Value → S_t → Prop} {x1 : Int32} {x2 : Int32} {x3 : Int32} {x4 : Int32}
    (h : JE E (d + 1) m_Mo_merge 73 [(0, pv E 0), (1, .int x1), (2, .int x2), (3, .int x3), (4, .int x4)] [] σ Q) :
    JE E (d + 1) m_Mo_merge 300 [(0, pv E 0), (1, .int x1), (2, .int x2), (3, .int x3), (4, .int x4)] [] σ Q := by
  refine J_goto dc_Mo_merge_300 rfl ?_
  exact h
theorem b_Mo_merge_303 {E : En_t} {d : Nat} {σ : S_t} {Q : Option Value → S_t → Prop} {x3 : Int32}
    (h : ((gI σ 0 39) = 0 → CV E d m_Mo_shelve [pv E 0, .int x3] σ (fun σ1 => vp_in x3 9 ∧ (Q (some (.int (gI σ1 9 x3.toNatClampNeg))) σ1))) ∧ (¬ (gI σ 0 39) = 0 → Q (some (.int (-1 : Int32))) σ)) :
    JE E (d + 1) m_Mo_merge 303 [(0, pv E 0), (3, .int x3)] [] σ Q := by
  refine J_aload_n dc_Mo_merge_303 (Eq.refl 304) 0 rfl ?_
  refine J_getI dc_Mo_merge_304 (Eq.refl 307) fl_Mo_299 (Nat.le_of_ble_eq_true rfl) rfl (Or.inr rfl) ?_
  refine J_if_eq dc_Mo_merge_307 (Eq.refl 310) rfl (fun hc => ?_) (fun hc => ?_)
  · have h := h.1 hc
    refine J_aload_n dc_Mo_merge_312 (Eq.refl 313) 0 rfl ?_
    refine J_iload_n dc_Mo_merge_313 (Eq.refl 314) 1 rfl ?_
    refine J_callVV (As := [.int x3]) (st := []) dc_Mo_merge_314 (Eq.refl 317) lk_Mo_392 mi_Mo_shelve rfl (Nat.le_of_ble_eq_true rfl) rfl rfl (Nat.le_of_ble_eq_true rfl) rfl (Nat.le_of_ble_eq_true rfl) (CV.mono h (fun σ1 h => ?_))
    refine J_aload_n dc_Mo_merge_317 (Eq.refl 318) 0 rfl ?_
    refine J_getF (y := 9) dc_Mo_merge_318 (Eq.refl 321) fl_Mo_35 (Nat.le_of_ble_eq_true rfl) rfl (Or.inl rfl) rfl ?_
    refine J_iload_n dc_Mo_merge_321 (Eq.refl 322) 1 rfl ?_
    obtain ⟨hg, h⟩ := h
    refine J_iald dc_Mo_merge_322 (Eq.refl 323) rfl rfl hg ?_
    exact J_iret dc_Mo_merge_323 rfl h
  · have h := h.2 hc
    refine J_iconst (v := (-1 : Int32)) dc_Mo_merge_310 (Eq.refl 311) rfl ?_
    exact J_iret dc_Mo_merge_311 rfl h
theorem dc_Mo_isObject_0 : decode m_Mo_isObject.2.1 0 = .ok (.iload_n 2, 1) := by decide +kernel
theorem dc_Mo_isObject_1 : decode m_Mo_isObject.2.1 1 = .ok (.ifCond .lt 24, 3) := by decide +kernel
theorem dc_Mo_isObject_4 : decode m_Mo_isObject.2.1 4 = .ok (.aload_n 0, 1) := by decide +kernel
theorem dc_Mo_isObject_5 : decode m_Mo_isObject.2.1 5 = .ok (.getfield 47, 3) := by decide +kernel
theorem dc_Mo_isObject_8 : decode m_Mo_isObject.2.1 8 = .ok (.sipush 500, 3) := by decide +kernel
theorem dc_Mo_isObject_11 : decode m_Mo_isObject.2.1 11 = .ok (.iload_n 1, 1) := by decide +kernel
theorem dc_Mo_isObject_12 : decode m_Mo_isObject.2.1 12 = .ok (.imul, 1) := by decide +kernel
theorem dc_Mo_isObject_13 : decode m_Mo_isObject.2.1 13 = .ok (.iload_n 2, 1) := by decide +kernel
theorem dc_Mo_isObject_14 : decode m_Mo_isObject.2.1 14 = .ok (.iadd, 1) := by decide +kernel
theorem dc_Mo_isObject_15 : decode m_Mo_isObject.2.1 15 = .ok (.iaload, 1) := by decide +kernel
theorem dc_Mo_isObject_16 : decode m_Mo_isObject.2.1 16 = .ok (.bipush 6, 2) := by decide +kernel
theorem dc_Mo_isObject_18 : decode m_Mo_isObject.2.1 18 = .ok (.if_icmp .ne 7, 3) := by decide +kernel
theorem dc_Mo_isObject_21 : decode m_Mo_isObject.2.1 21 = .ok (.iconst 1, 1) := by decide +kernel
theorem dc_Mo_isObject_22 : decode m_Mo_isObject.2.1 22 = .ok (.goto 4, 3) := by decide +kernel
theorem dc_Mo_isObject_25 : decode m_Mo_isObject.2.1 25 = .ok (.iconst 0, 1) := by decide +kernel
theorem dc_Mo_isObject_26 : decode m_Mo_isObject.2.1 26 = .ok (.ireturn, 1) := by decide +kernel
theorem b_Mo_isObject_0 {E : En_t} {d : Nat} {σ : S_t} {Q : Option Value → S_t → Prop} {x1 : Int32} {x2 : Int32}
    (h : (x2 < 0 → Q (some (.int (0 : Int32))) σ) ∧ (¬ x2 < 0 → vp_in (((500 : Int32) * x1) + x2) 4500 ∧ ((¬ (gI σ 13 (((500 : Int32) * x1) + x2).toNatClampNeg) = (6 : Int32) → Q (some (.int (0 : Int32))) σ) ∧ ((gI σ 13 (((500 : Int32) * x1) + x2).toNatClampNeg) = (6 : Int32) → Q (some (.int (1 : Int32))) σ)))) :
    JE E d m_Mo_isObject 0 [(0, pv E 0), (1, .int x1), (2, .int x2)] [] σ Q := by
  refine J_iload_n dc_Mo_isObject_0 (Eq.refl 1) 2 rfl ?_
  refine J_if_lt dc_Mo_isObject_1 (Eq.refl 4) rfl (fun hc => ?_) (fun hc => ?_)
  · have h := h.1 hc
    refine J_iconst (v := (0 : Int32)) dc_Mo_isObject_25 (Eq.refl 26) rfl ?_
    exact J_zret dc_Mo_isObject_26 rfl rfl h
  · have h := h.2 hc
    refine J_aload_n dc_Mo_isObject_4 (Eq.refl 5) 0 rfl ?_
    refine J_getF (y := 13) dc_Mo_isObject_5 (Eq.refl 8) fl_Mo_47 (Nat.le_of_ble_eq_true rfl) rfl (Or.inl rfl) rfl ?_
    refine J_sipush (v := (500 : Int32)) dc_Mo_isObject_8 (Eq.refl 11) rfl ?_
    refine J_iload_n dc_Mo_isObject_11 (Eq.refl 12) 1 rfl ?_
    refine J_imul dc_Mo_isObject_12 (Eq.refl 13) ?_
    refine J_iload_n dc_Mo_isObject_13 (Eq.refl 14) 2 rfl ?_
    refine J_iadd dc_Mo_isObject_14 (Eq.refl 15) ?_
    obtain ⟨hg, h⟩ := h
    refine J_iald dc_Mo_isObject_15 (Eq.refl 16) rfl rfl hg ?_
    refine J_bipush (v := (6 : Int32)) dc_Mo_isObject_16 (Eq.refl 18) rfl ?_
    refine J_icmp_ne dc_Mo_isObject_18 (Eq.refl 21) rfl (fun hc => ?_) (fun hc => ?_)
    · have h := h.1 hc
      refine J_iconst (v := (0 : Int32)) dc_Mo_isObject_25 (Eq.refl 26) rfl ?_
      exact J_zret dc_Mo_isObject_26 rfl rfl h
    · have h := h.2 hc
      refine J_iconst (v := (1 : Int32)) dc_Mo_isObject_21 (Eq.refl 22) rfl ?_
      refine J_goto dc_Mo_isObject_22 rfl ?_
      exact J_zret dc_Mo_isObject_26 rfl rfl h
theorem dc_Mo_copy_0 : decode m_Mo_copy.2.1 0 = .ok (.sipush 500, 3) := by decide +kernel
theorem dc_Mo_copy_3 : decode m_Mo_copy.2.1 3 = .ok (.iload_n 1, 1) := by decide +kernel
theorem dc_Mo_copy_4 : decode m_Mo_copy.2.1 4 = .ok (.imul, 1) := by decide +kernel
theorem dc_Mo_copy_5 : decode m_Mo_copy.2.1 5 = .ok (.iload_n 2, 1) := by decide +kernel
theorem dc_Mo_copy_6 : decode m_Mo_copy.2.1 6 = .ok (.iadd, 1) := by decide +kernel
theorem dc_Mo_copy_7 : decode m_Mo_copy.2.1 7 = .ok (.istore 5, 2) := by decide +kernel
theorem dc_Mo_copy_9 : decode m_Mo_copy.2.1 9 = .ok (.iconst 0, 1) := by decide +kernel
theorem dc_Mo_copy_10 : decode m_Mo_copy.2.1 10 = .ok (.istore 6, 2) := by decide +kernel
theorem dc_Mo_copy_12 : decode m_Mo_copy.2.1 12 = .ok (.iload 6, 2) := by decide +kernel
theorem dc_Mo_copy_14 : decode m_Mo_copy.2.1 14 = .ok (.aload_n 0, 1) := by decide +kernel
theorem dc_Mo_copy_15 : decode m_Mo_copy.2.1 15 = .ok (.getfield 59, 3) := by decide +kernel
theorem dc_Mo_copy_18 : decode m_Mo_copy.2.1 18 = .ok (.iload 5, 2) := by decide +kernel
theorem dc_Mo_copy_20 : decode m_Mo_copy.2.1 20 = .ok (.iaload, 1) := by decide +kernel
theorem dc_Mo_copy_21 : decode m_Mo_copy.2.1 21 = .ok (.if_icmp .ge 99, 3) := by decide +kernel
theorem dc_Mo_copy_24 : decode m_Mo_copy.2.1 24 = .ok (.iload 5, 2) := by decide +kernel
theorem dc_Mo_copy_26 : decode m_Mo_copy.2.1 26 = .ok (.iload 6, 2) := by decide +kernel
theorem dc_Mo_copy_28 : decode m_Mo_copy.2.1 28 = .ok (.iadd, 1) := by decide +kernel
theorem dc_Mo_copy_29 : decode m_Mo_copy.2.1 29 = .ok (.istore 7, 2) := by decide +kernel
theorem dc_Mo_copy_31 : decode m_Mo_copy.2.1 31 = .ok (.iload 6, 2) := by decide +kernel
theorem dc_Mo_copy_33 : decode m_Mo_copy.2.1 33 = .ok (.ifCond .gt 8, 3) := by decide +kernel
theorem dc_Mo_copy_36 : decode m_Mo_copy.2.1 36 = .ok (.iload 4, 2) := by decide +kernel
theorem dc_Mo_copy_38 : decode m_Mo_copy.2.1 38 = .ok (.ifCond .eq 17, 3) := by decide +kernel
theorem dc_Mo_copy_41 : decode m_Mo_copy.2.1 41 = .ok (.aload_n 0, 1) := by decide +kernel
theorem dc_Mo_copy_42 : decode m_Mo_copy.2.1 42 = .ok (.getfield 68, 3) := by decide +kernel
theorem dc_Mo_copy_45 : decode m_Mo_copy.2.1 45 = .ok (.iload 7, 2) := by decide +kernel
theorem dc_Mo_copy_47 : decode m_Mo_copy.2.1 47 = .ok (.iaload, 1) := by decide +kernel
theorem dc_Mo_copy_48 : decode m_Mo_copy.2.1 48 = .ok (.ifCond .lt 7, 3) := by decide +kernel
theorem dc_Mo_copy_51 : decode m_Mo_copy.2.1 51 = .ok (.iconst 1, 1) := by decide +kernel
theorem dc_Mo_copy_52 : decode m_Mo_copy.2.1 52 = .ok (.goto 4, 3) := by decide +kernel
theorem dc_Mo_copy_55 : decode m_Mo_copy.2.1 55 = .ok (.iconst 0, 1) := by decide +kernel
theorem dc_Mo_copy_56 : decode m_Mo_copy.2.1 56 = .ok (.istore 8, 2) := by decide +kernel
theorem dc_Mo_copy_58 : decode m_Mo_copy.2.1 58 = .ok (.aload_n 0, 1) := by decide +kernel
theorem dc_Mo_copy_59 : decode m_Mo_copy.2.1 59 = .ok (.iload_n 1, 1) := by decide +kernel
theorem dc_Mo_copy_60 : decode m_Mo_copy.2.1 60 = .ok (.iload_n 2, 1) := by decide +kernel
theorem dc_Mo_copy_61 : decode m_Mo_copy.2.1 61 = .ok (.iload 6, 2) := by decide +kernel
theorem dc_Mo_copy_63 : decode m_Mo_copy.2.1 63 = .ok (.iadd, 1) := by decide +kernel
theorem dc_Mo_copy_64 : decode m_Mo_copy.2.1 64 = .ok (.iload_n 3, 1) := by decide +kernel
theorem dc_Mo_copy_65 : decode m_Mo_copy.2.1 65 = .ok (.aload_n 0, 1) := by decide +kernel
theorem dc_Mo_copy_66 : decode m_Mo_copy.2.1 66 = .ok (.getfield 62, 3) := by decide +kernel
theorem dc_Mo_copy_69 : decode m_Mo_copy.2.1 69 = .ok (.iload 7, 2) := by decide +kernel
theorem dc_Mo_copy_71 : decode m_Mo_copy.2.1 71 = .ok (.iaload, 1) := by decide +kernel
theorem dc_Mo_copy_72 : decode m_Mo_copy.2.1 72 = .ok (.iadd, 1) := by decide +kernel
theorem dc_Mo_copy_73 : decode m_Mo_copy.2.1 73 = .ok (.aload_n 0, 1) := by decide +kernel
theorem dc_Mo_copy_74 : decode m_Mo_copy.2.1 74 = .ok (.getfield 62, 3) := by decide +kernel
theorem dc_Mo_copy_77 : decode m_Mo_copy.2.1 77 = .ok (.iload 5, 2) := by decide +kernel
theorem dc_Mo_copy_79 : decode m_Mo_copy.2.1 79 = .ok (.iaload, 1) := by decide +kernel
theorem dc_Mo_copy_80 : decode m_Mo_copy.2.1 80 = .ok (.isub, 1) := by decide +kernel
theorem dc_Mo_copy_81 : decode m_Mo_copy.2.1 81 = .ok (.aload_n 0, 1) := by decide +kernel
theorem dc_Mo_copy_82 : decode m_Mo_copy.2.1 82 = .ok (.getfield 65, 3) := by decide +kernel
theorem dc_Mo_copy_85 : decode m_Mo_copy.2.1 85 = .ok (.iload 7, 2) := by decide +kernel
theorem dc_Mo_copy_87 : decode m_Mo_copy.2.1 87 = .ok (.iaload, 1) := by decide +kernel
theorem dc_Mo_copy_88 : decode m_Mo_copy.2.1 88 = .ok (.iload 8, 2) := by decide +kernel
theorem dc_Mo_copy_90 : decode m_Mo_copy.2.1 90 = .ok (.ifCond .eq 13, 3) := by decide +kernel
theorem dc_Mo_copy_93 : decode m_Mo_copy.2.1 93 = .ok (.aload_n 0, 1) := by decide +kernel
theorem dc_Mo_copy_94 : decode m_Mo_copy.2.1 94 = .ok (.getfield 68, 3) := by decide +kernel
theorem dc_Mo_copy_97 : decode m_Mo_copy.2.1 97 = .ok (.iload 7, 2) := by decide +kernel
theorem dc_Mo_copy_99 : decode m_Mo_copy.2.1 99 = .ok (.iaload, 1) := by decide +kernel
theorem dc_Mo_copy_100 : decode m_Mo_copy.2.1 100 = .ok (.goto 4, 3) := by decide +kernel
theorem dc_Mo_copy_103 : decode m_Mo_copy.2.1 103 = .ok (.iconst (-1), 1) := by decide +kernel
theorem dc_Mo_copy_104 : decode m_Mo_copy.2.1 104 = .ok (.aload_n 0, 1) := by decide +kernel
theorem dc_Mo_copy_105 : decode m_Mo_copy.2.1 105 = .ok (.getfield 47, 3) := by decide +kernel
theorem dc_Mo_copy_108 : decode m_Mo_copy.2.1 108 = .ok (.iload 7, 2) := by decide +kernel
theorem dc_Mo_copy_110 : decode m_Mo_copy.2.1 110 = .ok (.iaload, 1) := by decide +kernel
theorem dc_Mo_copy_111 : decode m_Mo_copy.2.1 111 = .ok (.invokevirtual 314, 3) := by decide +kernel
theorem dc_Mo_copy_114 : decode m_Mo_copy.2.1 114 = .ok (.iinc 6 1, 3) := by decide +kernel
theorem dc_Mo_copy_117 : decode m_Mo_copy.2.1 117 = .ok (.goto (-105), 3) := by decide +kernel
theorem dc_Mo_copy_120 : decode m_Mo_copy.2.1 120 = .ok (.return_, 1) := by decide +kernel
theorem b_Mo_copy_0 {E : En_t} {d : Nat} {σ : S_t} {Q : Option Value → S_t → Prop} {x1 : Int32} {x2 : Int32} {x3 : Int32} {x4 : Int32}
    (h : JE E (d + 1) m_Mo_copy 12 [(0, pv E 0), (1, .int x1), (2, .int x2), (3, .int x3), (4, .int x4), (5, .int (((500 : Int32) * x1) + x2)), (6, .int (0 : Int32))] [] σ Q) :
    JE E (d + 1) m_Mo_copy 0 [(0, pv E 0), (1, .int x1), (2, .int x2), (3, .int x3), (4, .int x4)] [] σ Q := by
  refine J_sipush (v := (500 : Int32)) dc_Mo_copy_0 (Eq.refl 3) rfl ?_
  refine J_iload_n dc_Mo_copy_3 (Eq.refl 4) 1 rfl ?_
  refine J_imul dc_Mo_copy_4 (Eq.refl 5) ?_
  refine J_iload_n dc_Mo_copy_5 (Eq.refl 6) 2 rfl ?_
  refine J_iadd dc_Mo_copy_6 (Eq.refl 7) ?_
  refine J_istore (L' := [(5, .int (((500 : Int32) * x1) + x2)), (0, pv E 0), (1, .int x1), (2, .int x2), (3, .int x3), (4, .int x4)]) dc_Mo_copy_7 (Eq.refl 9) (Nat.le_of_ble_eq_true rfl) rfl ?_
  refine J_iconst (v := (0 : Int32)) dc_Mo_copy_9 (Eq.refl 10) rfl ?_
  refine J_istore (L' := [(6, .int (0 : Int32)), (5, .int (((500 : Int32) * x1) + x2)), (0, pv E 0), (1, .int x1), (2, .int x2), (3, .int x3), (4, .int x4)]) dc_Mo_copy_10 (Eq.refl 12) (Nat.le_of_ble_eq_true rfl) rfl ?_
  refine J_sub [2, 3, 4, 5, 6, 1, 0] rfl ?_
  exact h
theorem b_Mo_copy_12 {E : En_t} {d : Nat} {σ : S_t} {Q : Option Value → S_t → Prop} {x1 : Int32} {x2 : Int32} {x3 : Int32} {x4 : Int32} {x5 : Int32} {x6 : Int32}
    (h : vp_in x5 4500 ∧ (((gI σ 17 x5.toNatClampNeg) ≤ x6 → Q none σ) ∧ (¬ (gI σ 17 x5.toNatClampNeg) ≤ x6 → (0 < x6 → JE E (d + 1) m_Mo_copy 41 [(0, pv E 0), (1, .int x1), (2, .int x2), (3, .int x3), (4, .int x4), (5, .int x5), (6, .int x6), (7, .int (x5 + x6))] [] σ Q) ∧ (¬ 0 < x6 → (x4 = 0 → JE E (d + 1) m_Mo_copy 55 [(0, pv E 0), (1, .int x1), (2, .int x2), (3, .int x3), (4, .int x4), (5, .int x5), (6, .int x6), (7, .int (x5 + x6))] [] σ Q) ∧ (¬ x4 = 0 → JE E (d + 1) m_Mo_copy 41 [(0, pv E 0), (1, .int x1), (2, .int x2), (3, .int x3), (4, .int x4), (5, .int x5), (6, .int x6), (7, .int (x5 + x6))] [] σ Q))))) :
    JE E (d + 1) m_Mo_copy 12 [(0, pv E 0), (1, .int x1), (2, .int x2), (3, .int x3), (4, .int x4), (5, .int x5), (6, .int x6)] [] σ Q := by
  refine J_iload dc_Mo_copy_12 (Eq.refl 14) 6 rfl ?_
  refine J_aload_n dc_Mo_copy_14 (Eq.refl 15) 0 rfl ?_
  refine J_getF (y := 17) dc_Mo_copy_15 (Eq.refl 18) fl_Mo_59 (Nat.le_of_ble_eq_true rfl) rfl (Or.inl rfl) rfl ?_
  refine J_iload dc_Mo_copy_18 (Eq.refl 20) 5 rfl ?_
  obtain ⟨hg, h⟩ := h
  refine J_iald dc_Mo_copy_20 (Eq.refl 21) rfl rfl hg ?_
  refine J_icmp_ge dc_Mo_copy_21 (Eq.refl 24) rfl (fun hc => ?_) (fun hc => ?_)
  · have h := h.1 hc
    exact J_vret dc_Mo_copy_120 rfl h
  · have h := h.2 hc
    refine J_iload dc_Mo_copy_24 (Eq.refl 26) 5 rfl ?_
    refine J_iload dc_Mo_copy_26 (Eq.refl 28) 6 rfl ?_
    refine J_iadd dc_Mo_copy_28 (Eq.refl 29) ?_
    refine J_istore (L' := [(7, .int (x5 + x6)), (0, pv E 0), (1, .int x1), (2, .int x2), (3, .int x3), (4, .int x4), (5, .int x5), (6, .int x6)]) dc_Mo_copy_29 (Eq.refl 31) (Nat.le_of_ble_eq_true rfl) rfl ?_
    refine J_iload dc_Mo_copy_31 (Eq.refl 33) 7 rfl ?_
    refine J_if_gt dc_Mo_copy_33 (Eq.refl 36) rfl (fun hc => ?_) (fun hc => ?_)
    · have h := h.1 hc
      refine J_sub [1, 2, 3, 4, 5, 6, 7, 0] rfl ?_
      exact h
    · have h := h.2 hc
      refine J_iload dc_Mo_copy_36 (Eq.refl 38) 5 rfl ?_
      refine J_if_eq dc_Mo_copy_38 (Eq.refl 41) rfl (fun hc => ?_) (fun hc => ?_)
      · have h := h.1 hc
        refine J_sub [1, 2, 3, 4, 5, 6, 7, 0] rfl ?_
        exact h
      · have h := h.2 hc
        refine J_sub [1, 2, 3, 4, 5, 6, 7, 0] rfl ?_
        exact h
theorem b_Mo_copy_41 {E : En_t} {d : Nat} {σ : S_t} {Q : Option Value → S_t → Prop} {x1 : Int32} {x2 : Int32} {x3 : Int32} {x4 : Int32} {x5 : Int32} {x6 : Int32} {x7 : Int32}
    (h : vp_in x7 4500 ∧ (((gI σ 20 x7.toNatClampNeg) < 0 → JE E (d + 1) m_Mo_copy 55 [(0, pv E 0), (1, .int x1), (2, .int x2), (3, .int x3), (4, .int x4), (5, .int x5), (6, .int x6), (7, .int x7)] [] σ Q) ∧ (¬ (gI σ 20 x7.toNatClampNeg) < 0 → JE E (d + 1) m_Mo_copy 56 [(0, pv E 0), (1, .int x1), (2, .int x2), (3, .int x3), (4, .int x4), (5, .int x5), (6, .int x6), (7, .int x7)] [.int (1 : Int32)] σ Q))) :
    JE E (d + 1) m_Mo_copy 41 [(0, pv E 0), (1, .int x1), (2, .int x2), (3, .int x3), (4, .int x4), (5, .int x5), (6, .int x6), (7, .int x7)] [] σ Q := by
  refine J_aload_n dc_Mo_copy_41 (Eq.refl 42) 0 rfl ?_
  refine J_getF (y := 20) dc_Mo_copy_42 (Eq.refl 45) fl_Mo_68 (Nat.le_of_ble_eq_true rfl) rfl (Or.inl rfl) rfl ?_
  refine J_iload dc_Mo_copy_45 (Eq.refl 47) 7 rfl ?_
  obtain ⟨hg, h⟩ := h
  refine J_iald dc_Mo_copy_47 (Eq.refl 48) rfl rfl hg ?_
  refine J_if_lt dc_Mo_copy_48 (Eq.refl 51) rfl (fun hc => ?_) (fun hc => ?_)
  · have h := h.1 hc
    exact h
  · have h := h.2 hc
    refine J_iconst (v := (1 : Int32)) dc_Mo_copy_51 (Eq.refl 52) rfl ?_
    refine J_goto dc_Mo_copy_52 rfl ?_
    exact h
theorem b_Mo_copy_55 {E : En_t} {d : Nat} {σ : S_t} {Q : Option Value → S_t → Prop} {x1 : Int32} {x2 : Int32} {x3 : Int32} {x4 : Int32} {x5 : Int32} {x6 : Int32} {x7 : Int32}
    (h : JE E (d + 1) m_Mo_copy 56 [(0, pv E 0), (1, .int x1), (2, .int x2), (3, .int x3), (4, .int x4), (5, .int x5), (6, .int x6), (7, .int x7)] [.int (0 : Int32)] σ Q) :
    JE E (d + 1) m_Mo_copy 55 [(0, pv E 0), (1, .int x1), (2, .int x2), (3, .int x3), (4, .int x4), (5, .int x5), (6, .int x6), (7, .int x7)] [] σ Q := by
  refine J_iconst (v := (0 : Int32)) dc_Mo_copy_55 (Eq.refl 56) rfl ?_
  exact h
theorem b_Mo_copy_56 {E : En_t} {d : Nat} {σ : S_t} {Q : Option Value → S_t → Prop} {x1 : Int32} {x2 : Int32} {x3 : Int32} {x4 : Int32} {x5 : Int32} {x6 : Int32} {x7 : Int32} {s0 : Int32}
    (h : vp_in x7 4500 ∧ (vp_in x5 4500 ∧ (vp_in x7 4500 ∧ ((s0 = 0 → JE E (d + 1) m_Mo_copy 104 [(0, pv E 0), (1, .int x1), (2, .int x2), (3, .int x3), (4, .int x4), (5, .int x5), (6, .int x6), (7, .int x7)] [.int (-1 : Int32), .int (gI σ 19 x7.toNatClampNeg), .int ((x3 + (gI σ 18 x7.toNatClampNeg)) - (gI σ 18 x5.toNatClampNeg)), .int (x2 + x6), .int x1, pv E 0] σ Q) ∧ (¬ s0 = 0 → vp_in x7 4500 ∧ (JE E (d + 1) m_Mo_copy 104 [(0, pv E 0), (1, .int x1), (2, .int x2), (3, .int x3), (4, .int x4), (5, .int x5), (6, .int x6), (7, .int x7)] [.int (gI σ 20 x7.toNatClampNeg), .int (gI σ 19 x7.toNatClampNeg), .int ((x3 + (gI σ 18 x7.toNatClampNeg)) - (gI σ 18 x5.toNatClampNeg)), .int (x2 + x6), .int x1, pv E 0] σ Q)))))) :
    JE E (d + 1) m_Mo_copy 56 [(0, pv E 0), (1, .int x1), (2, .int x2), (3, .int x3), (4, .int x4), (5, .int x5), (6, .int x6), (7, .int x7)] [.int s0] σ Q := by
  refine J_istore (L' := [(8, .int s0), (0, pv E 0), (1, .int x1), (2, .int x2), (3, .int x3), (4, .int x4), (5, .int x5), (6, .int x6), (7, .int x7)]) dc_Mo_copy_56 (Eq.refl 58) (Nat.le_of_ble_eq_true rfl) rfl ?_
  refine J_aload_n dc_Mo_copy_58 (Eq.refl 59) 1 rfl ?_
  refine J_iload_n dc_Mo_copy_59 (Eq.refl 60) 2 rfl ?_
  refine J_iload_n dc_Mo_copy_60 (Eq.refl 61) 3 rfl ?_
  refine J_iload dc_Mo_copy_61 (Eq.refl 63) 7 rfl ?_
  refine J_iadd dc_Mo_copy_63 (Eq.refl 64) ?_
  refine J_iload_n dc_Mo_copy_64 (Eq.refl 65) 4 rfl ?_
  refine J_aload_n dc_Mo_copy_65 (Eq.refl 66) 1 rfl ?_
  refine J_getF (y := 18) dc_Mo_copy_66 (Eq.refl 69) fl_Mo_62 (Nat.le_of_ble_eq_true rfl) rfl (Or.inl rfl) rfl ?_
  refine J_iload dc_Mo_copy_69 (Eq.refl 71) 8 rfl ?_
  obtain ⟨hg, h⟩ := h
  refine J_iald dc_Mo_copy_71 (Eq.refl 72) rfl rfl hg ?_
  refine J_iadd dc_Mo_copy_72 (Eq.refl 73) ?_
  refine J_aload_n dc_Mo_copy_73 (Eq.refl 74) 1 rfl ?_
  refine J_getF (y := 18) dc_Mo_copy_74 (Eq.refl 77) fl_Mo_62 (Nat.le_of_ble_eq_true rfl) rfl (Or.inl rfl) rfl ?_
  refine J_iload dc_Mo_copy_77 (Eq.refl 79) 6 rfl ?_
  obtain ⟨hg, h⟩ := h
  refine J_iald dc_Mo_copy_79 (Eq.refl 80) rfl rfl hg ?_
  refine J_isub dc_Mo_copy_80 (Eq.refl 81) ?_
  refine J_aload_n dc_Mo_copy_81 (Eq.refl 82) 1 rfl ?_
  refine J_getF (y := 19) dc_Mo_copy_82 (Eq.refl 85) fl_Mo_65 (Nat.le_of_ble_eq_true rfl) rfl (Or.inl rfl) rfl ?_
  refine J_iload dc_Mo_copy_85 (Eq.refl 87) 8 rfl ?_
  obtain ⟨hg, h⟩ := h
  refine J_iald dc_Mo_copy_87 (Eq.refl 88) rfl rfl hg ?_
  refine J_iload dc_Mo_copy_88 (Eq.refl 90) 0 rfl ?_
  refine J_if_eq dc_Mo_copy_90 (Eq.refl 93) rfl (fun hc => ?_) (fun hc => ?_)
  · have h := h.1 hc
    refine J_iconst (v := (-1 : Int32)) dc_Mo_copy_103 (Eq.refl 104) rfl ?_
    refine J_sub [1, 2, 3, 4, 5, 6, 7, 8] rfl ?_
    exact h
  · have h := h.2 hc
    refine J_aload_n dc_Mo_copy_93 (Eq.refl 94) 1 rfl ?_
    refine J_getF (y := 20) dc_Mo_copy_94 (Eq.refl 97) fl_Mo_68 (Nat.le_of_ble_eq_true rfl) rfl (Or.inl rfl) rfl ?_
    refine J_iload dc_Mo_copy_97 (Eq.refl 99) 8 rfl ?_
    obtain ⟨hg, h⟩ := h
    refine J_iald dc_Mo_copy_99 (Eq.refl 100) rfl rfl hg ?_
    refine J_goto dc_Mo_copy_100 rfl ?_
    refine J_sub [1, 2, 3, 4, 5, 6, 7, 8] rfl ?_
    exact h
theorem b_Mo_copy_104 {E : En_t} {d : Nat} {σ : S_t} {Q : Option Value → S_t → Prop} {x1 : Int32} {x2 : Int32} {x3 : Int32} {x4 : Int32} {x5 : Int32} {x6 : Int32} {x7 : Int32} {s0 : Int32} {s1 : Int32} {s2 : Int32} {s3 : Int32} {s4 : Int32}
    (h : vp_in x7 4500 ∧ (CV E d m_Mo_makeLike [pv E 0, .int s4, .int s3, .int s2, .int s1, .int s0, .int (gI σ 13 x7.toNatClampNeg)] σ (fun σ1 => JE E (d + 1) m_Mo_copy 12 [(0, pv E 0), (1, .int x1), (2, .int x2), (3, .int x3), (4, .int x4), (5, .int x5), (6, .int (x6 + (1 : Int32)))] [] σ1 Q))) :
    JE E (d + 1) m_Mo_copy 104 [(0, pv E 0), (1, .int x1), (2, .int x2), (3, .int x3), (4, .int x4), (5, .int x5), (6, .int x6), (7, .int x7)] [.int s0, .int s1, .int s2, .int s3, .int s4, pv E 0] σ Q := by
  refine J_aload_n dc_Mo_copy_104 (Eq.refl 105) 0 rfl ?_
  refine J_getF (y := 13) dc_Mo_copy_105 (Eq.refl 108) fl_Mo_47 (Nat.le_of_ble_eq_true rfl) rfl (Or.inl rfl) rfl ?_
  refine J_iload dc_Mo_copy_108 (Eq.refl 110) 7 rfl ?_
  obtain ⟨hg, h⟩ := h
  refine J_iald dc_Mo_copy_110 (Eq.refl 111) rfl rfl hg ?_
  refine J_callVV (As := [.int s4, .int s3, .int s2, .int s1, .int s0, .int (gI σ 13 x7.toNatClampNeg)]) (st := []) dc_Mo_copy_111 (Eq.refl 114) lk_Mo_314 mi_Mo_makeLike rfl (Nat.le_of_ble_eq_true rfl) rfl rfl (Nat.le_of_ble_eq_true rfl) rfl (Nat.le_of_ble_eq_true rfl) (CV.mono h (fun σ1 h => ?_))
  refine J_iinc (v := x6 + (1 : Int32)) (L' := [(6, .int (x6 + (1 : Int32))), (0, pv E 0), (1, .int x1), (2, .int x2), (3, .int x3), (4, .int x4), (5, .int x5), (7, .int x7)]) dc_Mo_copy_114 (Eq.refl 117) 6 rfl rfl (Nat.le_of_ble_eq_true rfl) rfl ?_
  refine J_goto dc_Mo_copy_117 rfl ?_
  refine J_sub [1, 2, 3, 4, 5, 6, 0] rfl ?_
  exact h
theorem dc_Mo_makeLike_0 : decode m_Mo_makeLike.2.1 0 = .ok (.aload_n 0, 1) := by decide +kernel
theorem dc_Mo_makeLike_1 : decode m_Mo_makeLike.2.1 1 = .ok (.iload 6, 2) := by decide +kernel
theorem dc_Mo_makeLike_3 : decode m_Mo_makeLike.2.1 3 = .ok (.iload_n 3, 1) := by decide +kernel
theorem dc_Mo_makeLike_4 : decode m_Mo_makeLike.2.1 4 = .ok (.sipush 4000, 3) := by decide +kernel
theorem dc_Mo_makeLike_7 : decode m_Mo_makeLike.2.1 7 = .ok (.iload_n 1, 1) := by decide +kernel
theorem dc_Mo_makeLike_8 : decode m_Mo_makeLike.2.1 8 = .ok (.imul, 1) := by decide +kernel
theorem dc_Mo_makeLike_9 : decode m_Mo_makeLike.2.1 9 = .ok (.iload 4, 2) := by decide +kernel
theorem dc_Mo_makeLike_11 : decode m_Mo_makeLike.2.1 11 = .ok (.iload 5, 2) := by decide +kernel
theorem dc_Mo_makeLike_13 : decode m_Mo_makeLike.2.1 13 = .ok (.invokevirtual 309, 3) := by decide +kernel
theorem dc_Mo_makeLike_16 : decode m_Mo_makeLike.2.1 16 = .ok (.aload_n 0, 1) := by decide +kernel
theorem dc_Mo_makeLike_17 : decode m_Mo_makeLike.2.1 17 = .ok (.getfield 299, 3) := by decide +kernel
theorem dc_Mo_makeLike_20 : decode m_Mo_makeLike.2.1 20 = .ok (.ifCond .eq 4, 3) := by decide +kernel
theorem dc_Mo_makeLike_23 : decode m_Mo_makeLike.2.1 23 = .ok (.return_, 1) := by decide +kernel
theorem dc_Mo_makeLike_24 : decode m_Mo_makeLike.2.1 24 = .ok (.sipush 4000, 3) := by decide +kernel
theorem dc_Mo_makeLike_27 : decode m_Mo_makeLike.2.1 27 = .ok (.aload_n 0, 1) := by decide +kernel
theorem dc_Mo_makeLike_28 : decode m_Mo_makeLike.2.1 28 = .ok (.getfield 35, 3) := by decide +kernel
theorem dc_Mo_makeLike_31 : decode m_Mo_makeLike.2.1 31 = .ok (.bipush 8, 2) := by decide +kernel
theorem dc_Mo_makeLike_33 : decode m_Mo_makeLike.2.1 33 = .ok (.iaload, 1) := by decide +kernel
theorem dc_Mo_makeLike_34 : decode m_Mo_makeLike.2.1 34 = .ok (.iadd, 1) := by decide +kernel
theorem dc_Mo_makeLike_35 : decode m_Mo_makeLike.2.1 35 = .ok (.iconst 1, 1) := by decide +kernel
theorem dc_Mo_makeLike_36 : decode m_Mo_makeLike.2.1 36 = .ok (.isub, 1) := by decide +kernel
theorem dc_Mo_makeLike_37 : decode m_Mo_makeLike.2.1 37 = .ok (.istore 7, 2) := by decide +kernel
theorem dc_Mo_makeLike_39 : decode m_Mo_makeLike.2.1 39 = .ok (.sipush 500, 3) := by decide +kernel
theorem dc_Mo_makeLike_42 : decode m_Mo_makeLike.2.1 42 = .ok (.iload_n 1, 1) := by decide +kernel
theorem dc_Mo_makeLike_43 : decode m_Mo_makeLike.2.1 43 = .ok (.imul, 1) := by decide +kernel
theorem dc_Mo_makeLike_44 : decode m_Mo_makeLike.2.1 44 = .ok (.iload_n 2, 1) := by decide +kernel
theorem dc_Mo_makeLike_45 : decode m_Mo_makeLike.2.1 45 = .ok (.iadd, 1) := by decide +kernel
theorem dc_Mo_makeLike_46 : decode m_Mo_makeLike.2.1 46 = .ok (.istore 8, 2) := by decide +kernel
theorem dc_Mo_makeLike_48 : decode m_Mo_makeLike.2.1 48 = .ok (.iload 6, 2) := by decide +kernel
theorem dc_Mo_makeLike_50 : decode m_Mo_makeLike.2.1 50 = .ok (.iconst 4, 1) := by decide +kernel
theorem dc_Mo_makeLike_51 : decode m_Mo_makeLike.2.1 51 = .ok (.if_icmp .ne 77, 3) := by decide +kernel
theorem dc_Mo_makeLike_54 : decode m_Mo_makeLike.2.1 54 = .ok (.aload_n 0, 1) := by decide +kernel
theorem dc_Mo_makeLike_55 : decode m_Mo_makeLike.2.1 55 = .ok (.getfield 71, 3) := by decide +kernel
theorem dc_Mo_makeLike_58 : decode m_Mo_makeLike.2.1 58 = .ok (.iload 7, 2) := by decide +kernel
theorem dc_Mo_makeLike_60 : decode m_Mo_makeLike.2.1 60 = .ok (.aload_n 0, 1) := by decide +kernel
theorem dc_Mo_makeLike_61 : decode m_Mo_makeLike.2.1 61 = .ok (.getfield 38, 3) := by decide +kernel
theorem dc_Mo_makeLike_64 : decode m_Mo_makeLike.2.1 64 = .ok (.bipush 8, 2) := by decide +kernel
theorem dc_Mo_makeLike_66 : decode m_Mo_makeLike.2.1 66 = .ok (.iaload, 1) := by decide +kernel
theorem dc_Mo_makeLike_67 : decode m_Mo_makeLike.2.1 67 = .ok (.iastore, 1) := by decide +kernel
theorem dc_Mo_makeLike_68 : decode m_Mo_makeLike.2.1 68 = .ok (.aload_n 0, 1) := by decide +kernel
theorem dc_Mo_makeLike_69 : decode m_Mo_makeLike.2.1 69 = .ok (.getfield 74, 3) := by decide +kernel
theorem dc_Mo_makeLike_72 : decode m_Mo_makeLike.2.1 72 = .ok (.iload 7, 2) := by decide +kernel
theorem dc_Mo_makeLike_74 : decode m_Mo_makeLike.2.1 74 = .ok (.aload_n 0, 1) := by decide +kernel
theorem dc_Mo_makeLike_75 : decode m_Mo_makeLike.2.1 75 = .ok (.getfield 74, 3) := by decide +kernel
theorem dc_Mo_makeLike_78 : decode m_Mo_makeLike.2.1 78 = .ok (.iload 8, 2) := by decide +kernel
theorem dc_Mo_makeLike_80 : decode m_Mo_makeLike.2.1 80 = .ok (.iaload, 1) := by decide +kernel
theorem dc_Mo_makeLike_81 : decode m_Mo_makeLike.2.1 81 = .ok (.iastore, 1) := by decide +kernel
theorem dc_Mo_makeLike_82 : decode m_Mo_makeLike.2.1 82 = .ok (.iconst 0, 1) := by decide +kernel
theorem dc_Mo_makeLike_83 : decode m_Mo_makeLike.2.1 83 = .ok (.istore 9, 2) := by decide +kernel
theorem dc_Mo_makeLike_85 : decode m_Mo_makeLike.2.1 85 = .ok (.iload 9, 2) := by decide +kernel
theorem dc_Mo_makeLike_87 : decode m_Mo_makeLike.2.1 87 = .ok (.aload_n 0, 1) := by decide +kernel
theorem dc_Mo_makeLike_88 : decode m_Mo_makeLike.2.1 88 = .ok (.getfield 74, 3) := by decide +kernel
theorem dc_Mo_makeLike_91 : decode m_Mo_makeLike.2.1 91 = .ok (.iload 8, 2) := by decide +kernel
theorem dc_Mo_makeLike_93 : decode m_Mo_makeLike.2.1 93 = .ok (.iaload, 1) := by decide +kernel
theorem dc_Mo_makeLike_94 : decode m_Mo_makeLike.2.1 94 = .ok (.if_icmp .ge 34, 3) := by decide +kernel
theorem dc_Mo_makeLike_97 : decode m_Mo_makeLike.2.1 97 = .ok (.aload_n 0, 1) := by decide +kernel
theorem dc_Mo_makeLike_98 : decode m_Mo_makeLike.2.1 98 = .ok (.aload_n 0, 1) := by decide +kernel
theorem dc_Mo_makeLike_99 : decode m_Mo_makeLike.2.1 99 = .ok (.getfield 88, 3) := by decide +kernel
theorem dc_Mo_makeLike_102 : decode m_Mo_makeLike.2.1 102 = .ok (.sipush 4000, 3) := by decide +kernel
theorem dc_Mo_makeLike_105 : decode m_Mo_makeLike.2.1 105 = .ok (.iload_n 1, 1) := by decide +kernel
theorem dc_Mo_makeLike_106 : decode m_Mo_makeLike.2.1 106 = .ok (.imul, 1) := by decide +kernel
theorem dc_Mo_makeLike_107 : decode m_Mo_makeLike.2.1 107 = .ok (.aload_n 0, 1) := by decide +kernel
theorem dc_Mo_makeLike_108 : decode m_Mo_makeLike.2.1 108 = .ok (.getfield 71, 3) := by decide +kernel
theorem dc_Mo_makeLike_111 : decode m_Mo_makeLike.2.1 111 = .ok (.iload 8, 2) := by decide +kernel
theorem dc_Mo_makeLike_113 : decode m_Mo_makeLike.2.1 113 = .ok (.iaload, 1) := by decide +kernel
theorem dc_Mo_makeLike_114 : decode m_Mo_makeLike.2.1 114 = .ok (.iadd, 1) := by decide +kernel
theorem dc_Mo_makeLike_115 : decode m_Mo_makeLike.2.1 115 = .ok (.iload 9, 2) := by decide +kernel
theorem dc_Mo_makeLike_117 : decode m_Mo_makeLike.2.1 117 = .ok (.iadd, 1) := by decide +kernel
theorem dc_Mo_makeLike_118 : decode m_Mo_makeLike.2.1 118 = .ok (.iaload, 1) := by decide +kernel
theorem dc_Mo_makeLike_119 : decode m_Mo_makeLike.2.1 119 = .ok (.invokevirtual 303, 3) := by decide +kernel
theorem dc_Mo_makeLike_122 : decode m_Mo_makeLike.2.1 122 = .ok (.iinc 9 1, 3) := by decide +kernel
theorem dc_Mo_makeLike_125 : decode m_Mo_makeLike.2.1 125 = .ok (.goto (-40), 3) := by decide +kernel
theorem dc_Mo_makeLike_128 : decode m_Mo_makeLike.2.1 128 = .ok (.iload 6, 2) := by decide +kernel
theorem dc_Mo_makeLike_130 : decode m_Mo_makeLike.2.1 130 = .ok (.iconst 3, 1) := by decide +kernel
theorem dc_Mo_makeLike_131 : decode m_Mo_makeLike.2.1 131 = .ok (.if_icmp .ne 10, 3) := by decide +kernel
theorem dc_Mo_makeLike_134 : decode m_Mo_makeLike.2.1 134 = .ok (.aload_n 0, 1) := by decide +kernel
theorem dc_Mo_makeLike_135 : decode m_Mo_makeLike.2.1 135 = .ok (.getfield 299, 3) := by decide +kernel
theorem dc_Mo_makeLike_138 : decode m_Mo_makeLike.2.1 138 = .ok (.ifCond .eq 4, 3) := by decide +kernel
theorem dc_Mo_makeLike_141 : decode m_Mo_makeLike.2.1 141 = .ok (.return_, 1) := by decide +kernel
theorem dc_Mo_makeLike_142 : decode m_Mo_makeLike.2.1 142 = .ok (.aload_n 0, 1) := by decide +kernel
theorem dc_Mo_makeLike_143 : decode m_Mo_makeLike.2.1 143 = .ok (.getfield 83, 3) := by decide +kernel
theorem dc_Mo_makeLike_146 : decode m_Mo_makeLike.2.1 146 = .ok (.iload 7, 2) := by decide +kernel
theorem dc_Mo_makeLike_148 : decode m_Mo_makeLike.2.1 148 = .ok (.aload_n 0, 1) := by decide +kernel
theorem dc_Mo_makeLike_149 : decode m_Mo_makeLike.2.1 149 = .ok (.getfield 83, 3) := by decide +kernel
theorem dc_Mo_makeLike_152 : decode m_Mo_makeLike.2.1 152 = .ok (.iload 8, 2) := by decide +kernel
theorem dc_Mo_makeLike_154 : decode m_Mo_makeLike.2.1 154 = .ok (.laload, 1) := by decide +kernel
theorem dc_Mo_makeLike_155 : decode m_Mo_makeLike.2.1 155 = .ok (.lastore, 1) := by decide +kernel
theorem dc_Mo_makeLike_156 : decode m_Mo_makeLike.2.1 156 = .ok (.aload_n 0, 1) := by decide +kernel
theorem dc_Mo_makeLike_157 : decode m_Mo_makeLike.2.1 157 = .ok (.getfield 77, 3) := by decide +kernel
theorem dc_Mo_makeLike_160 : decode m_Mo_makeLike.2.1 160 = .ok (.iload 7, 2) := by decide +kernel
theorem dc_Mo_makeLike_162 : decode m_Mo_makeLike.2.1 162 = .ok (.aload_n 0, 1) := by decide +kernel
theorem dc_Mo_makeLike_163 : decode m_Mo_makeLike.2.1 163 = .ok (.getfield 44, 3) := by decide +kernel
theorem dc_Mo_makeLike_166 : decode m_Mo_makeLike.2.1 166 = .ok (.bipush 8, 2) := by decide +kernel
theorem dc_Mo_makeLike_168 : decode m_Mo_makeLike.2.1 168 = .ok (.iaload, 1) := by decide +kernel
theorem dc_Mo_makeLike_169 : decode m_Mo_makeLike.2.1 169 = .ok (.iastore, 1) := by decide +kernel
theorem dc_Mo_makeLike_170 : decode m_Mo_makeLike.2.1 170 = .ok (.aload_n 0, 1) := by decide +kernel
theorem dc_Mo_makeLike_171 : decode m_Mo_makeLike.2.1 171 = .ok (.getfield 80, 3) := by decide +kernel
theorem dc_Mo_makeLike_174 : decode m_Mo_makeLike.2.1 174 = .ok (.iload 7, 2) := by decide +kernel
theorem dc_Mo_makeLike_176 : decode m_Mo_makeLike.2.1 176 = .ok (.aload_n 0, 1) := by decide +kernel
theorem dc_Mo_makeLike_177 : decode m_Mo_makeLike.2.1 177 = .ok (.getfield 80, 3) := by decide +kernel
theorem dc_Mo_makeLike_180 : decode m_Mo_makeLike.2.1 180 = .ok (.iload 8, 2) := by decide +kernel
theorem dc_Mo_makeLike_182 : decode m_Mo_makeLike.2.1 182 = .ok (.iaload, 1) := by decide +kernel
theorem dc_Mo_makeLike_183 : decode m_Mo_makeLike.2.1 183 = .ok (.iastore, 1) := by decide +kernel
theorem dc_Mo_makeLike_184 : decode m_Mo_makeLike.2.1 184 = .ok (.iconst 0, 1) := by decide +kernel
theorem dc_Mo_makeLike_185 : decode m_Mo_makeLike.2.1 185 = .ok (.istore 9, 2) := by decide +kernel
theorem dc_Mo_makeLike_187 : decode m_Mo_makeLike.2.1 187 = .ok (.iload 9, 2) := by decide +kernel
theorem dc_Mo_makeLike_189 : decode m_Mo_makeLike.2.1 189 = .ok (.aload_n 0, 1) := by decide +kernel
theorem dc_Mo_makeLike_190 : decode m_Mo_makeLike.2.1 190 = .ok (.getfield 80, 3) := by decide +kernel
theorem dc_Mo_makeLike_193 : decode m_Mo_makeLike.2.1 193 = .ok (.iload 8, 2) := by decide +kernel
theorem dc_Mo_makeLike_195 : decode m_Mo_makeLike.2.1 195 = .ok (.iaload, 1) := by decide +kernel
theorem dc_Mo_makeLike_196 : decode m_Mo_makeLike.2.1 196 = .ok (.if_icmp .ge 49, 3) := by decide +kernel
theorem dc_Mo_makeLike_199 : decode m_Mo_makeLike.2.1 199 = .ok (.aload_n 0, 1) := by decide +kernel
theorem dc_Mo_makeLike_200 : decode m_Mo_makeLike.2.1 200 = .ok (.getfield 92, 3) := by decide +kernel
theorem dc_Mo_makeLike_203 : decode m_Mo_makeLike.2.1 203 = .ok (.ldc_w 313, 3) := by decide +kernel
theorem dc_Mo_makeLike_206 : decode m_Mo_makeLike.2.1 206 = .ok (.aload_n 0, 1) := by decide +kernel
theorem dc_Mo_makeLike_207 : decode m_Mo_makeLike.2.1 207 = .ok (.getfield 44, 3) := by decide +kernel
theorem dc_Mo_makeLike_210 : decode m_Mo_makeLike.2.1 210 = .ok (.bipush 8, 2) := by decide +kernel
theorem dc_Mo_makeLike_212 : decode m_Mo_makeLike.2.1 212 = .ok (.iaload, 1) := by decide +kernel
theorem dc_Mo_makeLike_213 : decode m_Mo_makeLike.2.1 213 = .ok (.iadd, 1) := by decide +kernel
theorem dc_Mo_makeLike_214 : decode m_Mo_makeLike.2.1 214 = .ok (.iload 9, 2) := by decide +kernel
theorem dc_Mo_makeLike_216 : decode m_Mo_makeLike.2.1 216 = .ok (.iadd, 1) := by decide +kernel
theorem dc_Mo_makeLike_217 : decode m_Mo_makeLike.2.1 217 = .ok (.aload_n 0, 1) := by decide +kernel
theorem dc_Mo_makeLike_218 : decode m_Mo_makeLike.2.1 218 = .ok (.getfield 92, 3) := by decide +kernel
theorem dc_Mo_makeLike_221 : decode m_Mo_makeLike.2.1 221 = .ok (.sipush 13000, 3) := by decide +kernel
theorem dc_Mo_makeLike_224 : decode m_Mo_makeLike.2.1 224 = .ok (.iload_n 1, 1) := by decide +kernel
theorem dc_Mo_makeLike_225 : decode m_Mo_makeLike.2.1 225 = .ok (.imul, 1) := by decide +kernel
theorem dc_Mo_makeLike_226 : decode m_Mo_makeLike.2.1 226 = .ok (.aload_n 0, 1) := by decide +kernel
theorem dc_Mo_makeLike_227 : decode m_Mo_makeLike.2.1 227 = .ok (.getfield 77, 3) := by decide +kernel
theorem dc_Mo_makeLike_230 : decode m_Mo_makeLike.2.1 230 = .ok (.iload 8, 2) := by decide +kernel
theorem dc_Mo_makeLike_232 : decode m_Mo_makeLike.2.1 232 = .ok (.iaload, 1) := by decide +kernel
theorem dc_Mo_makeLike_233 : decode m_Mo_makeLike.2.1 233 = .ok (.iadd, 1) := by decide +kernel
theorem dc_Mo_makeLike_234 : decode m_Mo_makeLike.2.1 234 = .ok (.iload 9, 2) := by decide +kernel
theorem dc_Mo_makeLike_236 : decode m_Mo_makeLike.2.1 236 = .ok (.iadd, 1) := by decide +kernel
theorem dc_Mo_makeLike_237 : decode m_Mo_makeLike.2.1 237 = .ok (.iaload, 1) := by decide +kernel
theorem dc_Mo_makeLike_238 : decode m_Mo_makeLike.2.1 238 = .ok (.iastore, 1) := by decide +kernel
theorem dc_Mo_makeLike_239 : decode m_Mo_makeLike.2.1 239 = .ok (.iinc 9 1, 3) := by decide +kernel
theorem dc_Mo_makeLike_242 : decode m_Mo_makeLike.2.1 242 = .ok (.goto (-55), 3) := by decide +kernel
theorem dc_Mo_makeLike_245 : decode m_Mo_makeLike.2.1 245 = .ok (.aload_n 0, 1) := by decide +kernel
theorem dc_Mo_makeLike_246 : decode m_Mo_makeLike.2.1 246 = .ok (.getfield 44, 3) := by decide +kernel
theorem dc_Mo_makeLike_249 : decode m_Mo_makeLike.2.1 249 = .ok (.bipush 8, 2) := by decide +kernel
theorem dc_Mo_makeLike_251 : decode m_Mo_makeLike.2.1 251 = .ok (.dup2, 1) := by decide +kernel
theorem dc_Mo_makeLike_252 : decode m_Mo_makeLike.2.1 252 = .ok (.iaload, 1) := by decide +kernel
theorem dc_Mo_makeLike_253 : decode m_Mo_makeLike.2.1 253 = .ok (.aload_n 0, 1) := by decide +kernel
theorem dc_Mo_makeLike_254 : decode m_Mo_makeLike.2.1 254 = .ok (.getfield 80, 3) := by decide +kernel
theorem dc_Mo_makeLike_257 : decode m_Mo_makeLike.2.1 257 = .ok (.iload 8, 2) := by decide +kernel
theorem dc_Mo_makeLike_259 : decode m_Mo_makeLike.2.1 259 = .ok (.iaload, 1) := by decide +kernel
theorem dc_Mo_makeLike_260 : decode m_Mo_makeLike.2.1 260 = .ok (.iadd, 1) := by decide +kernel
theorem dc_Mo_makeLike_261 : decode m_Mo_makeLike.2.1 261 = .ok (.iastore, 1) := by decide +kernel
theorem dc_Mo_makeLike_262 : decode m_Mo_makeLike.2.1 262 = .ok (.return_, 1) := by decide +kernel
theorem b_Mo_makeLike_0 {E : En_t} {d : Nat} {σ : S_t} {Q : Option Value → S_t → Prop} {x1 : Int32} {x2 : Int32} {x3 : Int32} {x4 : Int32} {x5 : Int32} {x6 : Int32}
    (h : CV E d m_Mo_make [pv E 0, .int x6, .int x3, .int ((4000 : Int32) * x1), .int x4, .int x5] σ (fun σ1 => ((gI σ1 0 39) = 0 → vp_in (8 : Int32) 9 ∧ ((¬ x6 = (4 : Int32) → JE E (d + 1) m_Mo_makeLike 128 [(0, pv E 0), (1, .int x1), (6, .int x6), (7, .int (((4000 : Int32) + (gI σ1 9 (8 : Int32).toNatClampNeg)) - (1 : Int32))), (8, .int (((500 : Int32) * x1) + x2))] [] σ1 Q) ∧ (x6 = (4 : Int32) → vp_in (8 : Int32) 9 ∧ (vp_in (((4000 : Int32) + (gI σ1 9 (8 : Int32).toNatClampNeg)) - (1 : Int32)) 4500 ∧ (vp_in (((500 : Int32) * x1) + x2) 4500 ∧ (∀ v2, v2 = gI (sI σ1 21 (((4000 : Int32) + (gI σ1 9 (8 : Int32).toNatClampNeg)) - (1 : Int32)).toNatClampNeg (gI σ1 10 (8 : Int32).toNatClampNeg)) 22 (((500 : Int32) * x1) + x2).toNatClampNeg → (vp_in (((4000 : Int32) + (gI σ1 9 (8 : Int32).toNatClampNeg)) - (1 : Int32)) 4500 ∧ (∀ σ3, σ3 = sI (sI σ1 21 (((4000 : Int32) + (gI σ1 9 (8 : Int32).toNatClampNeg)) - (1 : Int32)).toNatClampNeg (gI σ1 10 (8 : Int32).toNatClampNeg)) 22 (((4000 : Int32) + (gI σ1 9 (8 : Int32).toNatClampNeg)) - (1 : Int32)).toNatClampNeg v2 → (JE E (d + 1) m_Mo_makeLike 85 [(0, pv E 0), (1, .int x1), (6, .int x6), (7, .int (((4000 : Int32) + (gI σ1 9 (8 : Int32).toNatClampNeg)) - (1 : Int32))), (8, .int (((500 : Int32) * x1) + x2)), (9, .int (0 : Int32))] [] σ3 Q))))))))) ∧ (¬ (gI σ1 0 39) = 0 → Q none σ1))) :
    JE E (d + 1) m_Mo_makeLike 0 [(0, pv E 0), (1, .int x1), (2, .int x2), (3, .int x3), (4, .int x4), (5, .int x5), (6, .int x6)] [] σ Q := by
  refine J_aload_n dc_Mo_makeLike_0 (Eq.refl 1) 0 rfl ?_
  refine J_iload dc_Mo_makeLike_1 (Eq.refl 3) 6 rfl ?_
  refine J_iload_n dc_Mo_makeLike_3 (Eq.refl 4) 3 rfl ?_
  refine J_sipush (v := (4000 : Int32)) dc_Mo_makeLike_4 (Eq.refl 7) rfl ?_
  refine J_iload_n dc_Mo_makeLike_7 (Eq.refl 8) 1 rfl ?_
  refine J_imul dc_Mo_makeLike_8 (Eq.refl 9) ?_
  refine J_iload dc_Mo_makeLike_9 (Eq.refl 11) 4 rfl ?_
  refine J_iload dc_Mo_makeLike_11 (Eq.refl 13) 5 rfl ?_
  refine J_callVV (As := [.int x6, .int x3, .int ((4000 : Int32) * x1), .int x4, .int x5]) (st := []) dc_Mo_makeLike_13 (Eq.refl 16) lk_Mo_309 mi_Mo_make rfl (Nat.le_of_ble_eq_true rfl) rfl rfl (Nat.le_of_ble_eq_true rfl) rfl (Nat.le_of_ble_eq_true rfl) (CV.mono h (fun σ1 h => ?_))
  refine J_aload_n dc_Mo_makeLike_16 (Eq.refl 17) 0 rfl ?_
  refine J_getI dc_Mo_makeLike_17 (Eq.refl 20) fl_Mo_299 (Nat.le_of_ble_eq_true rfl) rfl (Or.inr rfl) ?_
  refine J_if_eq dc_Mo_makeLike_20 (Eq.refl 23) rfl (fun hc => ?_) (fun hc => ?_)
  · have h := h.1 hc
    refine J_sipush (v := (4000 : Int32)) dc_Mo_makeLike_24 (Eq.refl 27) rfl ?_
    refine J_aload_n dc_Mo_makeLike_27 (Eq.refl 28) 0 rfl ?_
    refine J_getF (y := 9) dc_Mo_makeLike_28 (Eq.refl 31) fl_Mo_35 (Nat.le_of_ble_eq_true rfl) rfl (Or.inl rfl) rfl ?_
    refine J_bipush (v := (8 : Int32)) dc_Mo_makeLike_31 (Eq.refl 33) rfl ?_
    obtain ⟨hg, h⟩ := h
    refine J_iald dc_Mo_makeLike_33 (Eq.refl 34) rfl rfl hg ?_
    refine J_iadd dc_Mo_makeLike_34 (Eq.refl 35) ?_
    refine J_iconst (v := (1 : Int32)) dc_Mo_makeLike_35 (Eq.refl 36) rfl ?_
    refine J_isub dc_Mo_makeLike_36 (Eq.refl 37) ?_
    refine J_istore (L' := [(7, .int (((4000 : Int32) + (gI σ1 9 (8 : Int32).toNatClampNeg)) - (1 : Int32))), (0, pv E 0), (1, .int x1), (2, .int x2), (3, .int x3), (4, .int x4), (5, .int x5), (6, .int x6)]) dc_Mo_makeLike_37 (Eq.refl 39) (Nat.le_of_ble_eq_true rfl) rfl ?_
    refine J_sipush (v := (500 : Int32)) dc_Mo_makeLike_39 (Eq.refl 42) rfl ?_
    refine J_iload_n dc_Mo_makeLike_42 (Eq.refl 43) 2 rfl ?_
    refine J_imul dc_Mo_makeLike_43 (Eq.refl 44) ?_
    refine J_iload_n dc_Mo_makeLike_44 (Eq.refl 45) 3 rfl ?_
    refine J_iadd dc_Mo_makeLike_45 (Eq.refl 46) ?_
    refine J_istore (L' := [(8, .int (((500 : Int32) * x1) + x2)), (7, .int (((4000 : Int32) + (gI σ1 9 (8 : Int32).toNatClampNeg)) - (1 : Int32))), (0, pv E 0), (1, .int x1), (2, .int x2), (3, .int x3), (4, .int x4), (5, .int x5), (6, .int x6)]) dc_Mo_makeLike_46 (Eq.refl 48) (Nat.le_of_ble_eq_true rfl) rfl ?_
    refine J_iload dc_Mo_makeLike_48 (Eq.refl 50) 8 rfl ?_
    refine J_iconst (v := (4 : Int32)) dc_Mo_makeLike_50 (Eq.refl 51) rfl ?_
    refine J_icmp_ne dc_Mo_makeLike_51 (Eq.refl 54) rfl (fun hc => ?_) (fun hc => ?_)
    · have h := h.1 hc
      refine J_sub [2, 3, 8, 1, 0] rfl ?_
      exact h
    · have h := h.2 hc
      refine J_aload_n dc_Mo_makeLike_54 (Eq.refl 55) 2 rfl ?_
      refine J_getF (y := 21) dc_Mo_makeLike_55 (Eq.refl 58) fl_Mo_71 (Nat.le_of_ble_eq_true rfl) rfl (Or.inl rfl) rfl ?_
      refine J_iload dc_Mo_makeLike_58 (Eq.refl 60) 1 rfl ?_
      refine J_aload_n dc_Mo_makeLike_60 (Eq.refl 61) 2 rfl ?_
      refine J_getF (y := 10) dc_Mo_makeLike_61 (Eq.refl 64) fl_Mo_38 (Nat.le_of_ble_eq_true rfl) rfl (Or.inl rfl) rfl ?_
      refine J_bipush (v := (8 : Int32)) dc_Mo_makeLike_64 (Eq.refl 66) rfl ?_
      obtain ⟨hg, h⟩ := h
      refine J_iald dc_Mo_makeLike_66 (Eq.refl 67) rfl rfl hg ?_
      obtain ⟨hg, h⟩ := h
      refine J_iast dc_Mo_makeLike_67 (Eq.refl 68) rfl rfl hg ?_
      refine J_aload_n dc_Mo_makeLike_68 (Eq.refl 69) 2 rfl ?_
      refine J_getF (y := 22) dc_Mo_makeLike_69 (Eq.refl 72) fl_Mo_74 (Nat.le_of_ble_eq_true rfl) rfl (Or.inl rfl) rfl ?_
      refine J_iload dc_Mo_makeLike_72 (Eq.refl 74) 1 rfl ?_
      refine J_aload_n dc_Mo_makeLike_74 (Eq.refl 75) 2 rfl ?_
      refine J_getF (y := 22) dc_Mo_makeLike_75 (Eq.refl 78) fl_Mo_74 (Nat.le_of_ble_eq_true rfl) rfl (Or.inl rfl) rfl ?_
      refine J_iload dc_Mo_makeLike_78 (Eq.refl 80) 0 rfl ?_
      obtain ⟨hg, h⟩ := h
      refine J_iald dc_Mo_makeLike_80 (Eq.refl 81) rfl rfl hg ?_
      refine J_topi (fun v2 ev2 => ?_)
      have h := h v2 ev2
      obtain ⟨hg, h⟩ := h
      refine J_iast dc_Mo_makeLike_81 (Eq.refl 82) rfl rfl hg ?_
      refine J_st (fun σ3 eσ3 => ?_)
      have h := h σ3 eσ3
      refine J_iconst (v := (0 : Int32)) dc_Mo_makeLike_82 (Eq.refl 83) rfl ?_
      refine J_istore (L' := [(9, .int (0 : Int32)), (8, .int (((500 : Int32) * x1) + x2)), (7, .int (((4000 : Int32) + (gI σ1 9 (8 : Int32).toNatClampNeg)) - (1 : Int32))), (0, pv E 0), (1, .int x1), (2, .int x2), (3, .int x3), (4, .int x4), (5, .int x5), (6, .int x6)]) dc_Mo_makeLike_83 (Eq.refl 85) (Nat.le_of_ble_eq_true rfl) rfl ?_
      refine J_sub [3, 4, 9, 2, 1, 0] rfl ?_
      exact h
  · have h := h.2 hc
    exact J_vret dc_Mo_makeLike_23 rfl h
theorem b_Mo_makeLike_85 {E : En_t} {d : Nat} {σ : S_t} {Q : Option Value → S_t → Prop} {x1 : Int32} {x6 : Int32} {x7 : Int32} {x8 : Int32} {x9 : Int32}
    (h : vp_in x8 4500 ∧ (((gI σ 22 x8.toNatClampNeg) ≤ x9 → JE E (d + 1) m_Mo_makeLike 128 [(0, pv E 0), (1, .int x1), (6, .int x6), (7, .int x7), (8, .int x8)] [] σ Q) ∧ (¬ (gI σ 22 x8.toNatClampNeg) ≤ x9 → vp_in x8 4500 ∧ (vp_in ((((4000 : Int32) * x1) + (gI σ 21 x8.toNatClampNeg)) + x9) 36000 ∧ (CV E d m_Mo_lay [pv E 0, .int (gI σ 26 ((((4000 : Int32) * x1) + (gI σ 21 x8.toNatClampNeg)) + x9).toNatClampNeg)] σ (fun σ1 => JE E (d + 1) m_Mo_makeLike 85 [(0, pv E 0), (1, .int x1), (6, .int x6), (7, .int x7), (8, .int x8), (9, .int (x9 + (1 : Int32)))] [] σ1 Q)))))) :
    JE E (d + 1) m_Mo_makeLike 85 [(0, pv E 0), (1, .int x1), (6, .int x6), (7, .int x7), (8, .int x8), (9, .int x9)] [] σ Q := by
  refine J_iload dc_Mo_makeLike_85 (Eq.refl 87) 5 rfl ?_
  refine J_aload_n dc_Mo_makeLike_87 (Eq.refl 88) 0 rfl ?_
  refine J_getF (y := 22) dc_Mo_makeLike_88 (Eq.refl 91) fl_Mo_74 (Nat.le_of_ble_eq_true rfl) rfl (Or.inl rfl) rfl ?_
  refine J_iload dc_Mo_makeLike_91 (Eq.refl 93) 4 rfl ?_
  obtain ⟨hg, h⟩ := h
  refine J_iald dc_Mo_makeLike_93 (Eq.refl 94) rfl rfl hg ?_
  refine J_icmp_ge dc_Mo_makeLike_94 (Eq.refl 97) rfl (fun hc => ?_) (fun hc => ?_)
  · have h := h.1 hc
    refine J_sub [0, 1, 2, 3, 4] rfl ?_
    exact h
  · have h := h.2 hc
    refine J_aload_n dc_Mo_makeLike_97 (Eq.refl 98) 0 rfl ?_
    refine J_aload_n dc_Mo_makeLike_98 (Eq.refl 99) 0 rfl ?_
    refine J_getF (y := 26) dc_Mo_makeLike_99 (Eq.refl 102) fl_Mo_88 (Nat.le_of_ble_eq_true rfl) rfl (Or.inl rfl) rfl ?_
    refine J_sipush (v := (4000 : Int32)) dc_Mo_makeLike_102 (Eq.refl 105) rfl ?_
    refine J_iload_n dc_Mo_makeLike_105 (Eq.refl 106) 1 rfl ?_
    refine J_imul dc_Mo_makeLike_106 (Eq.refl 107) ?_
    refine J_aload_n dc_Mo_makeLike_107 (Eq.refl 108) 0 rfl ?_
    refine J_getF (y := 21) dc_Mo_makeLike_108 (Eq.refl 111) fl_Mo_71 (Nat.le_of_ble_eq_true rfl) rfl (Or.inl rfl) rfl ?_
    refine J_iload dc_Mo_makeLike_111 (Eq.refl 113) 4 rfl ?_
    obtain ⟨hg, h⟩ := h
    refine J_iald dc_Mo_makeLike_113 (Eq.refl 114) rfl rfl hg ?_
    refine J_iadd dc_Mo_makeLike_114 (Eq.refl 115) ?_
    refine J_iload dc_Mo_makeLike_115 (Eq.refl 117) 5 rfl ?_
    refine J_iadd dc_Mo_makeLike_117 (Eq.refl 118) ?_
    obtain ⟨hg, h⟩ := h
    refine J_iald dc_Mo_makeLike_118 (Eq.refl 119) rfl rfl hg ?_
    refine J_callVV (As := [.int (gI σ 26 ((((4000 : Int32) * x1) + (gI σ 21 x8.toNatClampNeg)) + x9).toNatClampNeg)]) (st := []) dc_Mo_makeLike_119 (Eq.refl 122) lk_Mo_303 mi_Mo_lay rfl (Nat.le_of_ble_eq_true rfl) rfl rfl (Nat.le_of_ble_eq_true rfl) rfl (Nat.le_of_ble_eq_true rfl) (CV.mono h (fun σ1 h => ?_))
    refine J_iinc (v := x9 + (1 : Int32)) (L' := [(9, .int (x9 + (1 : Int32))), (0, pv E 0), (1, .int x1), (6, .int x6), (7, .int x7), (8, .int x8)]) dc_Mo_makeLike_122 (Eq.refl 125) 5 rfl rfl (Nat.le_of_ble_eq_true rfl) rfl ?_
    refine J_goto dc_Mo_makeLike_125 rfl ?_
    refine J_sub [1, 2, 3, 4, 5, 0] rfl ?_
    exact h
theorem b_Mo_makeLike_128 {E : En_t} {d : Nat} {σ : S_t} {Q : Option Value → S_t → Prop} {x1 : Int32} {x6 : Int32} {x7 : Int32} {x8 : Int32}
    (h : (¬ x6 = (3 : Int32) → Q none σ) ∧ (x6 = (3 : Int32) → ((gI σ 0 39) = 0 → vp_in x8 4500 ∧ (vp_in x7 4500 ∧ (vp_in (8 : Int32) 9 ∧ (vp_in x7 4500 ∧ (∀ σ1, σ1 = sI (sL σ 25 x7.toNatClampNeg (gL σ 25 x8.toNatClampNeg)) 23 x7.toNatClampNeg (gI (sL σ 25 x7.toNatClampNeg (gL σ 25 x8.toNatClampNeg)) 12 (8 : Int32).toNatClampNeg) → (vp_in x8 4500 ∧ (vp_in x7 4500 ∧ (JE E (d + 1) m_Mo_makeLike 187 [(0, pv E 0), (1, .int x1), (8, .int x8), (9, .int (0 : Int32))] [] (sI σ1 24 x7.toNatClampNeg (gI σ1 24 x8.toNatClampNeg)) Q)))))))) ∧ (¬ (gI σ 0 39) = 0 → Q none σ))) :
    JE E (d + 1) m_Mo_makeLike 128 [(0, pv E 0), (1, .int x1), (6, .int x6), (7, .int x7), (8, .int x8)] [] σ Q := by
  refine J_iload dc_Mo_makeLike_128 (Eq.refl 130) 2 rfl ?_
  refine J_iconst (v := (3 : Int32)) dc_Mo_makeLike_130 (Eq.refl 131) rfl ?_
  refine J_icmp_ne dc_Mo_makeLike_131 (Eq.refl 134) rfl (fun hc => ?_) (fun hc => ?_)
  · have h := h.1 hc
    exact J_vret dc_Mo_makeLike_141 rfl h
  · have h := h.2 hc
    refine J_aload_n dc_Mo_makeLike_134 (Eq.refl 135) 0 rfl ?_
    refine J_getI dc_Mo_makeLike_135 (Eq.refl 138) fl_Mo_299 (Nat.le_of_ble_eq_true rfl) rfl (Or.inr rfl) ?_
    refine J_if_eq dc_Mo_makeLike_138 (Eq.refl 141) rfl (fun hc => ?_) (fun hc => ?_)
    · have h := h.1 hc
      refine J_aload_n dc_Mo_makeLike_142 (Eq.refl 143) 0 rfl ?_
      refine J_getF (y := 25) dc_Mo_makeLike_143 (Eq.refl 146) fl_Mo_83 (Nat.le_of_ble_eq_true rfl) rfl (Or.inl rfl) rfl ?_
      refine J_iload dc_Mo_makeLike_146 (Eq.refl 148) 3 rfl ?_
      refine J_aload_n dc_Mo_makeLike_148 (Eq.refl 149) 0 rfl ?_
      refine J_getF (y := 25) dc_Mo_makeLike_149 (Eq.refl 152) fl_Mo_83 (Nat.le_of_ble_eq_true rfl) rfl (Or.inl rfl) rfl ?_
      refine J_iload dc_Mo_makeLike_152 (Eq.refl 154) 4 rfl ?_
      obtain ⟨hg, h⟩ := h
      refine J_lald dc_Mo_makeLike_154 (Eq.refl 155) rfl rfl hg ?_
      obtain ⟨hg, h⟩ := h
      refine J_last dc_Mo_makeLike_155 (Eq.refl 156) rfl rfl hg ?_
      refine J_aload_n dc_Mo_makeLike_156 (Eq.refl 157) 0 rfl ?_
      refine J_getF (y := 23) dc_Mo_makeLike_157 (Eq.refl 160) fl_Mo_77 (Nat.le_of_ble_eq_true rfl) rfl (Or.inl rfl) rfl ?_
      refine J_iload dc_Mo_makeLike_160 (Eq.refl 162) 3 rfl ?_
      refine J_aload_n dc_Mo_makeLike_162 (Eq.refl 163) 0 rfl ?_
      refine J_getF (y := 12) dc_Mo_makeLike_163 (Eq.refl 166) fl_Mo_44 (Nat.le_of_ble_eq_true rfl) rfl (Or.inl rfl) rfl ?_
      refine J_bipush (v := (8 : Int32)) dc_Mo_makeLike_166 (Eq.refl 168) rfl ?_
      obtain ⟨hg, h⟩ := h
      refine J_iald dc_Mo_makeLike_168 (Eq.refl 169) rfl rfl hg ?_
      obtain ⟨hg, h⟩ := h
      refine J_iast dc_Mo_makeLike_169 (Eq.refl 170) rfl rfl hg ?_
      refine J_st (fun σ1 eσ1 => ?_)
      have h := h σ1 eσ1
      refine J_aload_n dc_Mo_makeLike_170 (Eq.refl 171) 0 rfl ?_
      refine J_getF (y := 24) dc_Mo_makeLike_171 (Eq.refl 174) fl_Mo_80 (Nat.le_of_ble_eq_true rfl) rfl (Or.inl rfl) rfl ?_
      refine J_iload dc_Mo_makeLike_174 (Eq.refl 176) 3 rfl ?_
      refine J_aload_n dc_Mo_makeLike_176 (Eq.refl 177) 0 rfl ?_
      refine J_getF (y := 24) dc_Mo_makeLike_177 (Eq.refl 180) fl_Mo_80 (Nat.le_of_ble_eq_true rfl) rfl (Or.inl rfl) rfl ?_
      refine J_iload dc_Mo_makeLike_180 (Eq.refl 182) 4 rfl ?_
      obtain ⟨hg, h⟩ := h
      refine J_iald dc_Mo_makeLike_182 (Eq.refl 183) rfl rfl hg ?_
      obtain ⟨hg, h⟩ := h
      refine J_iast dc_Mo_makeLike_183 (Eq.refl 184) rfl rfl hg ?_
      refine J_iconst (v := (0 : Int32)) dc_Mo_makeLike_184 (Eq.refl 185) rfl ?_
      refine J_istore (L' := [(9, .int (0 : Int32)), (0, pv E 0), (1, .int x1), (6, .int x6), (7, .int x7), (8, .int x8)]) dc_Mo_makeLike_185 (Eq.refl 187) (Nat.le_of_ble_eq_true rfl) rfl ?_
      refine J_sub [1, 2, 5, 0] rfl ?_
      exact h
    · have h := h.2 hc
      exact J_vret dc_Mo_makeLike_141 rfl h
theorem b_Mo_makeLike_187 {E : En_t} {d : Nat} {σ : S_t} {Q : Option Value → S_t → Prop} {x1 : Int32} {x8 : Int32} {x9 : Int32}
    (h : vp_in x8 4500 ∧ (((gI σ 24 x8.toNatClampNeg) ≤ x9 → vp_in (8 : Int32) 9 ∧ (vp_in x8 4500 ∧ (vp_in (8 : Int32) 9 ∧ (Q none (sI σ 12 (8 : Int32).toNatClampNeg ((gI σ 12 (8 : Int32).toNatClampNeg) + (gI σ 24 x8.toNatClampNeg))))))) ∧ (¬ (gI σ 24 x8.toNatClampNeg) ≤ x9 → vp_in (8 : Int32) 9 ∧ (vp_in x8 4500 ∧ (vp_in ((((13000 : Int32) * x1) + (gI σ 23 x8.toNatClampNeg)) + x9) 117000 ∧ (vp_in (((104000 : Int32) + (gI σ 12 (8 : Int32).toNatClampNeg)) + x9) 117000 ∧ (∀ σ1, σ1 = sI σ 27 (((104000 : Int32) + (gI σ 12 (8 : Int32).toNatClampNeg)) + x9).toNatClampNeg (gI σ 27 ((((13000 : Int32) * x1) + (gI σ 23 x8.toNatClampNeg)) + x9).toNatClampNeg) → (JE E (d + 1) m_Mo_makeLike 187 [(0, pv E 0), (1, .int x1), (8, .int x8), (9, .int (x9 + (1 : Int32)))] [] σ1 Q)))))))) :
    JE E (d + 1) m_Mo_makeLike 187 [(0, pv E 0), (1, .int x1), (8, .int x8), (9, .int x9)] [] σ Q := by
  refine J_iload dc_Mo_makeLike_187 (Eq.refl 189) 3 rfl ?_
  refine J_aload_n dc_Mo_makeLike_189 (Eq.refl 190) 0 rfl ?_
  refine J_getF (y := 24) dc_Mo_makeLike_190 (Eq.refl 193) fl_Mo_80 (Nat.le_of_ble_eq_true rfl) rfl (Or.inl rfl) rfl ?_
  refine J_iload dc_Mo_makeLike_193 (Eq.refl 195) 2 rfl ?_
  obtain ⟨hg, h⟩ := h
  refine J_iald dc_Mo_makeLike_195 (Eq.refl 196) rfl rfl hg ?_
  refine J_icmp_ge dc_Mo_makeLike_196 (Eq.refl 199) rfl (fun hc => ?_) (fun hc => ?_)
  · have h := h.1 hc
    refine J_aload_n dc_Mo_makeLike_245 (Eq.refl 246) 0 rfl ?_
    refine J_getF (y := 12) dc_Mo_makeLike_246 (Eq.refl 249) fl_Mo_44 (Nat.le_of_ble_eq_true rfl) rfl (Or.inl rfl) rfl ?_
    refine J_bipush (v := (8 : Int32)) dc_Mo_makeLike_249 (Eq.refl 251) rfl ?_
    refine J_dup2_11 dc_Mo_makeLike_251 (Eq.refl 252) rfl rfl ?_
    obtain ⟨hg, h⟩ := h
    refine J_iald dc_Mo_makeLike_252 (Eq.refl 253) rfl rfl hg ?_
    refine J_aload_n dc_Mo_makeLike_253 (Eq.refl 254) 0 rfl ?_
    refine J_getF (y := 24) dc_Mo_makeLike_254 (Eq.refl 257) fl_Mo_80 (Nat.le_of_ble_eq_true rfl) rfl (Or.inl rfl) rfl ?_
    refine J_iload dc_Mo_makeLike_257 (Eq.refl 259) 2 rfl ?_
    obtain ⟨hg, h⟩ := h
    refine J_iald dc_Mo_makeLike_259 (Eq.refl 260) rfl rfl hg ?_
    refine J_iadd dc_Mo_makeLike_260 (Eq.refl 261) ?_
    obtain ⟨hg, h⟩ := h
    refine J_iast dc_Mo_makeLike_261 (Eq.refl 262) rfl rfl hg ?_
    exact J_vret dc_Mo_makeLike_262 rfl h
  · have h := h.2 hc
    refine J_aload_n dc_Mo_makeLike_199 (Eq.refl 200) 0 rfl ?_
    refine J_getF (y := 27) dc_Mo_makeLike_200 (Eq.refl 203) fl_Mo_92 (Nat.le_of_ble_eq_true rfl) rfl (Or.inl rfl) rfl ?_
    refine J_ldcw dc_Mo_makeLike_203 (Eq.refl 206) kc_Mo_313 ?_
    refine J_aload_n dc_Mo_makeLike_206 (Eq.refl 207) 0 rfl ?_
    refine J_getF (y := 12) dc_Mo_makeLike_207 (Eq.refl 210) fl_Mo_44 (Nat.le_of_ble_eq_true rfl) rfl (Or.inl rfl) rfl ?_
    refine J_bipush (v := (8 : Int32)) dc_Mo_makeLike_210 (Eq.refl 212) rfl ?_
    obtain ⟨hg, h⟩ := h
    refine J_iald dc_Mo_makeLike_212 (Eq.refl 213) rfl rfl hg ?_
    refine J_iadd dc_Mo_makeLike_213 (Eq.refl 214) ?_
    refine J_iload dc_Mo_makeLike_214 (Eq.refl 216) 3 rfl ?_
    refine J_iadd dc_Mo_makeLike_216 (Eq.refl 217) ?_
    refine J_aload_n dc_Mo_makeLike_217 (Eq.refl 218) 0 rfl ?_
    refine J_getF (y := 27) dc_Mo_makeLike_218 (Eq.refl 221) fl_Mo_92 (Nat.le_of_ble_eq_true rfl) rfl (Or.inl rfl) rfl ?_
    refine J_sipush (v := (13000 : Int32)) dc_Mo_makeLike_221 (Eq.refl 224) rfl ?_
    refine J_iload_n dc_Mo_makeLike_224 (Eq.refl 225) 1 rfl ?_
    refine J_imul dc_Mo_makeLike_225 (Eq.refl 226) ?_
    refine J_aload_n dc_Mo_makeLike_226 (Eq.refl 227) 0 rfl ?_
    refine J_getF (y := 23) dc_Mo_makeLike_227 (Eq.refl 230) fl_Mo_77 (Nat.le_of_ble_eq_true rfl) rfl (Or.inl rfl) rfl ?_
    refine J_iload dc_Mo_makeLike_230 (Eq.refl 232) 2 rfl ?_
    obtain ⟨hg, h⟩ := h
    refine J_iald dc_Mo_makeLike_232 (Eq.refl 233) rfl rfl hg ?_
    refine J_iadd dc_Mo_makeLike_233 (Eq.refl 234) ?_
    refine J_iload dc_Mo_makeLike_234 (Eq.refl 236) 3 rfl ?_
    refine J_iadd dc_Mo_makeLike_236 (Eq.refl 237) ?_
    obtain ⟨hg, h⟩ := h
    refine J_iald dc_Mo_makeLike_237 (Eq.refl 238) rfl rfl hg ?_
    obtain ⟨hg, h⟩ := h
    refine J_iast dc_Mo_makeLike_238 (Eq.refl 239) rfl rfl hg ?_
    refine J_st (fun σ1 eσ1 => ?_)
    have h := h σ1 eσ1
    refine J_iinc (v := x9 + (1 : Int32)) (L' := [(9, .int (x9 + (1 : Int32))), (0, pv E 0), (1, .int x1), (8, .int x8)]) dc_Mo_makeLike_239 (Eq.refl 242) 3 rfl rfl (Nat.le_of_ble_eq_true rfl) rfl ?_
    refine J_goto dc_Mo_makeLike_242 rfl ?_
    refine J_sub [1, 2, 3, 0] rfl ?_
    exact h
