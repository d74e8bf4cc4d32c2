theorem dc_Mo_begin_0 : decode m_Mo_begin.2.1 0 = .ok (.aload_n 0, 1) := by decide +kernel
theorem dc_Mo_begin_1 : decode m_Mo_begin.2.1 1 = .ok (.getfield 347, 3) := by decide +kernel
theorem dc_Mo_begin_4 : decode m_Mo_begin.2.1 4 = .ok (.istore_n 3, 1) := by decide +kernel
theorem dc_Mo_begin_5 : decode m_Mo_begin.2.1 5 = .ok (.aload_n 0, 1) := by decide +kernel
theorem dc_Mo_begin_6 : decode m_Mo_begin.2.1 6 = .ok (.dup, 1) := by decide +kernel
theorem dc_Mo_begin_7 : decode m_Mo_begin.2.1 7 = .ok (.getfield 347, 3) := by decide +kernel
theorem dc_Mo_begin_10 : decode m_Mo_begin.2.1 10 = .ok (.iconst 1, 1) := by decide +kernel
theorem dc_Mo_begin_11 : decode m_Mo_begin.2.1 11 = .ok (.iadd, 1) := by decide +kernel
theorem dc_Mo_begin_12 : decode m_Mo_begin.2.1 12 = .ok (.putfield 347, 3) := by decide +kernel
theorem dc_Mo_begin_15 : decode m_Mo_begin.2.1 15 = .ok (.aload_n 0, 1) := by decide +kernel
theorem dc_Mo_begin_16 : decode m_Mo_begin.2.1 16 = .ok (.getfield 102, 3) := by decide +kernel
theorem dc_Mo_begin_19 : decode m_Mo_begin.2.1 19 = .ok (.iload_n 3, 1) := by decide +kernel
theorem dc_Mo_begin_20 : decode m_Mo_begin.2.1 20 = .ok (.iload_n 1, 1) := by decide +kernel
theorem dc_Mo_begin_21 : decode m_Mo_begin.2.1 21 = .ok (.iastore, 1) := by decide +kernel
theorem dc_Mo_begin_22 : decode m_Mo_begin.2.1 22 = .ok (.aload_n 0, 1) := by decide +kernel
theorem dc_Mo_begin_23 : decode m_Mo_begin.2.1 23 = .ok (.getfield 105, 3) := by decide +kernel
theorem dc_Mo_begin_26 : decode m_Mo_begin.2.1 26 = .ok (.iload_n 3, 1) := by decide +kernel
theorem dc_Mo_begin_27 : decode m_Mo_begin.2.1 27 = .ok (.iload_n 2, 1) := by decide +kernel
theorem dc_Mo_begin_28 : decode m_Mo_begin.2.1 28 = .ok (.iastore, 1) := by decide +kernel
theorem dc_Mo_begin_29 : decode m_Mo_begin.2.1 29 = .ok (.aload_n 0, 1) := by decide +kernel
theorem dc_Mo_begin_30 : decode m_Mo_begin.2.1 30 = .ok (.getfield 108, 3) := by decide +kernel
theorem dc_Mo_begin_33 : decode m_Mo_begin.2.1 33 = .ok (.iload_n 3, 1) := by decide +kernel
theorem dc_Mo_begin_34 : decode m_Mo_begin.2.1 34 = .ok (.iconst (-1), 1) := by decide +kernel
theorem dc_Mo_begin_35 : decode m_Mo_begin.2.1 35 = .ok (.iastore, 1) := by decide +kernel
theorem dc_Mo_begin_36 : decode m_Mo_begin.2.1 36 = .ok (.aload_n 0, 1) := by decide +kernel
theorem dc_Mo_begin_37 : decode m_Mo_begin.2.1 37 = .ok (.getfield 111, 3) := by decide +kernel
theorem dc_Mo_begin_40 : decode m_Mo_begin.2.1 40 = .ok (.iload_n 3, 1) := by decide +kernel
theorem dc_Mo_begin_41 : decode m_Mo_begin.2.1 41 = .ok (.iconst (-1), 1) := by decide +kernel
theorem dc_Mo_begin_42 : decode m_Mo_begin.2.1 42 = .ok (.iastore, 1) := by decide +kernel
theorem dc_Mo_begin_43 : decode m_Mo_begin.2.1 43 = .ok (.aload_n 0, 1) := by decide +kernel
theorem dc_Mo_begin_44 : decode m_Mo_begin.2.1 44 = .ok (.getfield 114, 3) := by decide +kernel
theorem dc_Mo_begin_47 : decode m_Mo_begin.2.1 47 = .ok (.iload_n 3, 1) := by decide +kernel
theorem dc_Mo_begin_48 : decode m_Mo_begin.2.1 48 = .ok (.iconst (-1), 1) := by decide +kernel
theorem dc_Mo_begin_49 : decode m_Mo_begin.2.1 49 = .ok (.iastore, 1) := by decide +kernel
theorem dc_Mo_begin_50 : decode m_Mo_begin.2.1 50 = .ok (.aload_n 0, 1) := by decide +kernel
theorem dc_Mo_begin_51 : decode m_Mo_begin.2.1 51 = .ok (.getfield 120, 3) := by decide +kernel
theorem dc_Mo_begin_54 : decode m_Mo_begin.2.1 54 = .ok (.iload_n 3, 1) := by decide +kernel
theorem dc_Mo_begin_55 : decode m_Mo_begin.2.1 55 = .ok (.iconst (-1), 1) := by decide +kernel
theorem dc_Mo_begin_56 : decode m_Mo_begin.2.1 56 = .ok (.iastore, 1) := by decide +kernel
theorem dc_Mo_begin_57 : decode m_Mo_begin.2.1 57 = .ok (.aload_n 0, 1) := by decide +kernel
theorem dc_Mo_begin_58 : decode m_Mo_begin.2.1 58 = .ok (.getfield 117, 3) := by decide +kernel
theorem dc_Mo_begin_61 : decode m_Mo_begin.2.1 61 = .ok (.iload_n 3, 1) := by decide +kernel
theorem dc_Mo_begin_62 : decode m_Mo_begin.2.1 62 = .ok (.iconst 0, 1) := by decide +kernel
theorem dc_Mo_begin_63 : decode m_Mo_begin.2.1 63 = .ok (.iastore, 1) := by decide +kernel
theorem dc_Mo_begin_64 : decode m_Mo_begin.2.1 64 = .ok (.aload_n 0, 1) := by decide +kernel
theorem dc_Mo_begin_65 : decode m_Mo_begin.2.1 65 = .ok (.getfield 126, 3) := by decide +kernel
theorem dc_Mo_begin_68 : decode m_Mo_begin.2.1 68 = .ok (.iload_n 3, 1) := by decide +kernel
theorem dc_Mo_begin_69 : decode m_Mo_begin.2.1 69 = .ok (.iconst 0, 1) := by decide +kernel
theorem dc_Mo_begin_70 : decode m_Mo_begin.2.1 70 = .ok (.iastore, 1) := by decide +kernel
theorem dc_Mo_begin_71 : decode m_Mo_begin.2.1 71 = .ok (.iload_n 2, 1) := by decide +kernel
theorem dc_Mo_begin_72 : decode m_Mo_begin.2.1 72 = .ok (.ifCond .ge 5, 3) := by decide +kernel
theorem dc_Mo_begin_75 : decode m_Mo_begin.2.1 75 = .ok (.iload_n 3, 1) := by decide +kernel
theorem dc_Mo_begin_76 : decode m_Mo_begin.2.1 76 = .ok (.ireturn, 1) := by decide +kernel
theorem dc_Mo_begin_77 : decode m_Mo_begin.2.1 77 = .ok (.aload_n 0, 1) := by decide +kernel
theorem dc_Mo_begin_78 : decode m_Mo_begin.2.1 78 = .ok (.getfield 111, 3) := by decide +kernel
theorem dc_Mo_begin_81 : decode m_Mo_begin.2.1 81 = .ok (.iload_n 2, 1) := by decide +kernel
theorem dc_Mo_begin_82 : decode m_Mo_begin.2.1 82 = .ok (.iaload, 1) := by decide +kernel
theorem dc_Mo_begin_83 : decode m_Mo_begin.2.1 83 = .ok (.ifCond .ge 13, 3) := by decide +kernel
theorem dc_Mo_begin_86 : decode m_Mo_begin.2.1 86 = .ok (.aload_n 0, 1) := by decide +kernel
theorem dc_Mo_begin_87 : decode m_Mo_begin.2.1 87 = .ok (.getfield 108, 3) := by decide +kernel
theorem dc_Mo_begin_90 : decode m_Mo_begin.2.1 90 = .ok (.iload_n 2, 1) := by decide +kernel
theorem dc_Mo_begin_91 : decode m_Mo_begin.2.1 91 = .ok (.iload_n 3, 1) := by decide +kernel
theorem dc_Mo_begin_92 : decode m_Mo_begin.2.1 92 = .ok (.iastore, 1) := by decide +kernel
theorem dc_Mo_begin_93 : decode m_Mo_begin.2.1 93 = .ok (.goto 15, 3) := by decide +kernel
theorem dc_Mo_begin_96 : decode m_Mo_begin.2.1 96 = .ok (.aload_n 0, 1) := by decide +kernel
theorem dc_Mo_begin_97 : decode m_Mo_begin.2.1 97 = .ok (.getfield 114, 3) := by decide +kernel
theorem dc_Mo_begin_100 : decode m_Mo_begin.2.1 100 = .ok (.aload_n 0, 1) := by decide +kernel
theorem dc_Mo_begin_101 : decode m_Mo_begin.2.1 101 = .ok (.getfield 111, 3) := by decide +kernel
theorem dc_Mo_begin_104 : decode m_Mo_begin.2.1 104 = .ok (.iload_n 2, 1) := by decide +kernel
theorem dc_Mo_begin_105 : decode m_Mo_begin.2.1 105 = .ok (.iaload, 1) := by decide +kernel
theorem dc_Mo_begin_106 : decode m_Mo_begin.2.1 106 = .ok (.iload_n 3, 1) := by decide +kernel
theorem dc_Mo_begin_107 : decode m_Mo_begin.2.1 107 = .ok (.iastore, 1) := by decide +kernel
theorem dc_Mo_begin_108 : decode m_Mo_begin.2.1 108 = .ok (.aload_n 0, 1) := by decide +kernel
theorem dc_Mo_begin_109 : decode m_Mo_begin.2.1 109 = .ok (.getfield 111, 3) := by decide +kernel
theorem dc_Mo_begin_112 : decode m_Mo_begin.2.1 112 = .ok (.iload_n 2, 1) := by decide +kernel
theorem dc_Mo_begin_113 : decode m_Mo_begin.2.1 113 = .ok (.iload_n 3, 1) := by decide +kernel
theorem dc_Mo_begin_114 : decode m_Mo_begin.2.1 114 = .ok (.iastore, 1) := by decide +kernel
theorem dc_Mo_begin_115 : decode m_Mo_begin.2.1 115 = .ok (.iload_n 3, 1) := by decide +kernel
theorem dc_Mo_begin_116 : decode m_Mo_begin.2.1 116 = .ok (.ireturn, 1) := by decide +kernel
theorem b_Mo_begin_0 {E : En_t} {d : Nat} {σ : S_t} {Q : Option Value → S_t → Prop} {x1 : Int32} {x2 : Int32}
    (h : vp_in (gI σ 0 43) 500 ∧ (vp_in (gI σ 0 43) 500 ∧ (vp_in (gI σ 0 43) 500 ∧ (∀ σ1, σ1 = sI (sI (sI (sI σ 0 43 ((gI σ 0 43) + (1 : Int32))) 29 (gI σ 0 43).toNatClampNeg x1) 30 (gI σ 0 43).toNatClampNeg x2) 31 (gI σ 0 43).toNatClampNeg (-1 : Int32) → (vp_in (gI σ 0 43) 500 ∧ (vp_in (gI σ 0 43) 500 ∧ (vp_in (gI σ 0 43) 500 ∧ (∀ σ2, σ2 = sI (sI (sI σ1 32 (gI σ 0 43).toNatClampNeg (-1 : Int32)) 33 (gI σ 0 43).toNatClampNeg (-1 : Int32)) 35 (gI σ 0 43).toNatClampNeg (-1 : Int32) → (vp_in (gI σ 0 43) 500 ∧ (vp_in (gI σ 0 43) 500 ∧ ((0 ≤ x2 → vp_in x2 500 ∧ (∀ v3, v3 = gI (sI (sI σ2 34 (gI σ 0 43).toNatClampNeg (0 : Int32)) 37 (gI σ 0 43).toNatClampNeg (0 : Int32)) 32 x2.toNatClampNeg → ((0 ≤ v3 → vp_in x2 500 ∧ (∀ v4, v4 = gI (sI (sI σ2 34 (gI σ 0 43).toNatClampNeg (0 : Int32)) 37 (gI σ 0 43).toNatClampNeg (0 : Int32)) 32 x2.toNatClampNeg → (vp_in v4 500 ∧ (JE E d m_Mo_begin 108 [(0, pv E 0), (2, .int x2), (3, .int (gI σ 0 43))] [] (sI (sI (sI σ2 34 (gI σ 0 43).toNatClampNeg (0 : Int32)) 37 (gI σ 0 43).toNatClampNeg (0 : Int32)) 33 v4.toNatClampNeg (gI σ 0 43)) Q)))) ∧ (¬ 0 ≤ v3 → vp_in x2 500 ∧ (JE E d m_Mo_begin 108 [(0, pv E 0), (2, .int x2), (3, .int (gI σ 0 43))] [] (sI (sI (sI σ2 34 (gI σ 0 43).toNatClampNeg (0 : Int32)) 37 (gI σ 0 43).toNatClampNeg (0 : Int32)) 31 x2.toNatClampNeg (gI σ 0 43)) Q))))) ∧ (¬ 0 ≤ x2 → Q (some (.int (gI σ 0 43))) (sI (sI σ2 34 (gI σ 0 43).toNatClampNeg (0 : Int32)) 37 (gI σ 0 43).toNatClampNeg (0 : Int32)))))))))))))) :
    JE E d m_Mo_begin 0 [(0, pv E 0), (1, .int x1), (2, .int x2)] [] σ Q := by
  refine J_aload_n dc_Mo_begin_0 (Eq.refl 1) 0 rfl ?_
  refine J_getI dc_Mo_begin_1 (Eq.refl 4) fl_Mo_347 (Nat.le_of_ble_eq_true rfl) rfl (Or.inl rfl) ?_
  refine J_istore_n (L' := [(3, .int (gI σ 0 43)), (0, pv E 0), (1, .int x1), (2, .int x2)]) dc_Mo_begin_4 (Eq.refl 5) (Nat.le_of_ble_eq_true rfl) rfl ?_
  refine J_aload_n dc_Mo_begin_5 (Eq.refl 6) 1 rfl ?_
  refine J_dup dc_Mo_begin_6 (Eq.refl 7) rfl ?_
  refine J_getI dc_Mo_begin_7 (Eq.refl 10) fl_Mo_347 (Nat.le_of_ble_eq_true rfl) rfl (Or.inl rfl) ?_
  refine J_iconst (v := (1 : Int32)) dc_Mo_begin_10 (Eq.refl 11) rfl ?_
  refine J_iadd dc_Mo_begin_11 (Eq.refl 12) ?_
  refine J_putI dc_Mo_begin_12 (Eq.refl 15) pl_Mo_347 (Nat.le_of_ble_eq_true rfl) rfl rfl ?_
  refine J_aload_n dc_Mo_begin_15 (Eq.refl 16) 1 rfl ?_
  refine J_getF (y := 29) dc_Mo_begin_16 (Eq.refl 19) fl_Mo_102 (Nat.le_of_ble_eq_true rfl) rfl (Or.inl rfl) rfl ?_
  refine J_iload_n dc_Mo_begin_19 (Eq.refl 20) 0 rfl ?_
  refine J_iload_n dc_Mo_begin_20 (Eq.refl 21) 2 rfl ?_
  obtain ⟨hg, h⟩ := h
  refine J_iast dc_Mo_begin_21 (Eq.refl 22) rfl rfl hg ?_
  refine J_aload_n dc_Mo_begin_22 (Eq.refl 23) 1 rfl ?_
  refine J_getF (y := 30) dc_Mo_begin_23 (Eq.refl 26) fl_Mo_105 (Nat.le_of_ble_eq_true rfl) rfl (Or.inl rfl) rfl ?_
  refine J_iload_n dc_Mo_begin_26 (Eq.refl 27) 0 rfl ?_
  refine J_iload_n dc_Mo_begin_27 (Eq.refl 28) 3 rfl ?_
  obtain ⟨hg, h⟩ := h
  refine J_iast dc_Mo_begin_28 (Eq.refl 29) rfl rfl hg ?_
  refine J_aload_n dc_Mo_begin_29 (Eq.refl 30) 1 rfl ?_
  refine J_getF (y := 31) dc_Mo_begin_30 (Eq.refl 33) fl_Mo_108 (Nat.le_of_ble_eq_true rfl) rfl (Or.inl rfl) rfl ?_
  refine J_iload_n dc_Mo_begin_33 (Eq.refl 34) 0 rfl ?_
  refine J_iconst (v := (-1 : Int32)) dc_Mo_begin_34 (Eq.refl 35) rfl ?_
  obtain ⟨hg, h⟩ := h
  refine J_iast dc_Mo_begin_35 (Eq.refl 36) rfl rfl hg ?_
  refine J_st (fun σ1 eσ1 => ?_)
  have h := h σ1 eσ1
  refine J_aload_n dc_Mo_begin_36 (Eq.refl 37) 1 rfl ?_
  refine J_getF (y := 32) dc_Mo_begin_37 (Eq.refl 40) fl_Mo_111 (Nat.le_of_ble_eq_true rfl) rfl (Or.inl rfl) rfl ?_
  refine J_iload_n dc_Mo_begin_40 (Eq.refl 41) 0 rfl ?_
  refine J_iconst (v := (-1 : Int32)) dc_Mo_begin_41 (Eq.refl 42) rfl ?_
  obtain ⟨hg, h⟩ := h
  refine J_iast dc_Mo_begin_42 (Eq.refl 43) rfl rfl hg ?_
  refine J_aload_n dc_Mo_begin_43 (Eq.refl 44) 1 rfl ?_
  refine J_getF (y := 33) dc_Mo_begin_44 (Eq.refl 47) fl_Mo_114 (Nat.le_of_ble_eq_true rfl) rfl (Or.inl rfl) rfl ?_
  refine J_iload_n dc_Mo_begin_47 (Eq.refl 48) 0 rfl ?_
  refine J_iconst (v := (-1 : Int32)) dc_Mo_begin_48 (Eq.refl 49) rfl ?_
  obtain ⟨hg, h⟩ := h
  refine J_iast dc_Mo_begin_49 (Eq.refl 50) rfl rfl hg ?_
  refine J_aload_n dc_Mo_begin_50 (Eq.refl 51) 1 rfl ?_
  refine J_getF (y := 35) dc_Mo_begin_51 (Eq.refl 54) fl_Mo_120 (Nat.le_of_ble_eq_true rfl) rfl (Or.inl rfl) rfl ?_
  refine J_iload_n dc_Mo_begin_54 (Eq.refl 55) 0 rfl ?_
  refine J_iconst (v := (-1 : Int32)) dc_Mo_begin_55 (Eq.refl 56) rfl ?_
  obtain ⟨hg, h⟩ := h
  refine J_iast dc_Mo_begin_56 (Eq.refl 57) rfl rfl hg ?_
  refine J_st (fun σ2 eσ2 => ?_)
  have h := h σ2 eσ2
  refine J_aload_n dc_Mo_begin_57 (Eq.refl 58) 1 rfl ?_
  refine J_getF (y := 34) dc_Mo_begin_58 (Eq.refl 61) fl_Mo_117 (Nat.le_of_ble_eq_true rfl) rfl (Or.inl rfl) rfl ?_
  refine J_iload_n dc_Mo_begin_61 (Eq.refl 62) 0 rfl ?_
  refine J_iconst (v := (0 : Int32)) dc_Mo_begin_62 (Eq.refl 63) rfl ?_
  obtain ⟨hg, h⟩ := h
  refine J_iast dc_Mo_begin_63 (Eq.refl 64) rfl rfl hg ?_
  refine J_aload_n dc_Mo_begin_64 (Eq.refl 65) 1 rfl ?_
  refine J_getF (y := 37) dc_Mo_begin_65 (Eq.refl 68) fl_Mo_126 (Nat.le_of_ble_eq_true rfl) rfl (Or.inl rfl) rfl ?_
  refine J_iload_n dc_Mo_begin_68 (Eq.refl 69) 0 rfl ?_
  refine J_iconst (v := (0 : Int32)) dc_Mo_begin_69 (Eq.refl 70) rfl ?_
  obtain ⟨hg, h⟩ := h
  refine J_iast dc_Mo_begin_70 (Eq.refl 71) rfl rfl hg ?_
  refine J_iload_n dc_Mo_begin_71 (Eq.refl 72) 3 rfl ?_
  refine J_if_ge dc_Mo_begin_72 (Eq.refl 75) rfl (fun hc => ?_) (fun hc => ?_)
  · have h := h.1 hc
    refine J_aload_n dc_Mo_begin_77 (Eq.refl 78) 1 rfl ?_
    refine J_getF (y := 32) dc_Mo_begin_78 (Eq.refl 81) fl_Mo_111 (Nat.le_of_ble_eq_true rfl) rfl (Or.inl rfl) rfl ?_
    refine J_iload_n dc_Mo_begin_81 (Eq.refl 82) 3 rfl ?_
    obtain ⟨hg, h⟩ := h
    refine J_iald dc_Mo_begin_82 (Eq.refl 83) rfl rfl hg ?_
    refine J_topi (fun v3 ev3 => ?_)
    have h := h v3 ev3
    refine J_if_ge dc_Mo_begin_83 (Eq.refl 86) rfl (fun hc => ?_) (fun hc => ?_)
    · have h := h.1 hc
      refine J_aload_n dc_Mo_begin_96 (Eq.refl 97) 1 rfl ?_
      refine J_getF (y := 33) dc_Mo_begin_97 (Eq.refl 100) fl_Mo_114 (Nat.le_of_ble_eq_true rfl) rfl (Or.inl rfl) rfl ?_
      refine J_aload_n dc_Mo_begin_100 (Eq.refl 101) 1 rfl ?_
      refine J_getF (y := 32) dc_Mo_begin_101 (Eq.refl 104) fl_Mo_111 (Nat.le_of_ble_eq_true rfl) rfl (Or.inl rfl) rfl ?_
      refine J_iload_n dc_Mo_begin_104 (Eq.refl 105) 3 rfl ?_
      obtain ⟨hg, h⟩ := h
      refine J_iald dc_Mo_begin_105 (Eq.refl 106) rfl rfl hg ?_
      refine J_topi (fun v4 ev4 => ?_)
      have h := h v4 ev4
      refine J_iload_n dc_Mo_begin_106 (Eq.refl 107) 0 rfl ?_
      obtain ⟨hg, h⟩ := h
      refine J_iast dc_Mo_begin_107 (Eq.refl 108) rfl rfl hg ?_
      refine J_sub [1, 3, 0] rfl ?_
      exact h
    · have h := h.2 hc
      refine J_aload_n dc_Mo_begin_86 (Eq.refl 87) 1 rfl ?_
      refine J_getF (y := 31) dc_Mo_begin_87 (Eq.refl 90) fl_Mo_108 (Nat.le_of_ble_eq_true rfl) rfl (Or.inl rfl) rfl ?_
      refine J_iload_n dc_Mo_begin_90 (Eq.refl 91) 3 rfl ?_
      refine J_iload_n dc_Mo_begin_91 (Eq.refl 92) 0 rfl ?_
      obtain ⟨hg, h⟩ := h
      refine J_iast dc_Mo_begin_92 (Eq.refl 93) rfl rfl hg ?_
      refine J_goto dc_Mo_begin_93 rfl ?_
      refine J_sub [1, 3, 0] rfl ?_
      exact h
  · have h := h.2 hc
    refine J_iload_n dc_Mo_begin_75 (Eq.refl 76) 0 rfl ?_
    exact J_iret dc_Mo_begin_76 rfl h
theorem b_Mo_begin_108 {E : En_t} {d : Nat} {σ : S_t} {Q : Option Value → S_t → Prop} {x2 : Int32} {x3 : Int32}
    (h : vp_in x2 500 ∧ (Q (some (.int x3)) (sI σ 32 x2.toNatClampNeg x3))) :
    JE E d m_Mo_begin 108 [(0, pv E 0), (2, .int x2), (3, .int x3)] [] σ Q := by
  refine J_aload_n dc_Mo_begin_108 (Eq.refl 109) 0 rfl ?_
  refine J_getF (y := 32) dc_Mo_begin_109 (Eq.refl 112) fl_Mo_111 (Nat.le_of_ble_eq_true rfl) rfl (Or.inl rfl) rfl ?_
  refine J_iload_n dc_Mo_begin_112 (Eq.refl 113) 1 rfl ?_
  refine J_iload_n dc_Mo_begin_113 (Eq.refl 114) 2 rfl ?_
  obtain ⟨hg, h⟩ := h
  refine J_iast dc_Mo_begin_114 (Eq.refl 115) rfl rfl hg ?_
  refine J_iload_n dc_Mo_begin_115 (Eq.refl 116) 2 rfl ?_
  exact J_iret dc_Mo_begin_116 rfl h
theorem dc_Mo_takePlain_0 : decode m_Mo_takePlain.2.1 0 = .ok (.aload_n 0, 1) := by decide +kernel
theorem dc_Mo_takePlain_1 : decode m_Mo_takePlain.2.1 1 = .ok (.iload_n 1, 1) := by decide +kernel
theorem dc_Mo_takePlain_2 : decode m_Mo_takePlain.2.1 2 = .ok (.invokevirtual 213, 3) := by decide +kernel
theorem dc_Mo_takePlain_5 : decode m_Mo_takePlain.2.1 5 = .ok (.istore_n 3, 1) := by decide +kernel
theorem dc_Mo_takePlain_6 : decode m_Mo_takePlain.2.1 6 = .ok (.aload_n 0, 1) := by decide +kernel
theorem dc_Mo_takePlain_7 : decode m_Mo_takePlain.2.1 7 = .ok (.getfield 210, 3) := by decide +kernel
theorem dc_Mo_takePlain_10 : decode m_Mo_takePlain.2.1 10 = .ok (.istore 4, 2) := by decide +kernel
theorem dc_Mo_takePlain_12 : decode m_Mo_takePlain.2.1 12 = .ok (.iload_n 3, 1) := by decide +kernel
theorem dc_Mo_takePlain_13 : decode m_Mo_takePlain.2.1 13 = .ok (.bipush 34, 2) := by decide +kernel
theorem dc_Mo_takePlain_15 : decode m_Mo_takePlain.2.1 15 = .ok (.if_icmp .ne 42, 3) := by decide +kernel
theorem dc_Mo_takePlain_18 : decode m_Mo_takePlain.2.1 18 = .ok (.aload_n 0, 1) := by decide +kernel
theorem dc_Mo_takePlain_19 : decode m_Mo_takePlain.2.1 19 = .ok (.getfield 123, 3) := by decide +kernel
theorem dc_Mo_takePlain_22 : decode m_Mo_takePlain.2.1 22 = .ok (.iload_n 2, 1) := by decide +kernel
theorem dc_Mo_takePlain_23 : decode m_Mo_takePlain.2.1 23 = .ok (.aload_n 0, 1) := by decide +kernel
theorem dc_Mo_takePlain_24 : decode m_Mo_takePlain.2.1 24 = .ok (.getfield 321, 3) := by decide +kernel
theorem dc_Mo_takePlain_27 : decode m_Mo_takePlain.2.1 27 = .ok (.iastore, 1) := by decide +kernel
theorem dc_Mo_takePlain_28 : decode m_Mo_takePlain.2.1 28 = .ok (.aload_n 0, 1) := by decide +kernel
theorem dc_Mo_takePlain_29 : decode m_Mo_takePlain.2.1 29 = .ok (.iload_n 1, 1) := by decide +kernel
theorem dc_Mo_takePlain_30 : decode m_Mo_takePlain.2.1 30 = .ok (.invokevirtual 349, 3) := by decide +kernel
theorem dc_Mo_takePlain_33 : decode m_Mo_takePlain.2.1 33 = .ok (.ifCond .ne 5, 3) := by decide +kernel
theorem dc_Mo_takePlain_36 : decode m_Mo_takePlain.2.1 36 = .ok (.iconst 0, 1) := by decide +kernel
theorem dc_Mo_takePlain_37 : decode m_Mo_takePlain.2.1 37 = .ok (.ireturn, 1) := by decide +kernel
theorem dc_Mo_takePlain_38 : decode m_Mo_takePlain.2.1 38 = .ok (.aload_n 0, 1) := by decide +kernel
theorem dc_Mo_takePlain_39 : decode m_Mo_takePlain.2.1 39 = .ok (.getfield 126, 3) := by decide +kernel
theorem dc_Mo_takePlain_42 : decode m_Mo_takePlain.2.1 42 = .ok (.iload_n 2, 1) := by decide +kernel
theorem dc_Mo_takePlain_43 : decode m_Mo_takePlain.2.1 43 = .ok (.aload_n 0, 1) := by decide +kernel
theorem dc_Mo_takePlain_44 : decode m_Mo_takePlain.2.1 44 = .ok (.getfield 321, 3) := by decide +kernel
theorem dc_Mo_takePlain_47 : decode m_Mo_takePlain.2.1 47 = .ok (.aload_n 0, 1) := by decide +kernel
theorem dc_Mo_takePlain_48 : decode m_Mo_takePlain.2.1 48 = .ok (.getfield 123, 3) := by decide +kernel
theorem dc_Mo_takePlain_51 : decode m_Mo_takePlain.2.1 51 = .ok (.iload_n 2, 1) := by decide +kernel
theorem dc_Mo_takePlain_52 : decode m_Mo_takePlain.2.1 52 = .ok (.iaload, 1) := by decide +kernel
theorem dc_Mo_takePlain_53 : decode m_Mo_takePlain.2.1 53 = .ok (.isub, 1) := by decide +kernel
theorem dc_Mo_takePlain_54 : decode m_Mo_takePlain.2.1 54 = .ok (.iastore, 1) := by decide +kernel
theorem dc_Mo_takePlain_55 : decode m_Mo_takePlain.2.1 55 = .ok (.iconst 1, 1) := by decide +kernel
theorem dc_Mo_takePlain_56 : decode m_Mo_takePlain.2.1 56 = .ok (.ireturn, 1) := by decide +kernel
theorem dc_Mo_takePlain_57 : decode m_Mo_takePlain.2.1 57 = .ok (.iload_n 3, 1) := by decide +kernel
theorem dc_Mo_takePlain_58 : decode m_Mo_takePlain.2.1 58 = .ok (.bipush 110, 2) := by decide +kernel
theorem dc_Mo_takePlain_60 : decode m_Mo_takePlain.2.1 60 = .ok (.if_icmp .ne 11, 3) := by decide +kernel
theorem dc_Mo_takePlain_63 : decode m_Mo_takePlain.2.1 63 = .ok (.aload_n 0, 1) := by decide +kernel
theorem dc_Mo_takePlain_64 : decode m_Mo_takePlain.2.1 64 = .ok (.iload_n 1, 1) := by decide +kernel
theorem dc_Mo_takePlain_65 : decode m_Mo_takePlain.2.1 65 = .ok (.iconst 0, 1) := by decide +kernel
theorem dc_Mo_takePlain_66 : decode m_Mo_takePlain.2.1 66 = .ok (.iconst 4, 1) := by decide +kernel
theorem dc_Mo_takePlain_67 : decode m_Mo_takePlain.2.1 67 = .ok (.invokevirtual 352, 3) := by decide +kernel
theorem dc_Mo_takePlain_70 : decode m_Mo_takePlain.2.1 70 = .ok (.ireturn, 1) := by decide +kernel
theorem dc_Mo_takePlain_71 : decode m_Mo_takePlain.2.1 71 = .ok (.iload_n 3, 1) := by decide +kernel
theorem dc_Mo_takePlain_72 : decode m_Mo_takePlain.2.1 72 = .ok (.bipush 102, 2) := by decide +kernel
theorem dc_Mo_takePlain_74 : decode m_Mo_takePlain.2.1 74 = .ok (.if_icmp .ne 11, 3) := by decide +kernel
theorem dc_Mo_takePlain_77 : decode m_Mo_takePlain.2.1 77 = .ok (.aload_n 0, 1) := by decide +kernel
theorem dc_Mo_takePlain_78 : decode m_Mo_takePlain.2.1 78 = .ok (.iload_n 1, 1) := by decide +kernel
theorem dc_Mo_takePlain_79 : decode m_Mo_takePlain.2.1 79 = .ok (.iconst 4, 1) := by decide +kernel
theorem dc_Mo_takePlain_80 : decode m_Mo_takePlain.2.1 80 = .ok (.iconst 5, 1) := by decide +kernel
theorem dc_Mo_takePlain_81 : decode m_Mo_takePlain.2.1 81 = .ok (.invokevirtual 352, 3) := by decide +kernel
theorem dc_Mo_takePlain_84 : decode m_Mo_takePlain.2.1 84 = .ok (.ireturn, 1) := by decide +kernel
theorem dc_Mo_takePlain_85 : decode m_Mo_takePlain.2.1 85 = .ok (.iload_n 3, 1) := by decide +kernel
theorem dc_Mo_takePlain_86 : decode m_Mo_takePlain.2.1 86 = .ok (.bipush 116, 2) := by decide +kernel
theorem dc_Mo_takePlain_88 : decode m_Mo_takePlain.2.1 88 = .ok (.if_icmp .ne 12, 3) := by decide +kernel
theorem dc_Mo_takePlain_91 : decode m_Mo_takePlain.2.1 91 = .ok (.aload_n 0, 1) := by decide +kernel
theorem dc_Mo_takePlain_92 : decode m_Mo_takePlain.2.1 92 = .ok (.iload_n 1, 1) := by decide +kernel
theorem dc_Mo_takePlain_93 : decode m_Mo_takePlain.2.1 93 = .ok (.bipush 9, 2) := by decide +kernel
theorem dc_Mo_takePlain_95 : decode m_Mo_takePlain.2.1 95 = .ok (.iconst 4, 1) := by decide +kernel
theorem dc_Mo_takePlain_96 : decode m_Mo_takePlain.2.1 96 = .ok (.invokevirtual 352, 3) := by decide +kernel
theorem dc_Mo_takePlain_99 : decode m_Mo_takePlain.2.1 99 = .ok (.ireturn, 1) := by decide +kernel
theorem dc_Mo_takePlain_100 : decode m_Mo_takePlain.2.1 100 = .ok (.aload_n 0, 1) := by decide +kernel
theorem dc_Mo_takePlain_101 : decode m_Mo_takePlain.2.1 101 = .ok (.iload_n 1, 1) := by decide +kernel
theorem dc_Mo_takePlain_102 : decode m_Mo_takePlain.2.1 102 = .ok (.invokevirtual 232, 3) := by decide +kernel
theorem dc_Mo_takePlain_105 : decode m_Mo_takePlain.2.1 105 = .ok (.ifCond .ne 13, 3) := by decide +kernel
theorem dc_Mo_takePlain_108 : decode m_Mo_takePlain.2.1 108 = .ok (.aload_n 0, 1) := by decide +kernel
theorem dc_Mo_takePlain_109 : decode m_Mo_takePlain.2.1 109 = .ok (.iconst 1, 1) := by decide +kernel
theorem dc_Mo_takePlain_110 : decode m_Mo_takePlain.2.1 110 = .ok (.aload_n 0, 1) := by decide +kernel
theorem dc_Mo_takePlain_111 : decode m_Mo_takePlain.2.1 111 = .ok (.getfield 210, 3) := by decide +kernel
theorem dc_Mo_takePlain_114 : decode m_Mo_takePlain.2.1 114 = .ok (.invokevirtual 343, 3) := by decide +kernel
theorem dc_Mo_takePlain_117 : decode m_Mo_takePlain.2.1 117 = .ok (.ireturn, 1) := by decide +kernel
theorem dc_Mo_takePlain_118 : decode m_Mo_takePlain.2.1 118 = .ok (.aload_n 0, 1) := by decide +kernel
theorem dc_Mo_takePlain_119 : decode m_Mo_takePlain.2.1 119 = .ok (.getfield 228, 3) := by decide +kernel
theorem dc_Mo_takePlain_122 : decode m_Mo_takePlain.2.1 122 = .ok (.invokestatic 278, 3) := by decide +kernel
theorem dc_Mo_takePlain_125 : decode m_Mo_takePlain.2.1 125 = .ok (.ifCond .ne 11, 3) := by decide +kernel
theorem dc_Mo_takePlain_128 : decode m_Mo_takePlain.2.1 128 = .ok (.aload_n 0, 1) := by decide +kernel
theorem dc_Mo_takePlain_129 : decode m_Mo_takePlain.2.1 129 = .ok (.iconst 2, 1) := by decide +kernel
theorem dc_Mo_takePlain_130 : decode m_Mo_takePlain.2.1 130 = .ok (.iload 4, 2) := by decide +kernel
theorem dc_Mo_takePlain_132 : decode m_Mo_takePlain.2.1 132 = .ok (.invokevirtual 343, 3) := by decide +kernel
theorem dc_Mo_takePlain_135 : decode m_Mo_takePlain.2.1 135 = .ok (.ireturn, 1) := by decide +kernel
theorem dc_Mo_takePlain_136 : decode m_Mo_takePlain.2.1 136 = .ok (.aload_n 0, 1) := by decide +kernel
theorem dc_Mo_takePlain_137 : decode m_Mo_takePlain.2.1 137 = .ok (.getfield 129, 3) := by decide +kernel
theorem dc_Mo_takePlain_140 : decode m_Mo_takePlain.2.1 140 = .ok (.iload_n 2, 1) := by decide +kernel
theorem dc_Mo_takePlain_141 : decode m_Mo_takePlain.2.1 141 = .ok (.aload_n 0, 1) := by decide +kernel
theorem dc_Mo_takePlain_142 : decode m_Mo_takePlain.2.1 142 = .ok (.getfield 228, 3) := by decide +kernel
theorem dc_Mo_takePlain_145 : decode m_Mo_takePlain.2.1 145 = .ok (.lastore, 1) := by decide +kernel
theorem dc_Mo_takePlain_146 : decode m_Mo_takePlain.2.1 146 = .ok (.iconst 1, 1) := by decide +kernel
theorem dc_Mo_takePlain_147 : decode m_Mo_takePlain.2.1 147 = .ok (.ireturn, 1) := by decide +kernel
theorem b_Mo_takePlain_0 {E : En_t} {d : Nat} {σ : S_t} {Q : Option Value → S_t → Prop} {x1 : Int32} {x2 : Int32}
    (h : CI E d m_Mo_here [pv E 0, .int x1] σ (fun r2 σ1 => (¬ r2 = (34 : Int32) → (¬ r2 = (110 : Int32) → (¬ r2 = (102 : Int32) → (¬ r2 = (116 : Int32) → CI E d m_Mo_takeNumeral [pv E 0, .int x1] σ1 (fun r4 σ3 => (¬ r4 = 0 → CI E d m_Mo_isNumber [.long (gL σ3 0 10)] σ3 (fun r6 σ5 => (¬ r6 = 0 → vp_in x2 500 ∧ (Q (some (.int (1 : Int32))) (sL σ5 38 x2.toNatClampNeg (gL σ5 0 10)))) ∧ (r6 = 0 → CI E d m_Mo_wrong [pv E 0, .int (2 : Int32), .int (gI σ1 0 9)] σ5 (fun r8 σ7 => narrow .boolean (.int r8) = .int r8 ∧ Q (some (.int r8)) σ7)))) ∧ (r4 = 0 → CI E d m_Mo_wrong [pv E 0, .int (1 : Int32), .int (gI σ3 0 9)] σ3 (fun r10 σ9 => narrow .boolean (.int r10) = .int r10 ∧ Q (some (.int r10)) σ9)))) ∧ (r2 = (116 : Int32) → CI E d m_Mo_takeWord [pv E 0, .int x1, .int (9 : Int32), .int (4 : Int32)] σ1 (fun r12 σ11 => narrow .boolean (.int r12) = .int r12 ∧ Q (some (.int r12)) σ11))) ∧ (r2 = (102 : Int32) → CI E d m_Mo_takeWord [pv E 0, .int x1, .int (4 : Int32), .int (5 : Int32)] σ1 (fun r14 σ13 => narrow .boolean (.int r14) = .int r14 ∧ Q (some (.int r14)) σ13))) ∧ (r2 = (110 : Int32) → CI E d m_Mo_takeWord [pv E 0, .int x1, .int (0 : Int32), .int (4 : Int32)] σ1 (fun r16 σ15 => narrow .boolean (.int r16) = .int r16 ∧ Q (some (.int r16)) σ15))) ∧ (r2 = (34 : Int32) → vp_in x2 500 ∧ (CI E d m_Mo_takeString [pv E 0, .int x1] (sI σ1 36 x2.toNatClampNeg (gI σ1 0 44)) (fun r18 σ17 => (¬ r18 = 0 → vp_in x2 500 ∧ (vp_in x2 500 ∧ (Q (some (.int (1 : Int32))) (sI σ17 37 x2.toNatClampNeg ((gI σ17 0 44) - (gI σ17 36 x2.toNatClampNeg)))))) ∧ (r18 = 0 → Q (some (.int (0 : Int32))) σ17)))))) :
    JE E (d + 1) m_Mo_takePlain 0 [(0, pv E 0), (1, .int x1), (2, .int x2)] [] σ Q := by
  refine J_aload_n dc_Mo_takePlain_0 (Eq.refl 1) 0 rfl ?_
  refine J_iload_n dc_Mo_takePlain_1 (Eq.refl 2) 1 rfl ?_
  refine J_callVI (As := [.int x1]) (st := []) dc_Mo_takePlain_2 (Eq.refl 5) lk_Mo_213 mi_Mo_here rfl (Nat.le_of_ble_eq_true rfl) rfl rfl (Nat.le_of_ble_eq_true rfl) rfl (Nat.le_of_ble_eq_true rfl) (CI.mono h (fun r2 σ1 h => ?_))
  refine J_istore_n (L' := [(3, .int r2), (0, pv E 0), (1, .int x1), (2, .int x2)]) dc_Mo_takePlain_5 (Eq.refl 6) (Nat.le_of_ble_eq_true rfl) rfl ?_
  refine J_aload_n dc_Mo_takePlain_6 (Eq.refl 7) 1 rfl ?_
  refine J_getI dc_Mo_takePlain_7 (Eq.refl 10) fl_Mo_210 (Nat.le_of_ble_eq_true rfl) rfl (Or.inl rfl) ?_
  refine J_istore (L' := [(4, .int (gI σ1 0 9)), (3, .int r2), (0, pv E 0), (1, .int x1), (2, .int x2)]) dc_Mo_takePlain_10 (Eq.refl 12) (Nat.le_of_ble_eq_true rfl) rfl ?_
  refine J_iload_n dc_Mo_takePlain_12 (Eq.refl 13) 1 rfl ?_
  refine J_bipush (v := (34 : Int32)) dc_Mo_takePlain_13 (Eq.refl 15) rfl ?_
  refine J_icmp_ne dc_Mo_takePlain_15 (Eq.refl 18) rfl (fun hc => ?_) (fun hc => ?_)
  · have h := h.1 hc
    refine J_iload_n dc_Mo_takePlain_57 (Eq.refl 58) 1 rfl ?_
    refine J_bipush (v := (110 : Int32)) dc_Mo_takePlain_58 (Eq.refl 60) rfl ?_
    refine J_icmp_ne dc_Mo_takePlain_60 (Eq.refl 63) rfl (fun hc => ?_) (fun hc => ?_)
    · have h := h.1 hc
      refine J_iload_n dc_Mo_takePlain_71 (Eq.refl 72) 1 rfl ?_
      refine J_bipush (v := (102 : Int32)) dc_Mo_takePlain_72 (Eq.refl 74) rfl ?_
      refine J_icmp_ne dc_Mo_takePlain_74 (Eq.refl 77) rfl (fun hc => ?_) (fun hc => ?_)
      · have h := h.1 hc
        refine J_iload_n dc_Mo_takePlain_85 (Eq.refl 86) 1 rfl ?_
        refine J_bipush (v := (116 : Int32)) dc_Mo_takePlain_86 (Eq.refl 88) rfl ?_
        refine J_icmp_ne dc_Mo_takePlain_88 (Eq.refl 91) rfl (fun hc => ?_) (fun hc => ?_)
        · have h := h.1 hc
          refine J_aload_n dc_Mo_takePlain_100 (Eq.refl 101) 2 rfl ?_
          refine J_iload_n dc_Mo_takePlain_101 (Eq.refl 102) 3 rfl ?_
          refine J_callVI (As := [.int x1]) (st := []) dc_Mo_takePlain_102 (Eq.refl 105) lk_Mo_232 mi_Mo_takeNumeral rfl (Nat.le_of_ble_eq_true rfl) rfl rfl (Nat.le_of_ble_eq_true rfl) rfl (Nat.le_of_ble_eq_true rfl) (CI.mono h (fun r4 σ3 h => ?_))
          refine J_if_ne dc_Mo_takePlain_105 (Eq.refl 108) rfl (fun hc => ?_) (fun hc => ?_)
          · have h := h.1 hc
            refine J_aload_n dc_Mo_takePlain_118 (Eq.refl 119) 2 rfl ?_
            refine J_getL dc_Mo_takePlain_119 (Eq.refl 122) fl_Mo_228 (Nat.le_of_ble_eq_true rfl) rfl rfl ?_
            refine J_callSI (As := [.long (gL σ3 0 10)]) (st := []) dc_Mo_takePlain_122 (Eq.refl 125) lk_Mo_278 mi_Mo_isNumber (Nat.le_of_ble_eq_true rfl) rfl (Nat.le_of_ble_eq_true rfl) (CI.mono h (fun r6 σ5 h => ?_))
            refine J_if_ne dc_Mo_takePlain_125 (Eq.refl 128) rfl (fun hc => ?_) (fun hc => ?_)
            · have h := h.1 hc
              refine J_aload_n dc_Mo_takePlain_136 (Eq.refl 137) 2 rfl ?_
              refine J_getF (y := 38) dc_Mo_takePlain_137 (Eq.refl 140) fl_Mo_129 (Nat.le_of_ble_eq_true rfl) rfl (Or.inl rfl) rfl ?_
              refine J_iload_n dc_Mo_takePlain_140 (Eq.refl 141) 4 rfl ?_
              refine J_aload_n dc_Mo_takePlain_141 (Eq.refl 142) 2 rfl ?_
              refine J_getL dc_Mo_takePlain_142 (Eq.refl 145) fl_Mo_228 (Nat.le_of_ble_eq_true rfl) rfl rfl ?_
              obtain ⟨hg, h⟩ := h
              refine J_last dc_Mo_takePlain_145 (Eq.refl 146) rfl rfl hg ?_
              refine J_iconst (v := (1 : Int32)) dc_Mo_takePlain_146 (Eq.refl 147) rfl ?_
              exact J_zret dc_Mo_takePlain_147 rfl rfl h
            · have h := h.2 hc
              refine J_aload_n dc_Mo_takePlain_128 (Eq.refl 129) 2 rfl ?_
              refine J_iconst (v := (2 : Int32)) dc_Mo_takePlain_129 (Eq.refl 130) rfl ?_
              refine J_iload dc_Mo_takePlain_130 (Eq.refl 132) 0 rfl ?_
              refine J_callVI (As := [.int (2 : Int32), .int (gI σ1 0 9)]) (st := []) dc_Mo_takePlain_132 (Eq.refl 135) lk_Mo_343 mi_Mo_wrong rfl (Nat.le_of_ble_eq_true rfl) rfl rfl (Nat.le_of_ble_eq_true rfl) rfl (Nat.le_of_ble_eq_true rfl) (CI.mono h (fun r8 σ7 h => ?_))
              exact J_zret dc_Mo_takePlain_135 rfl h.1 h.2
          · have h := h.2 hc
            refine J_aload_n dc_Mo_takePlain_108 (Eq.refl 109) 2 rfl ?_
            refine J_iconst (v := (1 : Int32)) dc_Mo_takePlain_109 (Eq.refl 110) rfl ?_
            refine J_aload_n dc_Mo_takePlain_110 (Eq.refl 111) 2 rfl ?_
            refine J_getI dc_Mo_takePlain_111 (Eq.refl 114) fl_Mo_210 (Nat.le_of_ble_eq_true rfl) rfl (Or.inl rfl) ?_
            refine J_callVI (As := [.int (1 : Int32), .int (gI σ3 0 9)]) (st := []) dc_Mo_takePlain_114 (Eq.refl 117) lk_Mo_343 mi_Mo_wrong rfl (Nat.le_of_ble_eq_true rfl) rfl rfl (Nat.le_of_ble_eq_true rfl) rfl (Nat.le_of_ble_eq_true rfl) (CI.mono h (fun r10 σ9 h => ?_))
            exact J_zret dc_Mo_takePlain_117 rfl h.1 h.2
        · have h := h.2 hc
          refine J_aload_n dc_Mo_takePlain_91 (Eq.refl 92) 2 rfl ?_
          refine J_iload_n dc_Mo_takePlain_92 (Eq.refl 93) 3 rfl ?_
          refine J_bipush (v := (9 : Int32)) dc_Mo_takePlain_93 (Eq.refl 95) rfl ?_
          refine J_iconst (v := (4 : Int32)) dc_Mo_takePlain_95 (Eq.refl 96) rfl ?_
          refine J_callVI (As := [.int x1, .int (9 : Int32), .int (4 : Int32)]) (st := []) dc_Mo_takePlain_96 (Eq.refl 99) lk_Mo_352 mi_Mo_takeWord rfl (Nat.le_of_ble_eq_true rfl) rfl rfl (Nat.le_of_ble_eq_true rfl) rfl (Nat.le_of_ble_eq_true rfl) (CI.mono h (fun r12 σ11 h => ?_))
          exact J_zret dc_Mo_takePlain_99 rfl h.1 h.2
      · have h := h.2 hc
        refine J_aload_n dc_Mo_takePlain_77 (Eq.refl 78) 2 rfl ?_
        refine J_iload_n dc_Mo_takePlain_78 (Eq.refl 79) 3 rfl ?_
        refine J_iconst (v := (4 : Int32)) dc_Mo_takePlain_79 (Eq.refl 80) rfl ?_
        refine J_iconst (v := (5 : Int32)) dc_Mo_takePlain_80 (Eq.refl 81) rfl ?_
        refine J_callVI (As := [.int x1, .int (4 : Int32), .int (5 : Int32)]) (st := []) dc_Mo_takePlain_81 (Eq.refl 84) lk_Mo_352 mi_Mo_takeWord rfl (Nat.le_of_ble_eq_true rfl) rfl rfl (Nat.le_of_ble_eq_true rfl) rfl (Nat.le_of_ble_eq_true rfl) (CI.mono h (fun r14 σ13 h => ?_))
        exact J_zret dc_Mo_takePlain_84 rfl h.1 h.2
    · have h := h.2 hc
      refine J_aload_n dc_Mo_takePlain_63 (Eq.refl 64) 2 rfl ?_
      refine J_iload_n dc_Mo_takePlain_64 (Eq.refl 65) 3 rfl ?_
      refine J_iconst (v := (0 : Int32)) dc_Mo_takePlain_65 (Eq.refl 66) rfl ?_
      refine J_iconst (v := (4 : Int32)) dc_Mo_takePlain_66 (Eq.refl 67) rfl ?_
      refine J_callVI (As := [.int x1, .int (0 : Int32), .int (4 : Int32)]) (st := []) dc_Mo_takePlain_67 (Eq.refl 70) lk_Mo_352 mi_Mo_takeWord rfl (Nat.le_of_ble_eq_true rfl) rfl rfl (Nat.le_of_ble_eq_true rfl) rfl (Nat.le_of_ble_eq_true rfl) (CI.mono h (fun r16 σ15 h => ?_))
      exact J_zret dc_Mo_takePlain_70 rfl h.1 h.2
  · have h := h.2 hc
    refine J_aload_n dc_Mo_takePlain_18 (Eq.refl 19) 2 rfl ?_
    refine J_getF (y := 36) dc_Mo_takePlain_19 (Eq.refl 22) fl_Mo_123 (Nat.le_of_ble_eq_true rfl) rfl (Or.inl rfl) rfl ?_
    refine J_iload_n dc_Mo_takePlain_22 (Eq.refl 23) 4 rfl ?_
    refine J_aload_n dc_Mo_takePlain_23 (Eq.refl 24) 2 rfl ?_
    refine J_getI dc_Mo_takePlain_24 (Eq.refl 27) fl_Mo_321 (Nat.le_of_ble_eq_true rfl) rfl (Or.inl rfl) ?_
    obtain ⟨hg, h⟩ := h
    refine J_iast dc_Mo_takePlain_27 (Eq.refl 28) rfl rfl hg ?_
    refine J_aload_n dc_Mo_takePlain_28 (Eq.refl 29) 2 rfl ?_
    refine J_iload_n dc_Mo_takePlain_29 (Eq.refl 30) 3 rfl ?_
    refine J_callVI (As := [.int x1]) (st := []) dc_Mo_takePlain_30 (Eq.refl 33) lk_Mo_349 mi_Mo_takeString rfl (Nat.le_of_ble_eq_true rfl) rfl rfl (Nat.le_of_ble_eq_true rfl) rfl (Nat.le_of_ble_eq_true rfl) (CI.mono h (fun r18 σ17 h => ?_))
    refine J_if_ne dc_Mo_takePlain_33 (Eq.refl 36) rfl (fun hc => ?_) (fun hc => ?_)
    · have h := h.1 hc
      refine J_aload_n dc_Mo_takePlain_38 (Eq.refl 39) 2 rfl ?_
      refine J_getF (y := 37) dc_Mo_takePlain_39 (Eq.refl 42) fl_Mo_126 (Nat.le_of_ble_eq_true rfl) rfl (Or.inl rfl) rfl ?_
      refine J_iload_n dc_Mo_takePlain_42 (Eq.refl 43) 4 rfl ?_
      refine J_aload_n dc_Mo_takePlain_43 (Eq.refl 44) 2 rfl ?_
      refine J_getI dc_Mo_takePlain_44 (Eq.refl 47) fl_Mo_321 (Nat.le_of_ble_eq_true rfl) rfl (Or.inl rfl) ?_
      refine J_aload_n dc_Mo_takePlain_47 (Eq.refl 48) 2 rfl ?_
      refine J_getF (y := 36) dc_Mo_takePlain_48 (Eq.refl 51) fl_Mo_123 (Nat.le_of_ble_eq_true rfl) rfl (Or.inl rfl) rfl ?_
      refine J_iload_n dc_Mo_takePlain_51 (Eq.refl 52) 4 rfl ?_
      obtain ⟨hg, h⟩ := h
      refine J_iald dc_Mo_takePlain_52 (Eq.refl 53) rfl rfl hg ?_
      refine J_isub dc_Mo_takePlain_53 (Eq.refl 54) ?_
      obtain ⟨hg, h⟩ := h
      refine J_iast dc_Mo_takePlain_54 (Eq.refl 55) rfl rfl hg ?_
      refine J_iconst (v := (1 : Int32)) dc_Mo_takePlain_55 (Eq.refl 56) rfl ?_
      exact J_zret dc_Mo_takePlain_56 rfl rfl h
    · have h := h.2 hc
      refine J_iconst (v := (0 : Int32)) dc_Mo_takePlain_36 (Eq.refl 37) rfl ?_
      exact J_zret dc_Mo_takePlain_37 rfl rfl h
theorem dc_Mo_takeWord_0 : decode m_Mo_takeWord.2.1 0 = .ok (.iconst 0, 1) := by decide +kernel
theorem dc_Mo_takeWord_1 : decode m_Mo_takeWord.2.1 1 = .ok (.istore 4, 2) := by decide +kernel
theorem dc_Mo_takeWord_3 : decode m_Mo_takeWord.2.1 3 = .ok (.iload 4, 2) := by decide +kernel
theorem dc_Mo_takeWord_5 : decode m_Mo_takeWord.2.1 5 = .ok (.iload_n 3, 1) := by decide +kernel
theorem dc_Mo_takeWord_6 : decode m_Mo_takeWord.2.1 6 = .ok (.if_icmp .ge 46, 3) := by decide +kernel
theorem dc_Mo_takeWord_9 : decode m_Mo_takeWord.2.1 9 = .ok (.aload_n 0, 1) := by decide +kernel
theorem dc_Mo_takeWord_10 : decode m_Mo_takeWord.2.1 10 = .ok (.iload_n 1, 1) := by decide +kernel
theorem dc_Mo_takeWord_11 : decode m_Mo_takeWord.2.1 11 = .ok (.invokevirtual 213, 3) := by decide +kernel
theorem dc_Mo_takeWord_14 : decode m_Mo_takeWord.2.1 14 = .ok (.aload_n 0, 1) := by decide +kernel
theorem dc_Mo_takeWord_15 : decode m_Mo_takeWord.2.1 15 = .ok (.getfield 135, 3) := by decide +kernel
theorem dc_Mo_takeWord_18 : decode m_Mo_takeWord.2.1 18 = .ok (.iload_n 2, 1) := by decide +kernel
theorem dc_Mo_takeWord_19 : decode m_Mo_takeWord.2.1 19 = .ok (.iload 4, 2) := by decide +kernel
theorem dc_Mo_takeWord_21 : decode m_Mo_takeWord.2.1 21 = .ok (.iadd, 1) := by decide +kernel
theorem dc_Mo_takeWord_22 : decode m_Mo_takeWord.2.1 22 = .ok (.iaload, 1) := by decide +kernel
theorem dc_Mo_takeWord_23 : decode m_Mo_takeWord.2.1 23 = .ok (.if_icmp .eq 13, 3) := by decide +kernel
theorem dc_Mo_takeWord_26 : decode m_Mo_takeWord.2.1 26 = .ok (.aload_n 0, 1) := by decide +kernel
theorem dc_Mo_takeWord_27 : decode m_Mo_takeWord.2.1 27 = .ok (.iconst 1, 1) := by decide +kernel
theorem dc_Mo_takeWord_28 : decode m_Mo_takeWord.2.1 28 = .ok (.aload_n 0, 1) := by decide +kernel
theorem dc_Mo_takeWord_29 : decode m_Mo_takeWord.2.1 29 = .ok (.getfield 210, 3) := by decide +kernel
theorem dc_Mo_takeWord_32 : decode m_Mo_takeWord.2.1 32 = .ok (.invokevirtual 343, 3) := by decide +kernel
theorem dc_Mo_takeWord_35 : decode m_Mo_takeWord.2.1 35 = .ok (.ireturn, 1) := by decide +kernel
theorem dc_Mo_takeWord_36 : decode m_Mo_takeWord.2.1 36 = .ok (.aload_n 0, 1) := by decide +kernel
theorem dc_Mo_takeWord_37 : decode m_Mo_takeWord.2.1 37 = .ok (.dup, 1) := by decide +kernel
theorem dc_Mo_takeWord_38 : decode m_Mo_takeWord.2.1 38 = .ok (.getfield 210, 3) := by decide +kernel
theorem dc_Mo_takeWord_41 : decode m_Mo_takeWord.2.1 41 = .ok (.iconst 1, 1) := by decide +kernel
theorem dc_Mo_takeWord_42 : decode m_Mo_takeWord.2.1 42 = .ok (.iadd, 1) := by decide +kernel
theorem dc_Mo_takeWord_43 : decode m_Mo_takeWord.2.1 43 = .ok (.putfield 210, 3) := by decide +kernel
theorem dc_Mo_takeWord_46 : decode m_Mo_takeWord.2.1 46 = .ok (.iinc 4 1, 3) := by decide +kernel
theorem dc_Mo_takeWord_49 : decode m_Mo_takeWord.2.1 49 = .ok (.goto (-46), 3) := by decide +kernel
theorem dc_Mo_takeWord_52 : decode m_Mo_takeWord.2.1 52 = .ok (.iconst 1, 1) := by decide +kernel
theorem dc_Mo_takeWord_53 : decode m_Mo_takeWord.2.1 53 = .ok (.ireturn, 1) := by decide +kernel
theorem b_Mo_takeWord_0 {E : En_t} {d : Nat} {σ : S_t} {Q : Option Value → S_t → Prop} {x1 : Int32} {x2 : Int32} {x3 : Int32}
    (h : JE E (d + 1) m_Mo_takeWord 3 [(0, pv E 0), (1, .int x1), (2, .int x2), (3, .int x3), (4, .int (0 : Int32))] [] σ Q) :
    JE E (d + 1) m_Mo_takeWord 0 [(0, pv E 0), (1, .int x1), (2, .int x2), (3, .int x3)] [] σ Q := by
  refine J_iconst (v := (0 : Int32)) dc_Mo_takeWord_0 (Eq.refl 1) rfl ?_
  refine J_istore (L' := [(4, .int (0 : Int32)), (0, pv E 0), (1, .int x1), (2, .int x2), (3, .int x3)]) dc_Mo_takeWord_1 (Eq.refl 3) (Nat.le_of_ble_eq_true rfl) rfl ?_
  refine J_sub [1, 2, 3, 4, 0] rfl ?_
  exact h
theorem b_Mo_takeWord_3 {E : En_t} {d : Nat} {σ : S_t} {Q : Option Value → S_t → Prop} {x1 : Int32} {x2 : Int32} {x3 : Int32} {x4 : Int32}
    (h : (x3 ≤ x4 → Q (some (.int (1 : Int32))) σ) ∧ (¬ x3 ≤ x4 → CI E d m_Mo_here [pv E 0, .int x1] σ (fun r2 σ1 => vp_in (x2 + x4) 13 ∧ ((r2 = (gI σ1 40 (x2 + x4).toNatClampNeg) → JE E (d + 1) m_Mo_takeWord 3 [(0, pv E 0), (1, .int x1), (2, .int x2), (3, .int x3), (4, .int (x4 + (1 : Int32)))] [] (sI σ1 0 9 ((gI σ1 0 9) + (1 : Int32))) Q) ∧ (¬ r2 = (gI σ1 40 (x2 + x4).toNatClampNeg) → CI E d m_Mo_wrong [pv E 0, .int (1 : Int32), .int (gI σ1 0 9)] σ1 (fun r4 σ3 => narrow .boolean (.int r4) = .int r4 ∧ Q (some (.int r4)) σ3)))))) :
    JE E (d + 1) m_Mo_takeWord 3 [(0, pv E 0), (1, .int x1), (2, .int x2), (3, .int x3), (4, .int x4)] [] σ Q := by
  refine J_iload dc_Mo_takeWord_3 (Eq.refl 5) 4 rfl ?_
  refine J_iload_n dc_Mo_takeWord_5 (Eq.refl 6) 3 rfl ?_
  refine J_icmp_ge dc_Mo_takeWord_6 (Eq.refl 9) rfl (fun hc => ?_) (fun hc => ?_)
  · have h := h.1 hc
    refine J_iconst (v := (1 : Int32)) dc_Mo_takeWord_52 (Eq.refl 53) rfl ?_
    exact J_zret dc_Mo_takeWord_53 rfl rfl h
  · have h := h.2 hc
    refine J_aload_n dc_Mo_takeWord_9 (Eq.refl 10) 0 rfl ?_
    refine J_iload_n dc_Mo_takeWord_10 (Eq.refl 11) 1 rfl ?_
    refine J_callVI (As := [.int x1]) (st := []) dc_Mo_takeWord_11 (Eq.refl 14) lk_Mo_213 mi_Mo_here rfl (Nat.le_of_ble_eq_true rfl) rfl rfl (Nat.le_of_ble_eq_true rfl) rfl (Nat.le_of_ble_eq_true rfl) (CI.mono h (fun r2 σ1 h => ?_))
    refine J_aload_n dc_Mo_takeWord_14 (Eq.refl 15) 0 rfl ?_
    refine J_getF (y := 40) dc_Mo_takeWord_15 (Eq.refl 18) fl_Mo_135 (Nat.le_of_ble_eq_true rfl) rfl (Or.inl rfl) rfl ?_
    refine J_iload_n dc_Mo_takeWord_18 (Eq.refl 19) 2 rfl ?_
    refine J_iload dc_Mo_takeWord_19 (Eq.refl 21) 4 rfl ?_
    refine J_iadd dc_Mo_takeWord_21 (Eq.refl 22) ?_
    obtain ⟨hg, h⟩ := h
    refine J_iald dc_Mo_takeWord_22 (Eq.refl 23) rfl rfl hg ?_
    refine J_icmp_eq dc_Mo_takeWord_23 (Eq.refl 26) rfl (fun hc => ?_) (fun hc => ?_)
    · have h := h.1 hc
      refine J_aload_n dc_Mo_takeWord_36 (Eq.refl 37) 0 rfl ?_
      refine J_dup dc_Mo_takeWord_37 (Eq.refl 38) rfl ?_
      refine J_getI dc_Mo_takeWord_38 (Eq.refl 41) fl_Mo_210 (Nat.le_of_ble_eq_true rfl) rfl (Or.inl rfl) ?_
      refine J_iconst (v := (1 : Int32)) dc_Mo_takeWord_41 (Eq.refl 42) rfl ?_
      refine J_iadd dc_Mo_takeWord_42 (Eq.refl 43) ?_
      refine J_putI dc_Mo_takeWord_43 (Eq.refl 46) pl_Mo_210 (Nat.le_of_ble_eq_true rfl) rfl rfl ?_
      refine J_iinc (v := x4 + (1 : Int32)) (L' := [(4, .int (x4 + (1 : Int32))), (0, pv E 0), (1, .int x1), (2, .int x2), (3, .int x3)]) dc_Mo_takeWord_46 (Eq.refl 49) 4 rfl rfl (Nat.le_of_ble_eq_true rfl) rfl ?_
      refine J_goto dc_Mo_takeWord_49 rfl ?_
      refine J_sub [1, 2, 3, 4, 0] rfl ?_
      exact h
    · have h := h.2 hc
      refine J_aload_n dc_Mo_takeWord_26 (Eq.refl 27) 0 rfl ?_
      refine J_iconst (v := (1 : Int32)) dc_Mo_takeWord_27 (Eq.refl 28) rfl ?_
      refine J_aload_n dc_Mo_takeWord_28 (Eq.refl 29) 0 rfl ?_
      refine J_getI dc_Mo_takeWord_29 (Eq.refl 32) fl_Mo_210 (Nat.le_of_ble_eq_true rfl) rfl (Or.inl rfl) ?_
      refine J_callVI (As := [.int (1 : Int32), .int (gI σ1 0 9)]) (st := []) dc_Mo_takeWord_32 (Eq.refl 35) lk_Mo_343 mi_Mo_wrong rfl (Nat.le_of_ble_eq_true rfl) rfl rfl (Nat.le_of_ble_eq_true rfl) rfl (Nat.le_of_ble_eq_true rfl) (CI.mono h (fun r4 σ3 h => ?_))
      exact J_zret dc_Mo_takeWord_35 rfl h.1 h.2
theorem dc_Mo_makeRead_0 : decode m_Mo_makeRead.2.1 0 = .ok (.aload_n 0, 1) := by decide +kernel
theorem dc_Mo_makeRead_1 : decode m_Mo_makeRead.2.1 1 = .ok (.invokevirtual 376, 3) := by decide +kernel
theorem dc_Mo_makeRead_4 : decode m_Mo_makeRead.2.1 4 = .ok (.iconst 0, 1) := by decide +kernel
theorem dc_Mo_makeRead_5 : decode m_Mo_makeRead.2.1 5 = .ok (.istore_n 1, 1) := by decide +kernel
theorem dc_Mo_makeRead_6 : decode m_Mo_makeRead.2.1 6 = .ok (.iconst 0, 1) := by decide +kernel
theorem dc_Mo_makeRead_7 : decode m_Mo_makeRead.2.1 7 = .ok (.istore_n 2, 1) := by decide +kernel
theorem dc_Mo_makeRead_8 : decode m_Mo_makeRead.2.1 8 = .ok (.iload_n 1, 1) := by decide +kernel
theorem dc_Mo_makeRead_9 : decode m_Mo_makeRead.2.1 9 = .ok (.ifCond .lt 348, 3) := by decide +kernel
theorem dc_Mo_makeRead_12 : decode m_Mo_makeRead.2.1 12 = .ok (.iconst 0, 1) := by decide +kernel
theorem dc_Mo_makeRead_13 : decode m_Mo_makeRead.2.1 13 = .ok (.istore_n 3, 1) := by decide +kernel
theorem dc_Mo_makeRead_14 : decode m_Mo_makeRead.2.1 14 = .ok (.iload_n 3, 1) := by decide +kernel
theorem dc_Mo_makeRead_15 : decode m_Mo_makeRead.2.1 15 = .ok (.aload_n 0, 1) := by decide +kernel
theorem dc_Mo_makeRead_16 : decode m_Mo_makeRead.2.1 16 = .ok (.getfield 120, 3) := by decide +kernel
theorem dc_Mo_makeRead_19 : decode m_Mo_makeRead.2.1 19 = .ok (.iload_n 1, 1) := by decide +kernel
theorem dc_Mo_makeRead_20 : decode m_Mo_makeRead.2.1 20 = .ok (.iaload, 1) := by decide +kernel
theorem dc_Mo_makeRead_21 : decode m_Mo_makeRead.2.1 21 = .ok (.if_icmp .ge 28, 3) := by decide +kernel
theorem dc_Mo_makeRead_24 : decode m_Mo_makeRead.2.1 24 = .ok (.aload_n 0, 1) := by decide +kernel
theorem dc_Mo_makeRead_25 : decode m_Mo_makeRead.2.1 25 = .ok (.getfield 141, 3) := by decide +kernel
theorem dc_Mo_makeRead_28 : decode m_Mo_makeRead.2.1 28 = .ok (.iload_n 3, 1) := by decide +kernel
theorem dc_Mo_makeRead_29 : decode m_Mo_makeRead.2.1 29 = .ok (.aload_n 0, 1) := by decide +kernel
theorem dc_Mo_makeRead_30 : decode m_Mo_makeRead.2.1 30 = .ok (.getfield 132, 3) := by decide +kernel
theorem dc_Mo_makeRead_33 : decode m_Mo_makeRead.2.1 33 = .ok (.aload_n 0, 1) := by decide +kernel
theorem dc_Mo_makeRead_34 : decode m_Mo_makeRead.2.1 34 = .ok (.getfield 117, 3) := by decide +kernel
theorem dc_Mo_makeRead_37 : decode m_Mo_makeRead.2.1 37 = .ok (.iload_n 1, 1) := by decide +kernel
theorem dc_Mo_makeRead_38 : decode m_Mo_makeRead.2.1 38 = .ok (.iaload, 1) := by decide +kernel
theorem dc_Mo_makeRead_39 : decode m_Mo_makeRead.2.1 39 = .ok (.iload_n 3, 1) := by decide +kernel
theorem dc_Mo_makeRead_40 : decode m_Mo_makeRead.2.1 40 = .ok (.iadd, 1) := by decide +kernel
theorem dc_Mo_makeRead_41 : decode m_Mo_makeRead.2.1 41 = .ok (.iaload, 1) := by decide +kernel
theorem dc_Mo_makeRead_42 : decode m_Mo_makeRead.2.1 42 = .ok (.iastore, 1) := by decide +kernel
theorem dc_Mo_makeRead_43 : decode m_Mo_makeRead.2.1 43 = .ok (.iinc 3 1, 3) := by decide +kernel
theorem dc_Mo_makeRead_46 : decode m_Mo_makeRead.2.1 46 = .ok (.goto (-32), 3) := by decide +kernel
theorem dc_Mo_makeRead_49 : decode m_Mo_makeRead.2.1 49 = .ok (.aload_n 0, 1) := by decide +kernel
theorem dc_Mo_makeRead_50 : decode m_Mo_makeRead.2.1 50 = .ok (.aload_n 0, 1) := by decide +kernel
theorem dc_Mo_makeRead_51 : decode m_Mo_makeRead.2.1 51 = .ok (.getfield 102, 3) := by decide +kernel
theorem dc_Mo_makeRead_54 : decode m_Mo_makeRead.2.1 54 = .ok (.iload_n 1, 1) := by decide +kernel
theorem dc_Mo_makeRead_55 : decode m_Mo_makeRead.2.1 55 = .ok (.iaload, 1) := by decide +kernel
theorem dc_Mo_makeRead_56 : decode m_Mo_makeRead.2.1 56 = .ok (.iload_n 2, 1) := by decide +kernel
theorem dc_Mo_makeRead_57 : decode m_Mo_makeRead.2.1 57 = .ok (.aload_n 0, 1) := by decide +kernel
theorem dc_Mo_makeRead_58 : decode m_Mo_makeRead.2.1 58 = .ok (.getfield 120, 3) := by decide +kernel
theorem dc_Mo_makeRead_61 : decode m_Mo_makeRead.2.1 61 = .ok (.iload_n 1, 1) := by decide +kernel
theorem dc_Mo_makeRead_62 : decode m_Mo_makeRead.2.1 62 = .ok (.iaload, 1) := by decide +kernel
theorem dc_Mo_makeRead_63 : decode m_Mo_makeRead.2.1 63 = .ok (.invokevirtual 379, 3) := by decide +kernel
theorem dc_Mo_makeRead_66 : decode m_Mo_makeRead.2.1 66 = .ok (.sipush 4000, 3) := by decide +kernel
theorem dc_Mo_makeRead_69 : decode m_Mo_makeRead.2.1 69 = .ok (.aload_n 0, 1) := by decide +kernel
theorem dc_Mo_makeRead_70 : decode m_Mo_makeRead.2.1 70 = .ok (.getfield 35, 3) := by decide +kernel
theorem dc_Mo_makeRead_73 : decode m_Mo_makeRead.2.1 73 = .ok (.bipush 8, 2) := by decide +kernel
theorem dc_Mo_makeRead_75 : decode m_Mo_makeRead.2.1 75 = .ok (.iaload, 1) := by decide +kernel
theorem dc_Mo_makeRead_76 : decode m_Mo_makeRead.2.1 76 = .ok (.iadd, 1) := by decide +kernel
theorem dc_Mo_makeRead_77 : decode m_Mo_makeRead.2.1 77 = .ok (.iconst 1, 1) := by decide +kernel
theorem dc_Mo_makeRead_78 : decode m_Mo_makeRead.2.1 78 = .ok (.isub, 1) := by decide +kernel
theorem dc_Mo_makeRead_79 : decode m_Mo_makeRead.2.1 79 = .ok (.istore_n 3, 1) := by decide +kernel
theorem dc_Mo_makeRead_80 : decode m_Mo_makeRead.2.1 80 = .ok (.aload_n 0, 1) := by decide +kernel
theorem dc_Mo_makeRead_81 : decode m_Mo_makeRead.2.1 81 = .ok (.getfield 102, 3) := by decide +kernel
theorem dc_Mo_makeRead_84 : decode m_Mo_makeRead.2.1 84 = .ok (.iload_n 1, 1) := by decide +kernel
theorem dc_Mo_makeRead_85 : decode m_Mo_makeRead.2.1 85 = .ok (.iaload, 1) := by decide +kernel
theorem dc_Mo_makeRead_86 : decode m_Mo_makeRead.2.1 86 = .ok (.iconst 4, 1) := by decide +kernel
theorem dc_Mo_makeRead_87 : decode m_Mo_makeRead.2.1 87 = .ok (.if_icmp .ne 69, 3) := by decide +kernel
theorem dc_Mo_makeRead_90 : decode m_Mo_makeRead.2.1 90 = .ok (.aload_n 0, 1) := by decide +kernel
theorem dc_Mo_makeRead_91 : decode m_Mo_makeRead.2.1 91 = .ok (.getfield 71, 3) := by decide +kernel
theorem dc_Mo_makeRead_94 : decode m_Mo_makeRead.2.1 94 = .ok (.iload_n 3, 1) := by decide +kernel
theorem dc_Mo_makeRead_95 : decode m_Mo_makeRead.2.1 95 = .ok (.aload_n 0, 1) := by decide +kernel
theorem dc_Mo_makeRead_96 : decode m_Mo_makeRead.2.1 96 = .ok (.getfield 38, 3) := by decide +kernel
theorem dc_Mo_makeRead_99 : decode m_Mo_makeRead.2.1 99 = .ok (.bipush 8, 2) := by decide +kernel
theorem dc_Mo_makeRead_101 : decode m_Mo_makeRead.2.1 101 = .ok (.iaload, 1) := by decide +kernel
theorem dc_Mo_makeRead_102 : decode m_Mo_makeRead.2.1 102 = .ok (.iastore, 1) := by decide +kernel
theorem dc_Mo_makeRead_103 : decode m_Mo_makeRead.2.1 103 = .ok (.aload_n 0, 1) := by decide +kernel
theorem dc_Mo_makeRead_104 : decode m_Mo_makeRead.2.1 104 = .ok (.getfield 74, 3) := by decide +kernel
theorem dc_Mo_makeRead_107 : decode m_Mo_makeRead.2.1 107 = .ok (.iload_n 3, 1) := by decide +kernel
theorem dc_Mo_makeRead_108 : decode m_Mo_makeRead.2.1 108 = .ok (.aload_n 0, 1) := by decide +kernel
theorem dc_Mo_makeRead_109 : decode m_Mo_makeRead.2.1 109 = .ok (.getfield 126, 3) := by decide +kernel
theorem dc_Mo_makeRead_112 : decode m_Mo_makeRead.2.1 112 = .ok (.iload_n 1, 1) := by decide +kernel
theorem dc_Mo_makeRead_113 : decode m_Mo_makeRead.2.1 113 = .ok (.iaload, 1) := by decide +kernel
theorem dc_Mo_makeRead_114 : decode m_Mo_makeRead.2.1 114 = .ok (.iastore, 1) := by decide +kernel
theorem dc_Mo_makeRead_115 : decode m_Mo_makeRead.2.1 115 = .ok (.iconst 0, 1) := by decide +kernel
theorem dc_Mo_makeRead_116 : decode m_Mo_makeRead.2.1 116 = .ok (.istore 4, 2) := by decide +kernel
theorem dc_Mo_makeRead_118 : decode m_Mo_makeRead.2.1 118 = .ok (.iload 4, 2) := by decide +kernel
theorem dc_Mo_makeRead_120 : decode m_Mo_makeRead.2.1 120 = .ok (.aload_n 0, 1) := by decide +kernel
theorem dc_Mo_makeRead_121 : decode m_Mo_makeRead.2.1 121 = .ok (.getfield 126, 3) := by decide +kernel
theorem dc_Mo_makeRead_124 : decode m_Mo_makeRead.2.1 124 = .ok (.iload_n 1, 1) := by decide +kernel
theorem dc_Mo_makeRead_125 : decode m_Mo_makeRead.2.1 125 = .ok (.iaload, 1) := by decide +kernel
theorem dc_Mo_makeRead_126 : decode m_Mo_makeRead.2.1 126 = .ok (.if_icmp .ge 27, 3) := by decide +kernel
theorem dc_Mo_makeRead_129 : decode m_Mo_makeRead.2.1 129 = .ok (.aload_n 0, 1) := by decide +kernel
theorem dc_Mo_makeRead_130 : decode m_Mo_makeRead.2.1 130 = .ok (.aload_n 0, 1) := by decide +kernel
theorem dc_Mo_makeRead_131 : decode m_Mo_makeRead.2.1 131 = .ok (.getfield 132, 3) := by decide +kernel
theorem dc_Mo_makeRead_134 : decode m_Mo_makeRead.2.1 134 = .ok (.aload_n 0, 1) := by decide +kernel
theorem dc_Mo_makeRead_135 : decode m_Mo_makeRead.2.1 135 = .ok (.getfield 123, 3) := by decide +kernel
theorem dc_Mo_makeRead_138 : decode m_Mo_makeRead.2.1 138 = .ok (.iload_n 1, 1) := by decide +kernel
theorem dc_Mo_makeRead_139 : decode m_Mo_makeRead.2.1 139 = .ok (.iaload, 1) := by decide +kernel
theorem dc_Mo_makeRead_140 : decode m_Mo_makeRead.2.1 140 = .ok (.iload 4, 2) := by decide +kernel
theorem dc_Mo_makeRead_142 : decode m_Mo_makeRead.2.1 142 = .ok (.iadd, 1) := by decide +kernel
theorem dc_Mo_makeRead_143 : decode m_Mo_makeRead.2.1 143 = .ok (.iaload, 1) := by decide +kernel
theorem dc_Mo_makeRead_144 : decode m_Mo_makeRead.2.1 144 = .ok (.invokevirtual 303, 3) := by decide +kernel
theorem dc_Mo_makeRead_147 : decode m_Mo_makeRead.2.1 147 = .ok (.iinc 4 1, 3) := by decide +kernel
theorem dc_Mo_makeRead_150 : decode m_Mo_makeRead.2.1 150 = .ok (.goto (-32), 3) := by decide +kernel
theorem dc_Mo_makeRead_153 : decode m_Mo_makeRead.2.1 153 = .ok (.goto 116, 3) := by decide +kernel
theorem dc_Mo_makeRead_156 : decode m_Mo_makeRead.2.1 156 = .ok (.aload_n 0, 1) := by decide +kernel
theorem dc_Mo_makeRead_157 : decode m_Mo_makeRead.2.1 157 = .ok (.getfield 102, 3) := by decide +kernel
theorem dc_Mo_makeRead_160 : decode m_Mo_makeRead.2.1 160 = .ok (.iload_n 1, 1) := by decide +kernel
theorem dc_Mo_makeRead_161 : decode m_Mo_makeRead.2.1 161 = .ok (.iaload, 1) := by decide +kernel
theorem dc_Mo_makeRead_162 : decode m_Mo_makeRead.2.1 162 = .ok (.iconst 3, 1) := by decide +kernel
theorem dc_Mo_makeRead_163 : decode m_Mo_makeRead.2.1 163 = .ok (.if_icmp .ne 106, 3) := by decide +kernel
theorem dc_Mo_makeRead_166 : decode m_Mo_makeRead.2.1 166 = .ok (.aload_n 0, 1) := by decide +kernel
theorem dc_Mo_makeRead_167 : decode m_Mo_makeRead.2.1 167 = .ok (.getfield 83, 3) := by decide +kernel
theorem dc_Mo_makeRead_170 : decode m_Mo_makeRead.2.1 170 = .ok (.iload_n 3, 1) := by decide +kernel
theorem dc_Mo_makeRead_171 : decode m_Mo_makeRead.2.1 171 = .ok (.aload_n 0, 1) := by decide +kernel
theorem dc_Mo_makeRead_172 : decode m_Mo_makeRead.2.1 172 = .ok (.getfield 129, 3) := by decide +kernel
theorem dc_Mo_makeRead_175 : decode m_Mo_makeRead.2.1 175 = .ok (.iload_n 1, 1) := by decide +kernel
theorem dc_Mo_makeRead_176 : decode m_Mo_makeRead.2.1 176 = .ok (.laload, 1) := by decide +kernel
theorem dc_Mo_makeRead_177 : decode m_Mo_makeRead.2.1 177 = .ok (.lastore, 1) := by decide +kernel
theorem dc_Mo_makeRead_178 : decode m_Mo_makeRead.2.1 178 = .ok (.aload_n 0, 1) := by decide +kernel
theorem dc_Mo_makeRead_179 : decode m_Mo_makeRead.2.1 179 = .ok (.aload_n 0, 1) := by decide +kernel
theorem dc_Mo_makeRead_180 : decode m_Mo_makeRead.2.1 180 = .ok (.getfield 129, 3) := by decide +kernel
theorem dc_Mo_makeRead_183 : decode m_Mo_makeRead.2.1 183 = .ok (.iload_n 1, 1) := by decide +kernel
theorem dc_Mo_makeRead_184 : decode m_Mo_makeRead.2.1 184 = .ok (.laload, 1) := by decide +kernel
theorem dc_Mo_makeRead_185 : decode m_Mo_makeRead.2.1 185 = .ok (.invokevirtual 282, 3) := by decide +kernel
theorem dc_Mo_makeRead_188 : decode m_Mo_makeRead.2.1 188 = .ok (.aload_n 0, 1) := by decide +kernel
theorem dc_Mo_makeRead_189 : decode m_Mo_makeRead.2.1 189 = .ok (.getfield 77, 3) := by decide +kernel
theorem dc_Mo_makeRead_192 : decode m_Mo_makeRead.2.1 192 = .ok (.iload_n 3, 1) := by decide +kernel
theorem dc_Mo_makeRead_193 : decode m_Mo_makeRead.2.1 193 = .ok (.aload_n 0, 1) := by decide +kernel
theorem dc_Mo_makeRead_194 : decode m_Mo_makeRead.2.1 194 = .ok (.getfield 44, 3) := by decide +kernel
theorem dc_Mo_makeRead_197 : decode m_Mo_makeRead.2.1 197 = .ok (.bipush 8, 2) := by decide +kernel
theorem dc_Mo_makeRead_199 : decode m_Mo_makeRead.2.1 199 = .ok (.iaload, 1) := by decide +kernel
theorem dc_Mo_makeRead_200 : decode m_Mo_makeRead.2.1 200 = .ok (.iastore, 1) := by decide +kernel
theorem dc_Mo_makeRead_201 : decode m_Mo_makeRead.2.1 201 = .ok (.aload_n 0, 1) := by decide +kernel
theorem dc_Mo_makeRead_202 : decode m_Mo_makeRead.2.1 202 = .ok (.getfield 80, 3) := by decide +kernel
theorem dc_Mo_makeRead_205 : decode m_Mo_makeRead.2.1 205 = .ok (.iload_n 3, 1) := by decide +kernel
theorem dc_Mo_makeRead_206 : decode m_Mo_makeRead.2.1 206 = .ok (.aload_n 0, 1) := by decide +kernel
theorem dc_Mo_makeRead_207 : decode m_Mo_makeRead.2.1 207 = .ok (.getfield 264, 3) := by decide +kernel
theorem dc_Mo_makeRead_210 : decode m_Mo_makeRead.2.1 210 = .ok (.iastore, 1) := by decide +kernel
theorem dc_Mo_makeRead_211 : decode m_Mo_makeRead.2.1 211 = .ok (.iconst 0, 1) := by decide +kernel
theorem dc_Mo_makeRead_212 : decode m_Mo_makeRead.2.1 212 = .ok (.istore 4, 2) := by decide +kernel
theorem dc_Mo_makeRead_214 : decode m_Mo_makeRead.2.1 214 = .ok (.iload 4, 2) := by decide +kernel
theorem dc_Mo_makeRead_216 : decode m_Mo_makeRead.2.1 216 = .ok (.aload_n 0, 1) := by decide +kernel
theorem dc_Mo_makeRead_217 : decode m_Mo_makeRead.2.1 217 = .ok (.getfield 264, 3) := by decide +kernel
theorem dc_Mo_makeRead_220 : decode m_Mo_makeRead.2.1 220 = .ok (.if_icmp .ge 35, 3) := by decide +kernel
theorem dc_Mo_makeRead_223 : decode m_Mo_makeRead.2.1 223 = .ok (.aload_n 0, 1) := by decide +kernel
theorem dc_Mo_makeRead_224 : decode m_Mo_makeRead.2.1 224 = .ok (.getfield 92, 3) := by decide +kernel
theorem dc_Mo_makeRead_227 : decode m_Mo_makeRead.2.1 227 = .ok (.ldc_w 313, 3) := by decide +kernel
theorem dc_Mo_makeRead_230 : decode m_Mo_makeRead.2.1 230 = .ok (.aload_n 0, 1) := by decide +kernel
theorem dc_Mo_makeRead_231 : decode m_Mo_makeRead.2.1 231 = .ok (.getfield 44, 3) := by decide +kernel
theorem dc_Mo_makeRead_234 : decode m_Mo_makeRead.2.1 234 = .ok (.bipush 8, 2) := by decide +kernel
theorem dc_Mo_makeRead_236 : decode m_Mo_makeRead.2.1 236 = .ok (.iaload, 1) := by decide +kernel
theorem dc_Mo_makeRead_237 : decode m_Mo_makeRead.2.1 237 = .ok (.iadd, 1) := by decide +kernel
theorem dc_Mo_makeRead_238 : decode m_Mo_makeRead.2.1 238 = .ok (.iload 4, 2) := by decide +kernel
theorem dc_Mo_makeRead_240 : decode m_Mo_makeRead.2.1 240 = .ok (.iadd, 1) := by decide +kernel
theorem dc_Mo_makeRead_241 : decode m_Mo_makeRead.2.1 241 = .ok (.aload_n 0, 1) := by decide +kernel
theorem dc_Mo_makeRead_242 : decode m_Mo_makeRead.2.1 242 = .ok (.getfield 28, 3) := by decide +kernel
theorem dc_Mo_makeRead_245 : decode m_Mo_makeRead.2.1 245 = .ok (.iload 4, 2) := by decide +kernel
theorem dc_Mo_makeRead_247 : decode m_Mo_makeRead.2.1 247 = .ok (.iaload, 1) := by decide +kernel
theorem dc_Mo_makeRead_248 : decode m_Mo_makeRead.2.1 248 = .ok (.iastore, 1) := by decide +kernel
theorem dc_Mo_makeRead_249 : decode m_Mo_makeRead.2.1 249 = .ok (.iinc 4 1, 3) := by decide +kernel
theorem dc_Mo_makeRead_252 : decode m_Mo_makeRead.2.1 252 = .ok (.goto (-38), 3) := by decide +kernel
theorem dc_Mo_makeRead_255 : decode m_Mo_makeRead.2.1 255 = .ok (.aload_n 0, 1) := by decide +kernel
theorem dc_Mo_makeRead_256 : decode m_Mo_makeRead.2.1 256 = .ok (.getfield 44, 3) := by decide +kernel
theorem dc_Mo_makeRead_259 : decode m_Mo_makeRead.2.1 259 = .ok (.bipush 8, 2) := by decide +kernel
theorem dc_Mo_makeRead_261 : decode m_Mo_makeRead.2.1 261 = .ok (.dup2, 1) := by decide +kernel
theorem dc_Mo_makeRead_262 : decode m_Mo_makeRead.2.1 262 = .ok (.iaload, 1) := by decide +kernel
theorem dc_Mo_makeRead_263 : decode m_Mo_makeRead.2.1 263 = .ok (.aload_n 0, 1) := by decide +kernel
theorem dc_Mo_makeRead_264 : decode m_Mo_makeRead.2.1 264 = .ok (.getfield 264, 3) := by decide +kernel
theorem dc_Mo_makeRead_267 : decode m_Mo_makeRead.2.1 267 = .ok (.iadd, 1) := by decide +kernel
theorem dc_Mo_makeRead_268 : decode m_Mo_makeRead.2.1 268 = .ok (.iastore, 1) := by decide +kernel
theorem dc_Mo_makeRead_269 : decode m_Mo_makeRead.2.1 269 = .ok (.aload_n 0, 1) := by decide +kernel
theorem dc_Mo_makeRead_270 : decode m_Mo_makeRead.2.1 270 = .ok (.getfield 102, 3) := by decide +kernel
theorem dc_Mo_makeRead_273 : decode m_Mo_makeRead.2.1 273 = .ok (.iload_n 1, 1) := by decide +kernel
theorem dc_Mo_makeRead_274 : decode m_Mo_makeRead.2.1 274 = .ok (.iaload, 1) := by decide +kernel
theorem dc_Mo_makeRead_275 : decode m_Mo_makeRead.2.1 275 = .ok (.bipush 6, 2) := by decide +kernel
theorem dc_Mo_makeRead_277 : decode m_Mo_makeRead.2.1 277 = .ok (.if_icmp .ne 8, 3) := by decide +kernel
theorem dc_Mo_makeRead_280 : decode m_Mo_makeRead.2.1 280 = .ok (.aload_n 0, 1) := by decide +kernel
theorem dc_Mo_makeRead_281 : decode m_Mo_makeRead.2.1 281 = .ok (.iload_n 1, 1) := by decide +kernel
theorem dc_Mo_makeRead_282 : decode m_Mo_makeRead.2.1 282 = .ok (.invokevirtual 383, 3) := by decide +kernel
theorem dc_Mo_makeRead_285 : decode m_Mo_makeRead.2.1 285 = .ok (.aload_n 0, 1) := by decide +kernel
theorem dc_Mo_makeRead_286 : decode m_Mo_makeRead.2.1 286 = .ok (.getfield 102, 3) := by decide +kernel
theorem dc_Mo_makeRead_289 : decode m_Mo_makeRead.2.1 289 = .ok (.iload_n 1, 1) := by decide +kernel
theorem dc_Mo_makeRead_290 : decode m_Mo_makeRead.2.1 290 = .ok (.iaload, 1) := by decide +kernel
theorem dc_Mo_makeRead_291 : decode m_Mo_makeRead.2.1 291 = .ok (.iconst 5, 1) := by decide +kernel
theorem dc_Mo_makeRead_292 : decode m_Mo_makeRead.2.1 292 = .ok (.if_icmp .lt 25, 3) := by decide +kernel
theorem dc_Mo_makeRead_295 : decode m_Mo_makeRead.2.1 295 = .ok (.aload_n 0, 1) := by decide +kernel
theorem dc_Mo_makeRead_296 : decode m_Mo_makeRead.2.1 296 = .ok (.getfield 108, 3) := by decide +kernel
theorem dc_Mo_makeRead_299 : decode m_Mo_makeRead.2.1 299 = .ok (.iload_n 1, 1) := by decide +kernel
theorem dc_Mo_makeRead_300 : decode m_Mo_makeRead.2.1 300 = .ok (.iaload, 1) := by decide +kernel
theorem dc_Mo_makeRead_301 : decode m_Mo_makeRead.2.1 301 = .ok (.ifCond .lt 16, 3) := by decide +kernel
theorem dc_Mo_makeRead_304 : decode m_Mo_makeRead.2.1 304 = .ok (.aload_n 0, 1) := by decide +kernel
theorem dc_Mo_makeRead_305 : decode m_Mo_makeRead.2.1 305 = .ok (.getfield 108, 3) := by decide +kernel
theorem dc_Mo_makeRead_308 : decode m_Mo_makeRead.2.1 308 = .ok (.iload_n 1, 1) := by decide +kernel
theorem dc_Mo_makeRead_309 : decode m_Mo_makeRead.2.1 309 = .ok (.iaload, 1) := by decide +kernel
theorem dc_Mo_makeRead_310 : decode m_Mo_makeRead.2.1 310 = .ok (.istore_n 1, 1) := by decide +kernel
theorem dc_Mo_makeRead_311 : decode m_Mo_makeRead.2.1 311 = .ok (.iinc 2 1, 3) := by decide +kernel
theorem dc_Mo_makeRead_314 : decode m_Mo_makeRead.2.1 314 = .ok (.goto 40, 3) := by decide +kernel
theorem dc_Mo_makeRead_317 : decode m_Mo_makeRead.2.1 317 = .ok (.iload_n 1, 1) := by decide +kernel
theorem dc_Mo_makeRead_318 : decode m_Mo_makeRead.2.1 318 = .ok (.ifCond .lt 25, 3) := by decide +kernel
theorem dc_Mo_makeRead_321 : decode m_Mo_makeRead.2.1 321 = .ok (.aload_n 0, 1) := by decide +kernel
theorem dc_Mo_makeRead_322 : decode m_Mo_makeRead.2.1 322 = .ok (.getfield 114, 3) := by decide +kernel
theorem dc_Mo_makeRead_325 : decode m_Mo_makeRead.2.1 325 = .ok (.iload_n 1, 1) := by decide +kernel
theorem dc_Mo_makeRead_326 : decode m_Mo_makeRead.2.1 326 = .ok (.iaload, 1) := by decide +kernel
theorem dc_Mo_makeRead_327 : decode m_Mo_makeRead.2.1 327 = .ok (.ifCond .ge 16, 3) := by decide +kernel
theorem dc_Mo_makeRead_330 : decode m_Mo_makeRead.2.1 330 = .ok (.aload_n 0, 1) := by decide +kernel
theorem dc_Mo_makeRead_331 : decode m_Mo_makeRead.2.1 331 = .ok (.getfield 105, 3) := by decide +kernel
theorem dc_Mo_makeRead_334 : decode m_Mo_makeRead.2.1 334 = .ok (.iload_n 1, 1) := by decide +kernel
theorem dc_Mo_makeRead_335 : decode m_Mo_makeRead.2.1 335 = .ok (.iaload, 1) := by decide +kernel
theorem dc_Mo_makeRead_336 : decode m_Mo_makeRead.2.1 336 = .ok (.istore_n 1, 1) := by decide +kernel
theorem dc_Mo_makeRead_337 : decode m_Mo_makeRead.2.1 337 = .ok (.iinc 2 (-1), 3) := by decide +kernel
theorem dc_Mo_makeRead_340 : decode m_Mo_makeRead.2.1 340 = .ok (.goto (-23), 3) := by decide +kernel
theorem dc_Mo_makeRead_343 : decode m_Mo_makeRead.2.1 343 = .ok (.iload_n 1, 1) := by decide +kernel
theorem dc_Mo_makeRead_344 : decode m_Mo_makeRead.2.1 344 = .ok (.ifCond .lt 10, 3) := by decide +kernel
theorem dc_Mo_makeRead_347 : decode m_Mo_makeRead.2.1 347 = .ok (.aload_n 0, 1) := by decide +kernel
theorem dc_Mo_makeRead_348 : decode m_Mo_makeRead.2.1 348 = .ok (.getfield 114, 3) := by decide +kernel
theorem dc_Mo_makeRead_351 : decode m_Mo_makeRead.2.1 351 = .ok (.iload_n 1, 1) := by decide +kernel
theorem dc_Mo_makeRead_352 : decode m_Mo_makeRead.2.1 352 = .ok (.iaload, 1) := by decide +kernel
theorem dc_Mo_makeRead_353 : decode m_Mo_makeRead.2.1 353 = .ok (.istore_n 1, 1) := by decide +kernel
theorem dc_Mo_makeRead_354 : decode m_Mo_makeRead.2.1 354 = .ok (.goto (-346), 3) := by decide +kernel
theorem dc_Mo_makeRead_357 : decode m_Mo_makeRead.2.1 357 = .ok (.return_, 1) := by decide +kernel
theorem b_Mo_makeRead_0 {E : En_t} {d : Nat} {σ : S_t} {Q : Option Value → S_t → Prop}
    (h : CV E d m_Mo_beginMade [pv E 0] σ (fun σ1 => JE E (d + 1) m_Mo_makeRead 8 [(0, pv E 0), (1, .int (0 : Int32)), (2, .int (0 : Int32))] [] σ1 Q)) :
    JE E (d + 1) m_Mo_makeRead 0 [(0, pv E 0)] [] σ Q := by
  refine J_aload_n dc_Mo_makeRead_0 (Eq.refl 1) 0 rfl ?_
  refine J_callVV (As := []) (st := []) dc_Mo_makeRead_1 (Eq.refl 4) lk_Mo_376 mi_Mo_beginMade rfl (Nat.le_of_ble_eq_true rfl) rfl rfl (Nat.le_of_ble_eq_true rfl) rfl (Nat.le_of_ble_eq_true rfl) (CV.mono h (fun σ1 h => ?_))
  refine J_iconst (v := (0 : Int32)) dc_Mo_makeRead_4 (Eq.refl 5) rfl ?_
  refine J_istore_n (L' := [(1, .int (0 : Int32)), (0, pv E 0)]) dc_Mo_makeRead_5 (Eq.refl 6) (Nat.le_of_ble_eq_true rfl) rfl ?_
  refine J_iconst (v := (0 : Int32)) dc_Mo_makeRead_6 (Eq.refl 7) rfl ?_
  refine J_istore_n (L' := [(2, .int (0 : Int32)), (1, .int (0 : Int32)), (0, pv E 0)]) dc_Mo_makeRead_7 (Eq.refl 8) (Nat.le_of_ble_eq_true rfl) rfl ?_
  refine J_sub [2, 1, 0] rfl ?_
  exact h
theorem b_Mo_makeRead_8 {E : En_t} {d : Nat} {σ : S_t} {Q : Option Value → S_t → Prop} {x1 : Int32} {x2 : Int32}
    (h : (x1 < 0 → Q none σ) ∧ (¬ x1 < 0 → JE E (d + 1) m_Mo_makeRead 14 [(0, pv E 0), (1, .int x1), (2, .int x2), (3, .int (0 : Int32))] [] σ Q)) :
    JE E (d + 1) m_Mo_makeRead 8 [(0, pv E 0), (1, .int x1), (2, .int x2)] [] σ Q := by
  refine J_iload_n dc_Mo_makeRead_8 (Eq.refl 9) 1 rfl ?_
  refine J_if_lt dc_Mo_makeRead_9 (Eq.refl 12) rfl (fun hc => ?_) (fun hc => ?_)
  · have h := h.1 hc
    exact J_vret dc_Mo_makeRead_357 rfl h
  · have h := h.2 hc
    refine J_iconst (v := (0 : Int32)) dc_Mo_makeRead_12 (Eq.refl 13) rfl ?_
    refine J_istore_n (L' := [(3, .int (0 : Int32)), (0, pv E 0), (1, .int x1), (2, .int x2)]) dc_Mo_makeRead_13 (Eq.refl 14) (Nat.le_of_ble_eq_true rfl) rfl ?_
    refine J_sub [1, 2, 3, 0] rfl ?_
    exact h
theorem b_Mo_makeRead_14 {E : En_t} {d : Nat} {σ : S_t} {Q : Option Value → S_t → Prop} {x1 : Int32} {x2 : Int32} {x3 : Int32}
    (h : vp_in x1 500 ∧ (((gI σ 35 x1.toNatClampNeg) ≤ x3 → vp_in x1 500 ∧ (vp_in x1 500 ∧ (CV E d m_Mo_makeNamed [pv E 0, .int (gI σ 29 x1.toNatClampNeg), .int x2, .int (gI σ 35 x1.toNatClampNeg)] σ (fun σ1 => vp_in (8 : Int32) 9 ∧ (vp_in x1 500 ∧ ((¬ (gI σ1 29 x1.toNatClampNeg) = (4 : Int32) → vp_in x1 500 ∧ ((¬ (gI σ1 29 x1.toNatClampNeg) = (3 : Int32) → JE E (d + 1) m_Mo_makeRead 269 [(0, pv E 0), (1, .int x1), (2, .int x2)] [] σ1 Q) ∧ ((gI σ1 29 x1.toNatClampNeg) = (3 : Int32) → vp_in x1 500 ∧ (vp_in (((4000 : Int32) + (gI σ1 9 (8 : Int32).toNatClampNeg)) - (1 : Int32)) 4500 ∧ (vp_in x1 500 ∧ (∀ v2, v2 = gL (sL σ1 25 (((4000 : Int32) + (gI σ1 9 (8 : Int32).toNatClampNeg)) - (1 : Int32)).toNatClampNeg (gL σ1 38 x1.toNatClampNeg)) 38 x1.toNatClampNeg → (CV E d m_Mo_spell [pv E 0, .long v2] (sL σ1 25 (((4000 : Int32) + (gI σ1 9 (8 : Int32).toNatClampNeg)) - (1 : Int32)).toNatClampNeg (gL σ1 38 x1.toNatClampNeg)) (fun σ3 => vp_in (8 : Int32) 9 ∧ (vp_in (((4000 : Int32) + (gI σ1 9 (8 : Int32).toNatClampNeg)) - (1 : Int32)) 4500 ∧ (∀ v4, v4 = gI (sI σ3 23 (((4000 : Int32) + (gI σ1 9 (8 : Int32).toNatClampNeg)) - (1 : Int32)).toNatClampNeg (gI σ3 12 (8 : Int32).toNatClampNeg)) 0 18 → (vp_in (((4000 : Int32) + (gI σ1 9 (8 : Int32).toNatClampNeg)) - (1 : Int32)) 4500 ∧ (∀ σ5, σ5 = sI (sI σ3 23 (((4000 : Int32) + (gI σ1 9 (8 : Int32).toNatClampNeg)) - (1 : Int32)).toNatClampNeg (gI σ3 12 (8 : Int32).toNatClampNeg)) 24 (((4000 : Int32) + (gI σ1 9 (8 : Int32).toNatClampNeg)) - (1 : Int32)).toNatClampNeg v4 → (JE E (d + 1) m_Mo_makeRead 214 [(0, pv E 0), (1, .int x1), (2, .int x2), (4, .int (0 : Int32))] [] σ5 Q))))))))))))) ∧ ((gI σ1 29 x1.toNatClampNeg) = (4 : Int32) → vp_in (8 : Int32) 9 ∧ (vp_in (((4000 : Int32) + (gI σ1 9 (8 : Int32).toNatClampNeg)) - (1 : Int32)) 4500 ∧ (vp_in x1 500 ∧ (∀ v6, v6 = gI (sI σ1 21 (((4000 : Int32) + (gI σ1 9 (8 : Int32).toNatClampNeg)) - (1 : Int32)).toNatClampNeg (gI σ1 10 (8 : Int32).toNatClampNeg)) 37 x1.toNatClampNeg → (vp_in (((4000 : Int32) + (gI σ1 9 (8 : Int32).toNatClampNeg)) - (1 : Int32)) 4500 ∧ (∀ σ7, σ7 = sI (sI σ1 21 (((4000 : Int32) + (gI σ1 9 (8 : Int32).toNatClampNeg)) - (1 : Int32)).toNatClampNeg (gI σ1 10 (8 : Int32).toNatClampNeg)) 22 (((4000 : Int32) + (gI σ1 9 (8 : Int32).toNatClampNeg)) - (1 : Int32)).toNatClampNeg v6 → (JE E (d + 1) m_Mo_makeRead 118 [(0, pv E 0), (1, .int x1), (2, .int x2), (4, .int (0 : Int32))] [] σ7 Q))))))))))))) ∧ (¬ (gI σ 35 x1.toNatClampNeg) ≤ x3 → vp_in x1 500 ∧ (vp_in ((gI σ 34 x1.toNatClampNeg) + x3) 2100 ∧ (vp_in x3 2100 ∧ (JE E (d + 1) m_Mo_makeRead 14 [(0, pv E 0), (1, .int x1), (2, .int x2), (3, .int (x3 + (1 : Int32)))] [] (sI σ 42 x3.toNatClampNeg (gI σ 39 ((gI σ 34 x1.toNatClampNeg) + x3).toNatClampNeg)) Q)))))) :
    JE E (d + 1) m_Mo_makeRead 14 [(0, pv E 0), (1, .int x1), (2, .int x2), (3, .int x3)] [] σ Q := by
  refine J_iload_n dc_Mo_makeRead_14 (Eq.refl 15) 3 rfl ?_
  refine J_aload_n dc_Mo_makeRead_15 (Eq.refl 16) 0 rfl ?_
  refine J_getF (y := 35) dc_Mo_makeRead_16 (Eq.refl 19) fl_Mo_120 (Nat.le_of_ble_eq_true rfl) rfl (Or.inl rfl) rfl ?_
  refine J_iload_n dc_Mo_makeRead_19 (Eq.refl 20) 1 rfl ?_
  obtain ⟨hg, h⟩ := h
  refine J_iald dc_Mo_makeRead_20 (Eq.refl 21) rfl rfl hg ?_
  refine J_icmp_ge dc_Mo_makeRead_21 (Eq.refl 24) rfl (fun hc => ?_) (fun hc => ?_)
  · have h := h.1 hc
    refine J_aload_n dc_Mo_makeRead_49 (Eq.refl 50) 0 rfl ?_
    refine J_aload_n dc_Mo_makeRead_50 (Eq.refl 51) 0 rfl ?_
    refine J_getF (y := 29) dc_Mo_makeRead_51 (Eq.refl 54) fl_Mo_102 (Nat.le_of_ble_eq_true rfl) rfl (Or.inl rfl) rfl ?_
    refine J_iload_n dc_Mo_makeRead_54 (Eq.refl 55) 1 rfl ?_
    obtain ⟨hg, h⟩ := h
    refine J_iald dc_Mo_makeRead_55 (Eq.refl 56) rfl rfl hg ?_
    refine J_iload_n dc_Mo_makeRead_56 (Eq.refl 57) 2 rfl ?_
    refine J_aload_n dc_Mo_makeRead_57 (Eq.refl 58) 0 rfl ?_
    refine J_getF (y := 35) dc_Mo_makeRead_58 (Eq.refl 61) fl_Mo_120 (Nat.le_of_ble_eq_true rfl) rfl (Or.inl rfl) rfl ?_
    refine J_iload_n dc_Mo_makeRead_61 (Eq.refl 62) 1 rfl ?_
    obtain ⟨hg, h⟩ := h
    refine J_iald dc_Mo_makeRead_62 (Eq.refl 63) rfl rfl hg ?_
    refine J_callVV (As := [.int (gI σ 29 x1.toNatClampNeg), .int x2, .int (gI σ 35 x1.toNatClampNeg)]) (st := []) dc_Mo_makeRead_63 (Eq.refl 66) lk_Mo_379 mi_Mo_makeNamed rfl (Nat.le_of_ble_eq_true rfl) rfl rfl (Nat.le_of_ble_eq_true rfl) rfl (Nat.le_of_ble_eq_true rfl) (CV.mono h (fun σ1 h => ?_))
    refine J_sipush (v := (4000 : Int32)) dc_Mo_makeRead_66 (Eq.refl 69) rfl ?_
    refine J_aload_n dc_Mo_makeRead_69 (Eq.refl 70) 0 rfl ?_
    refine J_getF (y := 9) dc_Mo_makeRead_70 (Eq.refl 73) fl_Mo_35 (Nat.le_of_ble_eq_true rfl) rfl (Or.inl rfl) rfl ?_
    refine J_bipush (v := (8 : Int32)) dc_Mo_makeRead_73 (Eq.refl 75) rfl ?_
    obtain ⟨hg, h⟩ := h
    refine J_iald dc_Mo_makeRead_75 (Eq.refl 76) rfl rfl hg ?_
    refine J_iadd dc_Mo_makeRead_76 (Eq.refl 77) ?_
    refine J_iconst (v := (1 : Int32)) dc_Mo_makeRead_77 (Eq.refl 78) rfl ?_
    refine J_isub dc_Mo_makeRead_78 (Eq.refl 79) ?_
    refine J_istore_n (L' := [(3, .int (((4000 : Int32) + (gI σ1 9 (8 : Int32).toNatClampNeg)) - (1 : Int32))), (0, pv E 0), (1, .int x1), (2, .int x2)]) dc_Mo_makeRead_79 (Eq.refl 80) (Nat.le_of_ble_eq_true rfl) rfl ?_
    refine J_aload_n dc_Mo_makeRead_80 (Eq.refl 81) 1 rfl ?_
    refine J_getF (y := 29) dc_Mo_makeRead_81 (Eq.refl 84) fl_Mo_102 (Nat.le_of_ble_eq_true rfl) rfl (Or.inl rfl) rfl ?_
    refine J_iload_n dc_Mo_makeRead_84 (Eq.refl 85) 2 rfl ?_
    obtain ⟨hg, h⟩ := h
    refine J_iald dc_Mo_makeRead_85 (Eq.refl 86) rfl rfl hg ?_
    refine J_iconst (v := (4 : Int32)) dc_Mo_makeRead_86 (Eq.refl 87) rfl ?_
    refine J_icmp_ne dc_Mo_makeRead_87 (Eq.refl 90) rfl (fun hc => ?_) (fun hc => ?_)
    · have h := h.1 hc
      refine J_aload_n dc_Mo_makeRead_156 (Eq.refl 157) 1 rfl ?_
      refine J_getF (y := 29) dc_Mo_makeRead_157 (Eq.refl 160) fl_Mo_102 (Nat.le_of_ble_eq_true rfl) rfl (Or.inl rfl) rfl ?_
      refine J_iload_n dc_Mo_makeRead_160 (Eq.refl 161) 2 rfl ?_
      obtain ⟨hg, h⟩ := h
      refine J_iald dc_Mo_makeRead_161 (Eq.refl 162) rfl rfl hg ?_
      refine J_iconst (v := (3 : Int32)) dc_Mo_makeRead_162 (Eq.refl 163) rfl ?_
      refine J_icmp_ne dc_Mo_makeRead_163 (Eq.refl 166) rfl (fun hc => ?_) (fun hc => ?_)
      · have h := h.1 hc
        refine J_sub [1, 2, 3] rfl ?_
        exact h
      · have h := h.2 hc
        refine J_aload_n dc_Mo_makeRead_166 (Eq.refl 167) 1 rfl ?_
        refine J_getF (y := 25) dc_Mo_makeRead_167 (Eq.refl 170) fl_Mo_83 (Nat.le_of_ble_eq_true rfl) rfl (Or.inl rfl) rfl ?_
        refine J_iload_n dc_Mo_makeRead_170 (Eq.refl 171) 0 rfl ?_
        refine J_aload_n dc_Mo_makeRead_171 (Eq.refl 172) 1 rfl ?_
        refine J_getF (y := 38) dc_Mo_makeRead_172 (Eq.refl 175) fl_Mo_129 (Nat.le_of_ble_eq_true rfl) rfl (Or.inl rfl) rfl ?_
        refine J_iload_n dc_Mo_makeRead_175 (Eq.refl 176) 2 rfl ?_
        obtain ⟨hg, h⟩ := h
        refine J_lald dc_Mo_makeRead_176 (Eq.refl 177) rfl rfl hg ?_
        obtain ⟨hg, h⟩ := h
        refine J_last dc_Mo_makeRead_177 (Eq.refl 178) rfl rfl hg ?_
        refine J_aload_n dc_Mo_makeRead_178 (Eq.refl 179) 1 rfl ?_
        refine J_aload_n dc_Mo_makeRead_179 (Eq.refl 180) 1 rfl ?_
        refine J_getF (y := 38) dc_Mo_makeRead_180 (Eq.refl 183) fl_Mo_129 (Nat.le_of_ble_eq_true rfl) rfl (Or.inl rfl) rfl ?_
        refine J_iload_n dc_Mo_makeRead_183 (Eq.refl 184) 2 rfl ?_
        obtain ⟨hg, h⟩ := h
        refine J_lald dc_Mo_makeRead_184 (Eq.refl 185) rfl rfl hg ?_
        refine J_topl (fun v2 ev2 => ?_)
        have h := h v2 ev2
        refine J_callVV (As := [.long v2]) (st := []) dc_Mo_makeRead_185 (Eq.refl 188) lk_Mo_282 mi_Mo_spell rfl (Nat.le_of_ble_eq_true rfl) rfl rfl (Nat.le_of_ble_eq_true rfl) rfl (Nat.le_of_ble_eq_true rfl) (CV.mono h (fun σ3 h => ?_))
        refine J_aload_n dc_Mo_makeRead_188 (Eq.refl 189) 1 rfl ?_
        refine J_getF (y := 23) dc_Mo_makeRead_189 (Eq.refl 192) fl_Mo_77 (Nat.le_of_ble_eq_true rfl) rfl (Or.inl rfl) rfl ?_
        refine J_iload_n dc_Mo_makeRead_192 (Eq.refl 193) 0 rfl ?_
        refine J_aload_n dc_Mo_makeRead_193 (Eq.refl 194) 1 rfl ?_
        refine J_getF (y := 12) dc_Mo_makeRead_194 (Eq.refl 197) fl_Mo_44 (Nat.le_of_ble_eq_true rfl) rfl (Or.inl rfl) rfl ?_
        refine J_bipush (v := (8 : Int32)) dc_Mo_makeRead_197 (Eq.refl 199) rfl ?_
        obtain ⟨hg, h⟩ := h
        refine J_iald dc_Mo_makeRead_199 (Eq.refl 200) rfl rfl hg ?_
        obtain ⟨hg, h⟩ := h
        refine J_iast dc_Mo_makeRead_200 (Eq.refl 201) rfl rfl hg ?_
        refine J_aload_n dc_Mo_makeRead_201 (Eq.refl 202) 1 rfl ?_
        refine J_getF (y := 24) dc_Mo_makeRead_202 (Eq.refl 205) fl_Mo_80 (Nat.le_of_ble_eq_true rfl) rfl (Or.inl rfl) rfl ?_
        refine J_iload_n dc_Mo_makeRead_205 (Eq.refl 206) 0 rfl ?_
        refine J_aload_n dc_Mo_makeRead_206 (Eq.refl 207) 1 rfl ?_
        refine J_getI dc_Mo_makeRead_207 (Eq.refl 210) fl_Mo_264 (Nat.le_of_ble_eq_true rfl) rfl (Or.inl rfl) ?_
        refine J_topi (fun v4 ev4 => ?_)
        have h := h v4 ev4
        obtain ⟨hg, h⟩ := h
        refine J_iast dc_Mo_makeRead_210 (Eq.refl 211) rfl rfl hg ?_
        refine J_st (fun σ5 eσ5 => ?_)
        have h := h σ5 eσ5
        refine J_iconst (v := (0 : Int32)) dc_Mo_makeRead_211 (Eq.refl 212) rfl ?_
        refine J_istore (L' := [(4, .int (0 : Int32)), (3, .int (((4000 : Int32) + (gI σ1 9 (8 : Int32).toNatClampNeg)) - (1 : Int32))), (0, pv E 0), (1, .int x1), (2, .int x2)]) dc_Mo_makeRead_212 (Eq.refl 214) (Nat.le_of_ble_eq_true rfl) rfl ?_
        refine J_sub [2, 3, 4, 0] rfl ?_
        exact h
    · have h := h.2 hc
      refine J_aload_n dc_Mo_makeRead_90 (Eq.refl 91) 1 rfl ?_
      refine J_getF (y := 21) dc_Mo_makeRead_91 (Eq.refl 94) fl_Mo_71 (Nat.le_of_ble_eq_true rfl) rfl (Or.inl rfl) rfl ?_
      refine J_iload_n dc_Mo_makeRead_94 (Eq.refl 95) 0 rfl ?_
      refine J_aload_n dc_Mo_makeRead_95 (Eq.refl 96) 1 rfl ?_
      refine J_getF (y := 10) dc_Mo_makeRead_96 (Eq.refl 99) fl_Mo_38 (Nat.le_of_ble_eq_true rfl) rfl (Or.inl rfl) rfl ?_
      refine J_bipush (v := (8 : Int32)) dc_Mo_makeRead_99 (Eq.refl 101) rfl ?_
      obtain ⟨hg, h⟩ := h
      refine J_iald dc_Mo_makeRead_101 (Eq.refl 102) rfl rfl hg ?_
      obtain ⟨hg, h⟩ := h
      refine J_iast dc_Mo_makeRead_102 (Eq.refl 103) rfl rfl hg ?_
      refine J_aload_n dc_Mo_makeRead_103 (Eq.refl 104) 1 rfl ?_
      refine J_getF (y := 22) dc_Mo_makeRead_104 (Eq.refl 107) fl_Mo_74 (Nat.le_of_ble_eq_true rfl) rfl (Or.inl rfl) rfl ?_
      refine J_iload_n dc_Mo_makeRead_107 (Eq.refl 108) 0 rfl ?_
      refine J_aload_n dc_Mo_makeRead_108 (Eq.refl 109) 1 rfl ?_
      refine J_getF (y := 37) dc_Mo_makeRead_109 (Eq.refl 112) fl_Mo_126 (Nat.le_of_ble_eq_true rfl) rfl (Or.inl rfl) rfl ?_
      refine J_iload_n dc_Mo_makeRead_112 (Eq.refl 113) 2 rfl ?_
      obtain ⟨hg, h⟩ := h
      refine J_iald dc_Mo_makeRead_113 (Eq.refl 114) rfl rfl hg ?_
      refine J_topi (fun v6 ev6 => ?_)
      have h := h v6 ev6
      obtain ⟨hg, h⟩ := h
      refine J_iast dc_Mo_makeRead_114 (Eq.refl 115) rfl rfl hg ?_
      refine J_st (fun σ7 eσ7 => ?_)
      have h := h σ7 eσ7
      refine J_iconst (v := (0 : Int32)) dc_Mo_makeRead_115 (Eq.refl 116) rfl ?_
      refine J_istore (L' := [(4, .int (0 : Int32)), (3, .int (((4000 : Int32) + (gI σ1 9 (8 : Int32).toNatClampNeg)) - (1 : Int32))), (0, pv E 0), (1, .int x1), (2, .int x2)]) dc_Mo_makeRead_116 (Eq.refl 118) (Nat.le_of_ble_eq_true rfl) rfl ?_
      refine J_sub [2, 3, 4, 0] rfl ?_
      exact h
  · have h := h.2 hc
    refine J_aload_n dc_Mo_makeRead_24 (Eq.refl 25) 0 rfl ?_
    refine J_getF (y := 42) dc_Mo_makeRead_25 (Eq.refl 28) fl_Mo_141 (Nat.le_of_ble_eq_true rfl) rfl (Or.inl rfl) rfl ?_
    refine J_iload_n dc_Mo_makeRead_28 (Eq.refl 29) 3 rfl ?_
    refine J_aload_n dc_Mo_makeRead_29 (Eq.refl 30) 0 rfl ?_
    refine J_getF (y := 39) dc_Mo_makeRead_30 (Eq.refl 33) fl_Mo_132 (Nat.le_of_ble_eq_true rfl) rfl (Or.inl rfl) rfl ?_
    refine J_aload_n dc_Mo_makeRead_33 (Eq.refl 34) 0 rfl ?_
    refine J_getF (y := 34) dc_Mo_makeRead_34 (Eq.refl 37) fl_Mo_117 (Nat.le_of_ble_eq_true rfl) rfl (Or.inl rfl) rfl ?_
    refine J_iload_n dc_Mo_makeRead_37 (Eq.refl 38) 1 rfl ?_
    obtain ⟨hg, h⟩ := h
    refine J_iald dc_Mo_makeRead_38 (Eq.refl 39) rfl rfl hg ?_
    refine J_iload_n dc_Mo_makeRead_39 (Eq.refl 40) 3 rfl ?_
    refine J_iadd dc_Mo_makeRead_40 (Eq.refl 41) ?_
    obtain ⟨hg, h⟩ := h
    refine J_iald dc_Mo_makeRead_41 (Eq.refl 42) rfl rfl hg ?_
    obtain ⟨hg, h⟩ := h
    refine J_iast dc_Mo_makeRead_42 (Eq.refl 43) rfl rfl hg ?_
    refine J_iinc (v := x3 + (1 : Int32)) (L' := [(3, .int (x3 + (1 : Int32))), (0, pv E 0), (1, .int x1), (2, .int x2)]) dc_Mo_makeRead_43 (Eq.refl 46) 3 rfl rfl (Nat.le_of_ble_eq_true rfl) rfl ?_
    refine J_goto dc_Mo_makeRead_46 rfl ?_
    refine J_sub [1, 2, 3, 0] rfl ?_
    exact h
theorem b_Mo_makeRead_118 {E : En_t} {d : Nat} {σ : S_t} {Q : Option Value → S_t → Prop} {x1 : Int32} {x2 : Int32} {x4 : Int32}
    (h : vp_in x1 500 ∧ (((gI σ 37 x1.toNatClampNeg) ≤ x4 → JE E (d + 1) m_Mo_makeRead 269 [(0, pv E 0), (1, .int x1), (2, .int x2)] [] σ Q) ∧ (¬ (gI σ 37 x1.toNatClampNeg) ≤ x4 → vp_in x1 500 ∧ (vp_in ((gI σ 36 x1.toNatClampNeg) + x4) 2100 ∧ (CV E d m_Mo_lay [pv E 0, .int (gI σ 39 ((gI σ 36 x1.toNatClampNeg) + x4).toNatClampNeg)] σ (fun σ1 => JE E (d + 1) m_Mo_makeRead 118 [(0, pv E 0), (1, .int x1), (2, .int x2), (4, .int (x4 + (1 : Int32)))] [] σ1 Q)))))) :
    JE E (d + 1) m_Mo_makeRead 118 [(0, pv E 0), (1, .int x1), (2, .int x2), (4, .int x4)] [] σ Q := by
  refine J_iload dc_Mo_makeRead_118 (Eq.refl 120) 3 rfl ?_
  refine J_aload_n dc_Mo_makeRead_120 (Eq.refl 121) 0 rfl ?_
  refine J_getF (y := 37) dc_Mo_makeRead_121 (Eq.refl 124) fl_Mo_126 (Nat.le_of_ble_eq_true rfl) rfl (Or.inl rfl) rfl ?_
  refine J_iload_n dc_Mo_makeRead_124 (Eq.refl 125) 1 rfl ?_
  obtain ⟨hg, h⟩ := h
  refine J_iald dc_Mo_makeRead_125 (Eq.refl 126) rfl rfl hg ?_
  refine J_icmp_ge dc_Mo_makeRead_126 (Eq.refl 129) rfl (fun hc => ?_) (fun hc => ?_)
  · have h := h.1 hc
    refine J_goto dc_Mo_makeRead_153 rfl ?_
    refine J_sub [0, 1, 2] rfl ?_
    exact h
  · have h := h.2 hc
    refine J_aload_n dc_Mo_makeRead_129 (Eq.refl 130) 0 rfl ?_
    refine J_aload_n dc_Mo_makeRead_130 (Eq.refl 131) 0 rfl ?_
    refine J_getF (y := 39) dc_Mo_makeRead_131 (Eq.refl 134) fl_Mo_132 (Nat.le_of_ble_eq_true rfl) rfl (Or.inl rfl) rfl ?_
    refine J_aload_n dc_Mo_makeRead_134 (Eq.refl 135) 0 rfl ?_
    refine J_getF (y := 36) dc_Mo_makeRead_135 (Eq.refl 138) fl_Mo_123 (Nat.le_of_ble_eq_true rfl) rfl (Or.inl rfl) rfl ?_
    refine J_iload_n dc_Mo_makeRead_138 (Eq.refl 139) 1 rfl ?_
    obtain ⟨hg, h⟩ := h
    refine J_iald dc_Mo_makeRead_139 (Eq.refl 140) rfl rfl hg ?_
    refine J_iload dc_Mo_makeRead_140 (Eq.refl 142) 3 rfl ?_
    refine J_iadd dc_Mo_makeRead_142 (Eq.refl 143) ?_
    obtain ⟨hg, h⟩ := h
    refine J_iald dc_Mo_makeRead_143 (Eq.refl 144) rfl rfl hg ?_
    refine J_callVV (As := [.int (gI σ 39 ((gI σ 36 x1.toNatClampNeg) + x4).toNatClampNeg)]) (st := []) dc_Mo_makeRead_144 (Eq.refl 147) lk_Mo_303 mi_Mo_lay rfl (Nat.le_of_ble_eq_true rfl) rfl rfl (Nat.le_of_ble_eq_true rfl) rfl (Nat.le_of_ble_eq_true rfl) (CV.mono h (fun σ1 h => ?_))
    refine J_iinc (v := x4 + (1 : Int32)) (L' := [(4, .int (x4 + (1 : Int32))), (0, pv E 0), (1, .int x1), (2, .int x2)]) dc_Mo_makeRead_147 (Eq.refl 150) 3 rfl rfl (Nat.le_of_ble_eq_true rfl) rfl ?_
    refine J_goto dc_Mo_makeRead_150 rfl ?_
    refine J_sub [1, 2, 3, 0] rfl ?_
    exact h
theorem b_Mo_makeRead_214 {E : En_t} {d : Nat} {σ : S_t} {Q : Option Value → S_t → Prop} {x1 : Int32} {x2 : Int32} {x4 : Int32}
    (h : ((gI σ 0 18) ≤ x4 → vp_in (8 : Int32) 9 ∧ (vp_in (8 : Int32) 9 ∧ (JE E (d + 1) m_Mo_makeRead 269 [(0, pv E 0), (1, .int x1), (2, .int x2)] [] (sI σ 12 (8 : Int32).toNatClampNeg ((gI σ 12 (8 : Int32).toNatClampNeg) + (gI σ 0 18))) Q))) ∧ (¬ (gI σ 0 18) ≤ x4 → vp_in (8 : Int32) 9 ∧ (vp_in x4 40 ∧ (vp_in (((104000 : Int32) + (gI σ 12 (8 : Int32).toNatClampNeg)) + x4) 117000 ∧ (JE E (d + 1) m_Mo_makeRead 214 [(0, pv E 0), (1, .int x1), (2, .int x2), (4, .int (x4 + (1 : Int32)))] [] (sI σ 27 (((104000 : Int32) + (gI σ 12 (8 : Int32).toNatClampNeg)) + x4).toNatClampNeg (gI σ 7 x4.toNatClampNeg)) Q))))) :
    JE E (d + 1) m_Mo_makeRead 214 [(0, pv E 0), (1, .int x1), (2, .int x2), (4, .int x4)] [] σ Q := by
  refine J_iload dc_Mo_makeRead_214 (Eq.refl 216) 3 rfl ?_
  refine J_aload_n dc_Mo_makeRead_216 (Eq.refl 217) 0 rfl ?_
  refine J_getI dc_Mo_makeRead_217 (Eq.refl 220) fl_Mo_264 (Nat.le_of_ble_eq_true rfl) rfl (Or.inl rfl) ?_
  refine J_icmp_ge dc_Mo_makeRead_220 (Eq.refl 223) rfl (fun hc => ?_) (fun hc => ?_)
  · have h := h.1 hc
    refine J_aload_n dc_Mo_makeRead_255 (Eq.refl 256) 0 rfl ?_
    refine J_getF (y := 12) dc_Mo_makeRead_256 (Eq.refl 259) fl_Mo_44 (Nat.le_of_ble_eq_true rfl) rfl (Or.inl rfl) rfl ?_
    refine J_bipush (v := (8 : Int32)) dc_Mo_makeRead_259 (Eq.refl 261) rfl ?_
    refine J_dup2_11 dc_Mo_makeRead_261 (Eq.refl 262) rfl rfl ?_
    obtain ⟨hg, h⟩ := h
    refine J_iald dc_Mo_makeRead_262 (Eq.refl 263) rfl rfl hg ?_
    refine J_aload_n dc_Mo_makeRead_263 (Eq.refl 264) 0 rfl ?_
    refine J_getI dc_Mo_makeRead_264 (Eq.refl 267) fl_Mo_264 (Nat.le_of_ble_eq_true rfl) rfl (Or.inl rfl) ?_
    refine J_iadd dc_Mo_makeRead_267 (Eq.refl 268) ?_
    obtain ⟨hg, h⟩ := h
    refine J_iast dc_Mo_makeRead_268 (Eq.refl 269) rfl rfl hg ?_
    refine J_sub [0, 1, 2] rfl ?_
    exact h
  · have h := h.2 hc
    refine J_aload_n dc_Mo_makeRead_223 (Eq.refl 224) 0 rfl ?_
    refine J_getF (y := 27) dc_Mo_makeRead_224 (Eq.refl 227) fl_Mo_92 (Nat.le_of_ble_eq_true rfl) rfl (Or.inl rfl) rfl ?_
    refine J_ldcw dc_Mo_makeRead_227 (Eq.refl 230) kc_Mo_313 ?_
    refine J_aload_n dc_Mo_makeRead_230 (Eq.refl 231) 0 rfl ?_
    refine J_getF (y := 12) dc_Mo_makeRead_231 (Eq.refl 234) fl_Mo_44 (Nat.le_of_ble_eq_true rfl) rfl (Or.inl rfl) rfl ?_
    refine J_bipush (v := (8 : Int32)) dc_Mo_makeRead_234 (Eq.refl 236) rfl ?_
    obtain ⟨hg, h⟩ := h
    refine J_iald dc_Mo_makeRead_236 (Eq.refl 237) rfl rfl hg ?_
    refine J_iadd dc_Mo_makeRead_237 (Eq.refl 238) ?_
    refine J_iload dc_Mo_makeRead_238 (Eq.refl 240) 3 rfl ?_
    refine J_iadd dc_Mo_makeRead_240 (Eq.refl 241) ?_
    refine J_aload_n dc_Mo_makeRead_241 (Eq.refl 242) 0 rfl ?_
    refine J_getF (y := 7) dc_Mo_makeRead_242 (Eq.refl 245) fl_Mo_28 (Nat.le_of_ble_eq_true rfl) rfl (Or.inl rfl) rfl ?_
    refine J_iload dc_Mo_makeRead_245 (Eq.refl 247) 3 rfl ?_
    obtain ⟨hg, h⟩ := h
    refine J_iald dc_Mo_makeRead_247 (Eq.refl 248) rfl rfl hg ?_
    obtain ⟨hg, h⟩ := h
    refine J_iast dc_Mo_makeRead_248 (Eq.refl 249) rfl rfl hg ?_
    refine J_iinc (v := x4 + (1 : Int32)) (L' := [(4, .int (x4 + (1 : Int32))), (0, pv E 0), (1, .int x1), (2, .int x2)]) dc_Mo_makeRead_249 (Eq.refl 252) 3 rfl rfl (Nat.le_of_ble_eq_true rfl) rfl ?_
    refine J_goto dc_Mo_makeRead_252 rfl ?_
    refine J_sub [1, 2, 3, 0] rfl ?_
    exact h
theorem b_Mo_makeRead_269 {E : En_t} {d : Nat} {σ : S_t} {Q : Option Value → S_t → Prop} {x1 : Int32} {x2 : Int32}
    (h : vp_in x1 500 ∧ ((¬ (gI σ 29 x1.toNatClampNeg) = (6 : Int32) → JE E (d + 1) m_Mo_makeRead 285 [(0, pv E 0), (1, .int x1), (2, .int x2)] [] σ Q) ∧ ((gI σ 29 x1.toNatClampNeg) = (6 : Int32) → CV E d m_Mo_order [pv E 0, .int x1] σ (fun σ1 => JE E (d + 1) m_Mo_makeRead 285 [(0, pv E 0), (1, .int x1), (2, .int x2)] [] σ1 Q)))) :
    JE E (d + 1) m_Mo_makeRead 269 [(0, pv E 0), (1, .int x1), (2, .int x2)] [] σ Q := by
  refine J_aload_n dc_Mo_makeRead_269 (Eq.refl 270) 0 rfl ?_
  refine J_getF (y := 29) dc_Mo_makeRead_270 (Eq.refl 273) fl_Mo_102 (Nat.le_of_ble_eq_true rfl) rfl (Or.inl rfl) rfl ?_
  refine J_iload_n dc_Mo_makeRead_273 (Eq.refl 274) 1 rfl ?_
  obtain ⟨hg, h⟩ := h
  refine J_iald dc_Mo_makeRead_274 (Eq.refl 275) rfl rfl hg ?_
  refine J_bipush (v := (6 : Int32)) dc_Mo_makeRead_275 (Eq.refl 277) rfl ?_
  refine J_icmp_ne dc_Mo_makeRead_277 (Eq.refl 280) rfl (fun hc => ?_) (fun hc => ?_)
  · have h := h.1 hc
    exact h
  · have h := h.2 hc
    refine J_aload_n dc_Mo_makeRead_280 (Eq.refl 281) 0 rfl ?_
    refine J_iload_n dc_Mo_makeRead_281 (Eq.refl 282) 1 rfl ?_
    refine J_callVV (As := [.int x1]) (st := []) dc_Mo_makeRead_282 (Eq.refl 285) lk_Mo_383 mi_Mo_order rfl (Nat.le_of_ble_eq_true rfl) rfl rfl (Nat.le_of_ble_eq_true rfl) rfl (Nat.le_of_ble_eq_true rfl) (CV.mono h (fun σ1 h => ?_))
    exact h
theorem b_Mo_makeRead_285 {E : En_t} {d : Nat} {σ : S_t} {Q : Option Value → S_t → Prop} {x1 : Int32} {x2 : Int32}
    (h : vp_in x1 500 ∧ (((gI σ 29 x1.toNatClampNeg) < (5 : Int32) → JE E (d + 1) m_Mo_makeRead 317 [(0, pv E 0), (1, .int x1), (2, .int x2)] [] σ Q) ∧ (¬ (gI σ 29 x1.toNatClampNeg) < (5 : Int32) → vp_in x1 500 ∧ (((gI σ 31 x1.toNatClampNeg) < 0 → JE E (d + 1) m_Mo_makeRead 317 [(0, pv E 0), (1, .int x1), (2, .int x2)] [] σ Q) ∧ (¬ (gI σ 31 x1.toNatClampNeg) < 0 → vp_in x1 500 ∧ (JE E (d + 1) m_Mo_makeRead 354 [(0, pv E 0), (1, .int (gI σ 31 x1.toNatClampNeg)), (2, .int (x2 + (1 : Int32)))] [] σ Q)))))) :
    JE E (d + 1) m_Mo_makeRead 285 [(0, pv E 0), (1, .int x1), (2, .int x2)] [] σ Q := by
  refine J_aload_n dc_Mo_makeRead_285 (Eq.refl 286) 0 rfl ?_
  refine J_getF (y := 29) dc_Mo_makeRead_286 (Eq.refl 289) fl_Mo_102 (Nat.le_of_ble_eq_true rfl) rfl (Or.inl rfl) rfl ?_
  refine J_iload_n dc_Mo_makeRead_289 (Eq.refl 290) 1 rfl ?_
  obtain ⟨hg, h⟩ := h
  refine J_iald dc_Mo_makeRead_290 (Eq.refl 291) rfl rfl hg ?_
  refine J_iconst (v := (5 : Int32)) dc_Mo_makeRead_291 (Eq.refl 292) rfl ?_
  refine J_icmp_lt dc_Mo_makeRead_292 (Eq.refl 295) rfl (fun hc => ?_) (fun hc => ?_)
  · have h := h.1 hc
    exact h
  · have h := h.2 hc
    refine J_aload_n dc_Mo_makeRead_295 (Eq.refl 296) 0 rfl ?_
    refine J_getF (y := 31) dc_Mo_makeRead_296 (Eq.refl 299) fl_Mo_108 (Nat.le_of_ble_eq_true rfl) rfl (Or.inl rfl) rfl ?_
    refine J_iload_n dc_Mo_makeRead_299 (Eq.refl 300) 1 rfl ?_
    obtain ⟨hg, h⟩ := h
    refine J_iald dc_Mo_makeRead_300 (Eq.refl 301) rfl rfl hg ?_
    refine J_if_lt dc_Mo_makeRead_301 (Eq.refl 304) rfl (fun hc => ?_) (fun hc => ?_)
    · have h := h.1 hc
      exact h
    · have h := h.2 hc
      refine J_aload_n dc_Mo_makeRead_304 (Eq.refl 305) 0 rfl ?_
      refine J_getF (y := 31) dc_Mo_makeRead_305 (Eq.refl 308) fl_Mo_108 (Nat.le_of_ble_eq_true rfl) rfl (Or.inl rfl) rfl ?_
      refine J_iload_n dc_Mo_makeRead_308 (Eq.refl 309) 1 rfl ?_
      obtain ⟨hg, h⟩ := h
      refine J_iald dc_Mo_makeRead_309 (Eq.refl 310) rfl rfl hg ?_
      refine J_istore_n (L' := [(1, .int (gI σ 31 x1.toNatClampNeg)), (0, pv E 0), (2, .int x2)]) dc_Mo_makeRead_310 (Eq.refl 311) (Nat.le_of_ble_eq_true rfl) rfl ?_
      refine J_iinc (v := x2 + (1 : Int32)) (L' := [(2, .int (x2 + (1 : Int32))), (1, .int (gI σ 31 x1.toNatClampNeg)), (0, pv E 0)]) dc_Mo_makeRead_311 (Eq.refl 314) 2 rfl rfl (Nat.le_of_ble_eq_true rfl) rfl ?_
      refine J_goto dc_Mo_makeRead_314 rfl ?_
      refine J_sub [2, 1, 0] rfl ?_
      exact h
theorem b_Mo_makeRead_317 {E : En_t} {d : Nat} {σ : S_t} {Q : Option Value → S_t → Prop} {x1 : Int32} {x2 : Int32}
    (h : (x1 < 0 → JE E (d + 1) m_Mo_makeRead 343 [(0, pv E 0), (1, .int x1), (2, .int x2)] [] σ Q) ∧ (¬ x1 < 0 → vp_in x1 500 ∧ ((0 ≤ (gI σ 33 x1.toNatClampNeg) → JE E (d + 1) m_Mo_makeRead 343 [(0, pv E 0), (1, .int x1), (2, .int x2)] [] σ Q) ∧ (¬ 0 ≤ (gI σ 33 x1.toNatClampNeg) → vp_in x1 500 ∧ (JE E (d + 1) m_Mo_makeRead 317 [(0, pv E 0), (1, .int (gI σ 30 x1.toNatClampNeg)), (2, .int (x2 + (-1 : Int32)))] [] σ Q))))) :
    JE E (d + 1) m_Mo_makeRead 317 [(0, pv E 0), (1, .int x1), (2, .int x2)] [] σ Q := by
  refine J_iload_n dc_Mo_makeRead_317 (Eq.refl 318) 1 rfl ?_
  refine J_if_lt dc_Mo_makeRead_318 (Eq.refl 321) rfl (fun hc => ?_) (fun hc => ?_)
  · have h := h.1 hc
    exact h
  · have h := h.2 hc
    refine J_aload_n dc_Mo_makeRead_321 (Eq.refl 322) 0 rfl ?_
    refine J_getF (y := 33) dc_Mo_makeRead_322 (Eq.refl 325) fl_Mo_114 (Nat.le_of_ble_eq_true rfl) rfl (Or.inl rfl) rfl ?_
    refine J_iload_n dc_Mo_makeRead_325 (Eq.refl 326) 1 rfl ?_
    obtain ⟨hg, h⟩ := h
    refine J_iald dc_Mo_makeRead_326 (Eq.refl 327) rfl rfl hg ?_
    refine J_if_ge dc_Mo_makeRead_327 (Eq.refl 330) rfl (fun hc => ?_) (fun hc => ?_)
    · have h := h.1 hc
      exact h
    · have h := h.2 hc
      refine J_aload_n dc_Mo_makeRead_330 (Eq.refl 331) 0 rfl ?_
      refine J_getF (y := 30) dc_Mo_makeRead_331 (Eq.refl 334) fl_Mo_105 (Nat.le_of_ble_eq_true rfl) rfl (Or.inl rfl) rfl ?_
      refine J_iload_n dc_Mo_makeRead_334 (Eq.refl 335) 1 rfl ?_
      obtain ⟨hg, h⟩ := h
      refine J_iald dc_Mo_makeRead_335 (Eq.refl 336) rfl rfl hg ?_
      refine J_istore_n (L' := [(1, .int (gI σ 30 x1.toNatClampNeg)), (0, pv E 0), (2, .int x2)]) dc_Mo_makeRead_336 (Eq.refl 337) (Nat.le_of_ble_eq_true rfl) rfl ?_
      refine J_iinc (v := x2 + (-1 : Int32)) (L' := [(2, .int (x2 + (-1 : Int32))), (1, .int (gI σ 30 x1.toNatClampNeg)), (0, pv E 0)]) dc_Mo_makeRead_337 (Eq.refl 340) 2 rfl rfl (Nat.le_of_ble_eq_true rfl) rfl ?_
      refine J_goto dc_Mo_makeRead_340 rfl ?_
      refine J_sub [2, 1, 0] rfl ?_
      exact h
theorem b_Mo_makeRead_343 {E : En_t} {d : Nat} {σ : S_t} {Q : Option Value → S_t → Prop} {x1 : Int32} {x2 : Int32}
    (h : (x1 < 0 → JE E (d + 1) m_Mo_makeRead 354 [(0, pv E 0), (1, .int x1), (2, .int x2)] [] σ Q) ∧ (¬ x1 < 0 → vp_in x1 500 ∧ (JE E (d + 1) m_Mo_makeRead 354 [(0, pv E 0), (1, .int (gI σ 33 x1.toNatClampNeg)), (2, .int x2)] [] σ Q))) :
    JE E (d + 1) m_Mo_makeRead 343 [(0, pv E 0), (1, .int x1), (2, .int x2)] [] σ Q := by
  refine J_iload_n dc_Mo_makeRead_343 (Eq.refl 344) 1 rfl ?_
  refine J_if_lt dc_Mo_makeRead_344 (Eq.refl 347) rfl (fun hc => ?_) (fun hc => ?_)
  · have h := h.1 hc
    exact h
  · have h := h.2 hc
    refine J_aload_n dc_Mo_makeRead_347 (Eq.refl 348) 0 rfl ?_
    refine J_getF (y := 33) dc_Mo_makeRead_348 (Eq.refl 351) fl_Mo_114 (Nat.le_of_ble_eq_true rfl) rfl (Or.inl rfl) rfl ?_
    refine J_iload_n dc_Mo_makeRead_351 (Eq.refl 352) 1 rfl ?_
    obtain ⟨hg, h⟩ := h
    refine J_iald dc_Mo_makeRead_352 (Eq.refl 353) rfl rfl hg ?_
    refine J_istore_n (L' := [(1, .int (gI σ 33 x1.toNatClampNeg)), (0, pv E 0), (2, .int x2)]) dc_Mo_makeRead_353 (Eq.refl 354) (Nat.le_of_ble_eq_true rfl) rfl ?_
    refine J_sub [1, 0, 2] rfl ?_
    exact h
theorem b_Mo_makeRead_354 {E : En_t} {d : Nat} {σ : S_t} {Q : Option Value → S_t → Prop} {x1 : Int32} {x2 : Int32}
    (h : JE E (d + 1) m_Mo_makeRead 8 [(0, pv E 0), (1, .int x1), (2, .int x2)] [] σ Q) :
    JE E (d + 1) m_Mo_makeRead 354 [(0, pv E 0), (1, .int x1), (2, .int x2)] [] σ Q := by
  refine J_goto dc_Mo_makeRead_354 rfl ?_
  exact h
theorem dc_Mo_beginMade_0 : decode m_Mo_beginMade.2.1 0 = .ok (.aload_n 0, 1) := by decide +kernel
theorem dc_Mo_beginMade_1 : decode m_Mo_beginMade.2.1 1 = .ok (.getfield 35, 3) := by decide +kernel
theorem dc_Mo_beginMade_4 : decode m_Mo_beginMade.2.1 4 = .ok (.bipush 8, 2) := by decide +kernel
theorem dc_Mo_beginMade_6 : decode m_Mo_beginMade.2.1 6 = .ok (.iconst 0, 1) := by decide +kernel
theorem dc_Mo_beginMade_7 : decode m_Mo_beginMade.2.1 7 = .ok (.iastore, 1) := by decide +kernel
theorem dc_Mo_beginMade_8 : decode m_Mo_beginMade.2.1 8 = .ok (.aload_n 0, 1) := by decide +kernel
theorem dc_Mo_beginMade_9 : decode m_Mo_beginMade.2.1 9 = .ok (.getfield 38, 3) := by decide +kernel
theorem dc_Mo_beginMade_12 : decode m_Mo_beginMade.2.1 12 = .ok (.bipush 8, 2) := by decide +kernel
theorem dc_Mo_beginMade_14 : decode m_Mo_beginMade.2.1 14 = .ok (.iconst 0, 1) := by decide +kernel
theorem dc_Mo_beginMade_15 : decode m_Mo_beginMade.2.1 15 = .ok (.iastore, 1) := by decide +kernel
theorem dc_Mo_beginMade_16 : decode m_Mo_beginMade.2.1 16 = .ok (.aload_n 0, 1) := by decide +kernel
theorem dc_Mo_beginMade_17 : decode m_Mo_beginMade.2.1 17 = .ok (.getfield 41, 3) := by decide +kernel
theorem dc_Mo_beginMade_20 : decode m_Mo_beginMade.2.1 20 = .ok (.bipush 8, 2) := by decide +kernel
theorem dc_Mo_beginMade_22 : decode m_Mo_beginMade.2.1 22 = .ok (.iconst 0, 1) := by decide +kernel
theorem dc_Mo_beginMade_23 : decode m_Mo_beginMade.2.1 23 = .ok (.iastore, 1) := by decide +kernel
theorem dc_Mo_beginMade_24 : decode m_Mo_beginMade.2.1 24 = .ok (.aload_n 0, 1) := by decide +kernel
theorem dc_Mo_beginMade_25 : decode m_Mo_beginMade.2.1 25 = .ok (.getfield 44, 3) := by decide +kernel
theorem dc_Mo_beginMade_28 : decode m_Mo_beginMade.2.1 28 = .ok (.bipush 8, 2) := by decide +kernel
theorem dc_Mo_beginMade_30 : decode m_Mo_beginMade.2.1 30 = .ok (.iconst 0, 1) := by decide +kernel
theorem dc_Mo_beginMade_31 : decode m_Mo_beginMade.2.1 31 = .ok (.iastore, 1) := by decide +kernel
theorem dc_Mo_beginMade_32 : decode m_Mo_beginMade.2.1 32 = .ok (.aload_n 0, 1) := by decide +kernel
theorem dc_Mo_beginMade_33 : decode m_Mo_beginMade.2.1 33 = .ok (.iconst 0, 1) := by decide +kernel
theorem dc_Mo_beginMade_34 : decode m_Mo_beginMade.2.1 34 = .ok (.putfield 299, 3) := by decide +kernel
theorem dc_Mo_beginMade_37 : decode m_Mo_beginMade.2.1 37 = .ok (.return_, 1) := by decide +kernel
theorem b_Mo_beginMade_0 {E : En_t} {d : Nat} {σ : S_t} {Q : Option Value → S_t → Prop}
    (h : vp_in (8 : Int32) 9 ∧ (vp_in (8 : Int32) 9 ∧ (vp_in (8 : Int32) 9 ∧ (vp_in (8 : Int32) 9 ∧ (∀ σ1, σ1 = sI (sI (sI (sI σ 9 (8 : Int32).toNatClampNeg (0 : Int32)) 10 (8 : Int32).toNatClampNeg (0 : Int32)) 11 (8 : Int32).toNatClampNeg (0 : Int32)) 12 (8 : Int32).toNatClampNeg (0 : Int32) → (Q none (sI σ1 0 39 (0 : Int32)))))))) :
    JE E d m_Mo_beginMade 0 [(0, pv E 0)] [] σ Q := by
  refine J_aload_n dc_Mo_beginMade_0 (Eq.refl 1) 0 rfl ?_
  refine J_getF (y := 9) dc_Mo_beginMade_1 (Eq.refl 4) fl_Mo_35 (Nat.le_of_ble_eq_true rfl) rfl (Or.inl rfl) rfl ?_
  refine J_bipush (v := (8 : Int32)) dc_Mo_beginMade_4 (Eq.refl 6) rfl ?_
  refine J_iconst (v := (0 : Int32)) dc_Mo_beginMade_6 (Eq.refl 7) rfl ?_
  obtain ⟨hg, h⟩ := h
  refine J_iast dc_Mo_beginMade_7 (Eq.refl 8) rfl rfl hg ?_
  refine J_aload_n dc_Mo_beginMade_8 (Eq.refl 9) 0 rfl ?_
  refine J_getF (y := 10) dc_Mo_beginMade_9 (Eq.refl 12) fl_Mo_38 (Nat.le_of_ble_eq_true rfl) rfl (Or.inl rfl) rfl ?_
  refine J_bipush (v := (8 : Int32)) dc_Mo_beginMade_12 (Eq.refl 14) rfl ?_
  refine J_iconst (v := (0 : Int32)) dc_Mo_beginMade_14 (Eq.refl 15) rfl ?_
  obtain ⟨hg, h⟩ := h
  refine J_iast dc_Mo_beginMade_15 (Eq.refl 16) rfl rfl hg ?_
  refine J_aload_n dc_Mo_beginMade_16 (Eq.refl 17) 0 rfl ?_
  refine J_getF (y := 11) dc_Mo_beginMade_17 (Eq.refl 20) fl_Mo_41 (Nat.le_of_ble_eq_true rfl) rfl (Or.inl rfl) rfl ?_
  refine J_bipush (v := (8 : Int32)) dc_Mo_beginMade_20 (Eq.refl 22) rfl ?_
  refine J_iconst (v := (0 : Int32)) dc_Mo_beginMade_22 (Eq.refl 23) rfl ?_
  obtain ⟨hg, h⟩ := h
  refine J_iast dc_Mo_beginMade_23 (Eq.refl 24) rfl rfl hg ?_
  refine J_aload_n dc_Mo_beginMade_24 (Eq.refl 25) 0 rfl ?_
  refine J_getF (y := 12) dc_Mo_beginMade_25 (Eq.refl 28) fl_Mo_44 (Nat.le_of_ble_eq_true rfl) rfl (Or.inl rfl) rfl ?_
  refine J_bipush (v := (8 : Int32)) dc_Mo_beginMade_28 (Eq.refl 30) rfl ?_
  refine J_iconst (v := (0 : Int32)) dc_Mo_beginMade_30 (Eq.refl 31) rfl ?_
  obtain ⟨hg, h⟩ := h
  refine J_iast dc_Mo_beginMade_31 (Eq.refl 32) rfl rfl hg ?_
  refine J_st (fun σ1 eσ1 => ?_)
  have h := h σ1 eσ1
  refine J_aload_n dc_Mo_beginMade_32 (Eq.refl 33) 0 rfl ?_
  refine J_iconst (v := (0 : Int32)) dc_Mo_beginMade_33 (Eq.refl 34) rfl ?_
  refine J_putZ dc_Mo_beginMade_34 (Eq.refl 37) pl_Mo_299 (Nat.le_of_ble_eq_true rfl) rfl rfl (Or.inl rfl) ?_
  exact J_vret dc_Mo_beginMade_37 rfl h
theorem dc_Mo_makeNamed_0 : decode m_Mo_makeNamed.2.1 0 = .ok (.aload_n 0, 1) := by decide +kernel
theorem dc_Mo_makeNamed_1 : decode m_Mo_makeNamed.2.1 1 = .ok (.iload_n 1, 1) := by decide +kernel
theorem dc_Mo_makeNamed_2 : decode m_Mo_makeNamed.2.1 2 = .ok (.iload_n 2, 1) := by decide +kernel
theorem dc_Mo_makeNamed_3 : decode m_Mo_makeNamed.2.1 3 = .ok (.iconst 0, 1) := by decide +kernel
theorem dc_Mo_makeNamed_4 : decode m_Mo_makeNamed.2.1 4 = .ok (.iconst 0, 1) := by decide +kernel
theorem dc_Mo_makeNamed_5 : decode m_Mo_makeNamed.2.1 5 = .ok (.iconst (-1), 1) := by decide +kernel
theorem dc_Mo_makeNamed_6 : decode m_Mo_makeNamed.2.1 6 = .ok (.invokevirtual 309, 3) := by decide +kernel
theorem dc_Mo_makeNamed_9 : decode m_Mo_makeNamed.2.1 9 = .ok (.sipush 4000, 3) := by decide +kernel
theorem dc_Mo_makeNamed_12 : decode m_Mo_makeNamed.2.1 12 = .ok (.aload_n 0, 1) := by decide +kernel
theorem dc_Mo_makeNamed_13 : decode m_Mo_makeNamed.2.1 13 = .ok (.getfield 35, 3) := by decide +kernel
theorem dc_Mo_makeNamed_16 : decode m_Mo_makeNamed.2.1 16 = .ok (.bipush 8, 2) := by decide +kernel
theorem dc_Mo_makeNamed_18 : decode m_Mo_makeNamed.2.1 18 = .ok (.iaload, 1) := by decide +kernel
theorem dc_Mo_makeNamed_19 : decode m_Mo_makeNamed.2.1 19 = .ok (.iadd, 1) := by decide +kernel
theorem dc_Mo_makeNamed_20 : decode m_Mo_makeNamed.2.1 20 = .ok (.iconst 1, 1) := by decide +kernel
theorem dc_Mo_makeNamed_21 : decode m_Mo_makeNamed.2.1 21 = .ok (.isub, 1) := by decide +kernel
theorem dc_Mo_makeNamed_22 : decode m_Mo_makeNamed.2.1 22 = .ok (.istore 4, 2) := by decide +kernel
theorem dc_Mo_makeNamed_24 : decode m_Mo_makeNamed.2.1 24 = .ok (.aload_n 0, 1) := by decide +kernel
theorem dc_Mo_makeNamed_25 : decode m_Mo_makeNamed.2.1 25 = .ok (.getfield 68, 3) := by decide +kernel
theorem dc_Mo_makeNamed_28 : decode m_Mo_makeNamed.2.1 28 = .ok (.iload 4, 2) := by decide +kernel
theorem dc_Mo_makeNamed_30 : decode m_Mo_makeNamed.2.1 30 = .ok (.iload_n 3, 1) := by decide +kernel
theorem dc_Mo_makeNamed_31 : decode m_Mo_makeNamed.2.1 31 = .ok (.iastore, 1) := by decide +kernel
theorem dc_Mo_makeNamed_32 : decode m_Mo_makeNamed.2.1 32 = .ok (.aload_n 0, 1) := by decide +kernel
theorem dc_Mo_makeNamed_33 : decode m_Mo_makeNamed.2.1 33 = .ok (.getfield 65, 3) := by decide +kernel
theorem dc_Mo_makeNamed_36 : decode m_Mo_makeNamed.2.1 36 = .ok (.iload 4, 2) := by decide +kernel
theorem dc_Mo_makeNamed_38 : decode m_Mo_makeNamed.2.1 38 = .ok (.aload_n 0, 1) := by decide +kernel
theorem dc_Mo_makeNamed_39 : decode m_Mo_makeNamed.2.1 39 = .ok (.getfield 38, 3) := by decide +kernel
theorem dc_Mo_makeNamed_42 : decode m_Mo_makeNamed.2.1 42 = .ok (.bipush 8, 2) := by decide +kernel
theorem dc_Mo_makeNamed_44 : decode m_Mo_makeNamed.2.1 44 = .ok (.iaload, 1) := by decide +kernel
theorem dc_Mo_makeNamed_45 : decode m_Mo_makeNamed.2.1 45 = .ok (.iastore, 1) := by decide +kernel
theorem dc_Mo_makeNamed_46 : decode m_Mo_makeNamed.2.1 46 = .ok (.iconst 0, 1) := by decide +kernel
theorem dc_Mo_makeNamed_47 : decode m_Mo_makeNamed.2.1 47 = .ok (.istore 5, 2) := by decide +kernel
theorem dc_Mo_makeNamed_49 : decode m_Mo_makeNamed.2.1 49 = .ok (.iload 5, 2) := by decide +kernel
theorem dc_Mo_makeNamed_51 : decode m_Mo_makeNamed.2.1 51 = .ok (.iload_n 3, 1) := by decide +kernel
theorem dc_Mo_makeNamed_52 : decode m_Mo_makeNamed.2.1 52 = .ok (.if_icmp .ge 20, 3) := by decide +kernel
theorem dc_Mo_makeNamed_55 : decode m_Mo_makeNamed.2.1 55 = .ok (.aload_n 0, 1) := by decide +kernel
theorem dc_Mo_makeNamed_56 : decode m_Mo_makeNamed.2.1 56 = .ok (.aload_n 0, 1) := by decide +kernel
theorem dc_Mo_makeNamed_57 : decode m_Mo_makeNamed.2.1 57 = .ok (.getfield 141, 3) := by decide +kernel
theorem dc_Mo_makeNamed_60 : decode m_Mo_makeNamed.2.1 60 = .ok (.iload 5, 2) := by decide +kernel
theorem dc_Mo_makeNamed_62 : decode m_Mo_makeNamed.2.1 62 = .ok (.iaload, 1) := by decide +kernel
theorem dc_Mo_makeNamed_63 : decode m_Mo_makeNamed.2.1 63 = .ok (.invokevirtual 303, 3) := by decide +kernel
theorem dc_Mo_makeNamed_66 : decode m_Mo_makeNamed.2.1 66 = .ok (.iinc 5 1, 3) := by decide +kernel
theorem dc_Mo_makeNamed_69 : decode m_Mo_makeNamed.2.1 69 = .ok (.goto (-20), 3) := by decide +kernel
theorem dc_Mo_makeNamed_72 : decode m_Mo_makeNamed.2.1 72 = .ok (.return_, 1) := by decide +kernel
theorem b_Mo_makeNamed_0 {E : En_t} {d : Nat} {σ : S_t} {Q : Option Value → S_t → Prop} {x1 : Int32} {x2 : Int32} {x3 : Int32}
    (h : CV E d m_Mo_make [pv E 0, .int x1, .int x2, .int (0 : Int32), .int (0 : Int32), .int (-1 : Int32)] σ (fun σ1 => vp_in (8 : Int32) 9 ∧ (vp_in (((4000 : Int32) + (gI σ1 9 (8 : Int32).toNatClampNeg)) - (1 : Int32)) 4500 ∧ (vp_in (8 : Int32) 9 ∧ (∀ v2, v2 = gI (sI σ1 20 (((4000 : Int32) + (gI σ1 9 (8 : Int32).toNatClampNeg)) - (1 : Int32)).toNatClampNeg x3) 10 (8 : Int32).toNatClampNeg → (vp_in (((4000 : Int32) + (gI σ1 9 (8 : Int32).toNatClampNeg)) - (1 : Int32)) 4500 ∧ (∀ σ3, σ3 = sI (sI σ1 20 (((4000 : Int32) + (gI σ1 9 (8 : Int32).toNatClampNeg)) - (1 : Int32)).toNatClampNeg x3) 19 (((4000 : Int32) + (gI σ1 9 (8 : Int32).toNatClampNeg)) - (1 : Int32)).toNatClampNeg v2 → (JE E (d + 1) m_Mo_makeNamed 49 [(0, pv E 0), (3, .int x3), (5, .int (0 : Int32))] [] σ3 Q)))))))) :
    JE E (d + 1) m_Mo_makeNamed 0 [(0, pv E 0), (1, .int x1), (2, .int x2), (3, .int x3)] [] σ Q := by
  refine J_aload_n dc_Mo_makeNamed_0 (Eq.refl 1) 0 rfl ?_
  refine J_iload_n dc_Mo_makeNamed_1 (Eq.refl 2) 1 rfl ?_
  refine J_iload_n dc_Mo_makeNamed_2 (Eq.refl 3) 2 rfl ?_
  refine J_iconst (v := (0 : Int32)) dc_Mo_makeNamed_3 (Eq.refl 4) rfl ?_
  refine J_iconst (v := (0 : Int32)) dc_Mo_makeNamed_4 (Eq.refl 5) rfl ?_
  refine J_iconst (v := (-1 : Int32)) dc_Mo_makeNamed_5 (Eq.refl 6) rfl ?_
  refine J_callVV (As := [.int x1, .int x2, .int (0 : Int32), .int (0 : Int32), .int (-1 : Int32)]) (st := []) dc_Mo_makeNamed_6 (Eq.refl 9) lk_Mo_309 mi_Mo_make rfl (Nat.le_of_ble_eq_true rfl) rfl rfl (Nat.le_of_ble_eq_true rfl) rfl (Nat.le_of_ble_eq_true rfl) (CV.mono h (fun σ1 h => ?_))
  refine J_sipush (v := (4000 : Int32)) dc_Mo_makeNamed_9 (Eq.refl 12) rfl ?_
  refine J_aload_n dc_Mo_makeNamed_12 (Eq.refl 13) 0 rfl ?_
  refine J_getF (y := 9) dc_Mo_makeNamed_13 (Eq.refl 16) fl_Mo_35 (Nat.le_of_ble_eq_true rfl) rfl (Or.inl rfl) rfl ?_
  refine J_bipush (v := (8 : Int32)) dc_Mo_makeNamed_16 (Eq.refl 18) rfl ?_
  obtain ⟨hg, h⟩ := h
  refine J_iald dc_Mo_makeNamed_18 (Eq.refl 19) rfl rfl hg ?_
  refine J_iadd dc_Mo_makeNamed_19 (Eq.refl 20) ?_
  refine J_iconst (v := (1 : Int32)) dc_Mo_makeNamed_20 (Eq.refl 21) rfl ?_
  refine J_isub dc_Mo_makeNamed_21 (Eq.refl 22) ?_
  refine J_istore (L' := [(4, .int (((4000 : Int32) + (gI σ1 9 (8 : Int32).toNatClampNeg)) - (1 : Int32))), (0, pv E 0), (1, .int x1), (2, .int x2), (3, .int x3)]) dc_Mo_makeNamed_22 (Eq.refl 24) (Nat.le_of_ble_eq_true rfl) rfl ?_
  refine J_aload_n dc_Mo_makeNamed_24 (Eq.refl 25) 1 rfl ?_
  refine J_getF (y := 20) dc_Mo_makeNamed_25 (Eq.refl 28) fl_Mo_68 (Nat.le_of_ble_eq_true rfl) rfl (Or.inl rfl) rfl ?_
  refine J_iload dc_Mo_makeNamed_28 (Eq.refl 30) 0 rfl ?_
  refine J_iload_n dc_Mo_makeNamed_30 (Eq.refl 31) 4 rfl ?_
  obtain ⟨hg, h⟩ := h
  refine J_iast dc_Mo_makeNamed_31 (Eq.refl 32) rfl rfl hg ?_
  refine J_aload_n dc_Mo_makeNamed_32 (Eq.refl 33) 1 rfl ?_
  refine J_getF (y := 19) dc_Mo_makeNamed_33 (Eq.refl 36) fl_Mo_65 (Nat.le_of_ble_eq_true rfl) rfl (Or.inl rfl) rfl ?_
  refine J_iload dc_Mo_makeNamed_36 (Eq.refl 38) 0 rfl ?_
  refine J_aload_n dc_Mo_makeNamed_38 (Eq.refl 39) 1 rfl ?_
  refine J_getF (y := 10) dc_Mo_makeNamed_39 (Eq.refl 42) fl_Mo_38 (Nat.le_of_ble_eq_true rfl) rfl (Or.inl rfl) rfl ?_
  refine J_bipush (v := (8 : Int32)) dc_Mo_makeNamed_42 (Eq.refl 44) rfl ?_
  obtain ⟨hg, h⟩ := h
  refine J_iald dc_Mo_makeNamed_44 (Eq.refl 45) rfl rfl hg ?_
  refine J_topi (fun v2 ev2 => ?_)
  have h := h v2 ev2
  obtain ⟨hg, h⟩ := h
  refine J_iast dc_Mo_makeNamed_45 (Eq.refl 46) rfl rfl hg ?_
  refine J_st (fun σ3 eσ3 => ?_)
  have h := h σ3 eσ3
  refine J_iconst (v := (0 : Int32)) dc_Mo_makeNamed_46 (Eq.refl 47) rfl ?_
  refine J_istore (L' := [(5, .int (0 : Int32)), (4, .int (((4000 : Int32) + (gI σ1 9 (8 : Int32).toNatClampNeg)) - (1 : Int32))), (0, pv E 0), (1, .int x1), (2, .int x2), (3, .int x3)]) dc_Mo_makeNamed_47 (Eq.refl 49) (Nat.le_of_ble_eq_true rfl) rfl ?_
  refine J_sub [2, 5, 0] rfl ?_
  exact h
theorem b_Mo_makeNamed_49 {E : En_t} {d : Nat} {σ : S_t} {Q : Option Value → S_t → Prop} {x3 : Int32} {x5 : Int32}
    (h : (x3 ≤ x5 → Q none σ) ∧ (¬ x3 ≤ x5 → vp_in x5 2100 ∧ (CV E d m_Mo_lay [pv E 0, .int (gI σ 42 x5.toNatClampNeg)] σ (fun σ1 => JE E (d + 1) m_Mo_makeNamed 49 [(0, pv E 0), (3, .int x3), (5, .int (x5 + (1 : Int32)))] [] σ1 Q)))) :
    JE E (d + 1) m_Mo_makeNamed 49 [(0, pv E 0), (3, .int x3), (5, .int x5)] [] σ Q := by
  refine J_iload dc_Mo_makeNamed_49 (Eq.refl 51) 2 rfl ?_
  refine J_iload_n dc_Mo_makeNamed_51 (Eq.refl 52) 1 rfl ?_
  refine J_icmp_ge dc_Mo_makeNamed_52 (Eq.refl 55) rfl (fun hc => ?_) (fun hc => ?_)
  · have h := h.1 hc
    exact J_vret dc_Mo_makeNamed_72 rfl h
  · have h := h.2 hc
    refine J_aload_n dc_Mo_makeNamed_55 (Eq.refl 56) 0 rfl ?_
    refine J_aload_n dc_Mo_makeNamed_56 (Eq.refl 57) 0 rfl ?_
    refine J_getF (y := 42) dc_Mo_makeNamed_57 (Eq.refl 60) fl_Mo_141 (Nat.le_of_ble_eq_true rfl) rfl (Or.inl rfl) rfl ?_
    refine J_iload dc_Mo_makeNamed_60 (Eq.refl 62) 2 rfl ?_
    obtain ⟨hg, h⟩ := h
    refine J_iald dc_Mo_makeNamed_62 (Eq.refl 63) rfl rfl hg ?_
    refine J_callVV (As := [.int (gI σ 42 x5.toNatClampNeg)]) (st := []) dc_Mo_makeNamed_63 (Eq.refl 66) lk_Mo_303 mi_Mo_lay rfl (Nat.le_of_ble_eq_true rfl) rfl rfl (Nat.le_of_ble_eq_true rfl) rfl (Nat.le_of_ble_eq_true rfl) (CV.mono h (fun σ1 h => ?_))
    refine J_iinc (v := x5 + (1 : Int32)) (L' := [(5, .int (x5 + (1 : Int32))), (0, pv E 0), (3, .int x3)]) dc_Mo_makeNamed_66 (Eq.refl 69) 2 rfl rfl (Nat.le_of_ble_eq_true rfl) rfl ?_
    refine J_goto dc_Mo_makeNamed_69 rfl ?_
    refine J_sub [1, 2, 0] rfl ?_
    exact h
theorem dc_Mo_make_0 : decode m_Mo_make.2.1 0 = .ok (.aload_n 0, 1) := by decide +kernel
theorem dc_Mo_make_1 : decode m_Mo_make.2.1 1 = .ok (.getfield 35, 3) := by decide +kernel
theorem dc_Mo_make_4 : decode m_Mo_make.2.1 4 = .ok (.bipush 8, 2) := by decide +kernel
theorem dc_Mo_make_6 : decode m_Mo_make.2.1 6 = .ok (.iaload, 1) := by decide +kernel
theorem dc_Mo_make_7 : decode m_Mo_make.2.1 7 = .ok (.sipush 500, 3) := by decide +kernel
theorem dc_Mo_make_10 : decode m_Mo_make.2.1 10 = .ok (.if_icmp .ne 8, 3) := by decide +kernel
theorem dc_Mo_make_13 : decode m_Mo_make.2.1 13 = .ok (.aload_n 0, 1) := by decide +kernel
theorem dc_Mo_make_14 : decode m_Mo_make.2.1 14 = .ok (.iconst 1, 1) := by decide +kernel
theorem dc_Mo_make_15 : decode m_Mo_make.2.1 15 = .ok (.putfield 299, 3) := by decide +kernel
theorem dc_Mo_make_18 : decode m_Mo_make.2.1 18 = .ok (.aload_n 0, 1) := by decide +kernel
theorem dc_Mo_make_19 : decode m_Mo_make.2.1 19 = .ok (.getfield 299, 3) := by decide +kernel
theorem dc_Mo_make_22 : decode m_Mo_make.2.1 22 = .ok (.ifCond .eq 4, 3) := by decide +kernel
theorem dc_Mo_make_25 : decode m_Mo_make.2.1 25 = .ok (.return_, 1) := by decide +kernel
theorem dc_Mo_make_26 : decode m_Mo_make.2.1 26 = .ok (.sipush 4000, 3) := by decide +kernel
theorem dc_Mo_make_29 : decode m_Mo_make.2.1 29 = .ok (.aload_n 0, 1) := by decide +kernel
theorem dc_Mo_make_30 : decode m_Mo_make.2.1 30 = .ok (.getfield 35, 3) := by decide +kernel
theorem dc_Mo_make_33 : decode m_Mo_make.2.1 33 = .ok (.bipush 8, 2) := by decide +kernel
theorem dc_Mo_make_35 : decode m_Mo_make.2.1 35 = .ok (.iaload, 1) := by decide +kernel
theorem dc_Mo_make_36 : decode m_Mo_make.2.1 36 = .ok (.iadd, 1) := by decide +kernel
theorem dc_Mo_make_37 : decode m_Mo_make.2.1 37 = .ok (.istore 6, 2) := by decide +kernel
theorem dc_Mo_make_39 : decode m_Mo_make.2.1 39 = .ok (.aload_n 0, 1) := by decide +kernel
theorem dc_Mo_make_40 : decode m_Mo_make.2.1 40 = .ok (.getfield 47, 3) := by decide +kernel
theorem dc_Mo_make_43 : decode m_Mo_make.2.1 43 = .ok (.iload 6, 2) := by decide +kernel
theorem dc_Mo_make_45 : decode m_Mo_make.2.1 45 = .ok (.iload_n 1, 1) := by decide +kernel
theorem dc_Mo_make_46 : decode m_Mo_make.2.1 46 = .ok (.iastore, 1) := by decide +kernel
theorem dc_Mo_make_47 : decode m_Mo_make.2.1 47 = .ok (.aload_n 0, 1) := by decide +kernel
theorem dc_Mo_make_48 : decode m_Mo_make.2.1 48 = .ok (.getfield 62, 3) := by decide +kernel
theorem dc_Mo_make_51 : decode m_Mo_make.2.1 51 = .ok (.iload 6, 2) := by decide +kernel
theorem dc_Mo_make_53 : decode m_Mo_make.2.1 53 = .ok (.iload_n 2, 1) := by decide +kernel
theorem dc_Mo_make_54 : decode m_Mo_make.2.1 54 = .ok (.iastore, 1) := by decide +kernel
theorem dc_Mo_make_55 : decode m_Mo_make.2.1 55 = .ok (.aload_n 0, 1) := by decide +kernel
theorem dc_Mo_make_56 : decode m_Mo_make.2.1 56 = .ok (.getfield 56, 3) := by decide +kernel
theorem dc_Mo_make_59 : decode m_Mo_make.2.1 59 = .ok (.iload 6, 2) := by decide +kernel
theorem dc_Mo_make_61 : decode m_Mo_make.2.1 61 = .ok (.iconst 0, 1) := by decide +kernel
theorem dc_Mo_make_62 : decode m_Mo_make.2.1 62 = .ok (.iastore, 1) := by decide +kernel
theorem dc_Mo_make_63 : decode m_Mo_make.2.1 63 = .ok (.aload_n 0, 1) := by decide +kernel
theorem dc_Mo_make_64 : decode m_Mo_make.2.1 64 = .ok (.getfield 59, 3) := by decide +kernel
theorem dc_Mo_make_67 : decode m_Mo_make.2.1 67 = .ok (.iload 6, 2) := by decide +kernel
theorem dc_Mo_make_69 : decode m_Mo_make.2.1 69 = .ok (.iconst 1, 1) := by decide +kernel
theorem dc_Mo_make_70 : decode m_Mo_make.2.1 70 = .ok (.iastore, 1) := by decide +kernel
theorem dc_Mo_make_71 : decode m_Mo_make.2.1 71 = .ok (.aload_n 0, 1) := by decide +kernel
theorem dc_Mo_make_72 : decode m_Mo_make.2.1 72 = .ok (.getfield 65, 3) := by decide +kernel
theorem dc_Mo_make_75 : decode m_Mo_make.2.1 75 = .ok (.iload 6, 2) := by decide +kernel
theorem dc_Mo_make_77 : decode m_Mo_make.2.1 77 = .ok (.aload_n 0, 1) := by decide +kernel
theorem dc_Mo_make_78 : decode m_Mo_make.2.1 78 = .ok (.getfield 38, 3) := by decide +kernel
theorem dc_Mo_make_81 : decode m_Mo_make.2.1 81 = .ok (.bipush 8, 2) := by decide +kernel
theorem dc_Mo_make_83 : decode m_Mo_make.2.1 83 = .ok (.iaload, 1) := by decide +kernel
theorem dc_Mo_make_84 : decode m_Mo_make.2.1 84 = .ok (.iastore, 1) := by decide +kernel
theorem dc_Mo_make_85 : decode m_Mo_make.2.1 85 = .ok (.aload_n 0, 1) := by decide +kernel
theorem dc_Mo_make_86 : decode m_Mo_make.2.1 86 = .ok (.getfield 68, 3) := by decide +kernel
theorem dc_Mo_make_89 : decode m_Mo_make.2.1 89 = .ok (.iload 6, 2) := by decide +kernel
theorem dc_Mo_make_91 : decode m_Mo_make.2.1 91 = .ok (.iload 5, 2) := by decide +kernel
theorem dc_Mo_make_93 : decode m_Mo_make.2.1 93 = .ok (.ifCond .ge 7, 3) := by decide +kernel
theorem dc_Mo_make_96 : decode m_Mo_make.2.1 96 = .ok (.iconst (-1), 1) := by decide +kernel
theorem dc_Mo_make_97 : decode m_Mo_make.2.1 97 = .ok (.goto 5, 3) := by decide +kernel
theorem dc_Mo_make_100 : decode m_Mo_make.2.1 100 = .ok (.iload 5, 2) := by decide +kernel
theorem dc_Mo_make_102 : decode m_Mo_make.2.1 102 = .ok (.iastore, 1) := by decide +kernel
theorem dc_Mo_make_103 : decode m_Mo_make.2.1 103 = .ok (.aload_n 0, 1) := by decide +kernel
theorem dc_Mo_make_104 : decode m_Mo_make.2.1 104 = .ok (.getfield 71, 3) := by decide +kernel
theorem dc_Mo_make_107 : decode m_Mo_make.2.1 107 = .ok (.iload 6, 2) := by decide +kernel
theorem dc_Mo_make_109 : decode m_Mo_make.2.1 109 = .ok (.iconst 0, 1) := by decide +kernel
theorem dc_Mo_make_110 : decode m_Mo_make.2.1 110 = .ok (.iastore, 1) := by decide +kernel
theorem dc_Mo_make_111 : decode m_Mo_make.2.1 111 = .ok (.aload_n 0, 1) := by decide +kernel
theorem dc_Mo_make_112 : decode m_Mo_make.2.1 112 = .ok (.getfield 74, 3) := by decide +kernel
theorem dc_Mo_make_115 : decode m_Mo_make.2.1 115 = .ok (.iload 6, 2) := by decide +kernel
theorem dc_Mo_make_117 : decode m_Mo_make.2.1 117 = .ok (.iconst 0, 1) := by decide +kernel
theorem dc_Mo_make_118 : decode m_Mo_make.2.1 118 = .ok (.iastore, 1) := by decide +kernel
theorem dc_Mo_make_119 : decode m_Mo_make.2.1 119 = .ok (.aload_n 0, 1) := by decide +kernel
theorem dc_Mo_make_120 : decode m_Mo_make.2.1 120 = .ok (.getfield 83, 3) := by decide +kernel
theorem dc_Mo_make_123 : decode m_Mo_make.2.1 123 = .ok (.iload 6, 2) := by decide +kernel
theorem dc_Mo_make_125 : decode m_Mo_make.2.1 125 = .ok (.lconst 0, 1) := by decide +kernel
theorem dc_Mo_make_126 : decode m_Mo_make.2.1 126 = .ok (.lastore, 1) := by decide +kernel
theorem dc_Mo_make_127 : decode m_Mo_make.2.1 127 = .ok (.aload_n 0, 1) := by decide +kernel
theorem dc_Mo_make_128 : decode m_Mo_make.2.1 128 = .ok (.getfield 80, 3) := by decide +kernel
theorem dc_Mo_make_131 : decode m_Mo_make.2.1 131 = .ok (.iload 6, 2) := by decide +kernel
theorem dc_Mo_make_133 : decode m_Mo_make.2.1 133 = .ok (.iconst 0, 1) := by decide +kernel
theorem dc_Mo_make_134 : decode m_Mo_make.2.1 134 = .ok (.iastore, 1) := by decide +kernel
theorem dc_Mo_make_135 : decode m_Mo_make.2.1 135 = .ok (.iconst 0, 1) := by decide +kernel
theorem dc_Mo_make_136 : decode m_Mo_make.2.1 136 = .ok (.istore 7, 2) := by decide +kernel
theorem dc_Mo_make_138 : decode m_Mo_make.2.1 138 = .ok (.iload 7, 2) := by decide +kernel
theorem dc_Mo_make_140 : decode m_Mo_make.2.1 140 = .ok (.iload 5, 2) := by decide +kernel
theorem dc_Mo_make_142 : decode m_Mo_make.2.1 142 = .ok (.if_icmp .ge 25, 3) := by decide +kernel
theorem dc_Mo_make_145 : decode m_Mo_make.2.1 145 = .ok (.aload_n 0, 1) := by decide +kernel
theorem dc_Mo_make_146 : decode m_Mo_make.2.1 146 = .ok (.aload_n 0, 1) := by decide +kernel
theorem dc_Mo_make_147 : decode m_Mo_make.2.1 147 = .ok (.getfield 88, 3) := by decide +kernel
theorem dc_Mo_make_150 : decode m_Mo_make.2.1 150 = .ok (.iload_n 3, 1) := by decide +kernel
theorem dc_Mo_make_151 : decode m_Mo_make.2.1 151 = .ok (.iload 4, 2) := by decide +kernel
theorem dc_Mo_make_153 : decode m_Mo_make.2.1 153 = .ok (.iadd, 1) := by decide +kernel
theorem dc_Mo_make_154 : decode m_Mo_make.2.1 154 = .ok (.iload 7, 2) := by decide +kernel
theorem dc_Mo_make_156 : decode m_Mo_make.2.1 156 = .ok (.iadd, 1) := by decide +kernel
theorem dc_Mo_make_157 : decode m_Mo_make.2.1 157 = .ok (.iaload, 1) := by decide +kernel
theorem dc_Mo_make_158 : decode m_Mo_make.2.1 158 = .ok (.invokevirtual 303, 3) := by decide +kernel
theorem dc_Mo_make_161 : decode m_Mo_make.2.1 161 = .ok (.iinc 7 1, 3) := by decide +kernel
theorem dc_Mo_make_164 : decode m_Mo_make.2.1 164 = .ok (.goto (-26), 3) := by decide +kernel
theorem dc_Mo_make_167 : decode m_Mo_make.2.1 167 = .ok (.aload_n 0, 1) := by decide +kernel
theorem dc_Mo_make_168 : decode m_Mo_make.2.1 168 = .ok (.getfield 299, 3) := by decide +kernel
theorem dc_Mo_make_171 : decode m_Mo_make.2.1 171 = .ok (.ifCond .eq 4, 3) := by decide +kernel
theorem dc_Mo_make_174 : decode m_Mo_make.2.1 174 = .ok (.return_, 1) := by decide +kernel
theorem dc_Mo_make_175 : decode m_Mo_make.2.1 175 = .ok (.aload_n 0, 1) := by decide +kernel
theorem dc_Mo_make_176 : decode m_Mo_make.2.1 176 = .ok (.getfield 50, 3) := by decide +kernel
theorem dc_Mo_make_179 : decode m_Mo_make.2.1 179 = .ok (.iload 6, 2) := by decide +kernel
theorem dc_Mo_make_181 : decode m_Mo_make.2.1 181 = .ok (.iconst (-1), 1) := by decide +kernel
theorem dc_Mo_make_182 : decode m_Mo_make.2.1 182 = .ok (.iastore, 1) := by decide +kernel
theorem dc_Mo_make_183 : decode m_Mo_make.2.1 183 = .ok (.aload_n 0, 1) := by decide +kernel
theorem dc_Mo_make_184 : decode m_Mo_make.2.1 184 = .ok (.getfield 53, 3) := by decide +kernel
theorem dc_Mo_make_187 : decode m_Mo_make.2.1 187 = .ok (.iload 6, 2) := by decide +kernel
theorem dc_Mo_make_189 : decode m_Mo_make.2.1 189 = .ok (.iconst 0, 1) := by decide +kernel
theorem dc_Mo_make_190 : decode m_Mo_make.2.1 190 = .ok (.iastore, 1) := by decide +kernel
theorem dc_Mo_make_191 : decode m_Mo_make.2.1 191 = .ok (.iload_n 2, 1) := by decide +kernel
theorem dc_Mo_make_192 : decode m_Mo_make.2.1 192 = .ok (.ifCond .le 90, 3) := by decide +kernel
theorem dc_Mo_make_195 : decode m_Mo_make.2.1 195 = .ok (.aload_n 0, 1) := by decide +kernel
theorem dc_Mo_make_196 : decode m_Mo_make.2.1 196 = .ok (.getfield 95, 3) := by decide +kernel
theorem dc_Mo_make_199 : decode m_Mo_make.2.1 199 = .ok (.iload_n 2, 1) := by decide +kernel
theorem dc_Mo_make_200 : decode m_Mo_make.2.1 200 = .ok (.iconst 1, 1) := by decide +kernel
theorem dc_Mo_make_201 : decode m_Mo_make.2.1 201 = .ok (.isub, 1) := by decide +kernel
theorem dc_Mo_make_202 : decode m_Mo_make.2.1 202 = .ok (.iaload, 1) := by decide +kernel
theorem dc_Mo_make_203 : decode m_Mo_make.2.1 203 = .ok (.istore 7, 2) := by decide +kernel
theorem dc_Mo_make_205 : decode m_Mo_make.2.1 205 = .ok (.aload_n 0, 1) := by decide +kernel
theorem dc_Mo_make_206 : decode m_Mo_make.2.1 206 = .ok (.getfield 50, 3) := by decide +kernel
theorem dc_Mo_make_209 : decode m_Mo_make.2.1 209 = .ok (.iload 6, 2) := by decide +kernel
theorem dc_Mo_make_211 : decode m_Mo_make.2.1 211 = .ok (.iload 7, 2) := by decide +kernel
theorem dc_Mo_make_213 : decode m_Mo_make.2.1 213 = .ok (.iastore, 1) := by decide +kernel
theorem dc_Mo_make_214 : decode m_Mo_make.2.1 214 = .ok (.aload_n 0, 1) := by decide +kernel
theorem dc_Mo_make_215 : decode m_Mo_make.2.1 215 = .ok (.getfield 53, 3) := by decide +kernel
theorem dc_Mo_make_218 : decode m_Mo_make.2.1 218 = .ok (.iload 6, 2) := by decide +kernel
theorem dc_Mo_make_220 : decode m_Mo_make.2.1 220 = .ok (.aload_n 0, 1) := by decide +kernel
theorem dc_Mo_make_221 : decode m_Mo_make.2.1 221 = .ok (.getfield 56, 3) := by decide +kernel
theorem dc_Mo_make_224 : decode m_Mo_make.2.1 224 = .ok (.sipush 4000, 3) := by decide +kernel
theorem dc_Mo_make_227 : decode m_Mo_make.2.1 227 = .ok (.iload 7, 2) := by decide +kernel
theorem dc_Mo_make_229 : decode m_Mo_make.2.1 229 = .ok (.iadd, 1) := by decide +kernel
theorem dc_Mo_make_230 : decode m_Mo_make.2.1 230 = .ok (.iaload, 1) := by decide +kernel
theorem dc_Mo_make_231 : decode m_Mo_make.2.1 231 = .ok (.iastore, 1) := by decide +kernel
theorem dc_Mo_make_232 : decode m_Mo_make.2.1 232 = .ok (.aload_n 0, 1) := by decide +kernel
theorem dc_Mo_make_233 : decode m_Mo_make.2.1 233 = .ok (.getfield 56, 3) := by decide +kernel
theorem dc_Mo_make_236 : decode m_Mo_make.2.1 236 = .ok (.sipush 4000, 3) := by decide +kernel
theorem dc_Mo_make_239 : decode m_Mo_make.2.1 239 = .ok (.iload 7, 2) := by decide +kernel
theorem dc_Mo_make_241 : decode m_Mo_make.2.1 241 = .ok (.iadd, 1) := by decide +kernel
theorem dc_Mo_make_242 : decode m_Mo_make.2.1 242 = .ok (.dup2, 1) := by decide +kernel
theorem dc_Mo_make_243 : decode m_Mo_make.2.1 243 = .ok (.iaload, 1) := by decide +kernel
theorem dc_Mo_make_244 : decode m_Mo_make.2.1 244 = .ok (.iconst 1, 1) := by decide +kernel
theorem dc_Mo_make_245 : decode m_Mo_make.2.1 245 = .ok (.iadd, 1) := by decide +kernel
theorem dc_Mo_make_246 : decode m_Mo_make.2.1 246 = .ok (.iastore, 1) := by decide +kernel
theorem dc_Mo_make_247 : decode m_Mo_make.2.1 247 = .ok (.iconst 0, 1) := by decide +kernel
theorem dc_Mo_make_248 : decode m_Mo_make.2.1 248 = .ok (.istore 8, 2) := by decide +kernel
theorem dc_Mo_make_250 : decode m_Mo_make.2.1 250 = .ok (.iload 8, 2) := by decide +kernel
theorem dc_Mo_make_252 : decode m_Mo_make.2.1 252 = .ok (.iload_n 2, 1) := by decide +kernel
theorem dc_Mo_make_253 : decode m_Mo_make.2.1 253 = .ok (.if_icmp .ge 29, 3) := by decide +kernel
theorem dc_Mo_make_256 : decode m_Mo_make.2.1 256 = .ok (.aload_n 0, 1) := by decide +kernel
theorem dc_Mo_make_257 : decode m_Mo_make.2.1 257 = .ok (.getfield 59, 3) := by decide +kernel
theorem dc_Mo_make_260 : decode m_Mo_make.2.1 260 = .ok (.sipush 4000, 3) := by decide +kernel
theorem dc_Mo_make_263 : decode m_Mo_make.2.1 263 = .ok (.aload_n 0, 1) := by decide +kernel
theorem dc_Mo_make_264 : decode m_Mo_make.2.1 264 = .ok (.getfield 95, 3) := by decide +kernel
theorem dc_Mo_make_267 : decode m_Mo_make.2.1 267 = .ok (.iload 8, 2) := by decide +kernel
theorem dc_Mo_make_269 : decode m_Mo_make.2.1 269 = .ok (.iaload, 1) := by decide +kernel
theorem dc_Mo_make_270 : decode m_Mo_make.2.1 270 = .ok (.iadd, 1) := by decide +kernel
theorem dc_Mo_make_271 : decode m_Mo_make.2.1 271 = .ok (.dup2, 1) := by decide +kernel
theorem dc_Mo_make_272 : decode m_Mo_make.2.1 272 = .ok (.iaload, 1) := by decide +kernel
theorem dc_Mo_make_273 : decode m_Mo_make.2.1 273 = .ok (.iconst 1, 1) := by decide +kernel
theorem dc_Mo_make_274 : decode m_Mo_make.2.1 274 = .ok (.iadd, 1) := by decide +kernel
theorem dc_Mo_make_275 : decode m_Mo_make.2.1 275 = .ok (.iastore, 1) := by decide +kernel
theorem dc_Mo_make_276 : decode m_Mo_make.2.1 276 = .ok (.iinc 8 1, 3) := by decide +kernel
theorem dc_Mo_make_279 : decode m_Mo_make.2.1 279 = .ok (.goto (-29), 3) := by decide +kernel
theorem dc_Mo_make_282 : decode m_Mo_make.2.1 282 = .ok (.aload_n 0, 1) := by decide +kernel
theorem dc_Mo_make_283 : decode m_Mo_make.2.1 283 = .ok (.getfield 95, 3) := by decide +kernel
theorem dc_Mo_make_286 : decode m_Mo_make.2.1 286 = .ok (.iload_n 2, 1) := by decide +kernel
theorem dc_Mo_make_287 : decode m_Mo_make.2.1 287 = .ok (.aload_n 0, 1) := by decide +kernel
theorem dc_Mo_make_288 : decode m_Mo_make.2.1 288 = .ok (.getfield 35, 3) := by decide +kernel
theorem dc_Mo_make_291 : decode m_Mo_make.2.1 291 = .ok (.bipush 8, 2) := by decide +kernel
theorem dc_Mo_make_293 : decode m_Mo_make.2.1 293 = .ok (.iaload, 1) := by decide +kernel
theorem dc_Mo_make_294 : decode m_Mo_make.2.1 294 = .ok (.iastore, 1) := by decide +kernel
theorem dc_Mo_make_295 : decode m_Mo_make.2.1 295 = .ok (.aload_n 0, 1) := by decide +kernel
theorem dc_Mo_make_296 : decode m_Mo_make.2.1 296 = .ok (.getfield 35, 3) := by decide +kernel
theorem dc_Mo_make_299 : decode m_Mo_make.2.1 299 = .ok (.bipush 8, 2) := by decide +kernel
theorem dc_Mo_make_301 : decode m_Mo_make.2.1 301 = .ok (.dup2, 1) := by decide +kernel
theorem dc_Mo_make_302 : decode m_Mo_make.2.1 302 = .ok (.iaload, 1) := by decide +kernel
theorem dc_Mo_make_303 : decode m_Mo_make.2.1 303 = .ok (.iconst 1, 1) := by decide +kernel
theorem dc_Mo_make_304 : decode m_Mo_make.2.1 304 = .ok (.iadd, 1) := by decide +kernel
theorem dc_Mo_make_305 : decode m_Mo_make.2.1 305 = .ok (.iastore, 1) := by decide +kernel
theorem dc_Mo_make_306 : decode m_Mo_make.2.1 306 = .ok (.return_, 1) := by decide +kernel
theorem b_Mo_make_0 {E : En_t} {d : Nat} {σ : S_t} {Q : Option Value → S_t → Prop} {x1 : Int32} {x2 : Int32} {x3 : Int32} {x4 : Int32} {x5 : Int32}
    (h : vp_in (8 : Int32) 9 ∧ ((¬ (gI σ 9 (8 : Int32).toNatClampNeg) = (500 : Int32) → JE E (d + 1) m_Mo_make 18 [(0, pv E 0), (1, .int x1), (2, .int x2), (3, .int x3), (4, .int x4), (5, .int x5)] [] σ Q) ∧ ((gI σ 9 (8 : Int32).toNatClampNeg) = (500 : Int32) → JE E (d + 1) m_Mo_make 18 [(0, pv E 0), (1, .int x1), (2, .int x2), (3, .int x3), (4, .int x4), (5, .int x5)] [] (sI σ 0 39 (1 : Int32)) Q))) :
    JE E (d + 1) m_Mo_make 0 [(0, pv E 0), (1, .int x1), (2, .int x2), (3, .int x3), (4, .int x4), (5, .int x5)] [] σ Q := by
  refine J_aload_n dc_Mo_make_0 (Eq.refl 1) 0 rfl ?_
  refine J_getF (y := 9) dc_Mo_make_1 (Eq.refl 4) fl_Mo_35 (Nat.le_of_ble_eq_true rfl) rfl (Or.inl rfl) rfl ?_
  refine J_bipush (v := (8 : Int32)) dc_Mo_make_4 (Eq.refl 6) rfl ?_
  obtain ⟨hg, h⟩ := h
  refine J_iald dc_Mo_make_6 (Eq.refl 7) rfl rfl hg ?_
  refine J_sipush (v := (500 : Int32)) dc_Mo_make_7 (Eq.refl 10) rfl ?_
  refine J_icmp_ne dc_Mo_make_10 (Eq.refl 13) rfl (fun hc => ?_) (fun hc => ?_)
  · have h := h.1 hc
    exact h
  · have h := h.2 hc
    refine J_aload_n dc_Mo_make_13 (Eq.refl 14) 0 rfl ?_
    refine J_iconst (v := (1 : Int32)) dc_Mo_make_14 (Eq.refl 15) rfl ?_
    refine J_putZ dc_Mo_make_15 (Eq.refl 18) pl_Mo_299 (Nat.le_of_ble_eq_true rfl) rfl rfl (Or.inr rfl) ?_
    exact h
theorem b_Mo_make_18 {E : En_t} {d : Nat} {σ : S_t} {Q : Option Value → S_t → Prop} {x1 : Int32} {x2 : Int32} {x3 : Int32} {x4 : Int32} {x5 : Int32}
    (h : ((gI σ 0 39) = 0 → vp_in (8 : Int32) 9 ∧ (vp_in ((4000 : Int32) + (gI σ 9 (8 : Int32).toNatClampNeg)) 4500 ∧ (vp_in ((4000 : Int32) + (gI σ 9 (8 : Int32).toNatClampNeg)) 4500 ∧ (∀ σ1, σ1 = sI (sI σ 13 ((4000 : Int32) + (gI σ 9 (8 : Int32).toNatClampNeg)).toNatClampNeg x1) 18 ((4000 : Int32) + (gI σ 9 (8 : Int32).toNatClampNeg)).toNatClampNeg x2 → (vp_in ((4000 : Int32) + (gI σ 9 (8 : Int32).toNatClampNeg)) 4500 ∧ (vp_in ((4000 : Int32) + (gI σ 9 (8 : Int32).toNatClampNeg)) 4500 ∧ (∀ σ2, σ2 = sI (sI σ1 16 ((4000 : Int32) + (gI σ 9 (8 : Int32).toNatClampNeg)).toNatClampNeg (0 : Int32)) 17 ((4000 : Int32) + (gI σ 9 (8 : Int32).toNatClampNeg)).toNatClampNeg (1 : Int32) → (vp_in (8 : Int32) 9 ∧ (vp_in ((4000 : Int32) + (gI σ 9 (8 : Int32).toNatClampNeg)) 4500 ∧ ((0 ≤ x5 → JE E (d + 1) m_Mo_make 102 [(0, pv E 0), (2, .int x2), (3, .int x3), (4, .int x4), (5, .int x5), (6, .int ((4000 : Int32) + (gI σ 9 (8 : Int32).toNatClampNeg)))] [.int x5, .int ((4000 : Int32) + (gI σ 9 (8 : Int32).toNatClampNeg)), pv E 20] (sI σ2 19 ((4000 : Int32) + (gI σ 9 (8 : Int32).toNatClampNeg)).toNatClampNeg (gI σ2 10 (8 : Int32).toNatClampNeg)) Q) ∧ (¬ 0 ≤ x5 → JE E (d + 1) m_Mo_make 102 [(0, pv E 0), (2, .int x2), (3, .int x3), (4, .int x4), (5, .int x5), (6, .int ((4000 : Int32) + (gI σ 9 (8 : Int32).toNatClampNeg)))] [.int (-1 : Int32), .int ((4000 : Int32) + (gI σ 9 (8 : Int32).toNatClampNeg)), pv E 20] (sI σ2 19 ((4000 : Int32) + (gI σ 9 (8 : Int32).toNatClampNeg)).toNatClampNeg (gI σ2 10 (8 : Int32).toNatClampNeg)) Q))))))))))) ∧ (¬ (gI σ 0 39) = 0 → Q none σ)) :
    JE E (d + 1) m_Mo_make 18 [(0, pv E 0), (1, .int x1), (2, .int x2), (3, .int x3), (4, .int x4), (5, .int x5)] [] σ Q := by
  refine J_aload_n dc_Mo_make_18 (Eq.refl 19) 0 rfl ?_
  refine J_getI dc_Mo_make_19 (Eq.refl 22) fl_Mo_299 (Nat.le_of_ble_eq_true rfl) rfl (Or.inr rfl) ?_
  refine J_if_eq dc_Mo_make_22 (Eq.refl 25) rfl (fun hc => ?_) (fun hc => ?_)
  · have h := h.1 hc
    refine J_sipush (v := (4000 : Int32)) dc_Mo_make_26 (Eq.refl 29) rfl ?_
    refine J_aload_n dc_Mo_make_29 (Eq.refl 30) 0 rfl ?_
    refine J_getF (y := 9) dc_Mo_make_30 (Eq.refl 33) fl_Mo_35 (Nat.le_of_ble_eq_true rfl) rfl (Or.inl rfl) rfl ?_
    refine J_bipush (v := (8 : Int32)) dc_Mo_make_33 (Eq.refl 35) rfl ?_
    obtain ⟨hg, h⟩ := h
    refine J_iald dc_Mo_make_35 (Eq.refl 36) rfl rfl hg ?_
    refine J_iadd dc_Mo_make_36 (Eq.refl 37) ?_
    refine J_istore (L' := [(6, .int ((4000 : Int32) + (gI σ 9 (8 : Int32).toNatClampNeg))), (0, pv E 0), (1, .int x1), (2, .int x2), (3, .int x3), (4, .int x4), (5, .int x5)]) dc_Mo_make_37 (Eq.refl 39) (Nat.le_of_ble_eq_true rfl) rfl ?_
    refine J_aload_n dc_Mo_make_39 (Eq.refl 40) 1 rfl ?_
    refine J_getF (y := 13) dc_Mo_make_40 (Eq.refl 43) fl_Mo_47 (Nat.le_of_ble_eq_true rfl) rfl (Or.inl rfl) rfl ?_
    refine J_iload dc_Mo_make_43 (Eq.refl 45) 0 rfl ?_
    refine J_iload_n dc_Mo_make_45 (Eq.refl 46) 2 rfl ?_
    obtain ⟨hg, h⟩ := h
    refine J_iast dc_Mo_make_46 (Eq.refl 47) rfl rfl hg ?_
    refine J_aload_n dc_Mo_make_47 (Eq.refl 48) 1 rfl ?_
    refine J_getF (y := 18) dc_Mo_make_48 (Eq.refl 51) fl_Mo_62 (Nat.le_of_ble_eq_true rfl) rfl (Or.inl rfl) rfl ?_
    refine J_iload dc_Mo_make_51 (Eq.refl 53) 0 rfl ?_
    refine J_iload_n dc_Mo_make_53 (Eq.refl 54) 3 rfl ?_
    obtain ⟨hg, h⟩ := h
    refine J_iast dc_Mo_make_54 (Eq.refl 55) rfl rfl hg ?_
    refine J_st (fun σ1 eσ1 => ?_)
    have h := h σ1 eσ1
    refine J_aload_n dc_Mo_make_55 (Eq.refl 56) 1 rfl ?_
    refine J_getF (y := 16) dc_Mo_make_56 (Eq.refl 59) fl_Mo_56 (Nat.le_of_ble_eq_true rfl) rfl (Or.inl rfl) rfl ?_
    refine J_iload dc_Mo_make_59 (Eq.refl 61) 0 rfl ?_
    refine J_iconst (v := (0 : Int32)) dc_Mo_make_61 (Eq.refl 62) rfl ?_
    obtain ⟨hg, h⟩ := h
    refine J_iast dc_Mo_make_62 (Eq.refl 63) rfl rfl hg ?_
    refine J_aload_n dc_Mo_make_63 (Eq.refl 64) 1 rfl ?_
    refine J_getF (y := 17) dc_Mo_make_64 (Eq.refl 67) fl_Mo_59 (Nat.le_of_ble_eq_true rfl) rfl (Or.inl rfl) rfl ?_
    refine J_iload dc_Mo_make_67 (Eq.refl 69) 0 rfl ?_
    refine J_iconst (v := (1 : Int32)) dc_Mo_make_69 (Eq.refl 70) rfl ?_
    obtain ⟨hg, h⟩ := h
    refine J_iast dc_Mo_make_70 (Eq.refl 71) rfl rfl hg ?_
    refine J_st (fun σ2 eσ2 => ?_)
    have h := h σ2 eσ2
    refine J_aload_n dc_Mo_make_71 (Eq.refl 72) 1 rfl ?_
    refine J_getF (y := 19) dc_Mo_make_72 (Eq.refl 75) fl_Mo_65 (Nat.le_of_ble_eq_true rfl) rfl (Or.inl rfl) rfl ?_
    refine J_iload dc_Mo_make_75 (Eq.refl 77) 0 rfl ?_
    refine J_aload_n dc_Mo_make_77 (Eq.refl 78) 1 rfl ?_
    refine J_getF (y := 10) dc_Mo_make_78 (Eq.refl 81) fl_Mo_38 (Nat.le_of_ble_eq_true rfl) rfl (Or.inl rfl) rfl ?_
    refine J_bipush (v := (8 : Int32)) dc_Mo_make_81 (Eq.refl 83) rfl ?_
    obtain ⟨hg, h⟩ := h
    refine J_iald dc_Mo_make_83 (Eq.refl 84) rfl rfl hg ?_
    obtain ⟨hg, h⟩ := h
    refine J_iast dc_Mo_make_84 (Eq.refl 85) rfl rfl hg ?_
    refine J_aload_n dc_Mo_make_85 (Eq.refl 86) 1 rfl ?_
    refine J_getF (y := 20) dc_Mo_make_86 (Eq.refl 89) fl_Mo_68 (Nat.le_of_ble_eq_true rfl) rfl (Or.inl rfl) rfl ?_
    refine J_iload dc_Mo_make_89 (Eq.refl 91) 0 rfl ?_
    refine J_iload dc_Mo_make_91 (Eq.refl 93) 6 rfl ?_
    refine J_if_ge dc_Mo_make_93 (Eq.refl 96) rfl (fun hc => ?_) (fun hc => ?_)
    · have h := h.1 hc
      refine J_iload dc_Mo_make_100 (Eq.refl 102) 6 rfl ?_
      refine J_sub [1, 3, 4, 5, 6, 0] rfl ?_
      exact h
    · have h := h.2 hc
      refine J_iconst (v := (-1 : Int32)) dc_Mo_make_96 (Eq.refl 97) rfl ?_
      refine J_goto dc_Mo_make_97 rfl ?_
      refine J_sub [1, 3, 4, 5, 6, 0] rfl ?_
      exact h
  · have h := h.2 hc
    exact J_vret dc_Mo_make_25 rfl h
theorem b_Mo_make_102 {E : En_t} {d : Nat} {σ : S_t} {Q : Option Value → S_t → Prop} {x2 : Int32} {x3 : Int32} {x4 : Int32} {x5 : Int32} {x6 : Int32} {s0 : Int32} {s1 : Int32} {q2 : Nat} (hk_q2 : kindP q2 = 20)
    (h : vp_in s1 (lenP q2) ∧ (vp_in x6 4500 ∧ (vp_in x6 4500 ∧ (vp_in x6 4500 ∧ (vp_in x6 4500 ∧ (∀ σ1, σ1 = sI (sL (sI (sI (sI σ q2 s1.toNatClampNeg s0) 21 x6.toNatClampNeg (0 : Int32)) 22 x6.toNatClampNeg (0 : Int32)) 25 x6.toNatClampNeg (0 : Int64)) 24 x6.toNatClampNeg (0 : Int32) → (JE E (d + 1) m_Mo_make 138 [(0, pv E 0), (2, .int x2), (3, .int x3), (4, .int x4), (5, .int x5), (6, .int x6), (7, .int (0 : Int32))] [] σ1 Q))))))) :
    JE E (d + 1) m_Mo_make 102 [(0, pv E 0), (2, .int x2), (3, .int x3), (4, .int x4), (5, .int x5), (6, .int x6)] [.int s0, .int s1, pv E q2] σ Q := by
  obtain ⟨hg, h⟩ := h
  refine J_iast dc_Mo_make_102 (Eq.refl 103) hk_q2 rfl hg ?_
  refine J_aload_n dc_Mo_make_103 (Eq.refl 104) 0 rfl ?_
  refine J_getF (y := 21) dc_Mo_make_104 (Eq.refl 107) fl_Mo_71 (Nat.le_of_ble_eq_true rfl) rfl (Or.inl rfl) rfl ?_
  refine J_iload dc_Mo_make_107 (Eq.refl 109) 5 rfl ?_
  refine J_iconst (v := (0 : Int32)) dc_Mo_make_109 (Eq.refl 110) rfl ?_
  obtain ⟨hg, h⟩ := h
  refine J_iast dc_Mo_make_110 (Eq.refl 111) rfl rfl hg ?_
  refine J_aload_n dc_Mo_make_111 (Eq.refl 112) 0 rfl ?_
  refine J_getF (y := 22) dc_Mo_make_112 (Eq.refl 115) fl_Mo_74 (Nat.le_of_ble_eq_true rfl) rfl (Or.inl rfl) rfl ?_
  refine J_iload dc_Mo_make_115 (Eq.refl 117) 5 rfl ?_
  refine J_iconst (v := (0 : Int32)) dc_Mo_make_117 (Eq.refl 118) rfl ?_
  obtain ⟨hg, h⟩ := h
  refine J_iast dc_Mo_make_118 (Eq.refl 119) rfl rfl hg ?_
  refine J_aload_n dc_Mo_make_119 (Eq.refl 120) 0 rfl ?_
  refine J_getF (y := 25) dc_Mo_make_120 (Eq.refl 123) fl_Mo_83 (Nat.le_of_ble_eq_true rfl) rfl (Or.inl rfl) rfl ?_
  refine J_iload dc_Mo_make_123 (Eq.refl 125) 5 rfl ?_
  refine J_lconst (v := (0 : Int64)) dc_Mo_make_125 (Eq.refl 126) rfl ?_
  obtain ⟨hg, h⟩ := h
  refine J_last dc_Mo_make_126 (Eq.refl 127) rfl rfl hg ?_
  refine J_aload_n dc_Mo_make_127 (Eq.refl 128) 0 rfl ?_
  refine J_getF (y := 24) dc_Mo_make_128 (Eq.refl 131) fl_Mo_80 (Nat.le_of_ble_eq_true rfl) rfl (Or.inl rfl) rfl ?_
  refine J_iload dc_Mo_make_131 (Eq.refl 133) 5 rfl ?_
  refine J_iconst (v := (0 : Int32)) dc_Mo_make_133 (Eq.refl 134) rfl ?_
  obtain ⟨hg, h⟩ := h
  refine J_iast dc_Mo_make_134 (Eq.refl 135) rfl rfl hg ?_
  refine J_st (fun σ1 eσ1 => ?_)
  have h := h σ1 eσ1
  refine J_iconst (v := (0 : Int32)) dc_Mo_make_135 (Eq.refl 136) rfl ?_
  refine J_istore (L' := [(7, .int (0 : Int32)), (0, pv E 0), (2, .int x2), (3, .int x3), (4, .int x4), (5, .int x5), (6, .int x6)]) dc_Mo_make_136 (Eq.refl 138) (Nat.le_of_ble_eq_true rfl) rfl ?_
  refine J_sub [1, 2, 3, 4, 5, 6, 0] rfl ?_
  exact h
theorem b_Mo_make_138 {E : En_t} {d : Nat} {σ : S_t} {Q : Option Value → S_t → Prop} {x2 : Int32} {x3 : Int32} {x4 : Int32} {x5 : Int32} {x6 : Int32} {x7 : Int32}
    (h : (x5 ≤ x7 → ((gI σ 0 39) = 0 → vp_in x6 4500 ∧ (vp_in x6 4500 ∧ ((x2 ≤ 0 → JE E (d + 1) m_Mo_make 282 [(0, pv E 0), (2, .int x2)] [] (sI (sI σ 14 x6.toNatClampNeg (-1 : Int32)) 15 x6.toNatClampNeg (0 : Int32)) Q) ∧ (¬ x2 ≤ 0 → vp_in (x2 - (1 : Int32)) 40 ∧ (∀ v1, v1 = gI (sI (sI σ 14 x6.toNatClampNeg (-1 : Int32)) 15 x6.toNatClampNeg (0 : Int32)) 28 (x2 - (1 : Int32)).toNatClampNeg → (vp_in x6 4500 ∧ (vp_in ((4000 : Int32) + v1) 4500 ∧ (∀ v2, v2 = gI (sI (sI (sI σ 14 x6.toNatClampNeg (-1 : Int32)) 15 x6.toNatClampNeg (0 : Int32)) 14 x6.toNatClampNeg v1) 16 ((4000 : Int32) + v1).toNatClampNeg → (vp_in x6 4500 ∧ (vp_in ((4000 : Int32) + v1) 4500 ∧ (∀ v3, v3 = gI (sI (sI (sI (sI σ 14 x6.toNatClampNeg (-1 : Int32)) 15 x6.toNatClampNeg (0 : Int32)) 14 x6.toNatClampNeg v1) 15 x6.toNatClampNeg v2) 16 ((4000 : Int32) + v1).toNatClampNeg → (vp_in ((4000 : Int32) + v1) 4500 ∧ (∀ σ4, σ4 = sI (sI (sI (sI (sI σ 14 x6.toNatClampNeg (-1 : Int32)) 15 x6.toNatClampNeg (0 : Int32)) 14 x6.toNatClampNeg v1) 15 x6.toNatClampNeg v2) 16 ((4000 : Int32) + v1).toNatClampNeg (v3 + (1 : Int32)) → (JE E (d + 1) m_Mo_make 250 [(0, pv E 0), (2, .int x2), (8, .int (0 : Int32))] [] σ4 Q)))))))))))))) ∧ (¬ (gI σ 0 39) = 0 → Q none σ)) ∧ (¬ x5 ≤ x7 → vp_in ((x3 + x4) + x7) 36000 ∧ (CV E d m_Mo_lay [pv E 0, .int (gI σ 26 ((x3 + x4) + x7).toNatClampNeg)] σ (fun σ5 => JE E (d + 1) m_Mo_make 138 [(0, pv E 0), (2, .int x2), (3, .int x3), (4, .int x4), (5, .int x5), (6, .int x6), (7, .int (x7 + (1 : Int32)))] [] σ5 Q)))) :
    JE E (d + 1) m_Mo_make 138 [(0, pv E 0), (2, .int x2), (3, .int x3), (4, .int x4), (5, .int x5), (6, .int x6), (7, .int x7)] [] σ Q := by
  refine J_iload dc_Mo_make_138 (Eq.refl 140) 6 rfl ?_
  refine J_iload dc_Mo_make_140 (Eq.refl 142) 4 rfl ?_
  refine J_icmp_ge dc_Mo_make_142 (Eq.refl 145) rfl (fun hc => ?_) (fun hc => ?_)
  · have h := h.1 hc
    refine J_aload_n dc_Mo_make_167 (Eq.refl 168) 0 rfl ?_
    refine J_getI dc_Mo_make_168 (Eq.refl 171) fl_Mo_299 (Nat.le_of_ble_eq_true rfl) rfl (Or.inr rfl) ?_
    refine J_if_eq dc_Mo_make_171 (Eq.refl 174) rfl (fun hc => ?_) (fun hc => ?_)
    · have h := h.1 hc
      refine J_aload_n dc_Mo_make_175 (Eq.refl 176) 0 rfl ?_
      refine J_getF (y := 14) dc_Mo_make_176 (Eq.refl 179) fl_Mo_50 (Nat.le_of_ble_eq_true rfl) rfl (Or.inl rfl) rfl ?_
      refine J_iload dc_Mo_make_179 (Eq.refl 181) 5 rfl ?_
      refine J_iconst (v := (-1 : Int32)) dc_Mo_make_181 (Eq.refl 182) rfl ?_
      obtain ⟨hg, h⟩ := h
      refine J_iast dc_Mo_make_182 (Eq.refl 183) rfl rfl hg ?_
      refine J_aload_n dc_Mo_make_183 (Eq.refl 184) 0 rfl ?_
      refine J_getF (y := 15) dc_Mo_make_184 (Eq.refl 187) fl_Mo_53 (Nat.le_of_ble_eq_true rfl) rfl (Or.inl rfl) rfl ?_
      refine J_iload dc_Mo_make_187 (Eq.refl 189) 5 rfl ?_
      refine J_iconst (v := (0 : Int32)) dc_Mo_make_189 (Eq.refl 190) rfl ?_
      obtain ⟨hg, h⟩ := h
      refine J_iast dc_Mo_make_190 (Eq.refl 191) rfl rfl hg ?_
      refine J_iload_n dc_Mo_make_191 (Eq.refl 192) 1 rfl ?_
      refine J_if_le dc_Mo_make_192 (Eq.refl 195) rfl (fun hc => ?_) (fun hc => ?_)
      · have h := h.1 hc
        refine J_sub [0, 1] rfl ?_
        exact h
      · have h := h.2 hc
        refine J_aload_n dc_Mo_make_195 (Eq.refl 196) 0 rfl ?_
        refine J_getF (y := 28) dc_Mo_make_196 (Eq.refl 199) fl_Mo_95 (Nat.le_of_ble_eq_true rfl) rfl (Or.inl rfl) rfl ?_
        refine J_iload_n dc_Mo_make_199 (Eq.refl 200) 1 rfl ?_
        refine J_iconst (v := (1 : Int32)) dc_Mo_make_200 (Eq.refl 201) rfl ?_
        refine J_isub dc_Mo_make_201 (Eq.refl 202) ?_
        obtain ⟨hg, h⟩ := h
        refine J_iald dc_Mo_make_202 (Eq.refl 203) rfl rfl hg ?_
        refine J_topi (fun v1 ev1 => ?_)
        have h := h v1 ev1
        refine J_istore (L' := [(7, .int v1), (0, pv E 0), (2, .int x2), (3, .int x3), (4, .int x4), (5, .int x5), (6, .int x6)]) dc_Mo_make_203 (Eq.refl 205) (Nat.le_of_ble_eq_true rfl) rfl ?_
        refine J_aload_n dc_Mo_make_205 (Eq.refl 206) 1 rfl ?_
        refine J_getF (y := 14) dc_Mo_make_206 (Eq.refl 209) fl_Mo_50 (Nat.le_of_ble_eq_true rfl) rfl (Or.inl rfl) rfl ?_
        refine J_iload dc_Mo_make_209 (Eq.refl 211) 6 rfl ?_
        refine J_iload dc_Mo_make_211 (Eq.refl 213) 0 rfl ?_
        obtain ⟨hg, h⟩ := h
        refine J_iast dc_Mo_make_213 (Eq.refl 214) rfl rfl hg ?_
        refine J_aload_n dc_Mo_make_214 (Eq.refl 215) 1 rfl ?_
        refine J_getF (y := 15) dc_Mo_make_215 (Eq.refl 218) fl_Mo_53 (Nat.le_of_ble_eq_true rfl) rfl (Or.inl rfl) rfl ?_
        refine J_iload dc_Mo_make_218 (Eq.refl 220) 6 rfl ?_
        refine J_aload_n dc_Mo_make_220 (Eq.refl 221) 1 rfl ?_
        refine J_getF (y := 16) dc_Mo_make_221 (Eq.refl 224) fl_Mo_56 (Nat.le_of_ble_eq_true rfl) rfl (Or.inl rfl) rfl ?_
        refine J_sipush (v := (4000 : Int32)) dc_Mo_make_224 (Eq.refl 227) rfl ?_
        refine J_iload dc_Mo_make_227 (Eq.refl 229) 0 rfl ?_
        refine J_iadd dc_Mo_make_229 (Eq.refl 230) ?_
        obtain ⟨hg, h⟩ := h
        refine J_iald dc_Mo_make_230 (Eq.refl 231) rfl rfl hg ?_
        refine J_topi (fun v2 ev2 => ?_)
        have h := h v2 ev2
        obtain ⟨hg, h⟩ := h
        refine J_iast dc_Mo_make_231 (Eq.refl 232) rfl rfl hg ?_
        refine J_aload_n dc_Mo_make_232 (Eq.refl 233) 1 rfl ?_
        refine J_getF (y := 16) dc_Mo_make_233 (Eq.refl 236) fl_Mo_56 (Nat.le_of_ble_eq_true rfl) rfl (Or.inl rfl) rfl ?_
        refine J_sipush (v := (4000 : Int32)) dc_Mo_make_236 (Eq.refl 239) rfl ?_
        refine J_iload dc_Mo_make_239 (Eq.refl 241) 0 rfl ?_
        refine J_iadd dc_Mo_make_241 (Eq.refl 242) ?_
        refine J_dup2_11 dc_Mo_make_242 (Eq.refl 243) rfl rfl ?_
        obtain ⟨hg, h⟩ := h
        refine J_iald dc_Mo_make_243 (Eq.refl 244) rfl rfl hg ?_
        refine J_topi (fun v3 ev3 => ?_)
        have h := h v3 ev3
        refine J_iconst (v := (1 : Int32)) dc_Mo_make_244 (Eq.refl 245) rfl ?_
        refine J_iadd dc_Mo_make_245 (Eq.refl 246) ?_
        obtain ⟨hg, h⟩ := h
        refine J_iast dc_Mo_make_246 (Eq.refl 247) rfl rfl hg ?_
        refine J_st (fun σ4 eσ4 => ?_)
        have h := h σ4 eσ4
        refine J_iconst (v := (0 : Int32)) dc_Mo_make_247 (Eq.refl 248) rfl ?_
        refine J_istore (L' := [(8, .int (0 : Int32)), (7, .int v1), (0, pv E 0), (2, .int x2), (3, .int x3), (4, .int x4), (5, .int x5), (6, .int x6)]) dc_Mo_make_248 (Eq.refl 250) (Nat.le_of_ble_eq_true rfl) rfl ?_
        refine J_sub [2, 3, 0] rfl ?_
        exact h
    · have h := h.2 hc
      exact J_vret dc_Mo_make_174 rfl h
  · have h := h.2 hc
    refine J_aload_n dc_Mo_make_145 (Eq.refl 146) 0 rfl ?_
    refine J_aload_n dc_Mo_make_146 (Eq.refl 147) 0 rfl ?_
    refine J_getF (y := 26) dc_Mo_make_147 (Eq.refl 150) fl_Mo_88 (Nat.le_of_ble_eq_true rfl) rfl (Or.inl rfl) rfl ?_
    refine J_iload_n dc_Mo_make_150 (Eq.refl 151) 2 rfl ?_
    refine J_iload dc_Mo_make_151 (Eq.refl 153) 3 rfl ?_
    refine J_iadd dc_Mo_make_153 (Eq.refl 154) ?_
    refine J_iload dc_Mo_make_154 (Eq.refl 156) 6 rfl ?_
    refine J_iadd dc_Mo_make_156 (Eq.refl 157) ?_
    obtain ⟨hg, h⟩ := h
    refine J_iald dc_Mo_make_157 (Eq.refl 158) rfl rfl hg ?_
    refine J_callVV (As := [.int (gI σ 26 ((x3 + x4) + x7).toNatClampNeg)]) (st := []) dc_Mo_make_158 (Eq.refl 161) lk_Mo_303 mi_Mo_lay rfl (Nat.le_of_ble_eq_true rfl) rfl rfl (Nat.le_of_ble_eq_true rfl) rfl (Nat.le_of_ble_eq_true rfl) (CV.mono h (fun σ5 h => ?_))
    refine J_iinc (v := x7 + (1 : Int32)) (L' := [(7, .int (x7 + (1 : Int32))), (0, pv E 0), (2, .int x2), (3, .int x3), (4, .int x4), (5, .int x5), (6, .int x6)]) dc_Mo_make_161 (Eq.refl 164) 6 rfl rfl (Nat.le_of_ble_eq_true rfl) rfl ?_
    refine J_goto dc_Mo_make_164 rfl ?_
    refine J_sub [1, 2, 3, 4, 5, 6, 0] rfl ?_
    exact h
theorem b_Mo_make_250 {E : En_t} {d : Nat} {σ : S_t} {Q : Option Value → S_t → Prop} {x2 : Int32} {x8 : Int32}
    (h : (x2 ≤ x8 → JE E (d + 1) m_Mo_make 282 [(0, pv E 0), (2, .int x2)] [] σ Q) ∧ (¬ x2 ≤ x8 → vp_in x8 40 ∧ (vp_in ((4000 : Int32) + (gI σ 28 x8.toNatClampNeg)) 4500 ∧ (vp_in ((4000 : Int32) + (gI σ 28 x8.toNatClampNeg)) 4500 ∧ (∀ σ1, σ1 = sI σ 17 ((4000 : Int32) + (gI σ 28 x8.toNatClampNeg)).toNatClampNeg ((gI σ 17 ((4000 : Int32) + (gI σ 28 x8.toNatClampNeg)).toNatClampNeg) + (1 : Int32)) → (JE E (d + 1) m_Mo_make 250 [(0, pv E 0), (2, .int x2), (8, .int (x8 + (1 : Int32)))] [] σ1 Q)))))) :
    JE E (d + 1) m_Mo_make 250 [(0, pv E 0), (2, .int x2), (8, .int x8)] [] σ Q := by
  refine J_iload dc_Mo_make_250 (Eq.refl 252) 2 rfl ?_
  refine J_iload_n dc_Mo_make_252 (Eq.refl 253) 1 rfl ?_
  refine J_icmp_ge dc_Mo_make_253 (Eq.refl 256) rfl (fun hc => ?_) (fun hc => ?_)
  · have h := h.1 hc
    refine J_sub [0, 1] rfl ?_
    exact h
  · have h := h.2 hc
    refine J_aload_n dc_Mo_make_256 (Eq.refl 257) 0 rfl ?_
    refine J_getF (y := 17) dc_Mo_make_257 (Eq.refl 260) fl_Mo_59 (Nat.le_of_ble_eq_true rfl) rfl (Or.inl rfl) rfl ?_
    refine J_sipush (v := (4000 : Int32)) dc_Mo_make_260 (Eq.refl 263) rfl ?_
    refine J_aload_n dc_Mo_make_263 (Eq.refl 264) 0 rfl ?_
    refine J_getF (y := 28) dc_Mo_make_264 (Eq.refl 267) fl_Mo_95 (Nat.le_of_ble_eq_true rfl) rfl (Or.inl rfl) rfl ?_
    refine J_iload dc_Mo_make_267 (Eq.refl 269) 2 rfl ?_
    obtain ⟨hg, h⟩ := h
    refine J_iald dc_Mo_make_269 (Eq.refl 270) rfl rfl hg ?_
    refine J_iadd dc_Mo_make_270 (Eq.refl 271) ?_
    refine J_dup2_11 dc_Mo_make_271 (Eq.refl 272) rfl rfl ?_
    obtain ⟨hg, h⟩ := h
    refine J_iald dc_Mo_make_272 (Eq.refl 273) rfl rfl hg ?_
    refine J_iconst (v := (1 : Int32)) dc_Mo_make_273 (Eq.refl 274) rfl ?_
    refine J_iadd dc_Mo_make_274 (Eq.refl 275) ?_
    obtain ⟨hg, h⟩ := h
    refine J_iast dc_Mo_make_275 (Eq.refl 276) rfl rfl hg ?_
    refine J_st (fun σ1 eσ1 => ?_)
    have h := h σ1 eσ1
    refine J_iinc (v := x8 + (1 : Int32)) (L' := [(8, .int (x8 + (1 : Int32))), (0, pv E 0), (2, .int x2)]) dc_Mo_make_276 (Eq.refl 279) 2 rfl rfl (Nat.le_of_ble_eq_true rfl) rfl ?_
    refine J_goto dc_Mo_make_279 rfl ?_
    refine J_sub [1, 2, 0] rfl ?_
    exact h
theorem b_Mo_make_282 {E : En_t} {d : Nat} {σ : S_t} {Q : Option Value → S_t → Prop} {x2 : Int32}
    (h : vp_in (8 : Int32) 9 ∧ (vp_in x2 40 ∧ (vp_in (8 : Int32) 9 ∧ (vp_in (8 : Int32) 9 ∧ (∀ σ1, σ1 = sI (sI σ 28 x2.toNatClampNeg (gI σ 9 (8 : Int32).toNatClampNeg)) 9 (8 : Int32).toNatClampNeg ((gI (sI σ 28 x2.toNatClampNeg (gI σ 9 (8 : Int32).toNatClampNeg)) 9 (8 : Int32).toNatClampNeg) + (1 : Int32)) → (Q none σ1)))))) :
    JE E (d + 1) m_Mo_make 282 [(0, pv E 0), (2, .int x2)] [] σ Q := by
  refine J_aload_n dc_Mo_make_282 (Eq.refl 283) 0 rfl ?_
  refine J_getF (y := 28) dc_Mo_make_283 (Eq.refl 286) fl_Mo_95 (Nat.le_of_ble_eq_true rfl) rfl (Or.inl rfl) rfl ?_
  refine J_iload_n dc_Mo_make_286 (Eq.refl 287) 1 rfl ?_
  refine J_aload_n dc_Mo_make_287 (Eq.refl 288) 0 rfl ?_
  refine J_getF (y := 9) dc_Mo_make_288 (Eq.refl 291) fl_Mo_35 (Nat.le_of_ble_eq_true rfl) rfl (Or.inl rfl) rfl ?_
  refine J_bipush (v := (8 : Int32)) dc_Mo_make_291 (Eq.refl 293) rfl ?_
  obtain ⟨hg, h⟩ := h
  refine J_iald dc_Mo_make_293 (Eq.refl 294) rfl rfl hg ?_
  obtain ⟨hg, h⟩ := h
  refine J_iast dc_Mo_make_294 (Eq.refl 295) rfl rfl hg ?_
  refine J_aload_n dc_Mo_make_295 (Eq.refl 296) 0 rfl ?_
  refine J_getF (y := 9) dc_Mo_make_296 (Eq.refl 299) fl_Mo_35 (Nat.le_of_ble_eq_true rfl) rfl (Or.inl rfl) rfl ?_
  refine J_bipush (v := (8 : Int32)) dc_Mo_make_299 (Eq.refl 301) rfl ?_
  refine J_dup2_11 dc_Mo_make_301 (Eq.refl 302) rfl rfl ?_
  obtain ⟨hg, h⟩ := h
  refine J_iald dc_Mo_make_302 (Eq.refl 303) rfl rfl hg ?_
  refine J_iconst (v := (1 : Int32)) dc_Mo_make_303 (Eq.refl 304) rfl ?_
  refine J_iadd dc_Mo_make_304 (Eq.refl 305) ?_
  obtain ⟨hg, h⟩ := h
  refine J_iast dc_Mo_make_305 (Eq.refl 306) rfl rfl hg ?_
  refine J_st (fun σ1 eσ1 => ?_)
  have h := h σ1 eσ1
  exact J_vret dc_Mo_make_306 rfl h
