theorem dc_Fo_write_0 : decode m_Fo_write.2.1 0 = .ok (.aload_n 1, 1) := by decide +kernel
theorem dc_Fo_write_1 : decode m_Fo_write.2.1 1 = .ok (.getfield 15, 3) := by decide +kernel
theorem dc_Fo_write_4 : decode m_Fo_write.2.1 4 = .ok (.iload_n 2, 1) := by decide +kernel
theorem dc_Fo_write_5 : decode m_Fo_write.2.1 5 = .ok (.aload_n 1, 1) := by decide +kernel
theorem dc_Fo_write_6 : decode m_Fo_write.2.1 6 = .ok (.getfield 21, 3) := by decide +kernel
theorem dc_Fo_write_9 : decode m_Fo_write.2.1 9 = .ok (.iload_n 2, 1) := by decide +kernel
theorem dc_Fo_write_10 : decode m_Fo_write.2.1 10 = .ok (.iaload, 1) := by decide +kernel
theorem dc_Fo_write_11 : decode m_Fo_write.2.1 11 = .ok (.iadd, 1) := by decide +kernel
theorem dc_Fo_write_12 : decode m_Fo_write.2.1 12 = .ok (.invokestatic 25, 3) := by decide +kernel
theorem dc_Fo_write_15 : decode m_Fo_write.2.1 15 = .ok (.istore 4, 2) := by decide +kernel
theorem dc_Fo_write_17 : decode m_Fo_write.2.1 17 = .ok (.iconst (-1), 1) := by decide +kernel
theorem dc_Fo_write_18 : decode m_Fo_write.2.1 18 = .ok (.istore 5, 2) := by decide +kernel
theorem dc_Fo_write_20 : decode m_Fo_write.2.1 20 = .ok (.iload_n 2, 1) := by decide +kernel
theorem dc_Fo_write_21 : decode m_Fo_write.2.1 21 = .ok (.istore 6, 2) := by decide +kernel
theorem dc_Fo_write_23 : decode m_Fo_write.2.1 23 = .ok (.iload 6, 2) := by decide +kernel
theorem dc_Fo_write_25 : decode m_Fo_write.2.1 25 = .ok (.iload 4, 2) := by decide +kernel
theorem dc_Fo_write_27 : decode m_Fo_write.2.1 27 = .ok (.if_icmp .ge 101, 3) := by decide +kernel
theorem dc_Fo_write_30 : decode m_Fo_write.2.1 30 = .ok (.iload 6, 2) := by decide +kernel
theorem dc_Fo_write_32 : decode m_Fo_write.2.1 32 = .ok (.iload_n 2, 1) := by decide +kernel
theorem dc_Fo_write_33 : decode m_Fo_write.2.1 33 = .ok (.if_icmp .le 26, 3) := by decide +kernel
theorem dc_Fo_write_36 : decode m_Fo_write.2.1 36 = .ok (.aload_n 1, 1) := by decide +kernel
theorem dc_Fo_write_37 : decode m_Fo_write.2.1 37 = .ok (.iload 5, 2) := by decide +kernel
theorem dc_Fo_write_39 : decode m_Fo_write.2.1 39 = .ok (.aload_n 1, 1) := by decide +kernel
theorem dc_Fo_write_40 : decode m_Fo_write.2.1 40 = .ok (.getfield 31, 3) := by decide +kernel
theorem dc_Fo_write_43 : decode m_Fo_write.2.1 43 = .ok (.iload 6, 2) := by decide +kernel
theorem dc_Fo_write_45 : decode m_Fo_write.2.1 45 = .ok (.iaload, 1) := by decide +kernel
theorem dc_Fo_write_46 : decode m_Fo_write.2.1 46 = .ok (.aload_n 3, 1) := by decide +kernel
theorem dc_Fo_write_47 : decode m_Fo_write.2.1 47 = .ok (.invokestatic 34, 3) := by decide +kernel
theorem dc_Fo_write_50 : decode m_Fo_write.2.1 50 = .ok (.istore 5, 2) := by decide +kernel
theorem dc_Fo_write_52 : decode m_Fo_write.2.1 52 = .ok (.aload_n 1, 1) := by decide +kernel
theorem dc_Fo_write_53 : decode m_Fo_write.2.1 53 = .ok (.iload 6, 2) := by decide +kernel
theorem dc_Fo_write_55 : decode m_Fo_write.2.1 55 = .ok (.aload_n 3, 1) := by decide +kernel
theorem dc_Fo_write_56 : decode m_Fo_write.2.1 56 = .ok (.invokestatic 38, 3) := by decide +kernel
theorem dc_Fo_write_59 : decode m_Fo_write.2.1 59 = .ok (.aload_n 1, 1) := by decide +kernel
theorem dc_Fo_write_60 : decode m_Fo_write.2.1 60 = .ok (.getfield 42, 3) := by decide +kernel
theorem dc_Fo_write_63 : decode m_Fo_write.2.1 63 = .ok (.iload 6, 2) := by decide +kernel
theorem dc_Fo_write_65 : decode m_Fo_write.2.1 65 = .ok (.iaload, 1) := by decide +kernel
theorem dc_Fo_write_66 : decode m_Fo_write.2.1 66 = .ok (.iconst 3, 1) := by decide +kernel
theorem dc_Fo_write_67 : decode m_Fo_write.2.1 67 = .ok (.if_icmp .ne 21, 3) := by decide +kernel
theorem dc_Fo_write_70 : decode m_Fo_write.2.1 70 = .ok (.aload_n 0, 1) := by decide +kernel
theorem dc_Fo_write_71 : decode m_Fo_write.2.1 71 = .ok (.getfield 9, 3) := by decide +kernel
theorem dc_Fo_write_74 : decode m_Fo_write.2.1 74 = .ok (.aload_n 1, 1) := by decide +kernel
theorem dc_Fo_write_75 : decode m_Fo_write.2.1 75 = .ok (.getfield 45, 3) := by decide +kernel
theorem dc_Fo_write_78 : decode m_Fo_write.2.1 78 = .ok (.iload 6, 2) := by decide +kernel
theorem dc_Fo_write_80 : decode m_Fo_write.2.1 80 = .ok (.laload, 1) := by decide +kernel
theorem dc_Fo_write_81 : decode m_Fo_write.2.1 81 = .ok (.aload_n 3, 1) := by decide +kernel
theorem dc_Fo_write_82 : decode m_Fo_write.2.1 82 = .ok (.invokevirtual 49, 3) := by decide +kernel
theorem dc_Fo_write_85 : decode m_Fo_write.2.1 85 = .ok (.goto 10, 3) := by decide +kernel
theorem dc_Fo_write_88 : decode m_Fo_write.2.1 88 = .ok (.aload_n 1, 1) := by decide +kernel
theorem dc_Fo_write_89 : decode m_Fo_write.2.1 89 = .ok (.iload 6, 2) := by decide +kernel
theorem dc_Fo_write_91 : decode m_Fo_write.2.1 91 = .ok (.aload_n 3, 1) := by decide +kernel
theorem dc_Fo_write_92 : decode m_Fo_write.2.1 92 = .ok (.invokestatic 55, 3) := by decide +kernel
theorem dc_Fo_write_95 : decode m_Fo_write.2.1 95 = .ok (.aload_n 1, 1) := by decide +kernel
theorem dc_Fo_write_96 : decode m_Fo_write.2.1 96 = .ok (.getfield 42, 3) := by decide +kernel
theorem dc_Fo_write_99 : decode m_Fo_write.2.1 99 = .ok (.iload 6, 2) := by decide +kernel
theorem dc_Fo_write_101 : decode m_Fo_write.2.1 101 = .ok (.iaload, 1) := by decide +kernel
theorem dc_Fo_write_102 : decode m_Fo_write.2.1 102 = .ok (.iconst 5, 1) := by decide +kernel
theorem dc_Fo_write_103 : decode m_Fo_write.2.1 103 = .ok (.if_icmp .eq 15, 3) := by decide +kernel
theorem dc_Fo_write_106 : decode m_Fo_write.2.1 106 = .ok (.aload_n 1, 1) := by decide +kernel
theorem dc_Fo_write_107 : decode m_Fo_write.2.1 107 = .ok (.getfield 42, 3) := by decide +kernel
theorem dc_Fo_write_110 : decode m_Fo_write.2.1 110 = .ok (.iload 6, 2) := by decide +kernel
theorem dc_Fo_write_112 : decode m_Fo_write.2.1 112 = .ok (.iaload, 1) := by decide +kernel
theorem dc_Fo_write_113 : decode m_Fo_write.2.1 113 = .ok (.bipush 6, 2) := by decide +kernel
theorem dc_Fo_write_115 : decode m_Fo_write.2.1 115 = .ok (.if_icmp .ne 7, 3) := by decide +kernel
theorem dc_Fo_write_118 : decode m_Fo_write.2.1 118 = .ok (.iload 6, 2) := by decide +kernel
theorem dc_Fo_write_120 : decode m_Fo_write.2.1 120 = .ok (.istore 5, 2) := by decide +kernel
theorem dc_Fo_write_122 : decode m_Fo_write.2.1 122 = .ok (.iinc 6 1, 3) := by decide +kernel
theorem dc_Fo_write_125 : decode m_Fo_write.2.1 125 = .ok (.goto (-102), 3) := by decide +kernel
theorem dc_Fo_write_128 : decode m_Fo_write.2.1 128 = .ok (.aload_n 1, 1) := by decide +kernel
theorem dc_Fo_write_129 : decode m_Fo_write.2.1 129 = .ok (.iload 5, 2) := by decide +kernel
theorem dc_Fo_write_131 : decode m_Fo_write.2.1 131 = .ok (.aload_n 1, 1) := by decide +kernel
theorem dc_Fo_write_132 : decode m_Fo_write.2.1 132 = .ok (.getfield 31, 3) := by decide +kernel
theorem dc_Fo_write_135 : decode m_Fo_write.2.1 135 = .ok (.iload_n 2, 1) := by decide +kernel
theorem dc_Fo_write_136 : decode m_Fo_write.2.1 136 = .ok (.iaload, 1) := by decide +kernel
theorem dc_Fo_write_137 : decode m_Fo_write.2.1 137 = .ok (.aload_n 3, 1) := by decide +kernel
theorem dc_Fo_write_138 : decode m_Fo_write.2.1 138 = .ok (.invokestatic 34, 3) := by decide +kernel
theorem dc_Fo_write_141 : decode m_Fo_write.2.1 141 = .ok (.pop, 1) := by decide +kernel
theorem dc_Fo_write_142 : decode m_Fo_write.2.1 142 = .ok (.return_, 1) := by decide +kernel
theorem b_Fo_write_0 {E : En_t} {d : Nat} {σ : S_t} {Q : Option Value → S_t → Prop} {o1 : Nat} {x2 : Int32} (hk_o1 : kindP o1 = 11)
    (h : vp_in x2 500 ∧ (∀ r1, r1 = mnI (gI σ o1 13) (x2 + (gI σ (o1 + 5) x2.toNatClampNeg)) → (JE E (d + 1) m_Fo_write 23 [(0, pv E 68), (1, pv E o1), (2, .int x2), (3, pv E 53), (4, .int r1), (5, .int (-1 : Int32)), (6, .int x2)] [] σ Q))) :
    JE E (d + 1) m_Fo_write 0 [(0, pv E 68), (1, pv E o1), (2, .int x2), (3, pv E 53)] [] σ Q := by
  refine J_aload_n dc_Fo_write_0 (Eq.refl 1) 1 rfl ?_
  refine J_getI dc_Fo_write_1 (Eq.refl 4) fl_Fo_15 (Nat.le_of_ble_eq_true rfl) hk_o1 (Or.inl rfl) ?_
  refine J_iload_n dc_Fo_write_4 (Eq.refl 5) 2 rfl ?_
  refine J_aload_n dc_Fo_write_5 (Eq.refl 6) 1 rfl ?_
  refine J_getF (y := o1 + 5) dc_Fo_write_6 (Eq.refl 9) fl_Fo_21 (Nat.le_of_ble_eq_true rfl) hk_o1 (Or.inl rfl) rfl ?_
  refine J_iload_n dc_Fo_write_9 (Eq.refl 10) 2 rfl ?_
  obtain ⟨hg, h⟩ := h
  refine J_iald dc_Fo_write_10 (Eq.refl 11) (ak_Tr_4 hk_o1).1 (ak_Tr_4 hk_o1).2 hg ?_
  refine J_iadd dc_Fo_write_11 (Eq.refl 12) ?_
  refine J_mmin dc_Fo_write_12 (Eq.refl 15) lk_Fo_25 (Nat.le_of_ble_eq_true rfl) (fun r1 er1 => ?_)
  have h := h r1 er1
  refine J_istore (L' := [(4, .int r1), (0, pv E 68), (1, pv E o1), (2, .int x2), (3, pv E 53)]) dc_Fo_write_15 (Eq.refl 17) (Nat.le_of_ble_eq_true rfl) rfl ?_
  refine J_iconst (v := (-1 : Int32)) dc_Fo_write_17 (Eq.refl 18) rfl ?_
  refine J_istore (L' := [(5, .int (-1 : Int32)), (4, .int r1), (0, pv E 68), (1, pv E o1), (2, .int x2), (3, pv E 53)]) dc_Fo_write_18 (Eq.refl 20) (Nat.le_of_ble_eq_true rfl) rfl ?_
  refine J_iload_n dc_Fo_write_20 (Eq.refl 21) 4 rfl ?_
  refine J_istore (L' := [(6, .int x2), (5, .int (-1 : Int32)), (4, .int r1), (0, pv E 68), (1, pv E o1), (2, .int x2), (3, pv E 53)]) dc_Fo_write_21 (Eq.refl 23) (Nat.le_of_ble_eq_true rfl) rfl ?_
  refine J_sub [3, 4, 5, 6, 2, 1, 0] rfl ?_
  exact h
theorem b_Fo_write_23 {E : En_t} {d : Nat} {σ : S_t} {Q : Option Value → S_t → Prop} {o1 : Nat} {x2 : Int32} {x4 : Int32} {x5 : Int32} {x6 : Int32} (hk_o1 : kindP o1 = 11)
    (h : (x4 ≤ x6 → vp_in x2 500 ∧ (CI E d m_Fo_closeUpTo [pv E o1, .int x5, .int (gI σ (o1 + 3) x2.toNatClampNeg), pv E 53] σ (fun r2 σ1 => Q none σ1))) ∧ (¬ x4 ≤ x6 → (x6 ≤ x2 → JE E (d + 1) m_Fo_write 59 [(0, pv E 68), (1, pv E o1), (2, .int x2), (3, pv E 53), (4, .int x4), (5, .int x5), (6, .int x6)] [] σ Q) ∧ (¬ x6 ≤ x2 → vp_in x6 500 ∧ (CI E d m_Fo_closeUpTo [pv E o1, .int x5, .int (gI σ (o1 + 3) x6.toNatClampNeg), pv E 53] σ (fun r4 σ3 => CV E d m_Fo_writeAhead [pv E o1, .int x6, pv E 53] σ3 (fun σ5 => JE E (d + 1) m_Fo_write 59 [(0, pv E 68), (1, pv E o1), (2, .int x2), (3, pv E 53), (4, .int x4), (5, .int r4), (6, .int x6)] [] σ5 Q)))))) :
    JE E (d + 1) m_Fo_write 23 [(0, pv E 68), (1, pv E o1), (2, .int x2), (3, pv E 53), (4, .int x4), (5, .int x5), (6, .int x6)] [] σ Q := by
  refine J_iload dc_Fo_write_23 (Eq.refl 25) 6 rfl ?_
  refine J_iload dc_Fo_write_25 (Eq.refl 27) 4 rfl ?_
  refine J_icmp_ge dc_Fo_write_27 (Eq.refl 30) rfl (fun hc => ?_) (fun hc => ?_)
  · have h := h.1 hc
    refine J_aload_n dc_Fo_write_128 (Eq.refl 129) 1 rfl ?_
    refine J_iload dc_Fo_write_129 (Eq.refl 131) 5 rfl ?_
    refine J_aload_n dc_Fo_write_131 (Eq.refl 132) 1 rfl ?_
    refine J_getF (y := o1 + 3) dc_Fo_write_132 (Eq.refl 135) fl_Fo_31 (Nat.le_of_ble_eq_true rfl) hk_o1 (Or.inl rfl) rfl ?_
    refine J_iload_n dc_Fo_write_135 (Eq.refl 136) 2 rfl ?_
    obtain ⟨hg, h⟩ := h
    refine J_iald dc_Fo_write_136 (Eq.refl 137) (ak_Tr_2 hk_o1).1 (ak_Tr_2 hk_o1).2 hg ?_
    refine J_aload_n dc_Fo_write_137 (Eq.refl 138) 3 rfl ?_
    refine J_callSI (As := [pv E o1, .int x5, .int (gI σ (o1 + 3) x2.toNatClampNeg), pv E 53]) (st := []) dc_Fo_write_138 (Eq.refl 141) lk_Fo_34 mi_Fo_closeUpTo (Nat.le_of_ble_eq_true rfl) rfl (Nat.le_of_ble_eq_true rfl) (CI.mono h (fun r2 σ1 h => ?_))
    refine J_pop dc_Fo_write_141 (Eq.refl 142) rfl ?_
    exact J_vret dc_Fo_write_142 rfl h
  · have h := h.2 hc
    refine J_iload dc_Fo_write_30 (Eq.refl 32) 6 rfl ?_
    refine J_iload_n dc_Fo_write_32 (Eq.refl 33) 2 rfl ?_
    refine J_icmp_le dc_Fo_write_33 (Eq.refl 36) rfl (fun hc => ?_) (fun hc => ?_)
    · have h := h.1 hc
      exact h
    · have h := h.2 hc
      refine J_aload_n dc_Fo_write_36 (Eq.refl 37) 1 rfl ?_
      refine J_iload dc_Fo_write_37 (Eq.refl 39) 5 rfl ?_
      refine J_aload_n dc_Fo_write_39 (Eq.refl 40) 1 rfl ?_
      refine J_getF (y := o1 + 3) dc_Fo_write_40 (Eq.refl 43) fl_Fo_31 (Nat.le_of_ble_eq_true rfl) hk_o1 (Or.inl rfl) rfl ?_
      refine J_iload dc_Fo_write_43 (Eq.refl 45) 6 rfl ?_
      obtain ⟨hg, h⟩ := h
      refine J_iald dc_Fo_write_45 (Eq.refl 46) (ak_Tr_2 hk_o1).1 (ak_Tr_2 hk_o1).2 hg ?_
      refine J_aload_n dc_Fo_write_46 (Eq.refl 47) 3 rfl ?_
      refine J_callSI (As := [pv E o1, .int x5, .int (gI σ (o1 + 3) x6.toNatClampNeg), pv E 53]) (st := []) dc_Fo_write_47 (Eq.refl 50) lk_Fo_34 mi_Fo_closeUpTo (Nat.le_of_ble_eq_true rfl) rfl (Nat.le_of_ble_eq_true rfl) (CI.mono h (fun r4 σ3 h => ?_))
      refine J_istore (L' := [(5, .int r4), (0, pv E 68), (1, pv E o1), (2, .int x2), (3, pv E 53), (4, .int x4), (6, .int x6)]) dc_Fo_write_50 (Eq.refl 52) (Nat.le_of_ble_eq_true rfl) rfl ?_
      refine J_aload_n dc_Fo_write_52 (Eq.refl 53) 2 rfl ?_
      refine J_iload dc_Fo_write_53 (Eq.refl 55) 6 rfl ?_
      refine J_aload_n dc_Fo_write_55 (Eq.refl 56) 4 rfl ?_
      refine J_callSV (As := [pv E o1, .int x6, pv E 53]) (st := []) dc_Fo_write_56 (Eq.refl 59) lk_Fo_38 mi_Fo_writeAhead (Nat.le_of_ble_eq_true rfl) rfl (Nat.le_of_ble_eq_true rfl) (CV.mono h (fun σ5 h => ?_))
      refine J_sub [1, 2, 3, 4, 5, 0, 6] rfl ?_
      exact h
theorem b_Fo_write_59 {E : En_t} {d : Nat} {σ : S_t} {Q : Option Value → S_t → Prop} {o1 : Nat} {x2 : Int32} {x4 : Int32} {x5 : Int32} {x6 : Int32} (hk_o1 : kindP o1 = 11)
    (h : vp_in x6 500 ∧ ((¬ (gI σ (o1 + 1) x6.toNatClampNeg) = (3 : Int32) → CV E d m_Fo_writeBeginning [pv E o1, .int x6, pv E 53] σ (fun σ1 => JE E (d + 1) m_Fo_write 95 [(0, pv E 68), (1, pv E o1), (2, .int x2), (3, pv E 53), (4, .int x4), (5, .int x5), (6, .int x6)] [] σ1 Q)) ∧ ((gI σ (o1 + 1) x6.toNatClampNeg) = (3 : Int32) → vp_in x6 500 ∧ (CV E d m_Pr_putShortest [pv E 59, .long (gL σ (o1 + 7) x6.toNatClampNeg), pv E 53] σ (fun σ2 => JE E (d + 1) m_Fo_write 95 [(0, pv E 68), (1, pv E o1), (2, .int x2), (3, pv E 53), (4, .int x4), (5, .int x5), (6, .int x6)] [] σ2 Q))))) :
    JE E (d + 1) m_Fo_write 59 [(0, pv E 68), (1, pv E o1), (2, .int x2), (3, pv E 53), (4, .int x4), (5, .int x5), (6, .int x6)] [] σ Q := by
  refine J_aload_n dc_Fo_write_59 (Eq.refl 60) 1 rfl ?_
  refine J_getF (y := o1 + 1) dc_Fo_write_60 (Eq.refl 63) fl_Fo_42 (Nat.le_of_ble_eq_true rfl) hk_o1 (Or.inl rfl) rfl ?_
  refine J_iload dc_Fo_write_63 (Eq.refl 65) 6 rfl ?_
  obtain ⟨hg, h⟩ := h
  refine J_iald dc_Fo_write_65 (Eq.refl 66) (ak_Tr_0 hk_o1).1 (ak_Tr_0 hk_o1).2 hg ?_
  refine J_iconst (v := (3 : Int32)) dc_Fo_write_66 (Eq.refl 67) rfl ?_
  refine J_icmp_ne dc_Fo_write_67 (Eq.refl 70) rfl (fun hc => ?_) (fun hc => ?_)
  · have h := h.1 hc
    refine J_aload_n dc_Fo_write_88 (Eq.refl 89) 1 rfl ?_
    refine J_iload dc_Fo_write_89 (Eq.refl 91) 6 rfl ?_
    refine J_aload_n dc_Fo_write_91 (Eq.refl 92) 3 rfl ?_
    refine J_callSV (As := [pv E o1, .int x6, pv E 53]) (st := []) dc_Fo_write_92 (Eq.refl 95) lk_Fo_55 mi_Fo_writeBeginning (Nat.le_of_ble_eq_true rfl) rfl (Nat.le_of_ble_eq_true rfl) (CV.mono h (fun σ1 h => ?_))
    exact h
  · have h := h.2 hc
    refine J_aload_n dc_Fo_write_70 (Eq.refl 71) 0 rfl ?_
    refine J_getF (y := 59) dc_Fo_write_71 (Eq.refl 74) fl_Fo_9 (Nat.le_of_ble_eq_true rfl) rfl (Or.inr rfl) rfl ?_
    refine J_aload_n dc_Fo_write_74 (Eq.refl 75) 1 rfl ?_
    refine J_getF (y := o1 + 7) dc_Fo_write_75 (Eq.refl 78) fl_Fo_45 (Nat.le_of_ble_eq_true rfl) hk_o1 (Or.inl rfl) rfl ?_
    refine J_iload dc_Fo_write_78 (Eq.refl 80) 6 rfl ?_
    obtain ⟨hg, h⟩ := h
    refine J_lald dc_Fo_write_80 (Eq.refl 81) (ak_Tr_6 hk_o1).1 (ak_Tr_6 hk_o1).2 hg ?_
    refine J_aload_n dc_Fo_write_81 (Eq.refl 82) 3 rfl ?_
    refine J_callVV (As := [.long (gL σ (o1 + 7) x6.toNatClampNeg), pv E 53]) (st := []) dc_Fo_write_82 (Eq.refl 85) lk_Fo_49 mi_Pr_putShortest rfl (Nat.le_of_ble_eq_true rfl) rfl rfl (Nat.le_of_ble_eq_true rfl) rfl (Nat.le_of_ble_eq_true rfl) (CV.mono h (fun σ2 h => ?_))
    refine J_goto dc_Fo_write_85 rfl ?_
    exact h
theorem b_Fo_write_95 {E : En_t} {d : Nat} {σ : S_t} {Q : Option Value → S_t → Prop} {o1 : Nat} {x2 : Int32} {x4 : Int32} {x5 : Int32} {x6 : Int32} (hk_o1 : kindP o1 = 11)
    (h : vp_in x6 500 ∧ (((gI σ (o1 + 1) x6.toNatClampNeg) = (5 : Int32) → JE E (d + 1) m_Fo_write 118 [(0, pv E 68), (1, pv E o1), (2, .int x2), (3, pv E 53), (4, .int x4), (6, .int x6)] [] σ Q) ∧ (¬ (gI σ (o1 + 1) x6.toNatClampNeg) = (5 : Int32) → vp_in x6 500 ∧ ((¬ (gI σ (o1 + 1) x6.toNatClampNeg) = (6 : Int32) → JE E (d + 1) m_Fo_write 122 [(0, pv E 68), (1, pv E o1), (2, .int x2), (3, pv E 53), (4, .int x4), (5, .int x5), (6, .int x6)] [] σ Q) ∧ ((gI σ (o1 + 1) x6.toNatClampNeg) = (6 : Int32) → JE E (d + 1) m_Fo_write 118 [(0, pv E 68), (1, pv E o1), (2, .int x2), (3, pv E 53), (4, .int x4), (6, .int x6)] [] σ Q))))) :
    JE E (d + 1) m_Fo_write 95 [(0, pv E 68), (1, pv E o1), (2, .int x2), (3, pv E 53), (4, .int x4), (5, .int x5), (6, .int x6)] [] σ Q := by
  refine J_aload_n dc_Fo_write_95 (Eq.refl 96) 1 rfl ?_
  refine J_getF (y := o1 + 1) dc_Fo_write_96 (Eq.refl 99) fl_Fo_42 (Nat.le_of_ble_eq_true rfl) hk_o1 (Or.inl rfl) rfl ?_
  refine J_iload dc_Fo_write_99 (Eq.refl 101) 6 rfl ?_
  obtain ⟨hg, h⟩ := h
  refine J_iald dc_Fo_write_101 (Eq.refl 102) (ak_Tr_0 hk_o1).1 (ak_Tr_0 hk_o1).2 hg ?_
  refine J_iconst (v := (5 : Int32)) dc_Fo_write_102 (Eq.refl 103) rfl ?_
  refine J_icmp_eq dc_Fo_write_103 (Eq.refl 106) rfl (fun hc => ?_) (fun hc => ?_)
  · have h := h.1 hc
    refine J_sub [0, 1, 2, 3, 4, 6] rfl ?_
    exact h
  · have h := h.2 hc
    refine J_aload_n dc_Fo_write_106 (Eq.refl 107) 1 rfl ?_
    refine J_getF (y := o1 + 1) dc_Fo_write_107 (Eq.refl 110) fl_Fo_42 (Nat.le_of_ble_eq_true rfl) hk_o1 (Or.inl rfl) rfl ?_
    refine J_iload dc_Fo_write_110 (Eq.refl 112) 6 rfl ?_
    obtain ⟨hg, h⟩ := h
    refine J_iald dc_Fo_write_112 (Eq.refl 113) (ak_Tr_0 hk_o1).1 (ak_Tr_0 hk_o1).2 hg ?_
    refine J_bipush (v := (6 : Int32)) dc_Fo_write_113 (Eq.refl 115) rfl ?_
    refine J_icmp_ne dc_Fo_write_115 (Eq.refl 118) rfl (fun hc => ?_) (fun hc => ?_)
    · have h := h.1 hc
      exact h
    · have h := h.2 hc
      refine J_sub [0, 1, 2, 3, 4, 6] rfl ?_
      exact h
theorem b_Fo_write_118 {E : En_t} {d : Nat} {σ : S_t} {Q : Option Value → S_t → Prop} {o1 : Nat} {x2 : Int32} {x4 : Int32} {x6 : Int32} (hk_o1 : kindP o1 = 11)
    (h : JE E (d + 1) m_Fo_write 122 [(0, pv E 68), (1, pv E o1), (2, .int x2), (3, pv E 53), (4, .int x4), (5, .int x6), (6, .int x6)] [] σ Q) :
    JE E (d + 1) m_Fo_write 118 [(0, pv E 68), (1, pv E o1), (2, .int x2), (3, pv E 53), (4, .int x4), (6, .int x6)] [] σ Q := by
  refine J_iload dc_Fo_write_118 (Eq.refl 120) 5 rfl ?_
  refine J_istore (L' := [(5, .int x6), (0, pv E 68), (1, pv E o1), (2, .int x2), (3, pv E 53), (4, .int x4), (6, .int x6)]) dc_Fo_write_120 (Eq.refl 122) (Nat.le_of_ble_eq_true rfl) rfl ?_
  refine J_sub [1, 2, 3, 4, 5, 0, 6] rfl ?_
  exact h
theorem b_Fo_write_122 {E : En_t} {d : Nat} {σ : S_t} {Q : Option Value → S_t → Prop} {o1 : Nat} {x2 : Int32} {x4 : Int32} {x5 : Int32} {x6 : Int32} (hk_o1 : kindP o1 = 11)
    (h : JE E (d + 1) m_Fo_write 23 [(0, pv E 68), (1, pv E o1), (2, .int x2), (3, pv E 53), (4, .int x4), (5, .int x5), (6, .int (x6 + (1 : Int32)))] [] σ Q) :
    JE E (d + 1) m_Fo_write 122 [(0, pv E 68), (1, pv E o1), (2, .int x2), (3, pv E 53), (4, .int x4), (5, .int x5), (6, .int x6)] [] σ Q := by
  refine J_iinc (v := x6 + (1 : Int32)) (L' := [(6, .int (x6 + (1 : Int32))), (0, pv E 68), (1, pv E o1), (2, .int x2), (3, pv E 53), (4, .int x4), (5, .int x5)]) dc_Fo_write_122 (Eq.refl 125) 6 rfl rfl (Nat.le_of_ble_eq_true rfl) rfl ?_
  refine J_goto dc_Fo_write_125 rfl ?_
  refine J_sub [1, 2, 3, 4, 5, 6, 0] rfl ?_
  exact h
theorem dc_Fo_closeUpTo_0 : decode m_Fo_closeUpTo.2.1 0 = .ok (.iload_n 1, 1) := by decide +kernel
theorem dc_Fo_closeUpTo_1 : decode m_Fo_closeUpTo.2.1 1 = .ok (.istore 4, 2) := by decide +kernel
theorem dc_Fo_closeUpTo_3 : decode m_Fo_closeUpTo.2.1 3 = .ok (.iconst 0, 1) := by decide +kernel
theorem dc_Fo_closeUpTo_4 : decode m_Fo_closeUpTo.2.1 4 = .ok (.istore 5, 2) := by decide +kernel
theorem dc_Fo_closeUpTo_6 : decode m_Fo_closeUpTo.2.1 6 = .ok (.iload 5, 2) := by decide +kernel
theorem dc_Fo_closeUpTo_8 : decode m_Fo_closeUpTo.2.1 8 = .ok (.bipush 30, 2) := by decide +kernel
theorem dc_Fo_closeUpTo_10 : decode m_Fo_closeUpTo.2.1 10 = .ok (.if_icmp .gt 53, 3) := by decide +kernel
theorem dc_Fo_closeUpTo_13 : decode m_Fo_closeUpTo.2.1 13 = .ok (.iload 4, 2) := by decide +kernel
theorem dc_Fo_closeUpTo_15 : decode m_Fo_closeUpTo.2.1 15 = .ok (.iconst (-1), 1) := by decide +kernel
theorem dc_Fo_closeUpTo_16 : decode m_Fo_closeUpTo.2.1 16 = .ok (.if_icmp .eq 47, 3) := by decide +kernel
theorem dc_Fo_closeUpTo_19 : decode m_Fo_closeUpTo.2.1 19 = .ok (.iload 4, 2) := by decide +kernel
theorem dc_Fo_closeUpTo_21 : decode m_Fo_closeUpTo.2.1 21 = .ok (.iload_n 2, 1) := by decide +kernel
theorem dc_Fo_closeUpTo_22 : decode m_Fo_closeUpTo.2.1 22 = .ok (.if_icmp .eq 41, 3) := by decide +kernel
theorem dc_Fo_closeUpTo_25 : decode m_Fo_closeUpTo.2.1 25 = .ok (.aload_n 3, 1) := by decide +kernel
theorem dc_Fo_closeUpTo_26 : decode m_Fo_closeUpTo.2.1 26 = .ok (.aload_n 0, 1) := by decide +kernel
theorem dc_Fo_closeUpTo_27 : decode m_Fo_closeUpTo.2.1 27 = .ok (.getfield 42, 3) := by decide +kernel
theorem dc_Fo_closeUpTo_30 : decode m_Fo_closeUpTo.2.1 30 = .ok (.iload 4, 2) := by decide +kernel
theorem dc_Fo_closeUpTo_32 : decode m_Fo_closeUpTo.2.1 32 = .ok (.iaload, 1) := by decide +kernel
theorem dc_Fo_closeUpTo_33 : decode m_Fo_closeUpTo.2.1 33 = .ok (.bipush 6, 2) := by decide +kernel
theorem dc_Fo_closeUpTo_35 : decode m_Fo_closeUpTo.2.1 35 = .ok (.if_icmp .ne 8, 3) := by decide +kernel
theorem dc_Fo_closeUpTo_38 : decode m_Fo_closeUpTo.2.1 38 = .ok (.bipush 125, 2) := by decide +kernel
theorem dc_Fo_closeUpTo_40 : decode m_Fo_closeUpTo.2.1 40 = .ok (.goto 5, 3) := by decide +kernel
theorem dc_Fo_closeUpTo_43 : decode m_Fo_closeUpTo.2.1 43 = .ok (.bipush 93, 2) := by decide +kernel
theorem dc_Fo_closeUpTo_45 : decode m_Fo_closeUpTo.2.1 45 = .ok (.invokevirtual 58, 3) := by decide +kernel
theorem dc_Fo_closeUpTo_48 : decode m_Fo_closeUpTo.2.1 48 = .ok (.aload_n 0, 1) := by decide +kernel
theorem dc_Fo_closeUpTo_49 : decode m_Fo_closeUpTo.2.1 49 = .ok (.getfield 31, 3) := by decide +kernel
theorem dc_Fo_closeUpTo_52 : decode m_Fo_closeUpTo.2.1 52 = .ok (.iload 4, 2) := by decide +kernel
theorem dc_Fo_closeUpTo_54 : decode m_Fo_closeUpTo.2.1 54 = .ok (.iaload, 1) := by decide +kernel
theorem dc_Fo_closeUpTo_55 : decode m_Fo_closeUpTo.2.1 55 = .ok (.istore 4, 2) := by decide +kernel
theorem dc_Fo_closeUpTo_57 : decode m_Fo_closeUpTo.2.1 57 = .ok (.iinc 5 1, 3) := by decide +kernel
theorem dc_Fo_closeUpTo_60 : decode m_Fo_closeUpTo.2.1 60 = .ok (.goto (-54), 3) := by decide +kernel
theorem dc_Fo_closeUpTo_63 : decode m_Fo_closeUpTo.2.1 63 = .ok (.iload 4, 2) := by decide +kernel
theorem dc_Fo_closeUpTo_65 : decode m_Fo_closeUpTo.2.1 65 = .ok (.ireturn, 1) := by decide +kernel
theorem b_Fo_closeUpTo_0 {E : En_t} {d : Nat} {σ : S_t} {Q : Option Value → S_t → Prop} {o0 : Nat} {x1 : Int32} {x2 : Int32} (hk_o0 : kindP o0 = 11)
    (h : JE E (d + 1) m_Fo_closeUpTo 6 [(0, pv E o0), (2, .int x2), (3, pv E 53), (4, .int x1), (5, .int (0 : Int32))] [] σ Q) :
    JE E (d + 1) m_Fo_closeUpTo 0 [(0, pv E o0), (1, .int x1), (2, .int x2), (3, pv E 53)] [] σ Q := by
  refine J_iload_n dc_Fo_closeUpTo_0 (Eq.refl 1) 1 rfl ?_
  refine J_istore (L' := [(4, .int x1), (0, pv E o0), (1, .int x1), (2, .int x2), (3, pv E 53)]) dc_Fo_closeUpTo_1 (Eq.refl 3) (Nat.le_of_ble_eq_true rfl) rfl ?_
  refine J_iconst (v := (0 : Int32)) dc_Fo_closeUpTo_3 (Eq.refl 4) rfl ?_
  refine J_istore (L' := [(5, .int (0 : Int32)), (4, .int x1), (0, pv E o0), (1, .int x1), (2, .int x2), (3, pv E 53)]) dc_Fo_closeUpTo_4 (Eq.refl 6) (Nat.le_of_ble_eq_true rfl) rfl ?_
  refine J_sub [2, 4, 5, 1, 0] rfl ?_
  exact h
theorem b_Fo_closeUpTo_6 {E : En_t} {d : Nat} {σ : S_t} {Q : Option Value → S_t → Prop} {o0 : Nat} {x2 : Int32} {x4 : Int32} {x5 : Int32} (hk_o0 : kindP o0 = 11)
    (h : ((30 : Int32) < x5 → Q (some (.int x4)) σ) ∧ (¬ (30 : Int32) < x5 → (x4 = (-1 : Int32) → Q (some (.int x4)) σ) ∧ (¬ x4 = (-1 : Int32) → (x4 = x2 → Q (some (.int x4)) σ) ∧ (¬ x4 = x2 → vp_in x4 500 ∧ ((¬ (gI σ (o0 + 1) x4.toNatClampNeg) = (6 : Int32) → JE E (d + 1) m_Fo_closeUpTo 45 [(0, pv E o0), (2, .int x2), (3, pv E 53), (4, .int x4), (5, .int x5)] [.int (93 : Int32), pv E 53] σ Q) ∧ ((gI σ (o0 + 1) x4.toNatClampNeg) = (6 : Int32) → JE E (d + 1) m_Fo_closeUpTo 45 [(0, pv E o0), (2, .int x2), (3, pv E 53), (4, .int x4), (5, .int x5)] [.int (125 : Int32), pv E 53] σ Q)))))) :
    JE E (d + 1) m_Fo_closeUpTo 6 [(0, pv E o0), (2, .int x2), (3, pv E 53), (4, .int x4), (5, .int x5)] [] σ Q := by
  refine J_iload dc_Fo_closeUpTo_6 (Eq.refl 8) 4 rfl ?_
  refine J_bipush (v := (30 : Int32)) dc_Fo_closeUpTo_8 (Eq.refl 10) rfl ?_
  refine J_icmp_gt dc_Fo_closeUpTo_10 (Eq.refl 13) rfl (fun hc => ?_) (fun hc => ?_)
  · have h := h.1 hc
    refine J_iload dc_Fo_closeUpTo_63 (Eq.refl 65) 3 rfl ?_
    exact J_iret dc_Fo_closeUpTo_65 rfl h
  · have h := h.2 hc
    refine J_iload dc_Fo_closeUpTo_13 (Eq.refl 15) 3 rfl ?_
    refine J_iconst (v := (-1 : Int32)) dc_Fo_closeUpTo_15 (Eq.refl 16) rfl ?_
    refine J_icmp_eq dc_Fo_closeUpTo_16 (Eq.refl 19) rfl (fun hc => ?_) (fun hc => ?_)
    · have h := h.1 hc
      refine J_iload dc_Fo_closeUpTo_63 (Eq.refl 65) 3 rfl ?_
      exact J_iret dc_Fo_closeUpTo_65 rfl h
    · have h := h.2 hc
      refine J_iload dc_Fo_closeUpTo_19 (Eq.refl 21) 3 rfl ?_
      refine J_iload_n dc_Fo_closeUpTo_21 (Eq.refl 22) 1 rfl ?_
      refine J_icmp_eq dc_Fo_closeUpTo_22 (Eq.refl 25) rfl (fun hc => ?_) (fun hc => ?_)
      · have h := h.1 hc
        refine J_iload dc_Fo_closeUpTo_63 (Eq.refl 65) 3 rfl ?_
        exact J_iret dc_Fo_closeUpTo_65 rfl h
      · have h := h.2 hc
        refine J_aload_n dc_Fo_closeUpTo_25 (Eq.refl 26) 2 rfl ?_
        refine J_aload_n dc_Fo_closeUpTo_26 (Eq.refl 27) 0 rfl ?_
        refine J_getF (y := o0 + 1) dc_Fo_closeUpTo_27 (Eq.refl 30) fl_Fo_42 (Nat.le_of_ble_eq_true rfl) hk_o0 (Or.inl rfl) rfl ?_
        refine J_iload dc_Fo_closeUpTo_30 (Eq.refl 32) 3 rfl ?_
        obtain ⟨hg, h⟩ := h
        refine J_iald dc_Fo_closeUpTo_32 (Eq.refl 33) (ak_Tr_0 hk_o0).1 (ak_Tr_0 hk_o0).2 hg ?_
        refine J_bipush (v := (6 : Int32)) dc_Fo_closeUpTo_33 (Eq.refl 35) rfl ?_
        refine J_icmp_ne dc_Fo_closeUpTo_35 (Eq.refl 38) rfl (fun hc => ?_) (fun hc => ?_)
        · have h := h.1 hc
          refine J_bipush (v := (93 : Int32)) dc_Fo_closeUpTo_43 (Eq.refl 45) rfl ?_
          exact h
        · have h := h.2 hc
          refine J_bipush (v := (125 : Int32)) dc_Fo_closeUpTo_38 (Eq.refl 40) rfl ?_
          refine J_goto dc_Fo_closeUpTo_40 rfl ?_
          exact h
theorem b_Fo_closeUpTo_45 {E : En_t} {d : Nat} {σ : S_t} {Q : Option Value → S_t → Prop} {o0 : Nat} {x2 : Int32} {x4 : Int32} {x5 : Int32} {s0 : Int32} (hk_o0 : kindP o0 = 11)
    (h : CV E d m_Ou_put [pv E 53, .int s0] σ (fun σ1 => vp_in x4 500 ∧ (JE E (d + 1) m_Fo_closeUpTo 6 [(0, pv E o0), (2, .int x2), (3, pv E 53), (4, .int (gI σ1 (o0 + 3) x4.toNatClampNeg)), (5, .int (x5 + (1 : Int32)))] [] σ1 Q))) :
    JE E (d + 1) m_Fo_closeUpTo 45 [(0, pv E o0), (2, .int x2), (3, pv E 53), (4, .int x4), (5, .int x5)] [.int s0, pv E 53] σ Q := by
  refine J_callVV (As := [.int s0]) (st := []) dc_Fo_closeUpTo_45 (Eq.refl 48) lk_Fo_58 mi_Ou_put rfl (Nat.le_of_ble_eq_true rfl) rfl rfl (Nat.le_of_ble_eq_true rfl) rfl (Nat.le_of_ble_eq_true rfl) (CV.mono h (fun σ1 h => ?_))
  refine J_aload_n dc_Fo_closeUpTo_48 (Eq.refl 49) 0 rfl ?_
  refine J_getF (y := o0 + 3) dc_Fo_closeUpTo_49 (Eq.refl 52) fl_Fo_31 (Nat.le_of_ble_eq_true rfl) hk_o0 (Or.inl rfl) rfl ?_
  refine J_iload dc_Fo_closeUpTo_52 (Eq.refl 54) 3 rfl ?_
  obtain ⟨hg, h⟩ := h
  refine J_iald dc_Fo_closeUpTo_54 (Eq.refl 55) (ak_Tr_2 hk_o0).1 (ak_Tr_2 hk_o0).2 hg ?_
  refine J_istore (L' := [(4, .int (gI σ1 (o0 + 3) x4.toNatClampNeg)), (0, pv E o0), (2, .int x2), (3, pv E 53), (5, .int x5)]) dc_Fo_closeUpTo_55 (Eq.refl 57) (Nat.le_of_ble_eq_true rfl) rfl ?_
  refine J_iinc (v := x5 + (1 : Int32)) (L' := [(5, .int (x5 + (1 : Int32))), (4, .int (gI σ1 (o0 + 3) x4.toNatClampNeg)), (0, pv E o0), (2, .int x2), (3, pv E 53)]) dc_Fo_closeUpTo_57 (Eq.refl 60) 4 rfl rfl (Nat.le_of_ble_eq_true rfl) rfl ?_
  refine J_goto dc_Fo_closeUpTo_60 rfl ?_
  refine J_sub [2, 3, 4, 1, 0] rfl ?_
  exact h
theorem dc_Fo_writeAhead_0 : decode m_Fo_writeAhead.2.1 0 = .ok (.aload_n 0, 1) := by decide +kernel
theorem dc_Fo_writeAhead_1 : decode m_Fo_writeAhead.2.1 1 = .ok (.getfield 64, 3) := by decide +kernel
theorem dc_Fo_writeAhead_4 : decode m_Fo_writeAhead.2.1 4 = .ok (.iload_n 1, 1) := by decide +kernel
theorem dc_Fo_writeAhead_5 : decode m_Fo_writeAhead.2.1 5 = .ok (.iaload, 1) := by decide +kernel
theorem dc_Fo_writeAhead_6 : decode m_Fo_writeAhead.2.1 6 = .ok (.ifCond .le 9, 3) := by decide +kernel
theorem dc_Fo_writeAhead_9 : decode m_Fo_writeAhead.2.1 9 = .ok (.aload_n 2, 1) := by decide +kernel
theorem dc_Fo_writeAhead_10 : decode m_Fo_writeAhead.2.1 10 = .ok (.bipush 44, 2) := by decide +kernel
theorem dc_Fo_writeAhead_12 : decode m_Fo_writeAhead.2.1 12 = .ok (.invokevirtual 58, 3) := by decide +kernel
theorem dc_Fo_writeAhead_15 : decode m_Fo_writeAhead.2.1 15 = .ok (.aload_n 0, 1) := by decide +kernel
theorem dc_Fo_writeAhead_16 : decode m_Fo_writeAhead.2.1 16 = .ok (.iload_n 1, 1) := by decide +kernel
theorem dc_Fo_writeAhead_17 : decode m_Fo_writeAhead.2.1 17 = .ok (.invokevirtual 67, 3) := by decide +kernel
theorem dc_Fo_writeAhead_20 : decode m_Fo_writeAhead.2.1 20 = .ok (.ifCond .eq 26, 3) := by decide +kernel
theorem dc_Fo_writeAhead_23 : decode m_Fo_writeAhead.2.1 23 = .ok (.aload_n 0, 1) := by decide +kernel
theorem dc_Fo_writeAhead_24 : decode m_Fo_writeAhead.2.1 24 = .ok (.aload_n 0, 1) := by decide +kernel
theorem dc_Fo_writeAhead_25 : decode m_Fo_writeAhead.2.1 25 = .ok (.getfield 71, 3) := by decide +kernel
theorem dc_Fo_writeAhead_28 : decode m_Fo_writeAhead.2.1 28 = .ok (.iload_n 1, 1) := by decide +kernel
theorem dc_Fo_writeAhead_29 : decode m_Fo_writeAhead.2.1 29 = .ok (.iaload, 1) := by decide +kernel
theorem dc_Fo_writeAhead_30 : decode m_Fo_writeAhead.2.1 30 = .ok (.aload_n 0, 1) := by decide +kernel
theorem dc_Fo_writeAhead_31 : decode m_Fo_writeAhead.2.1 31 = .ok (.getfield 74, 3) := by decide +kernel
theorem dc_Fo_writeAhead_34 : decode m_Fo_writeAhead.2.1 34 = .ok (.iload_n 1, 1) := by decide +kernel
theorem dc_Fo_writeAhead_35 : decode m_Fo_writeAhead.2.1 35 = .ok (.iaload, 1) := by decide +kernel
theorem dc_Fo_writeAhead_36 : decode m_Fo_writeAhead.2.1 36 = .ok (.aload_n 2, 1) := by decide +kernel
theorem dc_Fo_writeAhead_37 : decode m_Fo_writeAhead.2.1 37 = .ok (.invokestatic 77, 3) := by decide +kernel
theorem dc_Fo_writeAhead_40 : decode m_Fo_writeAhead.2.1 40 = .ok (.aload_n 2, 1) := by decide +kernel
theorem dc_Fo_writeAhead_41 : decode m_Fo_writeAhead.2.1 41 = .ok (.bipush 58, 2) := by decide +kernel
theorem dc_Fo_writeAhead_43 : decode m_Fo_writeAhead.2.1 43 = .ok (.invokevirtual 58, 3) := by decide +kernel
theorem dc_Fo_writeAhead_46 : decode m_Fo_writeAhead.2.1 46 = .ok (.return_, 1) := by decide +kernel
theorem b_Fo_writeAhead_0 {E : En_t} {d : Nat} {σ : S_t} {Q : Option Value → S_t → Prop} {o0 : Nat} {x1 : Int32} (hk_o0 : kindP o0 = 11)
    (h : vp_in x1 500 ∧ (((gI σ (o0 + 4) x1.toNatClampNeg) ≤ 0 → JE E (d + 1) m_Fo_writeAhead 15 [(0, pv E o0), (1, .int x1), (2, pv E 53)] [] σ Q) ∧ (¬ (gI σ (o0 + 4) x1.toNatClampNeg) ≤ 0 → CV E d m_Ou_put [pv E 53, .int (44 : Int32)] σ (fun σ1 => JE E (d + 1) m_Fo_writeAhead 15 [(0, pv E o0), (1, .int x1), (2, pv E 53)] [] σ1 Q)))) :
    JE E (d + 1) m_Fo_writeAhead 0 [(0, pv E o0), (1, .int x1), (2, pv E 53)] [] σ Q := by
  refine J_aload_n dc_Fo_writeAhead_0 (Eq.refl 1) 0 rfl ?_
  refine J_getF (y := o0 + 4) dc_Fo_writeAhead_1 (Eq.refl 4) fl_Fo_64 (Nat.le_of_ble_eq_true rfl) hk_o0 (Or.inl rfl) rfl ?_
  refine J_iload_n dc_Fo_writeAhead_4 (Eq.refl 5) 1 rfl ?_
  obtain ⟨hg, h⟩ := h
  refine J_iald dc_Fo_writeAhead_5 (Eq.refl 6) (ak_Tr_3 hk_o0).1 (ak_Tr_3 hk_o0).2 hg ?_
  refine J_if_le dc_Fo_writeAhead_6 (Eq.refl 9) rfl (fun hc => ?_) (fun hc => ?_)
  · have h := h.1 hc
    exact h
  · have h := h.2 hc
    refine J_aload_n dc_Fo_writeAhead_9 (Eq.refl 10) 2 rfl ?_
    refine J_bipush (v := (44 : Int32)) dc_Fo_writeAhead_10 (Eq.refl 12) rfl ?_
    refine J_callVV (As := [.int (44 : Int32)]) (st := []) dc_Fo_writeAhead_12 (Eq.refl 15) lk_Fo_58 mi_Ou_put rfl (Nat.le_of_ble_eq_true rfl) rfl rfl (Nat.le_of_ble_eq_true rfl) rfl (Nat.le_of_ble_eq_true rfl) (CV.mono h (fun σ1 h => ?_))
    exact h
theorem b_Fo_writeAhead_15 {E : En_t} {d : Nat} {σ : S_t} {Q : Option Value → S_t → Prop} {o0 : Nat} {x1 : Int32} (hk_o0 : kindP o0 = 11)
    (h : CI E d m_Tr_isNamed [pv E o0, .int x1] σ (fun r2 σ1 => (r2 = 0 → Q none σ1) ∧ (¬ r2 = 0 → vp_in x1 500 ∧ (vp_in x1 500 ∧ (CV E d m_Fo_writeString [pv E o0, .int (gI σ1 (o0 + 8) x1.toNatClampNeg), .int (gI σ1 (o0 + 9) x1.toNatClampNeg), pv E 53] σ1 (fun σ3 => CV E d m_Ou_put [pv E 53, .int (58 : Int32)] σ3 (fun σ4 => Q none σ4))))))) :
    JE E (d + 1) m_Fo_writeAhead 15 [(0, pv E o0), (1, .int x1), (2, pv E 53)] [] σ Q := by
  refine J_aload_n dc_Fo_writeAhead_15 (Eq.refl 16) 0 rfl ?_
  refine J_iload_n dc_Fo_writeAhead_16 (Eq.refl 17) 1 rfl ?_
  refine J_callVI (As := [.int x1]) (st := []) dc_Fo_writeAhead_17 (Eq.refl 20) lk_Fo_67 mi_Tr_isNamed hk_o0 (Nat.le_of_ble_eq_true rfl) rfl rfl (Nat.le_of_ble_eq_true rfl) rfl (Nat.le_of_ble_eq_true rfl) (CI.mono h (fun r2 σ1 h => ?_))
  refine J_if_eq dc_Fo_writeAhead_20 (Eq.refl 23) rfl (fun hc => ?_) (fun hc => ?_)
  · have h := h.1 hc
    exact J_vret dc_Fo_writeAhead_46 rfl h
  · have h := h.2 hc
    refine J_aload_n dc_Fo_writeAhead_23 (Eq.refl 24) 0 rfl ?_
    refine J_aload_n dc_Fo_writeAhead_24 (Eq.refl 25) 0 rfl ?_
    refine J_getF (y := o0 + 8) dc_Fo_writeAhead_25 (Eq.refl 28) fl_Fo_71 (Nat.le_of_ble_eq_true rfl) hk_o0 (Or.inl rfl) rfl ?_
    refine J_iload_n dc_Fo_writeAhead_28 (Eq.refl 29) 1 rfl ?_
    obtain ⟨hg, h⟩ := h
    refine J_iald dc_Fo_writeAhead_29 (Eq.refl 30) (ak_Tr_7 hk_o0).1 (ak_Tr_7 hk_o0).2 hg ?_
    refine J_aload_n dc_Fo_writeAhead_30 (Eq.refl 31) 0 rfl ?_
    refine J_getF (y := o0 + 9) dc_Fo_writeAhead_31 (Eq.refl 34) fl_Fo_74 (Nat.le_of_ble_eq_true rfl) hk_o0 (Or.inl rfl) rfl ?_
    refine J_iload_n dc_Fo_writeAhead_34 (Eq.refl 35) 1 rfl ?_
    obtain ⟨hg, h⟩ := h
    refine J_iald dc_Fo_writeAhead_35 (Eq.refl 36) (ak_Tr_8 hk_o0).1 (ak_Tr_8 hk_o0).2 hg ?_
    refine J_aload_n dc_Fo_writeAhead_36 (Eq.refl 37) 2 rfl ?_
    refine J_callSV (As := [pv E o0, .int (gI σ1 (o0 + 8) x1.toNatClampNeg), .int (gI σ1 (o0 + 9) x1.toNatClampNeg), pv E 53]) (st := []) dc_Fo_writeAhead_37 (Eq.refl 40) lk_Fo_77 mi_Fo_writeString (Nat.le_of_ble_eq_true rfl) rfl (Nat.le_of_ble_eq_true rfl) (CV.mono h (fun σ3 h => ?_))
    refine J_aload_n dc_Fo_writeAhead_40 (Eq.refl 41) 2 rfl ?_
    refine J_bipush (v := (58 : Int32)) dc_Fo_writeAhead_41 (Eq.refl 43) rfl ?_
    refine J_callVV (As := [.int (58 : Int32)]) (st := []) dc_Fo_writeAhead_43 (Eq.refl 46) lk_Fo_58 mi_Ou_put rfl (Nat.le_of_ble_eq_true rfl) rfl rfl (Nat.le_of_ble_eq_true rfl) rfl (Nat.le_of_ble_eq_true rfl) (CV.mono h (fun σ4 h => ?_))
    exact J_vret dc_Fo_writeAhead_46 rfl h
theorem dc_Fo_writeString_0 : decode m_Fo_writeString.2.1 0 = .ok (.aload_n 0, 1) := by decide +kernel
theorem dc_Fo_writeString_1 : decode m_Fo_writeString.2.1 1 = .ok (.getfield 97, 3) := by decide +kernel
theorem dc_Fo_writeString_4 : decode m_Fo_writeString.2.1 4 = .ok (.iload_n 1, 1) := by decide +kernel
theorem dc_Fo_writeString_5 : decode m_Fo_writeString.2.1 5 = .ok (.iload_n 2, 1) := by decide +kernel
theorem dc_Fo_writeString_6 : decode m_Fo_writeString.2.1 6 = .ok (.iadd, 1) := by decide +kernel
theorem dc_Fo_writeString_7 : decode m_Fo_writeString.2.1 7 = .ok (.invokestatic 25, 3) := by decide +kernel
theorem dc_Fo_writeString_10 : decode m_Fo_writeString.2.1 10 = .ok (.istore 4, 2) := by decide +kernel
theorem dc_Fo_writeString_12 : decode m_Fo_writeString.2.1 12 = .ok (.aload_n 3, 1) := by decide +kernel
theorem dc_Fo_writeString_13 : decode m_Fo_writeString.2.1 13 = .ok (.bipush 34, 2) := by decide +kernel
theorem dc_Fo_writeString_15 : decode m_Fo_writeString.2.1 15 = .ok (.invokevirtual 58, 3) := by decide +kernel
theorem dc_Fo_writeString_18 : decode m_Fo_writeString.2.1 18 = .ok (.iload_n 1, 1) := by decide +kernel
theorem dc_Fo_writeString_19 : decode m_Fo_writeString.2.1 19 = .ok (.istore 5, 2) := by decide +kernel
theorem dc_Fo_writeString_21 : decode m_Fo_writeString.2.1 21 = .ok (.iload 5, 2) := by decide +kernel
theorem dc_Fo_writeString_23 : decode m_Fo_writeString.2.1 23 = .ok (.iload 4, 2) := by decide +kernel
theorem dc_Fo_writeString_25 : decode m_Fo_writeString.2.1 25 = .ok (.if_icmp .ge 20, 3) := by decide +kernel
theorem dc_Fo_writeString_28 : decode m_Fo_writeString.2.1 28 = .ok (.aload_n 0, 1) := by decide +kernel
theorem dc_Fo_writeString_29 : decode m_Fo_writeString.2.1 29 = .ok (.getfield 100, 3) := by decide +kernel
theorem dc_Fo_writeString_32 : decode m_Fo_writeString.2.1 32 = .ok (.iload 5, 2) := by decide +kernel
theorem dc_Fo_writeString_34 : decode m_Fo_writeString.2.1 34 = .ok (.iaload, 1) := by decide +kernel
theorem dc_Fo_writeString_35 : decode m_Fo_writeString.2.1 35 = .ok (.aload_n 3, 1) := by decide +kernel
theorem dc_Fo_writeString_36 : decode m_Fo_writeString.2.1 36 = .ok (.invokestatic 103, 3) := by decide +kernel
theorem dc_Fo_writeString_39 : decode m_Fo_writeString.2.1 39 = .ok (.iinc 5 1, 3) := by decide +kernel
theorem dc_Fo_writeString_42 : decode m_Fo_writeString.2.1 42 = .ok (.goto (-21), 3) := by decide +kernel
theorem dc_Fo_writeString_45 : decode m_Fo_writeString.2.1 45 = .ok (.aload_n 3, 1) := by decide +kernel
theorem dc_Fo_writeString_46 : decode m_Fo_writeString.2.1 46 = .ok (.bipush 34, 2) := by decide +kernel
theorem dc_Fo_writeString_48 : decode m_Fo_writeString.2.1 48 = .ok (.invokevirtual 58, 3) := by decide +kernel
theorem dc_Fo_writeString_51 : decode m_Fo_writeString.2.1 51 = .ok (.return_, 1) := by decide +kernel
theorem b_Fo_writeString_0 {E : En_t} {d : Nat} {σ : S_t} {Q : Option Value → S_t → Prop} {o0 : Nat} {x1 : Int32} {x2 : Int32} (hk_o0 : kindP o0 = 11)
    (h : ∀ r1, r1 = mnI (gI σ o0 11) (x1 + x2) → (CV E d m_Ou_put [pv E 53, .int (34 : Int32)] σ (fun σ2 => JE E (d + 1) m_Fo_writeString 21 [(0, pv E o0), (3, pv E 53), (4, .int r1), (5, .int x1)] [] σ2 Q))) :
    JE E (d + 1) m_Fo_writeString 0 [(0, pv E o0), (1, .int x1), (2, .int x2), (3, pv E 53)] [] σ Q := by
  refine J_aload_n dc_Fo_writeString_0 (Eq.refl 1) 0 rfl ?_
  refine J_getI dc_Fo_writeString_1 (Eq.refl 4) fl_Fo_97 (Nat.le_of_ble_eq_true rfl) hk_o0 (Or.inl rfl) ?_
  refine J_iload_n dc_Fo_writeString_4 (Eq.refl 5) 1 rfl ?_
  refine J_iload_n dc_Fo_writeString_5 (Eq.refl 6) 2 rfl ?_
  refine J_iadd dc_Fo_writeString_6 (Eq.refl 7) ?_
  refine J_mmin dc_Fo_writeString_7 (Eq.refl 10) lk_Fo_25 (Nat.le_of_ble_eq_true rfl) (fun r1 er1 => ?_)
  have h := h r1 er1
  refine J_istore (L' := [(4, .int r1), (0, pv E o0), (1, .int x1), (2, .int x2), (3, pv E 53)]) dc_Fo_writeString_10 (Eq.refl 12) (Nat.le_of_ble_eq_true rfl) rfl ?_
  refine J_aload_n dc_Fo_writeString_12 (Eq.refl 13) 4 rfl ?_
  refine J_bipush (v := (34 : Int32)) dc_Fo_writeString_13 (Eq.refl 15) rfl ?_
  refine J_callVV (As := [.int (34 : Int32)]) (st := []) dc_Fo_writeString_15 (Eq.refl 18) lk_Fo_58 mi_Ou_put rfl (Nat.le_of_ble_eq_true rfl) rfl rfl (Nat.le_of_ble_eq_true rfl) rfl (Nat.le_of_ble_eq_true rfl) (CV.mono h (fun σ2 h => ?_))
  refine J_iload_n dc_Fo_writeString_18 (Eq.refl 19) 2 rfl ?_
  refine J_istore (L' := [(5, .int x1), (4, .int r1), (0, pv E o0), (1, .int x1), (2, .int x2), (3, pv E 53)]) dc_Fo_writeString_19 (Eq.refl 21) (Nat.le_of_ble_eq_true rfl) rfl ?_
  refine J_sub [2, 5, 1, 0] rfl ?_
  exact h
theorem b_Fo_writeString_21 {E : En_t} {d : Nat} {σ : S_t} {Q : Option Value → S_t → Prop} {o0 : Nat} {x4 : Int32} {x5 : Int32} (hk_o0 : kindP o0 = 11)
    (h : (x4 ≤ x5 → CV E d m_Ou_put [pv E 53, .int (34 : Int32)] σ (fun σ1 => Q none σ1)) ∧ (¬ x4 ≤ x5 → vp_in x5 4000 ∧ (CV E d m_Fo_writeCharacter [.int (gI σ (o0 + 11) x5.toNatClampNeg), pv E 53] σ (fun σ2 => JE E (d + 1) m_Fo_writeString 21 [(0, pv E o0), (3, pv E 53), (4, .int x4), (5, .int (x5 + (1 : Int32)))] [] σ2 Q)))) :
    JE E (d + 1) m_Fo_writeString 21 [(0, pv E o0), (3, pv E 53), (4, .int x4), (5, .int x5)] [] σ Q := by
  refine J_iload dc_Fo_writeString_21 (Eq.refl 23) 3 rfl ?_
  refine J_iload dc_Fo_writeString_23 (Eq.refl 25) 2 rfl ?_
  refine J_icmp_ge dc_Fo_writeString_25 (Eq.refl 28) rfl (fun hc => ?_) (fun hc => ?_)
  · have h := h.1 hc
    refine J_aload_n dc_Fo_writeString_45 (Eq.refl 46) 1 rfl ?_
    refine J_bipush (v := (34 : Int32)) dc_Fo_writeString_46 (Eq.refl 48) rfl ?_
    refine J_callVV (As := [.int (34 : Int32)]) (st := []) dc_Fo_writeString_48 (Eq.refl 51) lk_Fo_58 mi_Ou_put rfl (Nat.le_of_ble_eq_true rfl) rfl rfl (Nat.le_of_ble_eq_true rfl) rfl (Nat.le_of_ble_eq_true rfl) (CV.mono h (fun σ1 h => ?_))
    exact J_vret dc_Fo_writeString_51 rfl h
  · have h := h.2 hc
    refine J_aload_n dc_Fo_writeString_28 (Eq.refl 29) 0 rfl ?_
    refine J_getF (y := o0 + 11) dc_Fo_writeString_29 (Eq.refl 32) fl_Fo_100 (Nat.le_of_ble_eq_true rfl) hk_o0 (Or.inl rfl) rfl ?_
    refine J_iload dc_Fo_writeString_32 (Eq.refl 34) 3 rfl ?_
    obtain ⟨hg, h⟩ := h
    refine J_iald dc_Fo_writeString_34 (Eq.refl 35) (ak_Tr_10 hk_o0).1 (ak_Tr_10 hk_o0).2 hg ?_
    refine J_aload_n dc_Fo_writeString_35 (Eq.refl 36) 1 rfl ?_
    refine J_callSV (As := [.int (gI σ (o0 + 11) x5.toNatClampNeg), pv E 53]) (st := []) dc_Fo_writeString_36 (Eq.refl 39) lk_Fo_103 mi_Fo_writeCharacter (Nat.le_of_ble_eq_true rfl) rfl (Nat.le_of_ble_eq_true rfl) (CV.mono h (fun σ2 h => ?_))
    refine J_iinc (v := x5 + (1 : Int32)) (L' := [(5, .int (x5 + (1 : Int32))), (0, pv E o0), (3, pv E 53), (4, .int x4)]) dc_Fo_writeString_39 (Eq.refl 42) 3 rfl rfl (Nat.le_of_ble_eq_true rfl) rfl ?_
    refine J_goto dc_Fo_writeString_42 rfl ?_
    refine J_sub [1, 2, 3, 0] rfl ?_
    exact h
theorem dc_Fo_writeCharacter_0 : decode m_Fo_writeCharacter.2.1 0 = .ok (.iload_n 0, 1) := by decide +kernel
theorem dc_Fo_writeCharacter_1 : decode m_Fo_writeCharacter.2.1 1 = .ok (.bipush 34, 2) := by decide +kernel
theorem dc_Fo_writeCharacter_3 : decode m_Fo_writeCharacter.2.1 3 = .ok (.if_icmp .eq 9, 3) := by decide +kernel
theorem dc_Fo_writeCharacter_6 : decode m_Fo_writeCharacter.2.1 6 = .ok (.iload_n 0, 1) := by decide +kernel
theorem dc_Fo_writeCharacter_7 : decode m_Fo_writeCharacter.2.1 7 = .ok (.bipush 92, 2) := by decide +kernel
theorem dc_Fo_writeCharacter_9 : decode m_Fo_writeCharacter.2.1 9 = .ok (.if_icmp .ne 17, 3) := by decide +kernel
theorem dc_Fo_writeCharacter_12 : decode m_Fo_writeCharacter.2.1 12 = .ok (.aload_n 1, 1) := by decide +kernel
theorem dc_Fo_writeCharacter_13 : decode m_Fo_writeCharacter.2.1 13 = .ok (.bipush 92, 2) := by decide +kernel
theorem dc_Fo_writeCharacter_15 : decode m_Fo_writeCharacter.2.1 15 = .ok (.invokevirtual 58, 3) := by decide +kernel
theorem dc_Fo_writeCharacter_18 : decode m_Fo_writeCharacter.2.1 18 = .ok (.aload_n 1, 1) := by decide +kernel
theorem dc_Fo_writeCharacter_19 : decode m_Fo_writeCharacter.2.1 19 = .ok (.iload_n 0, 1) := by decide +kernel
theorem dc_Fo_writeCharacter_20 : decode m_Fo_writeCharacter.2.1 20 = .ok (.invokevirtual 58, 3) := by decide +kernel
theorem dc_Fo_writeCharacter_23 : decode m_Fo_writeCharacter.2.1 23 = .ok (.goto 22, 3) := by decide +kernel
theorem dc_Fo_writeCharacter_26 : decode m_Fo_writeCharacter.2.1 26 = .ok (.iload_n 0, 1) := by decide +kernel
theorem dc_Fo_writeCharacter_27 : decode m_Fo_writeCharacter.2.1 27 = .ok (.bipush 32, 2) := by decide +kernel
theorem dc_Fo_writeCharacter_29 : decode m_Fo_writeCharacter.2.1 29 = .ok (.if_icmp .lt 11, 3) := by decide +kernel
theorem dc_Fo_writeCharacter_32 : decode m_Fo_writeCharacter.2.1 32 = .ok (.aload_n 1, 1) := by decide +kernel
theorem dc_Fo_writeCharacter_33 : decode m_Fo_writeCharacter.2.1 33 = .ok (.iload_n 0, 1) := by decide +kernel
theorem dc_Fo_writeCharacter_34 : decode m_Fo_writeCharacter.2.1 34 = .ok (.invokevirtual 107, 3) := by decide +kernel
theorem dc_Fo_writeCharacter_37 : decode m_Fo_writeCharacter.2.1 37 = .ok (.goto 8, 3) := by decide +kernel
theorem dc_Fo_writeCharacter_40 : decode m_Fo_writeCharacter.2.1 40 = .ok (.iload_n 0, 1) := by decide +kernel
theorem dc_Fo_writeCharacter_41 : decode m_Fo_writeCharacter.2.1 41 = .ok (.aload_n 1, 1) := by decide +kernel
theorem dc_Fo_writeCharacter_42 : decode m_Fo_writeCharacter.2.1 42 = .ok (.invokestatic 110, 3) := by decide +kernel
theorem dc_Fo_writeCharacter_45 : decode m_Fo_writeCharacter.2.1 45 = .ok (.return_, 1) := by decide +kernel
theorem b_Fo_writeCharacter_0 {E : En_t} {d : Nat} {σ : S_t} {Q : Option Value → S_t → Prop} {x0 : Int32}
    (h : (x0 = (34 : Int32) → JE E (d + 1) m_Fo_writeCharacter 12 [(0, .int x0), (1, pv E 53)] [] σ Q) ∧ (¬ x0 = (34 : Int32) → (¬ x0 = (92 : Int32) → (x0 < (32 : Int32) → CV E d m_Fo_writeEscape [.int x0, pv E 53] σ (fun σ1 => Q none σ1)) ∧ (¬ x0 < (32 : Int32) → CV E d m_Ou_putCharacter [pv E 53, .int x0] σ (fun σ2 => Q none σ2))) ∧ (x0 = (92 : Int32) → JE E (d + 1) m_Fo_writeCharacter 12 [(0, .int x0), (1, pv E 53)] [] σ Q))) :
    JE E (d + 1) m_Fo_writeCharacter 0 [(0, .int x0), (1, pv E 53)] [] σ Q := by
  refine J_iload_n dc_Fo_writeCharacter_0 (Eq.refl 1) 0 rfl ?_
  refine J_bipush (v := (34 : Int32)) dc_Fo_writeCharacter_1 (Eq.refl 3) rfl ?_
  refine J_icmp_eq dc_Fo_writeCharacter_3 (Eq.refl 6) rfl (fun hc => ?_) (fun hc => ?_)
  · have h := h.1 hc
    exact h
  · have h := h.2 hc
    refine J_iload_n dc_Fo_writeCharacter_6 (Eq.refl 7) 0 rfl ?_
    refine J_bipush (v := (92 : Int32)) dc_Fo_writeCharacter_7 (Eq.refl 9) rfl ?_
    refine J_icmp_ne dc_Fo_writeCharacter_9 (Eq.refl 12) rfl (fun hc => ?_) (fun hc => ?_)
    · have h := h.1 hc
      refine J_iload_n dc_Fo_writeCharacter_26 (Eq.refl 27) 0 rfl ?_
      refine J_bipush (v := (32 : Int32)) dc_Fo_writeCharacter_27 (Eq.refl 29) rfl ?_
      refine J_icmp_lt dc_Fo_writeCharacter_29 (Eq.refl 32) rfl (fun hc => ?_) (fun hc => ?_)
      · have h := h.1 hc
        refine J_iload_n dc_Fo_writeCharacter_40 (Eq.refl 41) 0 rfl ?_
        refine J_aload_n dc_Fo_writeCharacter_41 (Eq.refl 42) 1 rfl ?_
        refine J_callSV (As := [.int x0, pv E 53]) (st := []) dc_Fo_writeCharacter_42 (Eq.refl 45) lk_Fo_110 mi_Fo_writeEscape (Nat.le_of_ble_eq_true rfl) rfl (Nat.le_of_ble_eq_true rfl) (CV.mono h (fun σ1 h => ?_))
        exact J_vret dc_Fo_writeCharacter_45 rfl h
      · have h := h.2 hc
        refine J_aload_n dc_Fo_writeCharacter_32 (Eq.refl 33) 1 rfl ?_
        refine J_iload_n dc_Fo_writeCharacter_33 (Eq.refl 34) 0 rfl ?_
        refine J_callVV (As := [.int x0]) (st := []) dc_Fo_writeCharacter_34 (Eq.refl 37) lk_Fo_107 mi_Ou_putCharacter rfl (Nat.le_of_ble_eq_true rfl) rfl rfl (Nat.le_of_ble_eq_true rfl) rfl (Nat.le_of_ble_eq_true rfl) (CV.mono h (fun σ2 h => ?_))
        refine J_goto dc_Fo_writeCharacter_37 rfl ?_
        exact J_vret dc_Fo_writeCharacter_45 rfl h
    · have h := h.2 hc
      exact h
theorem b_Fo_writeCharacter_12 {E : En_t} {d : Nat} {σ : S_t} {Q : Option Value → S_t → Prop} {x0 : Int32}
    (h : CV E d m_Ou_put [pv E 53, .int (92 : Int32)] σ (fun σ1 => CV E d m_Ou_put [pv E 53, .int x0] σ1 (fun σ2 => Q none σ2))) :
    JE E (d + 1) m_Fo_writeCharacter 12 [(0, .int x0), (1, pv E 53)] [] σ Q := by
  refine J_aload_n dc_Fo_writeCharacter_12 (Eq.refl 13) 1 rfl ?_
  refine J_bipush (v := (92 : Int32)) dc_Fo_writeCharacter_13 (Eq.refl 15) rfl ?_
  refine J_callVV (As := [.int (92 : Int32)]) (st := []) dc_Fo_writeCharacter_15 (Eq.refl 18) lk_Fo_58 mi_Ou_put rfl (Nat.le_of_ble_eq_true rfl) rfl rfl (Nat.le_of_ble_eq_true rfl) rfl (Nat.le_of_ble_eq_true rfl) (CV.mono h (fun σ1 h => ?_))
  refine J_aload_n dc_Fo_writeCharacter_18 (Eq.refl 19) 1 rfl ?_
  refine J_iload_n dc_Fo_writeCharacter_19 (Eq.refl 20) 0 rfl ?_
  refine J_callVV (As := [.int x0]) (st := []) dc_Fo_writeCharacter_20 (Eq.refl 23) lk_Fo_58 mi_Ou_put rfl (Nat.le_of_ble_eq_true rfl) rfl rfl (Nat.le_of_ble_eq_true rfl) rfl (Nat.le_of_ble_eq_true rfl) (CV.mono h (fun σ2 h => ?_))
  refine J_goto dc_Fo_writeCharacter_23 rfl ?_
  exact J_vret dc_Fo_writeCharacter_45 rfl h
