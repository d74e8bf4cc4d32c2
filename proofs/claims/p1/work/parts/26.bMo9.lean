theorem dc_Mo_named_0 : decode m_Mo_named.2.1 0 = .ok (.sipush 500, 3) := by decide +kernel
theorem dc_Mo_named_3 : decode m_Mo_named.2.1 3 = .ok (.iload_n 3, 1) := by decide +kernel
theorem dc_Mo_named_4 : decode m_Mo_named.2.1 4 = .ok (.imul, 1) := by decide +kernel
theorem dc_Mo_named_5 : decode m_Mo_named.2.1 5 = .ok (.iload 4, 2) := by decide +kernel
theorem dc_Mo_named_7 : decode m_Mo_named.2.1 7 = .ok (.iadd, 1) := by decide +kernel
theorem dc_Mo_named_8 : decode m_Mo_named.2.1 8 = .ok (.istore 6, 2) := by decide +kernel
theorem dc_Mo_named_10 : decode m_Mo_named.2.1 10 = .ok (.aload_n 0, 1) := by decide +kernel
theorem dc_Mo_named_11 : decode m_Mo_named.2.1 11 = .ok (.iload_n 1, 1) := by decide +kernel
theorem dc_Mo_named_12 : decode m_Mo_named.2.1 12 = .ok (.iload_n 2, 1) := by decide +kernel
theorem dc_Mo_named_13 : decode m_Mo_named.2.1 13 = .ok (.sipush 4000, 3) := by decide +kernel
theorem dc_Mo_named_16 : decode m_Mo_named.2.1 16 = .ok (.iload_n 3, 1) := by decide +kernel
theorem dc_Mo_named_17 : decode m_Mo_named.2.1 17 = .ok (.imul, 1) := by decide +kernel
theorem dc_Mo_named_18 : decode m_Mo_named.2.1 18 = .ok (.aload_n 0, 1) := by decide +kernel
theorem dc_Mo_named_19 : decode m_Mo_named.2.1 19 = .ok (.getfield 65, 3) := by decide +kernel
theorem dc_Mo_named_22 : decode m_Mo_named.2.1 22 = .ok (.iload 6, 2) := by decide +kernel
theorem dc_Mo_named_24 : decode m_Mo_named.2.1 24 = .ok (.iaload, 1) := by decide +kernel
theorem dc_Mo_named_25 : decode m_Mo_named.2.1 25 = .ok (.iload 5, 2) := by decide +kernel
theorem dc_Mo_named_27 : decode m_Mo_named.2.1 27 = .ok (.ifCond .eq 13, 3) := by decide +kernel
theorem dc_Mo_named_30 : decode m_Mo_named.2.1 30 = .ok (.aload_n 0, 1) := by decide +kernel
theorem dc_Mo_named_31 : decode m_Mo_named.2.1 31 = .ok (.getfield 68, 3) := by decide +kernel
theorem dc_Mo_named_34 : decode m_Mo_named.2.1 34 = .ok (.iload 6, 2) := by decide +kernel
theorem dc_Mo_named_36 : decode m_Mo_named.2.1 36 = .ok (.iaload, 1) := by decide +kernel
theorem dc_Mo_named_37 : decode m_Mo_named.2.1 37 = .ok (.goto 4, 3) := by decide +kernel
theorem dc_Mo_named_40 : decode m_Mo_named.2.1 40 = .ok (.iconst (-1), 1) := by decide +kernel
theorem dc_Mo_named_41 : decode m_Mo_named.2.1 41 = .ok (.invokevirtual 309, 3) := by decide +kernel
theorem dc_Mo_named_44 : decode m_Mo_named.2.1 44 = .ok (.return_, 1) := by decide +kernel
theorem b_Mo_named_0 {E : En_t} {d : Nat} {σ : S_t} {Q : Option Value → S_t → Prop} {x1 : Int32} {x2 : Int32} {x3 : Int32} {x4 : Int32} {x5 : Int32}
    (h : vp_in (((500 : Int32) * x3) + x4) 4500 ∧ ((x5 = 0 → JE E (d + 1) m_Mo_named 41 [] [.int (-1 : Int32), .int (gI σ 19 (((500 : Int32) * x3) + x4).toNatClampNeg), .int ((4000 : Int32) * x3), .int x2, .int x1, pv E 0] σ Q) ∧ (¬ x5 = 0 → vp_in (((500 : Int32) * x3) + x4) 4500 ∧ (JE E (d + 1) m_Mo_named 41 [] [.int (gI σ 20 (((500 : Int32) * x3) + x4).toNatClampNeg), .int (gI σ 19 (((500 : Int32) * x3) + x4).toNatClampNeg), .int ((4000 : Int32) * x3), .int x2, .int x1, pv E 0] σ Q)))) :
    JE E (d + 1) m_Mo_named 0 [(0, pv E 0), (1, .int x1), (2, .int x2), (3, .int x3), (4, .int x4), (5, .int x5)] [] σ Q := by
  refine J_sipush (v := (500 : Int32)) dc_Mo_named_0 (Eq.refl 3) rfl ?_
  refine J_iload_n dc_Mo_named_3 (Eq.refl 4) 3 rfl ?_
  refine J_imul dc_Mo_named_4 (Eq.refl 5) ?_
  refine J_iload dc_Mo_named_5 (Eq.refl 7) 4 rfl ?_
  refine J_iadd dc_Mo_named_7 (Eq.refl 8) ?_
  refine J_istore (L' := [(6, .int (((500 : Int32) * x3) + x4)), (0, pv E 0), (1, .int x1), (2, .int x2), (3, .int x3), (4, .int x4), (5, .int x5)]) dc_Mo_named_8 (Eq.refl 10) (Nat.le_of_ble_eq_true rfl) rfl ?_
  refine J_aload_n dc_Mo_named_10 (Eq.refl 11) 1 rfl ?_
  refine J_iload_n dc_Mo_named_11 (Eq.refl 12) 2 rfl ?_
  refine J_iload_n dc_Mo_named_12 (Eq.refl 13) 3 rfl ?_
  refine J_sipush (v := (4000 : Int32)) dc_Mo_named_13 (Eq.refl 16) rfl ?_
  refine J_iload_n dc_Mo_named_16 (Eq.refl 17) 4 rfl ?_
  refine J_imul dc_Mo_named_17 (Eq.refl 18) ?_
  refine J_aload_n dc_Mo_named_18 (Eq.refl 19) 1 rfl ?_
  refine J_getF (y := 19) dc_Mo_named_19 (Eq.refl 22) fl_Mo_65 (Nat.le_of_ble_eq_true rfl) rfl (Or.inl rfl) rfl ?_
  refine J_iload dc_Mo_named_22 (Eq.refl 24) 0 rfl ?_
  obtain ⟨hg, h⟩ := h
  refine J_iald dc_Mo_named_24 (Eq.refl 25) rfl rfl hg ?_
  refine J_iload dc_Mo_named_25 (Eq.refl 27) 6 rfl ?_
  refine J_if_eq dc_Mo_named_27 (Eq.refl 30) rfl (fun hc => ?_) (fun hc => ?_)
  · have h := h.1 hc
    refine J_iconst (v := (-1 : Int32)) dc_Mo_named_40 (Eq.refl 41) rfl ?_
    refine J_sub [] rfl ?_
    exact h
  · have h := h.2 hc
    refine J_aload_n dc_Mo_named_30 (Eq.refl 31) 1 rfl ?_
    refine J_getF (y := 20) dc_Mo_named_31 (Eq.refl 34) fl_Mo_68 (Nat.le_of_ble_eq_true rfl) rfl (Or.inl rfl) rfl ?_
    refine J_iload dc_Mo_named_34 (Eq.refl 36) 0 rfl ?_
    obtain ⟨hg, h⟩ := h
    refine J_iald dc_Mo_named_36 (Eq.refl 37) rfl rfl hg ?_
    refine J_goto dc_Mo_named_37 rfl ?_
    refine J_sub [] rfl ?_
    exact h
theorem b_Mo_named_41 {E : En_t} {d : Nat} {σ : S_t} {Q : Option Value → S_t → Prop} {s0 : Int32} {s1 : Int32} {s2 : Int32} {s3 : Int32} {s4 : Int32}
    (h : CV E d m_Mo_make [pv E 0, .int s4, .int s3, .int s2, .int s1, .int s0] σ (fun σ1 => Q none σ1)) :
    JE E (d + 1) m_Mo_named 41 [] [.int s0, .int s1, .int s2, .int s3, .int s4, pv E 0] σ Q := by
  refine J_callVV (As := [.int s4, .int s3, .int s2, .int s1, .int s0]) (st := []) dc_Mo_named_41 (Eq.refl 44) lk_Mo_309 mi_Mo_make rfl (Nat.le_of_ble_eq_true rfl) rfl rfl (Nat.le_of_ble_eq_true rfl) rfl (Nat.le_of_ble_eq_true rfl) (CV.mono h (fun σ1 h => ?_))
  exact J_vret dc_Mo_named_44 rfl h
theorem dc_Mo_openPair_0 : decode m_Mo_openPair.2.1 0 = .ok (.aload_n 0, 1) := by decide +kernel
theorem dc_Mo_openPair_1 : decode m_Mo_openPair.2.1 1 = .ok (.getfield 150, 3) := by decide +kernel
theorem dc_Mo_openPair_4 : decode m_Mo_openPair.2.1 4 = .ok (.iload_n 1, 1) := by decide +kernel
theorem dc_Mo_openPair_5 : decode m_Mo_openPair.2.1 5 = .ok (.iload_n 3, 1) := by decide +kernel
theorem dc_Mo_openPair_6 : decode m_Mo_openPair.2.1 6 = .ok (.iconst 1, 1) := by decide +kernel
theorem dc_Mo_openPair_7 : decode m_Mo_openPair.2.1 7 = .ok (.iadd, 1) := by decide +kernel
theorem dc_Mo_openPair_8 : decode m_Mo_openPair.2.1 8 = .ok (.iastore, 1) := by decide +kernel
theorem dc_Mo_openPair_9 : decode m_Mo_openPair.2.1 9 = .ok (.aload_n 0, 1) := by decide +kernel
theorem dc_Mo_openPair_10 : decode m_Mo_openPair.2.1 10 = .ok (.getfield 156, 3) := by decide +kernel
theorem dc_Mo_openPair_13 : decode m_Mo_openPair.2.1 13 = .ok (.iload_n 1, 1) := by decide +kernel
theorem dc_Mo_openPair_14 : decode m_Mo_openPair.2.1 14 = .ok (.aload_n 0, 1) := by decide +kernel
theorem dc_Mo_openPair_15 : decode m_Mo_openPair.2.1 15 = .ok (.iload_n 2, 1) := by decide +kernel
theorem dc_Mo_openPair_16 : decode m_Mo_openPair.2.1 16 = .ok (.iload_n 3, 1) := by decide +kernel
theorem dc_Mo_openPair_17 : decode m_Mo_openPair.2.1 17 = .ok (.invokevirtual 435, 3) := by decide +kernel
theorem dc_Mo_openPair_20 : decode m_Mo_openPair.2.1 20 = .ok (.ifCond .eq 18, 3) := by decide +kernel
theorem dc_Mo_openPair_23 : decode m_Mo_openPair.2.1 23 = .ok (.aload_n 0, 1) := by decide +kernel
theorem dc_Mo_openPair_24 : decode m_Mo_openPair.2.1 24 = .ok (.getfield 56, 3) := by decide +kernel
theorem dc_Mo_openPair_27 : decode m_Mo_openPair.2.1 27 = .ok (.sipush 500, 3) := by decide +kernel
theorem dc_Mo_openPair_30 : decode m_Mo_openPair.2.1 30 = .ok (.iload_n 2, 1) := by decide +kernel
theorem dc_Mo_openPair_31 : decode m_Mo_openPair.2.1 31 = .ok (.imul, 1) := by decide +kernel
theorem dc_Mo_openPair_32 : decode m_Mo_openPair.2.1 32 = .ok (.iload_n 3, 1) := by decide +kernel
theorem dc_Mo_openPair_33 : decode m_Mo_openPair.2.1 33 = .ok (.iadd, 1) := by decide +kernel
theorem dc_Mo_openPair_34 : decode m_Mo_openPair.2.1 34 = .ok (.iaload, 1) := by decide +kernel
theorem dc_Mo_openPair_35 : decode m_Mo_openPair.2.1 35 = .ok (.goto 4, 3) := by decide +kernel
theorem dc_Mo_openPair_38 : decode m_Mo_openPair.2.1 38 = .ok (.iconst 0, 1) := by decide +kernel
theorem dc_Mo_openPair_39 : decode m_Mo_openPair.2.1 39 = .ok (.iastore, 1) := by decide +kernel
theorem dc_Mo_openPair_40 : decode m_Mo_openPair.2.1 40 = .ok (.aload_n 0, 1) := by decide +kernel
theorem dc_Mo_openPair_41 : decode m_Mo_openPair.2.1 41 = .ok (.getfield 153, 3) := by decide +kernel
theorem dc_Mo_openPair_44 : decode m_Mo_openPair.2.1 44 = .ok (.iload_n 1, 1) := by decide +kernel
theorem dc_Mo_openPair_45 : decode m_Mo_openPair.2.1 45 = .ok (.iload 5, 2) := by decide +kernel
theorem dc_Mo_openPair_47 : decode m_Mo_openPair.2.1 47 = .ok (.iconst 1, 1) := by decide +kernel
theorem dc_Mo_openPair_48 : decode m_Mo_openPair.2.1 48 = .ok (.iadd, 1) := by decide +kernel
theorem dc_Mo_openPair_49 : decode m_Mo_openPair.2.1 49 = .ok (.iastore, 1) := by decide +kernel
theorem dc_Mo_openPair_50 : decode m_Mo_openPair.2.1 50 = .ok (.aload_n 0, 1) := by decide +kernel
theorem dc_Mo_openPair_51 : decode m_Mo_openPair.2.1 51 = .ok (.getfield 159, 3) := by decide +kernel
theorem dc_Mo_openPair_54 : decode m_Mo_openPair.2.1 54 = .ok (.iload_n 1, 1) := by decide +kernel
theorem dc_Mo_openPair_55 : decode m_Mo_openPair.2.1 55 = .ok (.aload_n 0, 1) := by decide +kernel
theorem dc_Mo_openPair_56 : decode m_Mo_openPair.2.1 56 = .ok (.getfield 56, 3) := by decide +kernel
theorem dc_Mo_openPair_59 : decode m_Mo_openPair.2.1 59 = .ok (.sipush 500, 3) := by decide +kernel
theorem dc_Mo_openPair_62 : decode m_Mo_openPair.2.1 62 = .ok (.iload 4, 2) := by decide +kernel
theorem dc_Mo_openPair_64 : decode m_Mo_openPair.2.1 64 = .ok (.imul, 1) := by decide +kernel
theorem dc_Mo_openPair_65 : decode m_Mo_openPair.2.1 65 = .ok (.iload 5, 2) := by decide +kernel
theorem dc_Mo_openPair_67 : decode m_Mo_openPair.2.1 67 = .ok (.iadd, 1) := by decide +kernel
theorem dc_Mo_openPair_68 : decode m_Mo_openPair.2.1 68 = .ok (.iaload, 1) := by decide +kernel
theorem dc_Mo_openPair_69 : decode m_Mo_openPair.2.1 69 = .ok (.iastore, 1) := by decide +kernel
theorem dc_Mo_openPair_70 : decode m_Mo_openPair.2.1 70 = .ok (.return_, 1) := by decide +kernel
theorem b_Mo_openPair_0 {E : En_t} {d : Nat} {σ : S_t} {Q : Option Value → S_t → Prop} {x1 : Int32} {x2 : Int32} {x3 : Int32} {x4 : Int32} {x5 : Int32}
    (h : vp_in x1 40 ∧ (CI E d m_Mo_isObject [pv E 0, .int x2, .int x3] (sI σ 45 x1.toNatClampNeg (x3 + (1 : Int32))) (fun r2 σ1 => (r2 = 0 → JE E (d + 1) m_Mo_openPair 39 [(0, pv E 0), (1, .int x1), (4, .int x4), (5, .int x5)] [.int (0 : Int32), .int x1, pv E 47] σ1 Q) ∧ (¬ r2 = 0 → vp_in (((500 : Int32) * x2) + x3) 4500 ∧ (JE E (d + 1) m_Mo_openPair 39 [(0, pv E 0), (1, .int x1), (4, .int x4), (5, .int x5)] [.int (gI σ1 16 (((500 : Int32) * x2) + x3).toNatClampNeg), .int x1, pv E 47] σ1 Q))))) :
    JE E (d + 1) m_Mo_openPair 0 [(0, pv E 0), (1, .int x1), (2, .int x2), (3, .int x3), (4, .int x4), (5, .int x5)] [] σ Q := by
  refine J_aload_n dc_Mo_openPair_0 (Eq.refl 1) 0 rfl ?_
  refine J_getF (y := 45) dc_Mo_openPair_1 (Eq.refl 4) fl_Mo_150 (Nat.le_of_ble_eq_true rfl) rfl (Or.inl rfl) rfl ?_
  refine J_iload_n dc_Mo_openPair_4 (Eq.refl 5) 1 rfl ?_
  refine J_iload_n dc_Mo_openPair_5 (Eq.refl 6) 3 rfl ?_
  refine J_iconst (v := (1 : Int32)) dc_Mo_openPair_6 (Eq.refl 7) rfl ?_
  refine J_iadd dc_Mo_openPair_7 (Eq.refl 8) ?_
  obtain ⟨hg, h⟩ := h
  refine J_iast dc_Mo_openPair_8 (Eq.refl 9) rfl rfl hg ?_
  refine J_aload_n dc_Mo_openPair_9 (Eq.refl 10) 0 rfl ?_
  refine J_getF (y := 47) dc_Mo_openPair_10 (Eq.refl 13) fl_Mo_156 (Nat.le_of_ble_eq_true rfl) rfl (Or.inl rfl) rfl ?_
  refine J_iload_n dc_Mo_openPair_13 (Eq.refl 14) 1 rfl ?_
  refine J_aload_n dc_Mo_openPair_14 (Eq.refl 15) 0 rfl ?_
  refine J_iload_n dc_Mo_openPair_15 (Eq.refl 16) 2 rfl ?_
  refine J_iload_n dc_Mo_openPair_16 (Eq.refl 17) 3 rfl ?_
  refine J_callVI (As := [.int x2, .int x3]) (st := [.int x1, pv E 47]) dc_Mo_openPair_17 (Eq.refl 20) lk_Mo_435 mi_Mo_isObject rfl (Nat.le_of_ble_eq_true rfl) rfl rfl (Nat.le_of_ble_eq_true rfl) rfl (Nat.le_of_ble_eq_true rfl) (CI.mono h (fun r2 σ1 h => ?_))
  refine J_if_eq dc_Mo_openPair_20 (Eq.refl 23) rfl (fun hc => ?_) (fun hc => ?_)
  · have h := h.1 hc
    refine J_iconst (v := (0 : Int32)) dc_Mo_openPair_38 (Eq.refl 39) rfl ?_
    refine J_sub [0, 1, 4, 5] rfl ?_
    exact h
  · have h := h.2 hc
    refine J_aload_n dc_Mo_openPair_23 (Eq.refl 24) 0 rfl ?_
    refine J_getF (y := 16) dc_Mo_openPair_24 (Eq.refl 27) fl_Mo_56 (Nat.le_of_ble_eq_true rfl) rfl (Or.inl rfl) rfl ?_
    refine J_sipush (v := (500 : Int32)) dc_Mo_openPair_27 (Eq.refl 30) rfl ?_
    refine J_iload_n dc_Mo_openPair_30 (Eq.refl 31) 2 rfl ?_
    refine J_imul dc_Mo_openPair_31 (Eq.refl 32) ?_
    refine J_iload_n dc_Mo_openPair_32 (Eq.refl 33) 3 rfl ?_
    refine J_iadd dc_Mo_openPair_33 (Eq.refl 34) ?_
    obtain ⟨hg, h⟩ := h
    refine J_iald dc_Mo_openPair_34 (Eq.refl 35) rfl rfl hg ?_
    refine J_goto dc_Mo_openPair_35 rfl ?_
    refine J_sub [0, 1, 4, 5] rfl ?_
    exact h
theorem b_Mo_openPair_39 {E : En_t} {d : Nat} {σ : S_t} {Q : Option Value → S_t → Prop} {x1 : Int32} {x4 : Int32} {x5 : Int32} {s0 : Int32} {s1 : Int32} {q2 : Nat} (hk_q2 : kindP q2 = 20)
    (h : vp_in s1 (lenP q2) ∧ (vp_in x1 40 ∧ (vp_in (((500 : Int32) * x4) + x5) 4500 ∧ (∀ v1, v1 = gI (sI (sI σ q2 s1.toNatClampNeg s0) 46 x1.toNatClampNeg (x5 + (1 : Int32))) 16 (((500 : Int32) * x4) + x5).toNatClampNeg → (vp_in x1 40 ∧ (Q none (sI (sI (sI σ q2 s1.toNatClampNeg s0) 46 x1.toNatClampNeg (x5 + (1 : Int32))) 48 x1.toNatClampNeg v1))))))) :
    JE E (d + 1) m_Mo_openPair 39 [(0, pv E 0), (1, .int x1), (4, .int x4), (5, .int x5)] [.int s0, .int s1, pv E q2] σ Q := by
  obtain ⟨hg, h⟩ := h
  refine J_iast dc_Mo_openPair_39 (Eq.refl 40) hk_q2 rfl hg ?_
  refine J_aload_n dc_Mo_openPair_40 (Eq.refl 41) 0 rfl ?_
  refine J_getF (y := 46) dc_Mo_openPair_41 (Eq.refl 44) fl_Mo_153 (Nat.le_of_ble_eq_true rfl) rfl (Or.inl rfl) rfl ?_
  refine J_iload_n dc_Mo_openPair_44 (Eq.refl 45) 1 rfl ?_
  refine J_iload dc_Mo_openPair_45 (Eq.refl 47) 3 rfl ?_
  refine J_iconst (v := (1 : Int32)) dc_Mo_openPair_47 (Eq.refl 48) rfl ?_
  refine J_iadd dc_Mo_openPair_48 (Eq.refl 49) ?_
  obtain ⟨hg, h⟩ := h
  refine J_iast dc_Mo_openPair_49 (Eq.refl 50) rfl rfl hg ?_
  refine J_aload_n dc_Mo_openPair_50 (Eq.refl 51) 0 rfl ?_
  refine J_getF (y := 48) dc_Mo_openPair_51 (Eq.refl 54) fl_Mo_159 (Nat.le_of_ble_eq_true rfl) rfl (Or.inl rfl) rfl ?_
  refine J_iload_n dc_Mo_openPair_54 (Eq.refl 55) 1 rfl ?_
  refine J_aload_n dc_Mo_openPair_55 (Eq.refl 56) 0 rfl ?_
  refine J_getF (y := 16) dc_Mo_openPair_56 (Eq.refl 59) fl_Mo_56 (Nat.le_of_ble_eq_true rfl) rfl (Or.inl rfl) rfl ?_
  refine J_sipush (v := (500 : Int32)) dc_Mo_openPair_59 (Eq.refl 62) rfl ?_
  refine J_iload dc_Mo_openPair_62 (Eq.refl 64) 2 rfl ?_
  refine J_imul dc_Mo_openPair_64 (Eq.refl 65) ?_
  refine J_iload dc_Mo_openPair_65 (Eq.refl 67) 3 rfl ?_
  refine J_iadd dc_Mo_openPair_67 (Eq.refl 68) ?_
  obtain ⟨hg, h⟩ := h
  refine J_iald dc_Mo_openPair_68 (Eq.refl 69) rfl rfl hg ?_
  refine J_topi (fun v1 ev1 => ?_)
  have h := h v1 ev1
  obtain ⟨hg, h⟩ := h
  refine J_iast dc_Mo_openPair_69 (Eq.refl 70) rfl rfl hg ?_
  exact J_vret dc_Mo_openPair_70 rfl h
theorem dc_Mo_firstOf_0 : decode m_Mo_firstOf.2.1 0 = .ok (.aload_n 0, 1) := by decide +kernel
theorem dc_Mo_firstOf_1 : decode m_Mo_firstOf.2.1 1 = .ok (.getfield 156, 3) := by decide +kernel
theorem dc_Mo_firstOf_4 : decode m_Mo_firstOf.2.1 4 = .ok (.iload_n 1, 1) := by decide +kernel
theorem dc_Mo_firstOf_5 : decode m_Mo_firstOf.2.1 5 = .ok (.iaload, 1) := by decide +kernel
theorem dc_Mo_firstOf_6 : decode m_Mo_firstOf.2.1 6 = .ok (.ifCond .ne 5, 3) := by decide +kernel
theorem dc_Mo_firstOf_9 : decode m_Mo_firstOf.2.1 9 = .ok (.iconst 1, 1) := by decide +kernel
theorem dc_Mo_firstOf_10 : decode m_Mo_firstOf.2.1 10 = .ok (.ireturn, 1) := by decide +kernel
theorem dc_Mo_firstOf_11 : decode m_Mo_firstOf.2.1 11 = .ok (.aload_n 0, 1) := by decide +kernel
theorem dc_Mo_firstOf_12 : decode m_Mo_firstOf.2.1 12 = .ok (.getfield 159, 3) := by decide +kernel
theorem dc_Mo_firstOf_15 : decode m_Mo_firstOf.2.1 15 = .ok (.iload_n 1, 1) := by decide +kernel
theorem dc_Mo_firstOf_16 : decode m_Mo_firstOf.2.1 16 = .ok (.iaload, 1) := by decide +kernel
theorem dc_Mo_firstOf_17 : decode m_Mo_firstOf.2.1 17 = .ok (.ifCond .ne 5, 3) := by decide +kernel
theorem dc_Mo_firstOf_20 : decode m_Mo_firstOf.2.1 20 = .ok (.iconst (-1), 1) := by decide +kernel
theorem dc_Mo_firstOf_21 : decode m_Mo_firstOf.2.1 21 = .ok (.ireturn, 1) := by decide +kernel
theorem dc_Mo_firstOf_22 : decode m_Mo_firstOf.2.1 22 = .ok (.aload_n 0, 1) := by decide +kernel
theorem dc_Mo_firstOf_23 : decode m_Mo_firstOf.2.1 23 = .ok (.iload_n 2, 1) := by decide +kernel
theorem dc_Mo_firstOf_24 : decode m_Mo_firstOf.2.1 24 = .ok (.aload_n 0, 1) := by decide +kernel
theorem dc_Mo_firstOf_25 : decode m_Mo_firstOf.2.1 25 = .ok (.getfield 150, 3) := by decide +kernel
theorem dc_Mo_firstOf_28 : decode m_Mo_firstOf.2.1 28 = .ok (.iload_n 1, 1) := by decide +kernel
theorem dc_Mo_firstOf_29 : decode m_Mo_firstOf.2.1 29 = .ok (.iaload, 1) := by decide +kernel
theorem dc_Mo_firstOf_30 : decode m_Mo_firstOf.2.1 30 = .ok (.iload_n 3, 1) := by decide +kernel
theorem dc_Mo_firstOf_31 : decode m_Mo_firstOf.2.1 31 = .ok (.aload_n 0, 1) := by decide +kernel
theorem dc_Mo_firstOf_32 : decode m_Mo_firstOf.2.1 32 = .ok (.getfield 153, 3) := by decide +kernel
theorem dc_Mo_firstOf_35 : decode m_Mo_firstOf.2.1 35 = .ok (.iload_n 1, 1) := by decide +kernel
theorem dc_Mo_firstOf_36 : decode m_Mo_firstOf.2.1 36 = .ok (.iaload, 1) := by decide +kernel
theorem dc_Mo_firstOf_37 : decode m_Mo_firstOf.2.1 37 = .ok (.invokevirtual 428, 3) := by decide +kernel
theorem dc_Mo_firstOf_40 : decode m_Mo_firstOf.2.1 40 = .ok (.ireturn, 1) := by decide +kernel
theorem b_Mo_firstOf_0 {E : En_t} {d : Nat} {σ : S_t} {Q : Option Value → S_t → Prop} {x1 : Int32} {x2 : Int32} {x3 : Int32}
    (h : vp_in x1 40 ∧ ((¬ (gI σ 47 x1.toNatClampNeg) = 0 → vp_in x1 40 ∧ ((¬ (gI σ 48 x1.toNatClampNeg) = 0 → vp_in x1 40 ∧ (vp_in x1 40 ∧ (CI E d m_Mo_namedLike [pv E 0, .int x2, .int (gI σ 45 x1.toNatClampNeg), .int x3, .int (gI σ 46 x1.toNatClampNeg)] σ (fun r2 σ1 => Q (some (.int r2)) σ1)))) ∧ ((gI σ 48 x1.toNatClampNeg) = 0 → Q (some (.int (-1 : Int32))) σ))) ∧ ((gI σ 47 x1.toNatClampNeg) = 0 → Q (some (.int (1 : Int32))) σ))) :
    JE E (d + 1) m_Mo_firstOf 0 [(0, pv E 0), (1, .int x1), (2, .int x2), (3, .int x3)] [] σ Q := by
  refine J_aload_n dc_Mo_firstOf_0 (Eq.refl 1) 0 rfl ?_
  refine J_getF (y := 47) dc_Mo_firstOf_1 (Eq.refl 4) fl_Mo_156 (Nat.le_of_ble_eq_true rfl) rfl (Or.inl rfl) rfl ?_
  refine J_iload_n dc_Mo_firstOf_4 (Eq.refl 5) 1 rfl ?_
  obtain ⟨hg, h⟩ := h
  refine J_iald dc_Mo_firstOf_5 (Eq.refl 6) rfl rfl hg ?_
  refine J_if_ne dc_Mo_firstOf_6 (Eq.refl 9) rfl (fun hc => ?_) (fun hc => ?_)
  · have h := h.1 hc
    refine J_aload_n dc_Mo_firstOf_11 (Eq.refl 12) 0 rfl ?_
    refine J_getF (y := 48) dc_Mo_firstOf_12 (Eq.refl 15) fl_Mo_159 (Nat.le_of_ble_eq_true rfl) rfl (Or.inl rfl) rfl ?_
    refine J_iload_n dc_Mo_firstOf_15 (Eq.refl 16) 1 rfl ?_
    obtain ⟨hg, h⟩ := h
    refine J_iald dc_Mo_firstOf_16 (Eq.refl 17) rfl rfl hg ?_
    refine J_if_ne dc_Mo_firstOf_17 (Eq.refl 20) rfl (fun hc => ?_) (fun hc => ?_)
    · have h := h.1 hc
      refine J_aload_n dc_Mo_firstOf_22 (Eq.refl 23) 0 rfl ?_
      refine J_iload_n dc_Mo_firstOf_23 (Eq.refl 24) 2 rfl ?_
      refine J_aload_n dc_Mo_firstOf_24 (Eq.refl 25) 0 rfl ?_
      refine J_getF (y := 45) dc_Mo_firstOf_25 (Eq.refl 28) fl_Mo_150 (Nat.le_of_ble_eq_true rfl) rfl (Or.inl rfl) rfl ?_
      refine J_iload_n dc_Mo_firstOf_28 (Eq.refl 29) 1 rfl ?_
      obtain ⟨hg, h⟩ := h
      refine J_iald dc_Mo_firstOf_29 (Eq.refl 30) rfl rfl hg ?_
      refine J_iload_n dc_Mo_firstOf_30 (Eq.refl 31) 3 rfl ?_
      refine J_aload_n dc_Mo_firstOf_31 (Eq.refl 32) 0 rfl ?_
      refine J_getF (y := 46) dc_Mo_firstOf_32 (Eq.refl 35) fl_Mo_153 (Nat.le_of_ble_eq_true rfl) rfl (Or.inl rfl) rfl ?_
      refine J_iload_n dc_Mo_firstOf_35 (Eq.refl 36) 1 rfl ?_
      obtain ⟨hg, h⟩ := h
      refine J_iald dc_Mo_firstOf_36 (Eq.refl 37) rfl rfl hg ?_
      refine J_callVI (As := [.int x2, .int (gI σ 45 x1.toNatClampNeg), .int x3, .int (gI σ 46 x1.toNatClampNeg)]) (st := []) dc_Mo_firstOf_37 (Eq.refl 40) lk_Mo_428 mi_Mo_namedLike rfl (Nat.le_of_ble_eq_true rfl) rfl rfl (Nat.le_of_ble_eq_true rfl) rfl (Nat.le_of_ble_eq_true rfl) (CI.mono h (fun r2 σ1 h => ?_))
      exact J_iret dc_Mo_firstOf_40 rfl h
    · have h := h.2 hc
      refine J_iconst (v := (-1 : Int32)) dc_Mo_firstOf_20 (Eq.refl 21) rfl ?_
      exact J_iret dc_Mo_firstOf_21 rfl h
  · have h := h.2 hc
    refine J_iconst (v := (1 : Int32)) dc_Mo_firstOf_9 (Eq.refl 10) rfl ?_
    exact J_iret dc_Mo_firstOf_10 rfl h
theorem dc_Mo_nextOf_0 : decode m_Mo_nextOf.2.1 0 = .ok (.iload_n 2, 1) := by decide +kernel
theorem dc_Mo_nextOf_1 : decode m_Mo_nextOf.2.1 1 = .ok (.aload_n 0, 1) := by decide +kernel
theorem dc_Mo_nextOf_2 : decode m_Mo_nextOf.2.1 2 = .ok (.getfield 59, 3) := by decide +kernel
theorem dc_Mo_nextOf_5 : decode m_Mo_nextOf.2.1 5 = .ok (.sipush 500, 3) := by decide +kernel
theorem dc_Mo_nextOf_8 : decode m_Mo_nextOf.2.1 8 = .ok (.iload_n 1, 1) := by decide +kernel
theorem dc_Mo_nextOf_9 : decode m_Mo_nextOf.2.1 9 = .ok (.imul, 1) := by decide +kernel
theorem dc_Mo_nextOf_10 : decode m_Mo_nextOf.2.1 10 = .ok (.iload_n 2, 1) := by decide +kernel
theorem dc_Mo_nextOf_11 : decode m_Mo_nextOf.2.1 11 = .ok (.iadd, 1) := by decide +kernel
theorem dc_Mo_nextOf_12 : decode m_Mo_nextOf.2.1 12 = .ok (.iaload, 1) := by decide +kernel
theorem dc_Mo_nextOf_13 : decode m_Mo_nextOf.2.1 13 = .ok (.iadd, 1) := by decide +kernel
theorem dc_Mo_nextOf_14 : decode m_Mo_nextOf.2.1 14 = .ok (.ireturn, 1) := by decide +kernel
theorem b_Mo_nextOf_0 {E : En_t} {d : Nat} {σ : S_t} {Q : Option Value → S_t → Prop} {x1 : Int32} {x2 : Int32}
    (h : vp_in (((500 : Int32) * x1) + x2) 4500 ∧ (Q (some (.int (x2 + (gI σ 17 (((500 : Int32) * x1) + x2).toNatClampNeg)))) σ)) :
    JE E d m_Mo_nextOf 0 [(0, pv E 0), (1, .int x1), (2, .int x2)] [] σ Q := by
  refine J_iload_n dc_Mo_nextOf_0 (Eq.refl 1) 2 rfl ?_
  refine J_aload_n dc_Mo_nextOf_1 (Eq.refl 2) 0 rfl ?_
  refine J_getF (y := 17) dc_Mo_nextOf_2 (Eq.refl 5) fl_Mo_59 (Nat.le_of_ble_eq_true rfl) rfl (Or.inl rfl) rfl ?_
  refine J_sipush (v := (500 : Int32)) dc_Mo_nextOf_5 (Eq.refl 8) rfl ?_
  refine J_iload_n dc_Mo_nextOf_8 (Eq.refl 9) 1 rfl ?_
  refine J_imul dc_Mo_nextOf_9 (Eq.refl 10) ?_
  refine J_iload_n dc_Mo_nextOf_10 (Eq.refl 11) 2 rfl ?_
  refine J_iadd dc_Mo_nextOf_11 (Eq.refl 12) ?_
  obtain ⟨hg, h⟩ := h
  refine J_iald dc_Mo_nextOf_12 (Eq.refl 13) rfl rfl hg ?_
  refine J_iadd dc_Mo_nextOf_13 (Eq.refl 14) ?_
  exact J_iret dc_Mo_nextOf_14 rfl h
theorem dc_Mo_patch_0 : decode m_Mo_patch.2.1 0 = .ok (.aload_n 0, 1) := by decide +kernel
theorem dc_Mo_patch_1 : decode m_Mo_patch.2.1 1 = .ok (.iload_n 1, 1) := by decide +kernel
theorem dc_Mo_patch_2 : decode m_Mo_patch.2.1 2 = .ok (.iconst 0, 1) := by decide +kernel
theorem dc_Mo_patch_3 : decode m_Mo_patch.2.1 3 = .ok (.invokevirtual 408, 3) := by decide +kernel
theorem dc_Mo_patch_6 : decode m_Mo_patch.2.1 6 = .ok (.ifCond .eq 19, 3) := by decide +kernel
theorem dc_Mo_patch_9 : decode m_Mo_patch.2.1 9 = .ok (.aload_n 0, 1) := by decide +kernel
theorem dc_Mo_patch_10 : decode m_Mo_patch.2.1 10 = .ok (.iload_n 2, 1) := by decide +kernel
theorem dc_Mo_patch_11 : decode m_Mo_patch.2.1 11 = .ok (.iconst 0, 1) := by decide +kernel
theorem dc_Mo_patch_12 : decode m_Mo_patch.2.1 12 = .ok (.invokevirtual 408, 3) := by decide +kernel
theorem dc_Mo_patch_15 : decode m_Mo_patch.2.1 15 = .ok (.ifCond .eq 10, 3) := by decide +kernel
theorem dc_Mo_patch_18 : decode m_Mo_patch.2.1 18 = .ok (.iload_n 3, 1) := by decide +kernel
theorem dc_Mo_patch_19 : decode m_Mo_patch.2.1 19 = .ok (.invokestatic 291, 3) := by decide +kernel
theorem dc_Mo_patch_22 : decode m_Mo_patch.2.1 22 = .ok (.ifCond .ne 5, 3) := by decide +kernel
theorem dc_Mo_patch_25 : decode m_Mo_patch.2.1 25 = .ok (.iconst (-1), 1) := by decide +kernel
theorem dc_Mo_patch_26 : decode m_Mo_patch.2.1 26 = .ok (.ireturn, 1) := by decide +kernel
theorem dc_Mo_patch_27 : decode m_Mo_patch.2.1 27 = .ok (.aload_n 0, 1) := by decide +kernel
theorem dc_Mo_patch_28 : decode m_Mo_patch.2.1 28 = .ok (.invokevirtual 376, 3) := by decide +kernel
theorem dc_Mo_patch_31 : decode m_Mo_patch.2.1 31 = .ok (.iconst 0, 1) := by decide +kernel
theorem dc_Mo_patch_32 : decode m_Mo_patch.2.1 32 = .ok (.istore 4, 2) := by decide +kernel
theorem dc_Mo_patch_34 : decode m_Mo_patch.2.1 34 = .ok (.aload_n 0, 1) := by decide +kernel
theorem dc_Mo_patch_35 : decode m_Mo_patch.2.1 35 = .ok (.iload_n 2, 1) := by decide +kernel
theorem dc_Mo_patch_36 : decode m_Mo_patch.2.1 36 = .ok (.iconst 0, 1) := by decide +kernel
theorem dc_Mo_patch_37 : decode m_Mo_patch.2.1 37 = .ok (.invokevirtual 435, 3) := by decide +kernel
theorem dc_Mo_patch_40 : decode m_Mo_patch.2.1 40 = .ok (.ifCond .eq 12, 3) := by decide +kernel
theorem dc_Mo_patch_43 : decode m_Mo_patch.2.1 43 = .ok (.aload_n 0, 1) := by decide +kernel
theorem dc_Mo_patch_44 : decode m_Mo_patch.2.1 44 = .ok (.iload_n 1, 1) := by decide +kernel
theorem dc_Mo_patch_45 : decode m_Mo_patch.2.1 45 = .ok (.iconst 0, 1) := by decide +kernel
theorem dc_Mo_patch_46 : decode m_Mo_patch.2.1 46 = .ok (.invokevirtual 435, 3) := by decide +kernel
theorem dc_Mo_patch_49 : decode m_Mo_patch.2.1 49 = .ok (.ifCond .ne 22, 3) := by decide +kernel
theorem dc_Mo_patch_52 : decode m_Mo_patch.2.1 52 = .ok (.aload_n 0, 1) := by decide +kernel
theorem dc_Mo_patch_53 : decode m_Mo_patch.2.1 53 = .ok (.iload_n 2, 1) := by decide +kernel
theorem dc_Mo_patch_54 : decode m_Mo_patch.2.1 54 = .ok (.iconst 0, 1) := by decide +kernel
theorem dc_Mo_patch_55 : decode m_Mo_patch.2.1 55 = .ok (.invokevirtual 455, 3) := by decide +kernel
theorem dc_Mo_patch_58 : decode m_Mo_patch.2.1 58 = .ok (.istore 4, 2) := by decide +kernel
theorem dc_Mo_patch_60 : decode m_Mo_patch.2.1 60 = .ok (.aload_n 0, 1) := by decide +kernel
theorem dc_Mo_patch_61 : decode m_Mo_patch.2.1 61 = .ok (.iload_n 2, 1) := by decide +kernel
theorem dc_Mo_patch_62 : decode m_Mo_patch.2.1 62 = .ok (.iconst 0, 1) := by decide +kernel
theorem dc_Mo_patch_63 : decode m_Mo_patch.2.1 63 = .ok (.iconst 0, 1) := by decide +kernel
theorem dc_Mo_patch_64 : decode m_Mo_patch.2.1 64 = .ok (.iconst 0, 1) := by decide +kernel
theorem dc_Mo_patch_65 : decode m_Mo_patch.2.1 65 = .ok (.invokevirtual 438, 3) := by decide +kernel
theorem dc_Mo_patch_68 : decode m_Mo_patch.2.1 68 = .ok (.goto 361, 3) := by decide +kernel
theorem dc_Mo_patch_71 : decode m_Mo_patch.2.1 71 = .ok (.aload_n 0, 1) := by decide +kernel
theorem dc_Mo_patch_72 : decode m_Mo_patch.2.1 72 = .ok (.bipush 6, 2) := by decide +kernel
theorem dc_Mo_patch_74 : decode m_Mo_patch.2.1 74 = .ok (.iconst 0, 1) := by decide +kernel
theorem dc_Mo_patch_75 : decode m_Mo_patch.2.1 75 = .ok (.iload_n 2, 1) := by decide +kernel
theorem dc_Mo_patch_76 : decode m_Mo_patch.2.1 76 = .ok (.iconst 0, 1) := by decide +kernel
theorem dc_Mo_patch_77 : decode m_Mo_patch.2.1 77 = .ok (.iconst 0, 1) := by decide +kernel
theorem dc_Mo_patch_78 : decode m_Mo_patch.2.1 78 = .ok (.invokevirtual 442, 3) := by decide +kernel
theorem dc_Mo_patch_81 : decode m_Mo_patch.2.1 81 = .ok (.aload_n 0, 1) := by decide +kernel
theorem dc_Mo_patch_82 : decode m_Mo_patch.2.1 82 = .ok (.iconst 0, 1) := by decide +kernel
theorem dc_Mo_patch_83 : decode m_Mo_patch.2.1 83 = .ok (.iload_n 1, 1) := by decide +kernel
theorem dc_Mo_patch_84 : decode m_Mo_patch.2.1 84 = .ok (.iconst 0, 1) := by decide +kernel
theorem dc_Mo_patch_85 : decode m_Mo_patch.2.1 85 = .ok (.iload_n 2, 1) := by decide +kernel
theorem dc_Mo_patch_86 : decode m_Mo_patch.2.1 86 = .ok (.iconst 0, 1) := by decide +kernel
theorem dc_Mo_patch_87 : decode m_Mo_patch.2.1 87 = .ok (.invokevirtual 446, 3) := by decide +kernel
theorem dc_Mo_patch_90 : decode m_Mo_patch.2.1 90 = .ok (.iconst 0, 1) := by decide +kernel
theorem dc_Mo_patch_91 : decode m_Mo_patch.2.1 91 = .ok (.istore 5, 2) := by decide +kernel
theorem dc_Mo_patch_93 : decode m_Mo_patch.2.1 93 = .ok (.iload 5, 2) := by decide +kernel
theorem dc_Mo_patch_95 : decode m_Mo_patch.2.1 95 = .ok (.ifCond .lt 334, 3) := by decide +kernel
theorem dc_Mo_patch_98 : decode m_Mo_patch.2.1 98 = .ok (.aload_n 0, 1) := by decide +kernel
theorem dc_Mo_patch_99 : decode m_Mo_patch.2.1 99 = .ok (.getfield 156, 3) := by decide +kernel
theorem dc_Mo_patch_102 : decode m_Mo_patch.2.1 102 = .ok (.iload 5, 2) := by decide +kernel
theorem dc_Mo_patch_104 : decode m_Mo_patch.2.1 104 = .ok (.iaload, 1) := by decide +kernel
theorem dc_Mo_patch_105 : decode m_Mo_patch.2.1 105 = .ok (.ifCond .ne 19, 3) := by decide +kernel
theorem dc_Mo_patch_108 : decode m_Mo_patch.2.1 108 = .ok (.aload_n 0, 1) := by decide +kernel
theorem dc_Mo_patch_109 : decode m_Mo_patch.2.1 109 = .ok (.getfield 159, 3) := by decide +kernel
theorem dc_Mo_patch_112 : decode m_Mo_patch.2.1 112 = .ok (.iload 5, 2) := by decide +kernel
theorem dc_Mo_patch_114 : decode m_Mo_patch.2.1 114 = .ok (.iaload, 1) := by decide +kernel
theorem dc_Mo_patch_115 : decode m_Mo_patch.2.1 115 = .ok (.ifCond .ne 9, 3) := by decide +kernel
theorem dc_Mo_patch_118 : decode m_Mo_patch.2.1 118 = .ok (.iinc 5 (-1), 3) := by decide +kernel
theorem dc_Mo_patch_121 : decode m_Mo_patch.2.1 121 = .ok (.goto (-28), 3) := by decide +kernel
theorem dc_Mo_patch_124 : decode m_Mo_patch.2.1 124 = .ok (.aload_n 0, 1) := by decide +kernel
theorem dc_Mo_patch_125 : decode m_Mo_patch.2.1 125 = .ok (.iload 5, 2) := by decide +kernel
theorem dc_Mo_patch_127 : decode m_Mo_patch.2.1 127 = .ok (.iload_n 1, 1) := by decide +kernel
theorem dc_Mo_patch_128 : decode m_Mo_patch.2.1 128 = .ok (.iload_n 2, 1) := by decide +kernel
theorem dc_Mo_patch_129 : decode m_Mo_patch.2.1 129 = .ok (.invokevirtual 449, 3) := by decide +kernel
theorem dc_Mo_patch_132 : decode m_Mo_patch.2.1 132 = .ok (.istore 6, 2) := by decide +kernel
theorem dc_Mo_patch_134 : decode m_Mo_patch.2.1 134 = .ok (.iload 6, 2) := by decide +kernel
theorem dc_Mo_patch_136 : decode m_Mo_patch.2.1 136 = .ok (.ifCond .gt 13, 3) := by decide +kernel
theorem dc_Mo_patch_139 : decode m_Mo_patch.2.1 139 = .ok (.aload_n 0, 1) := by decide +kernel
theorem dc_Mo_patch_140 : decode m_Mo_patch.2.1 140 = .ok (.getfield 150, 3) := by decide +kernel
theorem dc_Mo_patch_143 : decode m_Mo_patch.2.1 143 = .ok (.iload 5, 2) := by decide +kernel
theorem dc_Mo_patch_145 : decode m_Mo_patch.2.1 145 = .ok (.iaload, 1) := by decide +kernel
theorem dc_Mo_patch_146 : decode m_Mo_patch.2.1 146 = .ok (.goto 4, 3) := by decide +kernel
theorem dc_Mo_patch_149 : decode m_Mo_patch.2.1 149 = .ok (.iconst (-1), 1) := by decide +kernel
theorem dc_Mo_patch_150 : decode m_Mo_patch.2.1 150 = .ok (.istore 7, 2) := by decide +kernel
theorem dc_Mo_patch_152 : decode m_Mo_patch.2.1 152 = .ok (.iload 6, 2) := by decide +kernel
theorem dc_Mo_patch_154 : decode m_Mo_patch.2.1 154 = .ok (.ifCond .lt 13, 3) := by decide +kernel
theorem dc_Mo_patch_157 : decode m_Mo_patch.2.1 157 = .ok (.aload_n 0, 1) := by decide +kernel
theorem dc_Mo_patch_158 : decode m_Mo_patch.2.1 158 = .ok (.getfield 153, 3) := by decide +kernel
theorem dc_Mo_patch_161 : decode m_Mo_patch.2.1 161 = .ok (.iload 5, 2) := by decide +kernel
theorem dc_Mo_patch_163 : decode m_Mo_patch.2.1 163 = .ok (.iaload, 1) := by decide +kernel
theorem dc_Mo_patch_164 : decode m_Mo_patch.2.1 164 = .ok (.goto 4, 3) := by decide +kernel
theorem dc_Mo_patch_167 : decode m_Mo_patch.2.1 167 = .ok (.iconst (-1), 1) := by decide +kernel
theorem dc_Mo_patch_168 : decode m_Mo_patch.2.1 168 = .ok (.istore 8, 2) := by decide +kernel
theorem dc_Mo_patch_170 : decode m_Mo_patch.2.1 170 = .ok (.iload 7, 2) := by decide +kernel
theorem dc_Mo_patch_172 : decode m_Mo_patch.2.1 172 = .ok (.ifCond .lt 28, 3) := by decide +kernel
theorem dc_Mo_patch_175 : decode m_Mo_patch.2.1 175 = .ok (.aload_n 0, 1) := by decide +kernel
theorem dc_Mo_patch_176 : decode m_Mo_patch.2.1 176 = .ok (.getfield 150, 3) := by decide +kernel
theorem dc_Mo_patch_179 : decode m_Mo_patch.2.1 179 = .ok (.iload 5, 2) := by decide +kernel
theorem dc_Mo_patch_181 : decode m_Mo_patch.2.1 181 = .ok (.aload_n 0, 1) := by decide +kernel
theorem dc_Mo_patch_182 : decode m_Mo_patch.2.1 182 = .ok (.iload_n 1, 1) := by decide +kernel
theorem dc_Mo_patch_183 : decode m_Mo_patch.2.1 183 = .ok (.iload 7, 2) := by decide +kernel
theorem dc_Mo_patch_185 : decode m_Mo_patch.2.1 185 = .ok (.invokevirtual 452, 3) := by decide +kernel
theorem dc_Mo_patch_188 : decode m_Mo_patch.2.1 188 = .ok (.iastore, 1) := by decide +kernel
theorem dc_Mo_patch_189 : decode m_Mo_patch.2.1 189 = .ok (.aload_n 0, 1) := by decide +kernel
theorem dc_Mo_patch_190 : decode m_Mo_patch.2.1 190 = .ok (.getfield 156, 3) := by decide +kernel
theorem dc_Mo_patch_193 : decode m_Mo_patch.2.1 193 = .ok (.iload 5, 2) := by decide +kernel
theorem dc_Mo_patch_195 : decode m_Mo_patch.2.1 195 = .ok (.dup2, 1) := by decide +kernel
theorem dc_Mo_patch_196 : decode m_Mo_patch.2.1 196 = .ok (.iaload, 1) := by decide +kernel
theorem dc_Mo_patch_197 : decode m_Mo_patch.2.1 197 = .ok (.iconst 1, 1) := by decide +kernel
theorem dc_Mo_patch_198 : decode m_Mo_patch.2.1 198 = .ok (.isub, 1) := by decide +kernel
theorem dc_Mo_patch_199 : decode m_Mo_patch.2.1 199 = .ok (.iastore, 1) := by decide +kernel
theorem dc_Mo_patch_200 : decode m_Mo_patch.2.1 200 = .ok (.iload 8, 2) := by decide +kernel
theorem dc_Mo_patch_202 : decode m_Mo_patch.2.1 202 = .ok (.ifCond .lt 28, 3) := by decide +kernel
theorem dc_Mo_patch_205 : decode m_Mo_patch.2.1 205 = .ok (.aload_n 0, 1) := by decide +kernel
theorem dc_Mo_patch_206 : decode m_Mo_patch.2.1 206 = .ok (.getfield 153, 3) := by decide +kernel
theorem dc_Mo_patch_209 : decode m_Mo_patch.2.1 209 = .ok (.iload 5, 2) := by decide +kernel
theorem dc_Mo_patch_211 : decode m_Mo_patch.2.1 211 = .ok (.aload_n 0, 1) := by decide +kernel
theorem dc_Mo_patch_212 : decode m_Mo_patch.2.1 212 = .ok (.iload_n 2, 1) := by decide +kernel
theorem dc_Mo_patch_213 : decode m_Mo_patch.2.1 213 = .ok (.iload 8, 2) := by decide +kernel
theorem dc_Mo_patch_215 : decode m_Mo_patch.2.1 215 = .ok (.invokevirtual 452, 3) := by decide +kernel
theorem dc_Mo_patch_218 : decode m_Mo_patch.2.1 218 = .ok (.iastore, 1) := by decide +kernel
theorem dc_Mo_patch_219 : decode m_Mo_patch.2.1 219 = .ok (.aload_n 0, 1) := by decide +kernel
theorem dc_Mo_patch_220 : decode m_Mo_patch.2.1 220 = .ok (.getfield 159, 3) := by decide +kernel
theorem dc_Mo_patch_223 : decode m_Mo_patch.2.1 223 = .ok (.iload 5, 2) := by decide +kernel
theorem dc_Mo_patch_225 : decode m_Mo_patch.2.1 225 = .ok (.dup2, 1) := by decide +kernel
theorem dc_Mo_patch_226 : decode m_Mo_patch.2.1 226 = .ok (.iaload, 1) := by decide +kernel
theorem dc_Mo_patch_227 : decode m_Mo_patch.2.1 227 = .ok (.iconst 1, 1) := by decide +kernel
theorem dc_Mo_patch_228 : decode m_Mo_patch.2.1 228 = .ok (.isub, 1) := by decide +kernel
theorem dc_Mo_patch_229 : decode m_Mo_patch.2.1 229 = .ok (.iastore, 1) := by decide +kernel
theorem dc_Mo_patch_230 : decode m_Mo_patch.2.1 230 = .ok (.iload 8, 2) := by decide +kernel
theorem dc_Mo_patch_232 : decode m_Mo_patch.2.1 232 = .ok (.ifCond .ge 19, 3) := by decide +kernel
theorem dc_Mo_patch_235 : decode m_Mo_patch.2.1 235 = .ok (.aload_n 0, 1) := by decide +kernel
theorem dc_Mo_patch_236 : decode m_Mo_patch.2.1 236 = .ok (.iconst 0, 1) := by decide +kernel
theorem dc_Mo_patch_237 : decode m_Mo_patch.2.1 237 = .ok (.iload 5, 2) := by decide +kernel
theorem dc_Mo_patch_239 : decode m_Mo_patch.2.1 239 = .ok (.iconst 1, 1) := by decide +kernel
theorem dc_Mo_patch_240 : decode m_Mo_patch.2.1 240 = .ok (.iadd, 1) := by decide +kernel
theorem dc_Mo_patch_241 : decode m_Mo_patch.2.1 241 = .ok (.iload_n 1, 1) := by decide +kernel
theorem dc_Mo_patch_242 : decode m_Mo_patch.2.1 242 = .ok (.iload 7, 2) := by decide +kernel
theorem dc_Mo_patch_244 : decode m_Mo_patch.2.1 244 = .ok (.iconst 1, 1) := by decide +kernel
theorem dc_Mo_patch_245 : decode m_Mo_patch.2.1 245 = .ok (.invokevirtual 442, 3) := by decide +kernel
theorem dc_Mo_patch_248 : decode m_Mo_patch.2.1 248 = .ok (.goto 178, 3) := by decide +kernel
theorem dc_Mo_patch_251 : decode m_Mo_patch.2.1 251 = .ok (.iload 7, 2) := by decide +kernel
theorem dc_Mo_patch_253 : decode m_Mo_patch.2.1 253 = .ok (.ifCond .lt 19, 3) := by decide +kernel
theorem dc_Mo_patch_256 : decode m_Mo_patch.2.1 256 = .ok (.aload_n 0, 1) := by decide +kernel
theorem dc_Mo_patch_257 : decode m_Mo_patch.2.1 257 = .ok (.iload_n 1, 1) := by decide +kernel
theorem dc_Mo_patch_258 : decode m_Mo_patch.2.1 258 = .ok (.iload 7, 2) := by decide +kernel
theorem dc_Mo_patch_260 : decode m_Mo_patch.2.1 260 = .ok (.iload_n 2, 1) := by decide +kernel
theorem dc_Mo_patch_261 : decode m_Mo_patch.2.1 261 = .ok (.iload 8, 2) := by decide +kernel
theorem dc_Mo_patch_263 : decode m_Mo_patch.2.1 263 = .ok (.invokevirtual 432, 3) := by decide +kernel
theorem dc_Mo_patch_266 : decode m_Mo_patch.2.1 266 = .ok (.ifCond .eq 6, 3) := by decide +kernel
theorem dc_Mo_patch_269 : decode m_Mo_patch.2.1 269 = .ok (.goto (-176), 3) := by decide +kernel
theorem dc_Mo_patch_272 : decode m_Mo_patch.2.1 272 = .ok (.aload_n 0, 1) := by decide +kernel
theorem dc_Mo_patch_273 : decode m_Mo_patch.2.1 273 = .ok (.iload_n 2, 1) := by decide +kernel
theorem dc_Mo_patch_274 : decode m_Mo_patch.2.1 274 = .ok (.iload 8, 2) := by decide +kernel
theorem dc_Mo_patch_276 : decode m_Mo_patch.2.1 276 = .ok (.invokevirtual 435, 3) := by decide +kernel
theorem dc_Mo_patch_279 : decode m_Mo_patch.2.1 279 = .ok (.ifCond .eq 97, 3) := by decide +kernel
theorem dc_Mo_patch_282 : decode m_Mo_patch.2.1 282 = .ok (.iload 7, 2) := by decide +kernel
theorem dc_Mo_patch_284 : decode m_Mo_patch.2.1 284 = .ok (.ifCond .lt 13, 3) := by decide +kernel
theorem dc_Mo_patch_287 : decode m_Mo_patch.2.1 287 = .ok (.aload_n 0, 1) := by decide +kernel
theorem dc_Mo_patch_288 : decode m_Mo_patch.2.1 288 = .ok (.iload_n 1, 1) := by decide +kernel
theorem dc_Mo_patch_289 : decode m_Mo_patch.2.1 289 = .ok (.iload 7, 2) := by decide +kernel
theorem dc_Mo_patch_291 : decode m_Mo_patch.2.1 291 = .ok (.invokevirtual 435, 3) := by decide +kernel
theorem dc_Mo_patch_294 : decode m_Mo_patch.2.1 294 = .ok (.ifCond .eq 82, 3) := by decide +kernel
theorem dc_Mo_patch_297 : decode m_Mo_patch.2.1 297 = .ok (.iload 4, 2) := by decide +kernel
theorem dc_Mo_patch_299 : decode m_Mo_patch.2.1 299 = .ok (.ifCond .ne 18, 3) := by decide +kernel
theorem dc_Mo_patch_302 : decode m_Mo_patch.2.1 302 = .ok (.iload 7, 2) := by decide +kernel
theorem dc_Mo_patch_304 : decode m_Mo_patch.2.1 304 = .ok (.ifCond .ge 17, 3) := by decide +kernel
theorem dc_Mo_patch_307 : decode m_Mo_patch.2.1 307 = .ok (.aload_n 0, 1) := by decide +kernel
theorem dc_Mo_patch_308 : decode m_Mo_patch.2.1 308 = .ok (.iload_n 2, 1) := by decide +kernel
theorem dc_Mo_patch_309 : decode m_Mo_patch.2.1 309 = .ok (.iload 8, 2) := by decide +kernel
theorem dc_Mo_patch_311 : decode m_Mo_patch.2.1 311 = .ok (.invokevirtual 455, 3) := by decide +kernel
theorem dc_Mo_patch_314 : decode m_Mo_patch.2.1 314 = .ok (.ifCond .eq 7, 3) := by decide +kernel
theorem dc_Mo_patch_317 : decode m_Mo_patch.2.1 317 = .ok (.iconst 1, 1) := by decide +kernel
theorem dc_Mo_patch_318 : decode m_Mo_patch.2.1 318 = .ok (.goto 4, 3) := by decide +kernel
theorem dc_Mo_patch_321 : decode m_Mo_patch.2.1 321 = .ok (.iconst 0, 1) := by decide +kernel
theorem dc_Mo_patch_322 : decode m_Mo_patch.2.1 322 = .ok (.istore 4, 2) := by decide +kernel
theorem dc_Mo_patch_324 : decode m_Mo_patch.2.1 324 = .ok (.iload 7, 2) := by decide +kernel
theorem dc_Mo_patch_326 : decode m_Mo_patch.2.1 326 = .ok (.ifCond .ge 18, 3) := by decide +kernel
theorem dc_Mo_patch_329 : decode m_Mo_patch.2.1 329 = .ok (.aload_n 0, 1) := by decide +kernel
theorem dc_Mo_patch_330 : decode m_Mo_patch.2.1 330 = .ok (.iload_n 2, 1) := by decide +kernel
theorem dc_Mo_patch_331 : decode m_Mo_patch.2.1 331 = .ok (.iload 8, 2) := by decide +kernel
theorem dc_Mo_patch_333 : decode m_Mo_patch.2.1 333 = .ok (.iload 5, 2) := by decide +kernel
theorem dc_Mo_patch_335 : decode m_Mo_patch.2.1 335 = .ok (.iconst 1, 1) := by decide +kernel
theorem dc_Mo_patch_336 : decode m_Mo_patch.2.1 336 = .ok (.iadd, 1) := by decide +kernel
theorem dc_Mo_patch_337 : decode m_Mo_patch.2.1 337 = .ok (.iconst 1, 1) := by decide +kernel
theorem dc_Mo_patch_338 : decode m_Mo_patch.2.1 338 = .ok (.invokevirtual 438, 3) := by decide +kernel
theorem dc_Mo_patch_341 : decode m_Mo_patch.2.1 341 = .ok (.goto (-248), 3) := by decide +kernel
theorem dc_Mo_patch_344 : decode m_Mo_patch.2.1 344 = .ok (.aload_n 0, 1) := by decide +kernel
theorem dc_Mo_patch_345 : decode m_Mo_patch.2.1 345 = .ok (.bipush 6, 2) := by decide +kernel
theorem dc_Mo_patch_347 : decode m_Mo_patch.2.1 347 = .ok (.iload 5, 2) := by decide +kernel
theorem dc_Mo_patch_349 : decode m_Mo_patch.2.1 349 = .ok (.iconst 1, 1) := by decide +kernel
theorem dc_Mo_patch_350 : decode m_Mo_patch.2.1 350 = .ok (.iadd, 1) := by decide +kernel
theorem dc_Mo_patch_351 : decode m_Mo_patch.2.1 351 = .ok (.iload_n 2, 1) := by decide +kernel
theorem dc_Mo_patch_352 : decode m_Mo_patch.2.1 352 = .ok (.iload 8, 2) := by decide +kernel
theorem dc_Mo_patch_354 : decode m_Mo_patch.2.1 354 = .ok (.iconst 1, 1) := by decide +kernel
theorem dc_Mo_patch_355 : decode m_Mo_patch.2.1 355 = .ok (.invokevirtual 442, 3) := by decide +kernel
theorem dc_Mo_patch_358 : decode m_Mo_patch.2.1 358 = .ok (.iinc 5 1, 3) := by decide +kernel
theorem dc_Mo_patch_361 : decode m_Mo_patch.2.1 361 = .ok (.aload_n 0, 1) := by decide +kernel
theorem dc_Mo_patch_362 : decode m_Mo_patch.2.1 362 = .ok (.iload 5, 2) := by decide +kernel
theorem dc_Mo_patch_364 : decode m_Mo_patch.2.1 364 = .ok (.iload_n 1, 1) := by decide +kernel
theorem dc_Mo_patch_365 : decode m_Mo_patch.2.1 365 = .ok (.iload 7, 2) := by decide +kernel
theorem dc_Mo_patch_367 : decode m_Mo_patch.2.1 367 = .ok (.iload_n 2, 1) := by decide +kernel
theorem dc_Mo_patch_368 : decode m_Mo_patch.2.1 368 = .ok (.iload 8, 2) := by decide +kernel
theorem dc_Mo_patch_370 : decode m_Mo_patch.2.1 370 = .ok (.invokevirtual 446, 3) := by decide +kernel
theorem dc_Mo_patch_373 : decode m_Mo_patch.2.1 373 = .ok (.goto 53, 3) := by decide +kernel
theorem dc_Mo_patch_376 : decode m_Mo_patch.2.1 376 = .ok (.iload 4, 2) := by decide +kernel
theorem dc_Mo_patch_378 : decode m_Mo_patch.2.1 378 = .ok (.ifCond .ne 29, 3) := by decide +kernel
theorem dc_Mo_patch_381 : decode m_Mo_patch.2.1 381 = .ok (.aload_n 0, 1) := by decide +kernel
theorem dc_Mo_patch_382 : decode m_Mo_patch.2.1 382 = .ok (.getfield 47, 3) := by decide +kernel
theorem dc_Mo_patch_385 : decode m_Mo_patch.2.1 385 = .ok (.sipush 500, 3) := by decide +kernel
theorem dc_Mo_patch_388 : decode m_Mo_patch.2.1 388 = .ok (.iload_n 2, 1) := by decide +kernel
theorem dc_Mo_patch_389 : decode m_Mo_patch.2.1 389 = .ok (.imul, 1) := by decide +kernel
theorem dc_Mo_patch_390 : decode m_Mo_patch.2.1 390 = .ok (.iload 8, 2) := by decide +kernel
theorem dc_Mo_patch_392 : decode m_Mo_patch.2.1 392 = .ok (.iadd, 1) := by decide +kernel
theorem dc_Mo_patch_393 : decode m_Mo_patch.2.1 393 = .ok (.iaload, 1) := by decide +kernel
theorem dc_Mo_patch_394 : decode m_Mo_patch.2.1 394 = .ok (.ifCond .eq 13, 3) := by decide +kernel
theorem dc_Mo_patch_397 : decode m_Mo_patch.2.1 397 = .ok (.aload_n 0, 1) := by decide +kernel
theorem dc_Mo_patch_398 : decode m_Mo_patch.2.1 398 = .ok (.iload_n 2, 1) := by decide +kernel
theorem dc_Mo_patch_399 : decode m_Mo_patch.2.1 399 = .ok (.iload 8, 2) := by decide +kernel
theorem dc_Mo_patch_401 : decode m_Mo_patch.2.1 401 = .ok (.invokevirtual 455, 3) := by decide +kernel
theorem dc_Mo_patch_404 : decode m_Mo_patch.2.1 404 = .ok (.ifCond .eq 7, 3) := by decide +kernel
theorem dc_Mo_patch_407 : decode m_Mo_patch.2.1 407 = .ok (.iconst 1, 1) := by decide +kernel
theorem dc_Mo_patch_408 : decode m_Mo_patch.2.1 408 = .ok (.goto 4, 3) := by decide +kernel
theorem dc_Mo_patch_411 : decode m_Mo_patch.2.1 411 = .ok (.iconst 0, 1) := by decide +kernel
theorem dc_Mo_patch_412 : decode m_Mo_patch.2.1 412 = .ok (.istore 4, 2) := by decide +kernel
theorem dc_Mo_patch_414 : decode m_Mo_patch.2.1 414 = .ok (.aload_n 0, 1) := by decide +kernel
theorem dc_Mo_patch_415 : decode m_Mo_patch.2.1 415 = .ok (.iload_n 2, 1) := by decide +kernel
theorem dc_Mo_patch_416 : decode m_Mo_patch.2.1 416 = .ok (.iload 8, 2) := by decide +kernel
theorem dc_Mo_patch_418 : decode m_Mo_patch.2.1 418 = .ok (.iload 5, 2) := by decide +kernel
theorem dc_Mo_patch_420 : decode m_Mo_patch.2.1 420 = .ok (.iconst 1, 1) := by decide +kernel
theorem dc_Mo_patch_421 : decode m_Mo_patch.2.1 421 = .ok (.iadd, 1) := by decide +kernel
theorem dc_Mo_patch_422 : decode m_Mo_patch.2.1 422 = .ok (.iconst 1, 1) := by decide +kernel
theorem dc_Mo_patch_423 : decode m_Mo_patch.2.1 423 = .ok (.invokevirtual 438, 3) := by decide +kernel
theorem dc_Mo_patch_426 : decode m_Mo_patch.2.1 426 = .ok (.goto (-333), 3) := by decide +kernel
theorem dc_Mo_patch_429 : decode m_Mo_patch.2.1 429 = .ok (.iload 4, 2) := by decide +kernel
theorem dc_Mo_patch_431 : decode m_Mo_patch.2.1 431 = .ok (.ifCond .eq 6, 3) := by decide +kernel
theorem dc_Mo_patch_434 : decode m_Mo_patch.2.1 434 = .ok (.bipush (-2), 2) := by decide +kernel
theorem dc_Mo_patch_436 : decode m_Mo_patch.2.1 436 = .ok (.ireturn, 1) := by decide +kernel
theorem dc_Mo_patch_437 : decode m_Mo_patch.2.1 437 = .ok (.aload_n 0, 1) := by decide +kernel
theorem dc_Mo_patch_438 : decode m_Mo_patch.2.1 438 = .ok (.getfield 299, 3) := by decide +kernel
theorem dc_Mo_patch_441 : decode m_Mo_patch.2.1 441 = .ok (.ifCond .eq 5, 3) := by decide +kernel
theorem dc_Mo_patch_444 : decode m_Mo_patch.2.1 444 = .ok (.iconst (-1), 1) := by decide +kernel
theorem dc_Mo_patch_445 : decode m_Mo_patch.2.1 445 = .ok (.ireturn, 1) := by decide +kernel
theorem dc_Mo_patch_446 : decode m_Mo_patch.2.1 446 = .ok (.aload_n 0, 1) := by decide +kernel
theorem dc_Mo_patch_447 : decode m_Mo_patch.2.1 447 = .ok (.iload_n 3, 1) := by decide +kernel
theorem dc_Mo_patch_448 : decode m_Mo_patch.2.1 448 = .ok (.invokevirtual 392, 3) := by decide +kernel
theorem dc_Mo_patch_451 : decode m_Mo_patch.2.1 451 = .ok (.aload_n 0, 1) := by decide +kernel
theorem dc_Mo_patch_452 : decode m_Mo_patch.2.1 452 = .ok (.getfield 35, 3) := by decide +kernel
theorem dc_Mo_patch_455 : decode m_Mo_patch.2.1 455 = .ok (.iload_n 3, 1) := by decide +kernel
theorem dc_Mo_patch_456 : decode m_Mo_patch.2.1 456 = .ok (.iaload, 1) := by decide +kernel
theorem dc_Mo_patch_457 : decode m_Mo_patch.2.1 457 = .ok (.ireturn, 1) := by decide +kernel
theorem b_Mo_patch_0 {E : En_t} {d : Nat} {σ : S_t} {Q : Option Value → S_t → Prop} {x1 : Int32} {x2 : Int32} {x3 : Int32}
    (h : CI E d m_Mo_has [pv E 0, .int x1, .int (0 : Int32)] σ (fun r2 σ1 => (r2 = 0 → Q (some (.int (-1 : Int32))) σ1) ∧ (¬ r2 = 0 → CI E d m_Mo_has [pv E 0, .int x2, .int (0 : Int32)] σ1 (fun r4 σ3 => (r4 = 0 → Q (some (.int (-1 : Int32))) σ3) ∧ (¬ r4 = 0 → CI E d m_Mo_isShelf [.int x3] σ3 (fun r6 σ5 => (¬ r6 = 0 → CV E d m_Mo_beginMade [pv E 0] σ5 (fun σ7 => CI E d m_Mo_isObject [pv E 0, .int x2, .int (0 : Int32)] σ7 (fun r9 σ8 => (r9 = 0 → JE E (d + 1) m_Mo_patch 52 [(0, pv E 0), (2, .int x2), (3, .int x3)] [] σ8 Q) ∧ (¬ r9 = 0 → CI E d m_Mo_isObject [pv E 0, .int x1, .int (0 : Int32)] σ8 (fun r11 σ10 => (¬ r11 = 0 → CV E d m_Mo_named [pv E 0, .int (6 : Int32), .int (0 : Int32), .int x2, .int (0 : Int32), .int (0 : Int32)] σ10 (fun σ12 => CV E d m_Mo_openPair [pv E 0, .int (0 : Int32), .int x1, .int (0 : Int32), .int x2, .int (0 : Int32)] σ12 (fun σ13 => JE E (d + 1) m_Mo_patch 93 [(0, pv E 0), (1, .int x1), (2, .int x2), (3, .int x3), (4, .int (0 : Int32)), (5, .int (0 : Int32))] [] σ13 Q))) ∧ (r11 = 0 → JE E (d + 1) m_Mo_patch 52 [(0, pv E 0), (2, .int x2), (3, .int x3)] [] σ10 Q)))))) ∧ (r6 = 0 → Q (some (.int (-1 : Int32))) σ5))))))) :
    JE E (d + 1) m_Mo_patch 0 [(0, pv E 0), (1, .int x1), (2, .int x2), (3, .int x3)] [] σ Q := by
  refine J_aload_n dc_Mo_patch_0 (Eq.refl 1) 0 rfl ?_
  refine J_iload_n dc_Mo_patch_1 (Eq.refl 2) 1 rfl ?_
  refine J_iconst (v := (0 : Int32)) dc_Mo_patch_2 (Eq.refl 3) rfl ?_
  refine J_callVI (As := [.int x1, .int (0 : Int32)]) (st := []) dc_Mo_patch_3 (Eq.refl 6) lk_Mo_408 mi_Mo_has rfl (Nat.le_of_ble_eq_true rfl) rfl rfl (Nat.le_of_ble_eq_true rfl) rfl (Nat.le_of_ble_eq_true rfl) (CI.mono h (fun r2 σ1 h => ?_))
  refine J_if_eq dc_Mo_patch_6 (Eq.refl 9) rfl (fun hc => ?_) (fun hc => ?_)
  · have h := h.1 hc
    refine J_iconst (v := (-1 : Int32)) dc_Mo_patch_25 (Eq.refl 26) rfl ?_
    exact J_iret dc_Mo_patch_26 rfl h
  · have h := h.2 hc
    refine J_aload_n dc_Mo_patch_9 (Eq.refl 10) 0 rfl ?_
    refine J_iload_n dc_Mo_patch_10 (Eq.refl 11) 2 rfl ?_
    refine J_iconst (v := (0 : Int32)) dc_Mo_patch_11 (Eq.refl 12) rfl ?_
    refine J_callVI (As := [.int x2, .int (0 : Int32)]) (st := []) dc_Mo_patch_12 (Eq.refl 15) lk_Mo_408 mi_Mo_has rfl (Nat.le_of_ble_eq_true rfl) rfl rfl (Nat.le_of_ble_eq_true rfl) rfl (Nat.le_of_ble_eq_true rfl) (CI.mono h (fun r4 σ3 h => ?_))
    refine J_if_eq dc_Mo_patch_15 (Eq.refl 18) rfl (fun hc => ?_) (fun hc => ?_)
    · have h := h.1 hc
      refine J_iconst (v := (-1 : Int32)) dc_Mo_patch_25 (Eq.refl 26) rfl ?_
      exact J_iret dc_Mo_patch_26 rfl h
    · have h := h.2 hc
      refine J_iload_n dc_Mo_patch_18 (Eq.refl 19) 3 rfl ?_
      refine J_callSI (As := [.int x3]) (st := []) dc_Mo_patch_19 (Eq.refl 22) lk_Mo_291 mi_Mo_isShelf (Nat.le_of_ble_eq_true rfl) rfl (Nat.le_of_ble_eq_true rfl) (CI.mono h (fun r6 σ5 h => ?_))
      refine J_if_ne dc_Mo_patch_22 (Eq.refl 25) rfl (fun hc => ?_) (fun hc => ?_)
      · have h := h.1 hc
        refine J_aload_n dc_Mo_patch_27 (Eq.refl 28) 0 rfl ?_
        refine J_callVV (As := []) (st := []) dc_Mo_patch_28 (Eq.refl 31) lk_Mo_376 mi_Mo_beginMade rfl (Nat.le_of_ble_eq_true rfl) rfl rfl (Nat.le_of_ble_eq_true rfl) rfl (Nat.le_of_ble_eq_true rfl) (CV.mono h (fun σ7 h => ?_))
        refine J_iconst (v := (0 : Int32)) dc_Mo_patch_31 (Eq.refl 32) rfl ?_
        refine J_istore (L' := [(4, .int (0 : Int32)), (0, pv E 0), (1, .int x1), (2, .int x2), (3, .int x3)]) dc_Mo_patch_32 (Eq.refl 34) (Nat.le_of_ble_eq_true rfl) rfl ?_
        refine J_aload_n dc_Mo_patch_34 (Eq.refl 35) 1 rfl ?_
        refine J_iload_n dc_Mo_patch_35 (Eq.refl 36) 3 rfl ?_
        refine J_iconst (v := (0 : Int32)) dc_Mo_patch_36 (Eq.refl 37) rfl ?_
        refine J_callVI (As := [.int x2, .int (0 : Int32)]) (st := []) dc_Mo_patch_37 (Eq.refl 40) lk_Mo_435 mi_Mo_isObject rfl (Nat.le_of_ble_eq_true rfl) rfl rfl (Nat.le_of_ble_eq_true rfl) rfl (Nat.le_of_ble_eq_true rfl) (CI.mono h (fun r9 σ8 h => ?_))
        refine J_if_eq dc_Mo_patch_40 (Eq.refl 43) rfl (fun hc => ?_) (fun hc => ?_)
        · have h := h.1 hc
          refine J_sub [1, 3, 4] rfl ?_
          exact h
        · have h := h.2 hc
          refine J_aload_n dc_Mo_patch_43 (Eq.refl 44) 1 rfl ?_
          refine J_iload_n dc_Mo_patch_44 (Eq.refl 45) 2 rfl ?_
          refine J_iconst (v := (0 : Int32)) dc_Mo_patch_45 (Eq.refl 46) rfl ?_
          refine J_callVI (As := [.int x1, .int (0 : Int32)]) (st := []) dc_Mo_patch_46 (Eq.refl 49) lk_Mo_435 mi_Mo_isObject rfl (Nat.le_of_ble_eq_true rfl) rfl rfl (Nat.le_of_ble_eq_true rfl) rfl (Nat.le_of_ble_eq_true rfl) (CI.mono h (fun r11 σ10 h => ?_))
          refine J_if_ne dc_Mo_patch_49 (Eq.refl 52) rfl (fun hc => ?_) (fun hc => ?_)
          · have h := h.1 hc
            refine J_aload_n dc_Mo_patch_71 (Eq.refl 72) 1 rfl ?_
            refine J_bipush (v := (6 : Int32)) dc_Mo_patch_72 (Eq.refl 74) rfl ?_
            refine J_iconst (v := (0 : Int32)) dc_Mo_patch_74 (Eq.refl 75) rfl ?_
            refine J_iload_n dc_Mo_patch_75 (Eq.refl 76) 3 rfl ?_
            refine J_iconst (v := (0 : Int32)) dc_Mo_patch_76 (Eq.refl 77) rfl ?_
            refine J_iconst (v := (0 : Int32)) dc_Mo_patch_77 (Eq.refl 78) rfl ?_
            refine J_callVV (As := [.int (6 : Int32), .int (0 : Int32), .int x2, .int (0 : Int32), .int (0 : Int32)]) (st := []) dc_Mo_patch_78 (Eq.refl 81) lk_Mo_442 mi_Mo_named rfl (Nat.le_of_ble_eq_true rfl) rfl rfl (Nat.le_of_ble_eq_true rfl) rfl (Nat.le_of_ble_eq_true rfl) (CV.mono h (fun σ12 h => ?_))
            refine J_aload_n dc_Mo_patch_81 (Eq.refl 82) 1 rfl ?_
            refine J_iconst (v := (0 : Int32)) dc_Mo_patch_82 (Eq.refl 83) rfl ?_
            refine J_iload_n dc_Mo_patch_83 (Eq.refl 84) 2 rfl ?_
            refine J_iconst (v := (0 : Int32)) dc_Mo_patch_84 (Eq.refl 85) rfl ?_
            refine J_iload_n dc_Mo_patch_85 (Eq.refl 86) 3 rfl ?_
            refine J_iconst (v := (0 : Int32)) dc_Mo_patch_86 (Eq.refl 87) rfl ?_
            refine J_callVV (As := [.int (0 : Int32), .int x1, .int (0 : Int32), .int x2, .int (0 : Int32)]) (st := []) dc_Mo_patch_87 (Eq.refl 90) lk_Mo_446 mi_Mo_openPair rfl (Nat.le_of_ble_eq_true rfl) rfl rfl (Nat.le_of_ble_eq_true rfl) rfl (Nat.le_of_ble_eq_true rfl) (CV.mono h (fun σ13 h => ?_))
            refine J_iconst (v := (0 : Int32)) dc_Mo_patch_90 (Eq.refl 91) rfl ?_
            refine J_istore (L' := [(5, .int (0 : Int32)), (4, .int (0 : Int32)), (0, pv E 0), (1, .int x1), (2, .int x2), (3, .int x3)]) dc_Mo_patch_91 (Eq.refl 93) (Nat.le_of_ble_eq_true rfl) rfl ?_
            refine J_sub [2, 3, 4, 5, 1, 0] rfl ?_
            exact h
          · have h := h.2 hc
            refine J_sub [1, 3, 4] rfl ?_
            exact h
      · have h := h.2 hc
        refine J_iconst (v := (-1 : Int32)) dc_Mo_patch_25 (Eq.refl 26) rfl ?_
        exact J_iret dc_Mo_patch_26 rfl h
theorem b_Mo_patch_52 {E : En_t} {d : Nat} {σ : S_t} {Q : Option Value → S_t → Prop} {x2 : Int32} {x3 : Int32}
    (h : CI E d m_Mo_hasNull [pv E 0, .int x2, .int (0 : Int32)] σ (fun r2 σ1 => CV E d m_Mo_copy [pv E 0, .int x2, .int (0 : Int32), .int (0 : Int32), .int (0 : Int32)] σ1 (fun σ3 => JE E (d + 1) m_Mo_patch 429 [(0, pv E 0), (3, .int x3), (4, .int r2)] [] σ3 Q))) :
    JE E (d + 1) m_Mo_patch 52 [(0, pv E 0), (2, .int x2), (3, .int x3)] [] σ Q := by
  refine J_aload_n dc_Mo_patch_52 (Eq.refl 53) 0 rfl ?_
  refine J_iload_n dc_Mo_patch_53 (Eq.refl 54) 1 rfl ?_
  refine J_iconst (v := (0 : Int32)) dc_Mo_patch_54 (Eq.refl 55) rfl ?_
  refine J_callVI (As := [.int x2, .int (0 : Int32)]) (st := []) dc_Mo_patch_55 (Eq.refl 58) lk_Mo_455 mi_Mo_hasNull rfl (Nat.le_of_ble_eq_true rfl) rfl rfl (Nat.le_of_ble_eq_true rfl) rfl (Nat.le_of_ble_eq_true rfl) (CI.mono h (fun r2 σ1 h => ?_))
  refine J_istore (L' := [(4, .int r2), (0, pv E 0), (2, .int x2), (3, .int x3)]) dc_Mo_patch_58 (Eq.refl 60) (Nat.le_of_ble_eq_true rfl) rfl ?_
  refine J_aload_n dc_Mo_patch_60 (Eq.refl 61) 1 rfl ?_
  refine J_iload_n dc_Mo_patch_61 (Eq.refl 62) 2 rfl ?_
  refine J_iconst (v := (0 : Int32)) dc_Mo_patch_62 (Eq.refl 63) rfl ?_
  refine J_iconst (v := (0 : Int32)) dc_Mo_patch_63 (Eq.refl 64) rfl ?_
  refine J_iconst (v := (0 : Int32)) dc_Mo_patch_64 (Eq.refl 65) rfl ?_
  refine J_callVV (As := [.int x2, .int (0 : Int32), .int (0 : Int32), .int (0 : Int32)]) (st := []) dc_Mo_patch_65 (Eq.refl 68) lk_Mo_438 mi_Mo_copy rfl (Nat.le_of_ble_eq_true rfl) rfl rfl (Nat.le_of_ble_eq_true rfl) rfl (Nat.le_of_ble_eq_true rfl) (CV.mono h (fun σ3 h => ?_))
  refine J_goto dc_Mo_patch_68 rfl ?_
  refine J_sub [1, 3, 0] rfl ?_
  exact h
theorem b_Mo_patch_93 {E : En_t} {d : Nat} {σ : S_t} {Q : Option Value → S_t → Prop} {x1 : Int32} {x2 : Int32} {x3 : Int32} {x4 : Int32} {x5 : Int32}
    (h : (x5 < 0 → JE E (d + 1) m_Mo_patch 429 [(0, pv E 0), (3, .int x3), (4, .int x4)] [] σ Q) ∧ (¬ x5 < 0 → vp_in x5 40 ∧ ((¬ (gI σ 47 x5.toNatClampNeg) = 0 → JE E (d + 1) m_Mo_patch 124 [(0, pv E 0), (1, .int x1), (2, .int x2), (3, .int x3), (4, .int x4), (5, .int x5)] [] σ Q) ∧ ((gI σ 47 x5.toNatClampNeg) = 0 → vp_in x5 40 ∧ ((¬ (gI σ 48 x5.toNatClampNeg) = 0 → JE E (d + 1) m_Mo_patch 124 [(0, pv E 0), (1, .int x1), (2, .int x2), (3, .int x3), (4, .int x4), (5, .int x5)] [] σ Q) ∧ ((gI σ 48 x5.toNatClampNeg) = 0 → JE E (d + 1) m_Mo_patch 93 [(0, pv E 0), (1, .int x1), (2, .int x2), (3, .int x3), (4, .int x4), (5, .int (x5 + (-1 : Int32)))] [] σ Q)))))) :
    JE E (d + 1) m_Mo_patch 93 [(0, pv E 0), (1, .int x1), (2, .int x2), (3, .int x3), (4, .int x4), (5, .int x5)] [] σ Q := by
  refine J_iload dc_Mo_patch_93 (Eq.refl 95) 5 rfl ?_
  refine J_if_lt dc_Mo_patch_95 (Eq.refl 98) rfl (fun hc => ?_) (fun hc => ?_)
  · have h := h.1 hc
    refine J_sub [0, 3, 4] rfl ?_
    exact h
  · have h := h.2 hc
    refine J_aload_n dc_Mo_patch_98 (Eq.refl 99) 0 rfl ?_
    refine J_getF (y := 47) dc_Mo_patch_99 (Eq.refl 102) fl_Mo_156 (Nat.le_of_ble_eq_true rfl) rfl (Or.inl rfl) rfl ?_
    refine J_iload dc_Mo_patch_102 (Eq.refl 104) 5 rfl ?_
    obtain ⟨hg, h⟩ := h
    refine J_iald dc_Mo_patch_104 (Eq.refl 105) rfl rfl hg ?_
    refine J_if_ne dc_Mo_patch_105 (Eq.refl 108) rfl (fun hc => ?_) (fun hc => ?_)
    · have h := h.1 hc
      exact h
    · have h := h.2 hc
      refine J_aload_n dc_Mo_patch_108 (Eq.refl 109) 0 rfl ?_
      refine J_getF (y := 48) dc_Mo_patch_109 (Eq.refl 112) fl_Mo_159 (Nat.le_of_ble_eq_true rfl) rfl (Or.inl rfl) rfl ?_
      refine J_iload dc_Mo_patch_112 (Eq.refl 114) 5 rfl ?_
      obtain ⟨hg, h⟩ := h
      refine J_iald dc_Mo_patch_114 (Eq.refl 115) rfl rfl hg ?_
      refine J_if_ne dc_Mo_patch_115 (Eq.refl 118) rfl (fun hc => ?_) (fun hc => ?_)
      · have h := h.1 hc
        exact h
      · have h := h.2 hc
        refine J_iinc (v := x5 + (-1 : Int32)) (L' := [(5, .int (x5 + (-1 : Int32))), (0, pv E 0), (1, .int x1), (2, .int x2), (3, .int x3), (4, .int x4)]) dc_Mo_patch_118 (Eq.refl 121) 5 rfl rfl (Nat.le_of_ble_eq_true rfl) rfl ?_
        refine J_goto dc_Mo_patch_121 rfl ?_
        refine J_sub [1, 2, 3, 4, 5, 0] rfl ?_
        exact h
theorem b_Mo_patch_124 {E : En_t} {d : Nat} {σ : S_t} {Q : Option Value → S_t → Prop} {x1 : Int32} {x2 : Int32} {x3 : Int32} {x4 : Int32} {x5 : Int32}
    (h : CI E d m_Mo_firstOf [pv E 0, .int x5, .int x1, .int x2] σ (fun r2 σ1 => (0 < r2 → JE E (d + 1) m_Mo_patch 150 [(0, pv E 0), (1, .int x1), (2, .int x2), (3, .int x3), (4, .int x4), (5, .int x5), (6, .int r2)] [.int (-1 : Int32)] σ1 Q) ∧ (¬ 0 < r2 → vp_in x5 40 ∧ (JE E (d + 1) m_Mo_patch 150 [(0, pv E 0), (1, .int x1), (2, .int x2), (3, .int x3), (4, .int x4), (5, .int x5), (6, .int r2)] [.int (gI σ1 45 x5.toNatClampNeg)] σ1 Q)))) :
    JE E (d + 1) m_Mo_patch 124 [(0, pv E 0), (1, .int x1), (2, .int x2), (3, .int x3), (4, .int x4), (5, .int x5)] [] σ Q := by
  refine J_aload_n dc_Mo_patch_124 (Eq.refl 125) 0 rfl ?_
  refine J_iload dc_Mo_patch_125 (Eq.refl 127) 5 rfl ?_
  refine J_iload_n dc_Mo_patch_127 (Eq.refl 128) 1 rfl ?_
  refine J_iload_n dc_Mo_patch_128 (Eq.refl 129) 2 rfl ?_
  refine J_callVI (As := [.int x5, .int x1, .int x2]) (st := []) dc_Mo_patch_129 (Eq.refl 132) lk_Mo_449 mi_Mo_firstOf rfl (Nat.le_of_ble_eq_true rfl) rfl rfl (Nat.le_of_ble_eq_true rfl) rfl (Nat.le_of_ble_eq_true rfl) (CI.mono h (fun r2 σ1 h => ?_))
  refine J_istore (L' := [(6, .int r2), (0, pv E 0), (1, .int x1), (2, .int x2), (3, .int x3), (4, .int x4), (5, .int x5)]) dc_Mo_patch_132 (Eq.refl 134) (Nat.le_of_ble_eq_true rfl) rfl ?_
  refine J_iload dc_Mo_patch_134 (Eq.refl 136) 0 rfl ?_
  refine J_if_gt dc_Mo_patch_136 (Eq.refl 139) rfl (fun hc => ?_) (fun hc => ?_)
  · have h := h.1 hc
    refine J_iconst (v := (-1 : Int32)) dc_Mo_patch_149 (Eq.refl 150) rfl ?_
    refine J_sub [1, 2, 3, 4, 5, 6, 0] rfl ?_
    exact h
  · have h := h.2 hc
    refine J_aload_n dc_Mo_patch_139 (Eq.refl 140) 1 rfl ?_
    refine J_getF (y := 45) dc_Mo_patch_140 (Eq.refl 143) fl_Mo_150 (Nat.le_of_ble_eq_true rfl) rfl (Or.inl rfl) rfl ?_
    refine J_iload dc_Mo_patch_143 (Eq.refl 145) 6 rfl ?_
    obtain ⟨hg, h⟩ := h
    refine J_iald dc_Mo_patch_145 (Eq.refl 146) rfl rfl hg ?_
    refine J_goto dc_Mo_patch_146 rfl ?_
    refine J_sub [1, 2, 3, 4, 5, 6, 0] rfl ?_
    exact h
theorem b_Mo_patch_150 {E : En_t} {d : Nat} {σ : S_t} {Q : Option Value → S_t → Prop} {x1 : Int32} {x2 : Int32} {x3 : Int32} {x4 : Int32} {x5 : Int32} {x6 : Int32} {s0 : Int32}
    (h : (x6 < 0 → JE E (d + 1) m_Mo_patch 168 [(0, pv E 0), (1, .int x1), (2, .int x2), (3, .int x3), (4, .int x4), (5, .int x5), (7, .int s0)] [.int (-1 : Int32)] σ Q) ∧ (¬ x6 < 0 → vp_in x5 40 ∧ (JE E (d + 1) m_Mo_patch 168 [(0, pv E 0), (1, .int x1), (2, .int x2), (3, .int x3), (4, .int x4), (5, .int x5), (7, .int s0)] [.int (gI σ 46 x5.toNatClampNeg)] σ Q))) :
    JE E (d + 1) m_Mo_patch 150 [(0, pv E 0), (1, .int x1), (2, .int x2), (3, .int x3), (4, .int x4), (5, .int x5), (6, .int x6)] [.int s0] σ Q := by
  refine J_istore (L' := [(7, .int s0), (0, pv E 0), (1, .int x1), (2, .int x2), (3, .int x3), (4, .int x4), (5, .int x5), (6, .int x6)]) dc_Mo_patch_150 (Eq.refl 152) (Nat.le_of_ble_eq_true rfl) rfl ?_
  refine J_iload dc_Mo_patch_152 (Eq.refl 154) 7 rfl ?_
  refine J_if_lt dc_Mo_patch_154 (Eq.refl 157) rfl (fun hc => ?_) (fun hc => ?_)
  · have h := h.1 hc
    refine J_iconst (v := (-1 : Int32)) dc_Mo_patch_167 (Eq.refl 168) rfl ?_
    refine J_sub [1, 2, 3, 4, 5, 6, 0] rfl ?_
    exact h
  · have h := h.2 hc
    refine J_aload_n dc_Mo_patch_157 (Eq.refl 158) 1 rfl ?_
    refine J_getF (y := 46) dc_Mo_patch_158 (Eq.refl 161) fl_Mo_153 (Nat.le_of_ble_eq_true rfl) rfl (Or.inl rfl) rfl ?_
    refine J_iload dc_Mo_patch_161 (Eq.refl 163) 6 rfl ?_
    obtain ⟨hg, h⟩ := h
    refine J_iald dc_Mo_patch_163 (Eq.refl 164) rfl rfl hg ?_
    refine J_goto dc_Mo_patch_164 rfl ?_
    refine J_sub [1, 2, 3, 4, 5, 6, 0] rfl ?_
    exact h
theorem b_Mo_patch_168 {E : En_t} {d : Nat} {σ : S_t} {Q : Option Value → S_t → Prop} {x1 : Int32} {x2 : Int32} {x3 : Int32} {x4 : Int32} {x5 : Int32} {x7 : Int32} {s0 : Int32}
    (h : (x7 < 0 → JE E (d + 1) m_Mo_patch 200 [(0, pv E 0), (1, .int x1), (2, .int x2), (3, .int x3), (4, .int x4), (5, .int x5), (7, .int x7), (8, .int s0)] [] σ Q) ∧ (¬ x7 < 0 → CI E d m_Mo_nextOf [pv E 0, .int x1, .int x7] σ (fun r2 σ1 => vp_in x5 40 ∧ (vp_in x5 40 ∧ (vp_in x5 40 ∧ (JE E (d + 1) m_Mo_patch 200 [(0, pv E 0), (1, .int x1), (2, .int x2), (3, .int x3), (4, .int x4), (5, .int x5), (7, .int x7), (8, .int s0)] [] (sI (sI σ1 45 x5.toNatClampNeg r2) 47 x5.toNatClampNeg ((gI (sI σ1 45 x5.toNatClampNeg r2) 47 x5.toNatClampNeg) - (1 : Int32))) Q)))))) :
    JE E (d + 1) m_Mo_patch 168 [(0, pv E 0), (1, .int x1), (2, .int x2), (3, .int x3), (4, .int x4), (5, .int x5), (7, .int x7)] [.int s0] σ Q := by
  refine J_istore (L' := [(8, .int s0), (0, pv E 0), (1, .int x1), (2, .int x2), (3, .int x3), (4, .int x4), (5, .int x5), (7, .int x7)]) dc_Mo_patch_168 (Eq.refl 170) (Nat.le_of_ble_eq_true rfl) rfl ?_
  refine J_iload dc_Mo_patch_170 (Eq.refl 172) 7 rfl ?_
  refine J_if_lt dc_Mo_patch_172 (Eq.refl 175) rfl (fun hc => ?_) (fun hc => ?_)
  · have h := h.1 hc
    refine J_sub [1, 2, 3, 4, 5, 6, 7, 0] rfl ?_
    exact h
  · have h := h.2 hc
    refine J_aload_n dc_Mo_patch_175 (Eq.refl 176) 1 rfl ?_
    refine J_getF (y := 45) dc_Mo_patch_176 (Eq.refl 179) fl_Mo_150 (Nat.le_of_ble_eq_true rfl) rfl (Or.inl rfl) rfl ?_
    refine J_iload dc_Mo_patch_179 (Eq.refl 181) 6 rfl ?_
    refine J_aload_n dc_Mo_patch_181 (Eq.refl 182) 1 rfl ?_
    refine J_iload_n dc_Mo_patch_182 (Eq.refl 183) 2 rfl ?_
    refine J_iload dc_Mo_patch_183 (Eq.refl 185) 7 rfl ?_
    refine J_callVI (As := [.int x1, .int x7]) (st := [.int x5, pv E 45]) dc_Mo_patch_185 (Eq.refl 188) lk_Mo_452 mi_Mo_nextOf rfl (Nat.le_of_ble_eq_true rfl) rfl rfl (Nat.le_of_ble_eq_true rfl) rfl (Nat.le_of_ble_eq_true rfl) (CI.mono h (fun r2 σ1 h => ?_))
    obtain ⟨hg, h⟩ := h
    refine J_iast dc_Mo_patch_188 (Eq.refl 189) rfl rfl hg ?_
    refine J_aload_n dc_Mo_patch_189 (Eq.refl 190) 1 rfl ?_
    refine J_getF (y := 47) dc_Mo_patch_190 (Eq.refl 193) fl_Mo_156 (Nat.le_of_ble_eq_true rfl) rfl (Or.inl rfl) rfl ?_
    refine J_iload dc_Mo_patch_193 (Eq.refl 195) 6 rfl ?_
    refine J_dup2_11 dc_Mo_patch_195 (Eq.refl 196) rfl rfl ?_
    obtain ⟨hg, h⟩ := h
    refine J_iald dc_Mo_patch_196 (Eq.refl 197) rfl rfl hg ?_
    refine J_iconst (v := (1 : Int32)) dc_Mo_patch_197 (Eq.refl 198) rfl ?_
    refine J_isub dc_Mo_patch_198 (Eq.refl 199) ?_
    obtain ⟨hg, h⟩ := h
    refine J_iast dc_Mo_patch_199 (Eq.refl 200) rfl rfl hg ?_
    refine J_sub [1, 2, 3, 4, 5, 6, 7, 0] rfl ?_
    exact h
theorem b_Mo_patch_200 {E : En_t} {d : Nat} {σ : S_t} {Q : Option Value → S_t → Prop} {x1 : Int32} {x2 : Int32} {x3 : Int32} {x4 : Int32} {x5 : Int32} {x7 : Int32} {x8 : Int32}
    (h : (x8 < 0 → JE E (d + 1) m_Mo_patch 230 [(0, pv E 0), (1, .int x1), (2, .int x2), (3, .int x3), (4, .int x4), (5, .int x5), (7, .int x7), (8, .int x8)] [] σ Q) ∧ (¬ x8 < 0 → CI E d m_Mo_nextOf [pv E 0, .int x2, .int x8] σ (fun r2 σ1 => vp_in x5 40 ∧ (vp_in x5 40 ∧ (vp_in x5 40 ∧ (JE E (d + 1) m_Mo_patch 230 [(0, pv E 0), (1, .int x1), (2, .int x2), (3, .int x3), (4, .int x4), (5, .int x5), (7, .int x7), (8, .int x8)] [] (sI (sI σ1 46 x5.toNatClampNeg r2) 48 x5.toNatClampNeg ((gI (sI σ1 46 x5.toNatClampNeg r2) 48 x5.toNatClampNeg) - (1 : Int32))) Q)))))) :
    JE E (d + 1) m_Mo_patch 200 [(0, pv E 0), (1, .int x1), (2, .int x2), (3, .int x3), (4, .int x4), (5, .int x5), (7, .int x7), (8, .int x8)] [] σ Q := by
  refine J_iload dc_Mo_patch_200 (Eq.refl 202) 7 rfl ?_
  refine J_if_lt dc_Mo_patch_202 (Eq.refl 205) rfl (fun hc => ?_) (fun hc => ?_)
  · have h := h.1 hc
    exact h
  · have h := h.2 hc
    refine J_aload_n dc_Mo_patch_205 (Eq.refl 206) 0 rfl ?_
    refine J_getF (y := 46) dc_Mo_patch_206 (Eq.refl 209) fl_Mo_153 (Nat.le_of_ble_eq_true rfl) rfl (Or.inl rfl) rfl ?_
    refine J_iload dc_Mo_patch_209 (Eq.refl 211) 5 rfl ?_
    refine J_aload_n dc_Mo_patch_211 (Eq.refl 212) 0 rfl ?_
    refine J_iload_n dc_Mo_patch_212 (Eq.refl 213) 2 rfl ?_
    refine J_iload dc_Mo_patch_213 (Eq.refl 215) 7 rfl ?_
    refine J_callVI (As := [.int x2, .int x8]) (st := [.int x5, pv E 46]) dc_Mo_patch_215 (Eq.refl 218) lk_Mo_452 mi_Mo_nextOf rfl (Nat.le_of_ble_eq_true rfl) rfl rfl (Nat.le_of_ble_eq_true rfl) rfl (Nat.le_of_ble_eq_true rfl) (CI.mono h (fun r2 σ1 h => ?_))
    obtain ⟨hg, h⟩ := h
    refine J_iast dc_Mo_patch_218 (Eq.refl 219) rfl rfl hg ?_
    refine J_aload_n dc_Mo_patch_219 (Eq.refl 220) 0 rfl ?_
    refine J_getF (y := 48) dc_Mo_patch_220 (Eq.refl 223) fl_Mo_159 (Nat.le_of_ble_eq_true rfl) rfl (Or.inl rfl) rfl ?_
    refine J_iload dc_Mo_patch_223 (Eq.refl 225) 5 rfl ?_
    refine J_dup2_11 dc_Mo_patch_225 (Eq.refl 226) rfl rfl ?_
    obtain ⟨hg, h⟩ := h
    refine J_iald dc_Mo_patch_226 (Eq.refl 227) rfl rfl hg ?_
    refine J_iconst (v := (1 : Int32)) dc_Mo_patch_227 (Eq.refl 228) rfl ?_
    refine J_isub dc_Mo_patch_228 (Eq.refl 229) ?_
    obtain ⟨hg, h⟩ := h
    refine J_iast dc_Mo_patch_229 (Eq.refl 230) rfl rfl hg ?_
    exact h
theorem b_Mo_patch_230 {E : En_t} {d : Nat} {σ : S_t} {Q : Option Value → S_t → Prop} {x1 : Int32} {x2 : Int32} {x3 : Int32} {x4 : Int32} {x5 : Int32} {x7 : Int32} {x8 : Int32}
    (h : (0 ≤ x8 → (x7 < 0 → JE E (d + 1) m_Mo_patch 272 [(0, pv E 0), (1, .int x1), (2, .int x2), (3, .int x3), (4, .int x4), (5, .int x5), (7, .int x7), (8, .int x8)] [] σ Q) ∧ (¬ x7 < 0 → CI E d m_Mo_isSame [pv E 0, .int x1, .int x7, .int x2, .int x8] σ (fun r2 σ1 => (r2 = 0 → JE E (d + 1) m_Mo_patch 272 [(0, pv E 0), (1, .int x1), (2, .int x2), (3, .int x3), (4, .int x4), (5, .int x5), (7, .int x7), (8, .int x8)] [] σ1 Q) ∧ (¬ r2 = 0 → JE E (d + 1) m_Mo_patch 93 [(0, pv E 0), (1, .int x1), (2, .int x2), (3, .int x3), (4, .int x4), (5, .int x5)] [] σ1 Q)))) ∧ (¬ 0 ≤ x8 → CV E d m_Mo_named [pv E 0, .int (0 : Int32), .int (x5 + (1 : Int32)), .int x1, .int x7, .int (1 : Int32)] σ (fun σ3 => JE E (d + 1) m_Mo_patch 426 [(0, pv E 0), (1, .int x1), (2, .int x2), (3, .int x3), (4, .int x4), (5, .int x5)] [] σ3 Q))) :
    JE E (d + 1) m_Mo_patch 230 [(0, pv E 0), (1, .int x1), (2, .int x2), (3, .int x3), (4, .int x4), (5, .int x5), (7, .int x7), (8, .int x8)] [] σ Q := by
  refine J_iload dc_Mo_patch_230 (Eq.refl 232) 7 rfl ?_
  refine J_if_ge dc_Mo_patch_232 (Eq.refl 235) rfl (fun hc => ?_) (fun hc => ?_)
  · have h := h.1 hc
    refine J_iload dc_Mo_patch_251 (Eq.refl 253) 6 rfl ?_
    refine J_if_lt dc_Mo_patch_253 (Eq.refl 256) rfl (fun hc => ?_) (fun hc => ?_)
    · have h := h.1 hc
      exact h
    · have h := h.2 hc
      refine J_aload_n dc_Mo_patch_256 (Eq.refl 257) 0 rfl ?_
      refine J_iload_n dc_Mo_patch_257 (Eq.refl 258) 1 rfl ?_
      refine J_iload dc_Mo_patch_258 (Eq.refl 260) 6 rfl ?_
      refine J_iload_n dc_Mo_patch_260 (Eq.refl 261) 2 rfl ?_
      refine J_iload dc_Mo_patch_261 (Eq.refl 263) 7 rfl ?_
      refine J_callVI (As := [.int x1, .int x7, .int x2, .int x8]) (st := []) dc_Mo_patch_263 (Eq.refl 266) lk_Mo_432 mi_Mo_isSame rfl (Nat.le_of_ble_eq_true rfl) rfl rfl (Nat.le_of_ble_eq_true rfl) rfl (Nat.le_of_ble_eq_true rfl) (CI.mono h (fun r2 σ1 h => ?_))
      refine J_if_eq dc_Mo_patch_266 (Eq.refl 269) rfl (fun hc => ?_) (fun hc => ?_)
      · have h := h.1 hc
        exact h
      · have h := h.2 hc
        refine J_goto dc_Mo_patch_269 rfl ?_
        refine J_sub [0, 1, 2, 3, 4, 5] rfl ?_
        exact h
  · have h := h.2 hc
    refine J_aload_n dc_Mo_patch_235 (Eq.refl 236) 0 rfl ?_
    refine J_iconst (v := (0 : Int32)) dc_Mo_patch_236 (Eq.refl 237) rfl ?_
    refine J_iload dc_Mo_patch_237 (Eq.refl 239) 5 rfl ?_
    refine J_iconst (v := (1 : Int32)) dc_Mo_patch_239 (Eq.refl 240) rfl ?_
    refine J_iadd dc_Mo_patch_240 (Eq.refl 241) ?_
    refine J_iload_n dc_Mo_patch_241 (Eq.refl 242) 1 rfl ?_
    refine J_iload dc_Mo_patch_242 (Eq.refl 244) 6 rfl ?_
    refine J_iconst (v := (1 : Int32)) dc_Mo_patch_244 (Eq.refl 245) rfl ?_
    refine J_callVV (As := [.int (0 : Int32), .int (x5 + (1 : Int32)), .int x1, .int x7, .int (1 : Int32)]) (st := []) dc_Mo_patch_245 (Eq.refl 248) lk_Mo_442 mi_Mo_named rfl (Nat.le_of_ble_eq_true rfl) rfl rfl (Nat.le_of_ble_eq_true rfl) rfl (Nat.le_of_ble_eq_true rfl) (CV.mono h (fun σ3 h => ?_))
    refine J_goto dc_Mo_patch_248 rfl ?_
    refine J_sub [0, 1, 2, 3, 4, 5] rfl ?_
    exact h
theorem b_Mo_patch_272 {E : En_t} {d : Nat} {σ : S_t} {Q : Option Value → S_t → Prop} {x1 : Int32} {x2 : Int32} {x3 : Int32} {x4 : Int32} {x5 : Int32} {x7 : Int32} {x8 : Int32}
    (h : CI E d m_Mo_isObject [pv E 0, .int x2, .int x8] σ (fun r2 σ1 => (r2 = 0 → JE E (d + 1) m_Mo_patch 376 [(0, pv E 0), (1, .int x1), (2, .int x2), (3, .int x3), (4, .int x4), (5, .int x5), (8, .int x8)] [] σ1 Q) ∧ (¬ r2 = 0 → (x7 < 0 → JE E (d + 1) m_Mo_patch 297 [(0, pv E 0), (1, .int x1), (2, .int x2), (3, .int x3), (4, .int x4), (5, .int x5), (7, .int x7), (8, .int x8)] [] σ1 Q) ∧ (¬ x7 < 0 → CI E d m_Mo_isObject [pv E 0, .int x1, .int x7] σ1 (fun r4 σ3 => (r4 = 0 → JE E (d + 1) m_Mo_patch 376 [(0, pv E 0), (1, .int x1), (2, .int x2), (3, .int x3), (4, .int x4), (5, .int x5), (8, .int x8)] [] σ3 Q) ∧ (¬ r4 = 0 → JE E (d + 1) m_Mo_patch 297 [(0, pv E 0), (1, .int x1), (2, .int x2), (3, .int x3), (4, .int x4), (5, .int x5), (7, .int x7), (8, .int x8)] [] σ3 Q)))))) :
    JE E (d + 1) m_Mo_patch 272 [(0, pv E 0), (1, .int x1), (2, .int x2), (3, .int x3), (4, .int x4), (5, .int x5), (7, .int x7), (8, .int x8)] [] σ Q := by
  refine J_aload_n dc_Mo_patch_272 (Eq.refl 273) 0 rfl ?_
  refine J_iload_n dc_Mo_patch_273 (Eq.refl 274) 2 rfl ?_
  refine J_iload dc_Mo_patch_274 (Eq.refl 276) 7 rfl ?_
  refine J_callVI (As := [.int x2, .int x8]) (st := []) dc_Mo_patch_276 (Eq.refl 279) lk_Mo_435 mi_Mo_isObject rfl (Nat.le_of_ble_eq_true rfl) rfl rfl (Nat.le_of_ble_eq_true rfl) rfl (Nat.le_of_ble_eq_true rfl) (CI.mono h (fun r2 σ1 h => ?_))
  refine J_if_eq dc_Mo_patch_279 (Eq.refl 282) rfl (fun hc => ?_) (fun hc => ?_)
  · have h := h.1 hc
    refine J_sub [0, 1, 2, 3, 4, 5, 7] rfl ?_
    exact h
  · have h := h.2 hc
    refine J_iload dc_Mo_patch_282 (Eq.refl 284) 6 rfl ?_
    refine J_if_lt dc_Mo_patch_284 (Eq.refl 287) rfl (fun hc => ?_) (fun hc => ?_)
    · have h := h.1 hc
      exact h
    · have h := h.2 hc
      refine J_aload_n dc_Mo_patch_287 (Eq.refl 288) 0 rfl ?_
      refine J_iload_n dc_Mo_patch_288 (Eq.refl 289) 1 rfl ?_
      refine J_iload dc_Mo_patch_289 (Eq.refl 291) 6 rfl ?_
      refine J_callVI (As := [.int x1, .int x7]) (st := []) dc_Mo_patch_291 (Eq.refl 294) lk_Mo_435 mi_Mo_isObject rfl (Nat.le_of_ble_eq_true rfl) rfl rfl (Nat.le_of_ble_eq_true rfl) rfl (Nat.le_of_ble_eq_true rfl) (CI.mono h (fun r4 σ3 h => ?_))
      refine J_if_eq dc_Mo_patch_294 (Eq.refl 297) rfl (fun hc => ?_) (fun hc => ?_)
      · have h := h.1 hc
        refine J_sub [0, 1, 2, 3, 4, 5, 7] rfl ?_
        exact h
      · have h := h.2 hc
        exact h
theorem b_Mo_patch_297 {E : En_t} {d : Nat} {σ : S_t} {Q : Option Value → S_t → Prop} {x1 : Int32} {x2 : Int32} {x3 : Int32} {x4 : Int32} {x5 : Int32} {x7 : Int32} {x8 : Int32}
    (h : (¬ x4 = 0 → JE E (d + 1) m_Mo_patch 317 [(0, pv E 0), (1, .int x1), (2, .int x2), (3, .int x3), (5, .int x5), (7, .int x7), (8, .int x8)] [] σ Q) ∧ (x4 = 0 → (0 ≤ x7 → JE E (d + 1) m_Mo_patch 321 [(0, pv E 0), (1, .int x1), (2, .int x2), (3, .int x3), (5, .int x5), (7, .int x7), (8, .int x8)] [] σ Q) ∧ (¬ 0 ≤ x7 → CI E d m_Mo_hasNull [pv E 0, .int x2, .int x8] σ (fun r2 σ1 => (r2 = 0 → JE E (d + 1) m_Mo_patch 321 [(0, pv E 0), (1, .int x1), (2, .int x2), (3, .int x3), (5, .int x5), (7, .int x7), (8, .int x8)] [] σ1 Q) ∧ (¬ r2 = 0 → JE E (d + 1) m_Mo_patch 317 [(0, pv E 0), (1, .int x1), (2, .int x2), (3, .int x3), (5, .int x5), (7, .int x7), (8, .int x8)] [] σ1 Q))))) :
    JE E (d + 1) m_Mo_patch 297 [(0, pv E 0), (1, .int x1), (2, .int x2), (3, .int x3), (4, .int x4), (5, .int x5), (7, .int x7), (8, .int x8)] [] σ Q := by
  refine J_iload dc_Mo_patch_297 (Eq.refl 299) 4 rfl ?_
  refine J_if_ne dc_Mo_patch_299 (Eq.refl 302) rfl (fun hc => ?_) (fun hc => ?_)
  · have h := h.1 hc
    refine J_sub [0, 1, 2, 3, 5, 6, 7] rfl ?_
    exact h
  · have h := h.2 hc
    refine J_iload dc_Mo_patch_302 (Eq.refl 304) 6 rfl ?_
    refine J_if_ge dc_Mo_patch_304 (Eq.refl 307) rfl (fun hc => ?_) (fun hc => ?_)
    · have h := h.1 hc
      refine J_sub [0, 1, 2, 3, 5, 6, 7] rfl ?_
      exact h
    · have h := h.2 hc
      refine J_aload_n dc_Mo_patch_307 (Eq.refl 308) 0 rfl ?_
      refine J_iload_n dc_Mo_patch_308 (Eq.refl 309) 2 rfl ?_
      refine J_iload dc_Mo_patch_309 (Eq.refl 311) 7 rfl ?_
      refine J_callVI (As := [.int x2, .int x8]) (st := []) dc_Mo_patch_311 (Eq.refl 314) lk_Mo_455 mi_Mo_hasNull rfl (Nat.le_of_ble_eq_true rfl) rfl rfl (Nat.le_of_ble_eq_true rfl) rfl (Nat.le_of_ble_eq_true rfl) (CI.mono h (fun r2 σ1 h => ?_))
      refine J_if_eq dc_Mo_patch_314 (Eq.refl 317) rfl (fun hc => ?_) (fun hc => ?_)
      · have h := h.1 hc
        refine J_sub [0, 1, 2, 3, 5, 6, 7] rfl ?_
        exact h
      · have h := h.2 hc
        refine J_sub [0, 1, 2, 3, 5, 6, 7] rfl ?_
        exact h
theorem b_Mo_patch_317 {E : En_t} {d : Nat} {σ : S_t} {Q : Option Value → S_t → Prop} {x1 : Int32} {x2 : Int32} {x3 : Int32} {x5 : Int32} {x7 : Int32} {x8 : Int32}
    (h : JE E (d + 1) m_Mo_patch 322 [(0, pv E 0), (1, .int x1), (2, .int x2), (3, .int x3), (5, .int x5), (7, .int x7), (8, .int x8)] [.int (1 : Int32)] σ Q) :
    JE E (d + 1) m_Mo_patch 317 [(0, pv E 0), (1, .int x1), (2, .int x2), (3, .int x3), (5, .int x5), (7, .int x7), (8, .int x8)] [] σ Q := by
  refine J_iconst (v := (1 : Int32)) dc_Mo_patch_317 (Eq.refl 318) rfl ?_
  refine J_goto dc_Mo_patch_318 rfl ?_
  exact h
theorem b_Mo_patch_321 {E : En_t} {d : Nat} {σ : S_t} {Q : Option Value → S_t → Prop} {x1 : Int32} {x2 : Int32} {x3 : Int32} {x5 : Int32} {x7 : Int32} {x8 : Int32}
    (h : JE E (d + 1) m_Mo_patch 322 [(0, pv E 0), (1, .int x1), (2, .int x2), (3, .int x3), (5, .int x5), (7, .int x7), (8, .int x8)] [.int (0 : Int32)] σ Q) :
    JE E (d + 1) m_Mo_patch 321 [(0, pv E 0), (1, .int x1), (2, .int x2), (3, .int x3), (5, .int x5), (7, .int x7), (8, .int x8)] [] σ Q := by
  refine J_iconst (v := (0 : Int32)) dc_Mo_patch_321 (Eq.refl 322) rfl ?_
  exact h
theorem b_Mo_patch_322 {E : En_t} {d : Nat} {σ : S_t} {Q : Option Value → S_t → Prop} {x1 : Int32} {x2 : Int32} {x3 : Int32} {x5 : Int32} {x7 : Int32} {x8 : Int32} {s0 : Int32}
    (h : (0 ≤ x7 → CV E d m_Mo_named [pv E 0, .int (6 : Int32), .int (x5 + (1 : Int32)), .int x2, .int x8, .int (1 : Int32)] σ (fun σ1 => CV E d m_Mo_openPair [pv E 0, .int (x5 + (1 : Int32)), .int x1, .int x7, .int x2, .int x8] σ1 (fun σ2 => JE E (d + 1) m_Mo_patch 426 [(0, pv E 0), (1, .int x1), (2, .int x2), (3, .int x3), (4, .int s0), (5, .int (x5 + (1 : Int32)))] [] σ2 Q))) ∧ (¬ 0 ≤ x7 → CV E d m_Mo_copy [pv E 0, .int x2, .int x8, .int (x5 + (1 : Int32)), .int (1 : Int32)] σ (fun σ3 => JE E (d + 1) m_Mo_patch 93 [(0, pv E 0), (1, .int x1), (2, .int x2), (3, .int x3), (4, .int s0), (5, .int x5)] [] σ3 Q))) :
    JE E (d + 1) m_Mo_patch 322 [(0, pv E 0), (1, .int x1), (2, .int x2), (3, .int x3), (5, .int x5), (7, .int x7), (8, .int x8)] [.int s0] σ Q := by
  refine J_istore (L' := [(4, .int s0), (0, pv E 0), (1, .int x1), (2, .int x2), (3, .int x3), (5, .int x5), (7, .int x7), (8, .int x8)]) dc_Mo_patch_322 (Eq.refl 324) (Nat.le_of_ble_eq_true rfl) rfl ?_
  refine J_iload dc_Mo_patch_324 (Eq.refl 326) 6 rfl ?_
  refine J_if_ge dc_Mo_patch_326 (Eq.refl 329) rfl (fun hc => ?_) (fun hc => ?_)
  · have h := h.1 hc
    refine J_aload_n dc_Mo_patch_344 (Eq.refl 345) 1 rfl ?_
    refine J_bipush (v := (6 : Int32)) dc_Mo_patch_345 (Eq.refl 347) rfl ?_
    refine J_iload dc_Mo_patch_347 (Eq.refl 349) 5 rfl ?_
    refine J_iconst (v := (1 : Int32)) dc_Mo_patch_349 (Eq.refl 350) rfl ?_
    refine J_iadd dc_Mo_patch_350 (Eq.refl 351) ?_
    refine J_iload_n dc_Mo_patch_351 (Eq.refl 352) 3 rfl ?_
    refine J_iload dc_Mo_patch_352 (Eq.refl 354) 7 rfl ?_
    refine J_iconst (v := (1 : Int32)) dc_Mo_patch_354 (Eq.refl 355) rfl ?_
    refine J_callVV (As := [.int (6 : Int32), .int (x5 + (1 : Int32)), .int x2, .int x8, .int (1 : Int32)]) (st := []) dc_Mo_patch_355 (Eq.refl 358) lk_Mo_442 mi_Mo_named rfl (Nat.le_of_ble_eq_true rfl) rfl rfl (Nat.le_of_ble_eq_true rfl) rfl (Nat.le_of_ble_eq_true rfl) (CV.mono h (fun σ1 h => ?_))
    refine J_iinc (v := x5 + (1 : Int32)) (L' := [(5, .int (x5 + (1 : Int32))), (4, .int s0), (0, pv E 0), (1, .int x1), (2, .int x2), (3, .int x3), (7, .int x7), (8, .int x8)]) dc_Mo_patch_358 (Eq.refl 361) 5 rfl rfl (Nat.le_of_ble_eq_true rfl) rfl ?_
    refine J_aload_n dc_Mo_patch_361 (Eq.refl 362) 2 rfl ?_
    refine J_iload dc_Mo_patch_362 (Eq.refl 364) 0 rfl ?_
    refine J_iload_n dc_Mo_patch_364 (Eq.refl 365) 3 rfl ?_
    refine J_iload dc_Mo_patch_365 (Eq.refl 367) 6 rfl ?_
    refine J_iload_n dc_Mo_patch_367 (Eq.refl 368) 4 rfl ?_
    refine J_iload dc_Mo_patch_368 (Eq.refl 370) 7 rfl ?_
    refine J_callVV (As := [.int (x5 + (1 : Int32)), .int x1, .int x7, .int x2, .int x8]) (st := []) dc_Mo_patch_370 (Eq.refl 373) lk_Mo_446 mi_Mo_openPair rfl (Nat.le_of_ble_eq_true rfl) rfl rfl (Nat.le_of_ble_eq_true rfl) rfl (Nat.le_of_ble_eq_true rfl) (CV.mono h (fun σ2 h => ?_))
    refine J_goto dc_Mo_patch_373 rfl ?_
    refine J_sub [2, 3, 4, 5, 1, 0] rfl ?_
    exact h
  · have h := h.2 hc
    refine J_aload_n dc_Mo_patch_329 (Eq.refl 330) 1 rfl ?_
    refine J_iload_n dc_Mo_patch_330 (Eq.refl 331) 3 rfl ?_
    refine J_iload dc_Mo_patch_331 (Eq.refl 333) 7 rfl ?_
    refine J_iload dc_Mo_patch_333 (Eq.refl 335) 5 rfl ?_
    refine J_iconst (v := (1 : Int32)) dc_Mo_patch_335 (Eq.refl 336) rfl ?_
    refine J_iadd dc_Mo_patch_336 (Eq.refl 337) ?_
    refine J_iconst (v := (1 : Int32)) dc_Mo_patch_337 (Eq.refl 338) rfl ?_
    refine J_callVV (As := [.int x2, .int x8, .int (x5 + (1 : Int32)), .int (1 : Int32)]) (st := []) dc_Mo_patch_338 (Eq.refl 341) lk_Mo_438 mi_Mo_copy rfl (Nat.le_of_ble_eq_true rfl) rfl rfl (Nat.le_of_ble_eq_true rfl) rfl (Nat.le_of_ble_eq_true rfl) (CV.mono h (fun σ3 h => ?_))
    refine J_goto dc_Mo_patch_341 rfl ?_
    refine J_sub [1, 2, 3, 4, 0, 5] rfl ?_
    exact h
theorem b_Mo_patch_376 {E : En_t} {d : Nat} {σ : S_t} {Q : Option Value → S_t → Prop} {x1 : Int32} {x2 : Int32} {x3 : Int32} {x4 : Int32} {x5 : Int32} {x8 : Int32}
    (h : (¬ x4 = 0 → JE E (d + 1) m_Mo_patch 407 [(0, pv E 0), (1, .int x1), (2, .int x2), (3, .int x3), (5, .int x5), (8, .int x8)] [] σ Q) ∧ (x4 = 0 → vp_in (((500 : Int32) * x2) + x8) 4500 ∧ (((gI σ 13 (((500 : Int32) * x2) + x8).toNatClampNeg) = 0 → JE E (d + 1) m_Mo_patch 407 [(0, pv E 0), (1, .int x1), (2, .int x2), (3, .int x3), (5, .int x5), (8, .int x8)] [] σ Q) ∧ (¬ (gI σ 13 (((500 : Int32) * x2) + x8).toNatClampNeg) = 0 → CI E d m_Mo_hasNull [pv E 0, .int x2, .int x8] σ (fun r2 σ1 => (r2 = 0 → JE E (d + 1) m_Mo_patch 412 [(0, pv E 0), (1, .int x1), (2, .int x2), (3, .int x3), (5, .int x5), (8, .int x8)] [.int (0 : Int32)] σ1 Q) ∧ (¬ r2 = 0 → JE E (d + 1) m_Mo_patch 407 [(0, pv E 0), (1, .int x1), (2, .int x2), (3, .int x3), (5, .int x5), (8, .int x8)] [] σ1 Q)))))) :
    JE E (d + 1) m_Mo_patch 376 [(0, pv E 0), (1, .int x1), (2, .int x2), (3, .int x3), (4, .int x4), (5, .int x5), (8, .int x8)] [] σ Q := by
  refine J_iload dc_Mo_patch_376 (Eq.refl 378) 4 rfl ?_
  refine J_if_ne dc_Mo_patch_378 (Eq.refl 381) rfl (fun hc => ?_) (fun hc => ?_)
  · have h := h.1 hc
    refine J_sub [0, 1, 2, 3, 5, 6] rfl ?_
    exact h
  · have h := h.2 hc
    refine J_aload_n dc_Mo_patch_381 (Eq.refl 382) 0 rfl ?_
    refine J_getF (y := 13) dc_Mo_patch_382 (Eq.refl 385) fl_Mo_47 (Nat.le_of_ble_eq_true rfl) rfl (Or.inl rfl) rfl ?_
    refine J_sipush (v := (500 : Int32)) dc_Mo_patch_385 (Eq.refl 388) rfl ?_
    refine J_iload_n dc_Mo_patch_388 (Eq.refl 389) 2 rfl ?_
    refine J_imul dc_Mo_patch_389 (Eq.refl 390) ?_
    refine J_iload dc_Mo_patch_390 (Eq.refl 392) 6 rfl ?_
    refine J_iadd dc_Mo_patch_392 (Eq.refl 393) ?_
    obtain ⟨hg, h⟩ := h
    refine J_iald dc_Mo_patch_393 (Eq.refl 394) rfl rfl hg ?_
    refine J_if_eq dc_Mo_patch_394 (Eq.refl 397) rfl (fun hc => ?_) (fun hc => ?_)
    · have h := h.1 hc
      refine J_sub [0, 1, 2, 3, 5, 6] rfl ?_
      exact h
    · have h := h.2 hc
      refine J_aload_n dc_Mo_patch_397 (Eq.refl 398) 0 rfl ?_
      refine J_iload_n dc_Mo_patch_398 (Eq.refl 399) 2 rfl ?_
      refine J_iload dc_Mo_patch_399 (Eq.refl 401) 6 rfl ?_
      refine J_callVI (As := [.int x2, .int x8]) (st := []) dc_Mo_patch_401 (Eq.refl 404) lk_Mo_455 mi_Mo_hasNull rfl (Nat.le_of_ble_eq_true rfl) rfl rfl (Nat.le_of_ble_eq_true rfl) rfl (Nat.le_of_ble_eq_true rfl) (CI.mono h (fun r2 σ1 h => ?_))
      refine J_if_eq dc_Mo_patch_404 (Eq.refl 407) rfl (fun hc => ?_) (fun hc => ?_)
      · have h := h.1 hc
        refine J_iconst (v := (0 : Int32)) dc_Mo_patch_411 (Eq.refl 412) rfl ?_
        refine J_sub [0, 1, 2, 3, 5, 6] rfl ?_
        exact h
      · have h := h.2 hc
        refine J_sub [0, 1, 2, 3, 5, 6] rfl ?_
        exact h
theorem b_Mo_patch_407 {E : En_t} {d : Nat} {σ : S_t} {Q : Option Value → S_t → Prop} {x1 : Int32} {x2 : Int32} {x3 : Int32} {x5 : Int32} {x8 : Int32}
    (h : JE E (d + 1) m_Mo_patch 412 [(0, pv E 0), (1, .int x1), (2, .int x2), (3, .int x3), (5, .int x5), (8, .int x8)] [.int (1 : Int32)] σ Q) :
    JE E (d + 1) m_Mo_patch 407 [(0, pv E 0), (1, .int x1), (2, .int x2), (3, .int x3), (5, .int x5), (8, .int x8)] [] σ Q := by
  refine J_iconst (v := (1 : Int32)) dc_Mo_patch_407 (Eq.refl 408) rfl ?_
  refine J_goto dc_Mo_patch_408 rfl ?_
  exact h
theorem b_Mo_patch_412 {E : En_t} {d : Nat} {σ : S_t} {Q : Option Value → S_t → Prop} {x1 : Int32} {x2 : Int32} {x3 : Int32} {x5 : Int32} {x8 : Int32} {s0 : Int32}
    (h : CV E d m_Mo_copy [pv E 0, .int x2, .int x8, .int (x5 + (1 : Int32)), .int (1 : Int32)] σ (fun σ1 => JE E (d + 1) m_Mo_patch 426 [(0, pv E 0), (1, .int x1), (2, .int x2), (3, .int x3), (4, .int s0), (5, .int x5)] [] σ1 Q)) :
    JE E (d + 1) m_Mo_patch 412 [(0, pv E 0), (1, .int x1), (2, .int x2), (3, .int x3), (5, .int x5), (8, .int x8)] [.int s0] σ Q := by
  refine J_istore (L' := [(4, .int s0), (0, pv E 0), (1, .int x1), (2, .int x2), (3, .int x3), (5, .int x5), (8, .int x8)]) dc_Mo_patch_412 (Eq.refl 414) (Nat.le_of_ble_eq_true rfl) rfl ?_
  refine J_aload_n dc_Mo_patch_414 (Eq.refl 415) 1 rfl ?_
  refine J_iload_n dc_Mo_patch_415 (Eq.refl 416) 3 rfl ?_
  refine J_iload dc_Mo_patch_416 (Eq.refl 418) 6 rfl ?_
  refine J_iload dc_Mo_patch_418 (Eq.refl 420) 5 rfl ?_
  refine J_iconst (v := (1 : Int32)) dc_Mo_patch_420 (Eq.refl 421) rfl ?_
  refine J_iadd dc_Mo_patch_421 (Eq.refl 422) ?_
  refine J_iconst (v := (1 : Int32)) dc_Mo_patch_422 (Eq.refl 423) rfl ?_
  refine J_callVV (As := [.int x2, .int x8, .int (x5 + (1 : Int32)), .int (1 : Int32)]) (st := []) dc_Mo_patch_423 (Eq.refl 426) lk_Mo_438 mi_Mo_copy rfl (Nat.le_of_ble_eq_true rfl) rfl rfl (Nat.le_of_ble_eq_true rfl) rfl (Nat.le_of_ble_eq_true rfl) (CV.mono h (fun σ1 h => ?_))
  refine J_sub [1, 2, 3, 4, 0, 5] rfl ?_
  exact h
theorem b_Mo_patch_426 {E : En_t} {d : Nat} {σ : S_t} {Q : Option Value → S_t → Prop} {x1 : Int32} {x2 : Int32} {x3 : Int32} {x4 : Int32} {x5 : Int32}
    (h : JE E (d + 1) m_Mo_patch 93 [(0, pv E 0), (1, .int x1), (2, .int x2), (3, .int x3), (4, .int x4), (5, .int x5)] [] σ Q) :
    JE E (d + 1) m_Mo_patch 426 [(0, pv E 0), (1, .int x1), (2, .int x2), (3, .int x3), (4, .int x4), (5, .int x5)] [] σ Q := by
  refine J_goto dc_Mo_patch_426 rfl ?_
  exact h
theorem b_Mo_patch_429 {E : En_t} {d : Nat} {σ : S_t} {Q : Option Value → S_t → Prop} {x3 : Int32} {x4 : Int32}
    (h : (x4 = 0 → ((gI σ 0 39) = 0 → CV E d m_Mo_shelve [pv E 0, .int x3] σ (fun σ1 => vp_in x3 9 ∧ (Q (some (.int (gI σ1 9 x3.toNatClampNeg))) σ1))) ∧ (¬ (gI σ 0 39) = 0 → Q (some (.int (-1 : Int32))) σ)) ∧ (¬ x4 = 0 → Q (some (.int (-2 : Int32))) σ)) :
    JE E (d + 1) m_Mo_patch 429 [(0, pv E 0), (3, .int x3), (4, .int x4)] [] σ Q := by
  refine J_iload dc_Mo_patch_429 (Eq.refl 431) 2 rfl ?_
  refine J_if_eq dc_Mo_patch_431 (Eq.refl 434) rfl (fun hc => ?_) (fun hc => ?_)
  · have h := h.1 hc
    refine J_aload_n dc_Mo_patch_437 (Eq.refl 438) 0 rfl ?_
    refine J_getI dc_Mo_patch_438 (Eq.refl 441) fl_Mo_299 (Nat.le_of_ble_eq_true rfl) rfl (Or.inr rfl) ?_
    refine J_if_eq dc_Mo_patch_441 (Eq.refl 444) rfl (fun hc => ?_) (fun hc => ?_)
    · have h := h.1 hc
      refine J_aload_n dc_Mo_patch_446 (Eq.refl 447) 0 rfl ?_
      refine J_iload_n dc_Mo_patch_447 (Eq.refl 448) 1 rfl ?_
      refine J_callVV (As := [.int x3]) (st := []) dc_Mo_patch_448 (Eq.refl 451) lk_Mo_392 mi_Mo_shelve rfl (Nat.le_of_ble_eq_true rfl) rfl rfl (Nat.le_of_ble_eq_true rfl) rfl (Nat.le_of_ble_eq_true rfl) (CV.mono h (fun σ1 h => ?_))
      refine J_aload_n dc_Mo_patch_451 (Eq.refl 452) 0 rfl ?_
      refine J_getF (y := 9) dc_Mo_patch_452 (Eq.refl 455) fl_Mo_35 (Nat.le_of_ble_eq_true rfl) rfl (Or.inl rfl) rfl ?_
      refine J_iload_n dc_Mo_patch_455 (Eq.refl 456) 1 rfl ?_
      obtain ⟨hg, h⟩ := h
      refine J_iald dc_Mo_patch_456 (Eq.refl 457) rfl rfl hg ?_
      exact J_iret dc_Mo_patch_457 rfl h
    · have h := h.2 hc
      refine J_iconst (v := (-1 : Int32)) dc_Mo_patch_444 (Eq.refl 445) rfl ?_
      exact J_iret dc_Mo_patch_445 rfl h
  · have h := h.2 hc
    refine J_bipush (v := (-2 : Int32)) dc_Mo_patch_434 (Eq.refl 436) rfl ?_
    exact J_iret dc_Mo_patch_436 rfl h
theorem dc_Mo_hasNull_0 : decode m_Mo_hasNull.2.1 0 = .ok (.sipush 500, 3) := by decide +kernel
theorem dc_Mo_hasNull_3 : decode m_Mo_hasNull.2.1 3 = .ok (.iload_n 1, 1) := by decide +kernel
theorem dc_Mo_hasNull_4 : decode m_Mo_hasNull.2.1 4 = .ok (.imul, 1) := by decide +kernel
theorem dc_Mo_hasNull_5 : decode m_Mo_hasNull.2.1 5 = .ok (.istore_n 3, 1) := by decide +kernel
theorem dc_Mo_hasNull_6 : decode m_Mo_hasNull.2.1 6 = .ok (.iload_n 2, 1) := by decide +kernel
theorem dc_Mo_hasNull_7 : decode m_Mo_hasNull.2.1 7 = .ok (.aload_n 0, 1) := by decide +kernel
theorem dc_Mo_hasNull_8 : decode m_Mo_hasNull.2.1 8 = .ok (.getfield 59, 3) := by decide +kernel
theorem dc_Mo_hasNull_11 : decode m_Mo_hasNull.2.1 11 = .ok (.iload_n 3, 1) := by decide +kernel
theorem dc_Mo_hasNull_12 : decode m_Mo_hasNull.2.1 12 = .ok (.iload_n 2, 1) := by decide +kernel
theorem dc_Mo_hasNull_13 : decode m_Mo_hasNull.2.1 13 = .ok (.iadd, 1) := by decide +kernel
theorem dc_Mo_hasNull_14 : decode m_Mo_hasNull.2.1 14 = .ok (.iaload, 1) := by decide +kernel
theorem dc_Mo_hasNull_15 : decode m_Mo_hasNull.2.1 15 = .ok (.iadd, 1) := by decide +kernel
theorem dc_Mo_hasNull_16 : decode m_Mo_hasNull.2.1 16 = .ok (.istore 4, 2) := by decide +kernel
theorem dc_Mo_hasNull_18 : decode m_Mo_hasNull.2.1 18 = .ok (.iload_n 2, 1) := by decide +kernel
theorem dc_Mo_hasNull_19 : decode m_Mo_hasNull.2.1 19 = .ok (.istore 5, 2) := by decide +kernel
theorem dc_Mo_hasNull_21 : decode m_Mo_hasNull.2.1 21 = .ok (.iload 5, 2) := by decide +kernel
theorem dc_Mo_hasNull_23 : decode m_Mo_hasNull.2.1 23 = .ok (.iload 4, 2) := by decide +kernel
theorem dc_Mo_hasNull_25 : decode m_Mo_hasNull.2.1 25 = .ok (.if_icmp .ge 78, 3) := by decide +kernel
theorem dc_Mo_hasNull_28 : decode m_Mo_hasNull.2.1 28 = .ok (.iload 5, 2) := by decide +kernel
theorem dc_Mo_hasNull_30 : decode m_Mo_hasNull.2.1 30 = .ok (.iload_n 2, 1) := by decide +kernel
theorem dc_Mo_hasNull_31 : decode m_Mo_hasNull.2.1 31 = .ok (.if_icmp .le 38, 3) := by decide +kernel
theorem dc_Mo_hasNull_34 : decode m_Mo_hasNull.2.1 34 = .ok (.aload_n 0, 1) := by decide +kernel
theorem dc_Mo_hasNull_35 : decode m_Mo_hasNull.2.1 35 = .ok (.getfield 47, 3) := by decide +kernel
theorem dc_Mo_hasNull_38 : decode m_Mo_hasNull.2.1 38 = .ok (.iload_n 3, 1) := by decide +kernel
theorem dc_Mo_hasNull_39 : decode m_Mo_hasNull.2.1 39 = .ok (.iload 5, 2) := by decide +kernel
theorem dc_Mo_hasNull_41 : decode m_Mo_hasNull.2.1 41 = .ok (.iadd, 1) := by decide +kernel
theorem dc_Mo_hasNull_42 : decode m_Mo_hasNull.2.1 42 = .ok (.iaload, 1) := by decide +kernel
theorem dc_Mo_hasNull_43 : decode m_Mo_hasNull.2.1 43 = .ok (.ifCond .ne 26, 3) := by decide +kernel
theorem dc_Mo_hasNull_46 : decode m_Mo_hasNull.2.1 46 = .ok (.aload_n 0, 1) := by decide +kernel
theorem dc_Mo_hasNull_47 : decode m_Mo_hasNull.2.1 47 = .ok (.getfield 47, 3) := by decide +kernel
theorem dc_Mo_hasNull_50 : decode m_Mo_hasNull.2.1 50 = .ok (.iload_n 3, 1) := by decide +kernel
theorem dc_Mo_hasNull_51 : decode m_Mo_hasNull.2.1 51 = .ok (.aload_n 0, 1) := by decide +kernel
theorem dc_Mo_hasNull_52 : decode m_Mo_hasNull.2.1 52 = .ok (.getfield 50, 3) := by decide +kernel
theorem dc_Mo_hasNull_55 : decode m_Mo_hasNull.2.1 55 = .ok (.iload_n 3, 1) := by decide +kernel
theorem dc_Mo_hasNull_56 : decode m_Mo_hasNull.2.1 56 = .ok (.iload 5, 2) := by decide +kernel
theorem dc_Mo_hasNull_58 : decode m_Mo_hasNull.2.1 58 = .ok (.iadd, 1) := by decide +kernel
theorem dc_Mo_hasNull_59 : decode m_Mo_hasNull.2.1 59 = .ok (.iaload, 1) := by decide +kernel
theorem dc_Mo_hasNull_60 : decode m_Mo_hasNull.2.1 60 = .ok (.iadd, 1) := by decide +kernel
theorem dc_Mo_hasNull_61 : decode m_Mo_hasNull.2.1 61 = .ok (.iaload, 1) := by decide +kernel
theorem dc_Mo_hasNull_62 : decode m_Mo_hasNull.2.1 62 = .ok (.bipush 6, 2) := by decide +kernel
theorem dc_Mo_hasNull_64 : decode m_Mo_hasNull.2.1 64 = .ok (.if_icmp .ne 5, 3) := by decide +kernel
theorem dc_Mo_hasNull_67 : decode m_Mo_hasNull.2.1 67 = .ok (.iconst 1, 1) := by decide +kernel
theorem dc_Mo_hasNull_68 : decode m_Mo_hasNull.2.1 68 = .ok (.ireturn, 1) := by decide +kernel
theorem dc_Mo_hasNull_69 : decode m_Mo_hasNull.2.1 69 = .ok (.iload 5, 2) := by decide +kernel
theorem dc_Mo_hasNull_71 : decode m_Mo_hasNull.2.1 71 = .ok (.aload_n 0, 1) := by decide +kernel
theorem dc_Mo_hasNull_72 : decode m_Mo_hasNull.2.1 72 = .ok (.getfield 47, 3) := by decide +kernel
theorem dc_Mo_hasNull_75 : decode m_Mo_hasNull.2.1 75 = .ok (.iload_n 3, 1) := by decide +kernel
theorem dc_Mo_hasNull_76 : decode m_Mo_hasNull.2.1 76 = .ok (.iload 5, 2) := by decide +kernel
theorem dc_Mo_hasNull_78 : decode m_Mo_hasNull.2.1 78 = .ok (.iadd, 1) := by decide +kernel
theorem dc_Mo_hasNull_79 : decode m_Mo_hasNull.2.1 79 = .ok (.iaload, 1) := by decide +kernel
theorem dc_Mo_hasNull_80 : decode m_Mo_hasNull.2.1 80 = .ok (.iconst 5, 1) := by decide +kernel
theorem dc_Mo_hasNull_81 : decode m_Mo_hasNull.2.1 81 = .ok (.if_icmp .ne 15, 3) := by decide +kernel
theorem dc_Mo_hasNull_84 : decode m_Mo_hasNull.2.1 84 = .ok (.aload_n 0, 1) := by decide +kernel
theorem dc_Mo_hasNull_85 : decode m_Mo_hasNull.2.1 85 = .ok (.getfield 59, 3) := by decide +kernel
theorem dc_Mo_hasNull_88 : decode m_Mo_hasNull.2.1 88 = .ok (.iload_n 3, 1) := by decide +kernel
theorem dc_Mo_hasNull_89 : decode m_Mo_hasNull.2.1 89 = .ok (.iload 5, 2) := by decide +kernel
theorem dc_Mo_hasNull_91 : decode m_Mo_hasNull.2.1 91 = .ok (.iadd, 1) := by decide +kernel
theorem dc_Mo_hasNull_92 : decode m_Mo_hasNull.2.1 92 = .ok (.iaload, 1) := by decide +kernel
theorem dc_Mo_hasNull_93 : decode m_Mo_hasNull.2.1 93 = .ok (.goto 4, 3) := by decide +kernel
theorem dc_Mo_hasNull_96 : decode m_Mo_hasNull.2.1 96 = .ok (.iconst 1, 1) := by decide +kernel
theorem dc_Mo_hasNull_97 : decode m_Mo_hasNull.2.1 97 = .ok (.iadd, 1) := by decide +kernel
theorem dc_Mo_hasNull_98 : decode m_Mo_hasNull.2.1 98 = .ok (.istore 5, 2) := by decide +kernel
theorem dc_Mo_hasNull_100 : decode m_Mo_hasNull.2.1 100 = .ok (.goto (-79), 3) := by decide +kernel
theorem dc_Mo_hasNull_103 : decode m_Mo_hasNull.2.1 103 = .ok (.iconst 0, 1) := by decide +kernel
theorem dc_Mo_hasNull_104 : decode m_Mo_hasNull.2.1 104 = .ok (.ireturn, 1) := by decide +kernel
theorem b_Mo_hasNull_0 {E : En_t} {d : Nat} {σ : S_t} {Q : Option Value → S_t → Prop} {x1 : Int32} {x2 : Int32}
    (h : vp_in (((500 : Int32) * x1) + x2) 4500 ∧ (JE E d m_Mo_hasNull 21 [(0, pv E 0), (2, .int x2), (3, .int ((500 : Int32) * x1)), (4, .int (x2 + (gI σ 17 (((500 : Int32) * x1) + x2).toNatClampNeg))), (5, .int x2)] [] σ Q)) :
    JE E d m_Mo_hasNull 0 [(0, pv E 0), (1, .int x1), (2, .int x2)] [] σ Q := by
  refine J_sipush (v := (500 : Int32)) dc_Mo_hasNull_0 (Eq.refl 3) rfl ?_
  refine J_iload_n dc_Mo_hasNull_3 (Eq.refl 4) 1 rfl ?_
  refine J_imul dc_Mo_hasNull_4 (Eq.refl 5) ?_
  refine J_istore_n (L' := [(3, .int ((500 : Int32) * x1)), (0, pv E 0), (1, .int x1), (2, .int x2)]) dc_Mo_hasNull_5 (Eq.refl 6) (Nat.le_of_ble_eq_true rfl) rfl ?_
  refine J_iload_n dc_Mo_hasNull_6 (Eq.refl 7) 3 rfl ?_
  refine J_aload_n dc_Mo_hasNull_7 (Eq.refl 8) 1 rfl ?_
  refine J_getF (y := 17) dc_Mo_hasNull_8 (Eq.refl 11) fl_Mo_59 (Nat.le_of_ble_eq_true rfl) rfl (Or.inl rfl) rfl ?_
  refine J_iload_n dc_Mo_hasNull_11 (Eq.refl 12) 0 rfl ?_
  refine J_iload_n dc_Mo_hasNull_12 (Eq.refl 13) 3 rfl ?_
  refine J_iadd dc_Mo_hasNull_13 (Eq.refl 14) ?_
  obtain ⟨hg, h⟩ := h
  refine J_iald dc_Mo_hasNull_14 (Eq.refl 15) rfl rfl hg ?_
  refine J_iadd dc_Mo_hasNull_15 (Eq.refl 16) ?_
  refine J_istore (L' := [(4, .int (x2 + (gI σ 17 (((500 : Int32) * x1) + x2).toNatClampNeg))), (3, .int ((500 : Int32) * x1)), (0, pv E 0), (1, .int x1), (2, .int x2)]) dc_Mo_hasNull_16 (Eq.refl 18) (Nat.le_of_ble_eq_true rfl) rfl ?_
  refine J_iload_n dc_Mo_hasNull_18 (Eq.refl 19) 4 rfl ?_
  refine J_istore (L' := [(5, .int x2), (4, .int (x2 + (gI σ 17 (((500 : Int32) * x1) + x2).toNatClampNeg))), (3, .int ((500 : Int32) * x1)), (0, pv E 0), (1, .int x1), (2, .int x2)]) dc_Mo_hasNull_19 (Eq.refl 21) (Nat.le_of_ble_eq_true rfl) rfl ?_
  refine J_sub [3, 5, 2, 1, 0] rfl ?_
  exact h
theorem b_Mo_hasNull_21 {E : En_t} {d : Nat} {σ : S_t} {Q : Option Value → S_t → Prop} {x2 : Int32} {x3 : Int32} {x4 : Int32} {x5 : Int32}
    (h : (x4 ≤ x5 → Q (some (.int (0 : Int32))) σ) ∧ (¬ x4 ≤ x5 → (x5 ≤ x2 → JE E d m_Mo_hasNull 69 [(0, pv E 0), (2, .int x2), (3, .int x3), (4, .int x4), (5, .int x5)] [] σ Q) ∧ (¬ x5 ≤ x2 → vp_in (x3 + x5) 4500 ∧ ((¬ (gI σ 13 (x3 + x5).toNatClampNeg) = 0 → JE E d m_Mo_hasNull 69 [(0, pv E 0), (2, .int x2), (3, .int x3), (4, .int x4), (5, .int x5)] [] σ Q) ∧ ((gI σ 13 (x3 + x5).toNatClampNeg) = 0 → vp_in (x3 + x5) 4500 ∧ (vp_in (x3 + (gI σ 14 (x3 + x5).toNatClampNeg)) 4500 ∧ ((¬ (gI σ 13 (x3 + (gI σ 14 (x3 + x5).toNatClampNeg)).toNatClampNeg) = (6 : Int32) → JE E d m_Mo_hasNull 69 [(0, pv E 0), (2, .int x2), (3, .int x3), (4, .int x4), (5, .int x5)] [] σ Q) ∧ ((gI σ 13 (x3 + (gI σ 14 (x3 + x5).toNatClampNeg)).toNatClampNeg) = (6 : Int32) → Q (some (.int (1 : Int32))) σ)))))))) :
    JE E d m_Mo_hasNull 21 [(0, pv E 0), (2, .int x2), (3, .int x3), (4, .int x4), (5, .int x5)] [] σ Q := by
  refine J_iload dc_Mo_hasNull_21 (Eq.refl 23) 4 rfl ?_
  refine J_iload dc_Mo_hasNull_23 (Eq.refl 25) 3 rfl ?_
  refine J_icmp_ge dc_Mo_hasNull_25 (Eq.refl 28) rfl (fun hc => ?_) (fun hc => ?_)
  · have h := h.1 hc
    refine J_iconst (v := (0 : Int32)) dc_Mo_hasNull_103 (Eq.refl 104) rfl ?_
    exact J_zret dc_Mo_hasNull_104 rfl rfl h
  · have h := h.2 hc
    refine J_iload dc_Mo_hasNull_28 (Eq.refl 30) 4 rfl ?_
    refine J_iload_n dc_Mo_hasNull_30 (Eq.refl 31) 1 rfl ?_
    refine J_icmp_le dc_Mo_hasNull_31 (Eq.refl 34) rfl (fun hc => ?_) (fun hc => ?_)
    · have h := h.1 hc
      exact h
    · have h := h.2 hc
      refine J_aload_n dc_Mo_hasNull_34 (Eq.refl 35) 0 rfl ?_
      refine J_getF (y := 13) dc_Mo_hasNull_35 (Eq.refl 38) fl_Mo_47 (Nat.le_of_ble_eq_true rfl) rfl (Or.inl rfl) rfl ?_
      refine J_iload_n dc_Mo_hasNull_38 (Eq.refl 39) 2 rfl ?_
      refine J_iload dc_Mo_hasNull_39 (Eq.refl 41) 4 rfl ?_
      refine J_iadd dc_Mo_hasNull_41 (Eq.refl 42) ?_
      obtain ⟨hg, h⟩ := h
      refine J_iald dc_Mo_hasNull_42 (Eq.refl 43) rfl rfl hg ?_
      refine J_if_ne dc_Mo_hasNull_43 (Eq.refl 46) rfl (fun hc => ?_) (fun hc => ?_)
      · have h := h.1 hc
        exact h
      · have h := h.2 hc
        refine J_aload_n dc_Mo_hasNull_46 (Eq.refl 47) 0 rfl ?_
        refine J_getF (y := 13) dc_Mo_hasNull_47 (Eq.refl 50) fl_Mo_47 (Nat.le_of_ble_eq_true rfl) rfl (Or.inl rfl) rfl ?_
        refine J_iload_n dc_Mo_hasNull_50 (Eq.refl 51) 2 rfl ?_
        refine J_aload_n dc_Mo_hasNull_51 (Eq.refl 52) 0 rfl ?_
        refine J_getF (y := 14) dc_Mo_hasNull_52 (Eq.refl 55) fl_Mo_50 (Nat.le_of_ble_eq_true rfl) rfl (Or.inl rfl) rfl ?_
        refine J_iload_n dc_Mo_hasNull_55 (Eq.refl 56) 2 rfl ?_
        refine J_iload dc_Mo_hasNull_56 (Eq.refl 58) 4 rfl ?_
        refine J_iadd dc_Mo_hasNull_58 (Eq.refl 59) ?_
        obtain ⟨hg, h⟩ := h
        refine J_iald dc_Mo_hasNull_59 (Eq.refl 60) rfl rfl hg ?_
        refine J_iadd dc_Mo_hasNull_60 (Eq.refl 61) ?_
        obtain ⟨hg, h⟩ := h
        refine J_iald dc_Mo_hasNull_61 (Eq.refl 62) rfl rfl hg ?_
        refine J_bipush (v := (6 : Int32)) dc_Mo_hasNull_62 (Eq.refl 64) rfl ?_
        refine J_icmp_ne dc_Mo_hasNull_64 (Eq.refl 67) rfl (fun hc => ?_) (fun hc => ?_)
        · have h := h.1 hc
          exact h
        · have h := h.2 hc
          refine J_iconst (v := (1 : Int32)) dc_Mo_hasNull_67 (Eq.refl 68) rfl ?_
          exact J_zret dc_Mo_hasNull_68 rfl rfl h
theorem b_Mo_hasNull_69 {E : En_t} {d : Nat} {σ : S_t} {Q : Option Value → S_t → Prop} {x2 : Int32} {x3 : Int32} {x4 : Int32} {x5 : Int32}
    (h : vp_in (x3 + x5) 4500 ∧ ((¬ (gI σ 13 (x3 + x5).toNatClampNeg) = (5 : Int32) → JE E d m_Mo_hasNull 97 [(0, pv E 0), (2, .int x2), (3, .int x3), (4, .int x4)] [.int (1 : Int32), .int x5] σ Q) ∧ ((gI σ 13 (x3 + x5).toNatClampNeg) = (5 : Int32) → vp_in (x3 + x5) 4500 ∧ (JE E d m_Mo_hasNull 97 [(0, pv E 0), (2, .int x2), (3, .int x3), (4, .int x4)] [.int (gI σ 17 (x3 + x5).toNatClampNeg), .int x5] σ Q)))) :
    JE E d m_Mo_hasNull 69 [(0, pv E 0), (2, .int x2), (3, .int x3), (4, .int x4), (5, .int x5)] [] σ Q := by
  refine J_iload dc_Mo_hasNull_69 (Eq.refl 71) 4 rfl ?_
  refine J_aload_n dc_Mo_hasNull_71 (Eq.refl 72) 0 rfl ?_
  refine J_getF (y := 13) dc_Mo_hasNull_72 (Eq.refl 75) fl_Mo_47 (Nat.le_of_ble_eq_true rfl) rfl (Or.inl rfl) rfl ?_
  refine J_iload_n dc_Mo_hasNull_75 (Eq.refl 76) 2 rfl ?_
  refine J_iload dc_Mo_hasNull_76 (Eq.refl 78) 4 rfl ?_
  refine J_iadd dc_Mo_hasNull_78 (Eq.refl 79) ?_
  obtain ⟨hg, h⟩ := h
  refine J_iald dc_Mo_hasNull_79 (Eq.refl 80) rfl rfl hg ?_
  refine J_iconst (v := (5 : Int32)) dc_Mo_hasNull_80 (Eq.refl 81) rfl ?_
  refine J_icmp_ne dc_Mo_hasNull_81 (Eq.refl 84) rfl (fun hc => ?_) (fun hc => ?_)
  · have h := h.1 hc
    refine J_iconst (v := (1 : Int32)) dc_Mo_hasNull_96 (Eq.refl 97) rfl ?_
    refine J_sub [0, 1, 2, 3] rfl ?_
    exact h
  · have h := h.2 hc
    refine J_aload_n dc_Mo_hasNull_84 (Eq.refl 85) 0 rfl ?_
    refine J_getF (y := 17) dc_Mo_hasNull_85 (Eq.refl 88) fl_Mo_59 (Nat.le_of_ble_eq_true rfl) rfl (Or.inl rfl) rfl ?_
    refine J_iload_n dc_Mo_hasNull_88 (Eq.refl 89) 2 rfl ?_
    refine J_iload dc_Mo_hasNull_89 (Eq.refl 91) 4 rfl ?_
    refine J_iadd dc_Mo_hasNull_91 (Eq.refl 92) ?_
    obtain ⟨hg, h⟩ := h
    refine J_iald dc_Mo_hasNull_92 (Eq.refl 93) rfl rfl hg ?_
    refine J_goto dc_Mo_hasNull_93 rfl ?_
    refine J_sub [0, 1, 2, 3] rfl ?_
    exact h
theorem b_Mo_hasNull_97 {E : En_t} {d : Nat} {σ : S_t} {Q : Option Value → S_t → Prop} {x2 : Int32} {x3 : Int32} {x4 : Int32} {s0 : Int32} {s1 : Int32}
    (h : JE E d m_Mo_hasNull 21 [(0, pv E 0), (2, .int x2), (3, .int x3), (4, .int x4), (5, .int (s1 + s0))] [] σ Q) :
    JE E d m_Mo_hasNull 97 [(0, pv E 0), (2, .int x2), (3, .int x3), (4, .int x4)] [.int s0, .int s1] σ Q := by
  refine J_iadd dc_Mo_hasNull_97 (Eq.refl 98) ?_
  refine J_istore (L' := [(5, .int (s1 + s0)), (0, pv E 0), (2, .int x2), (3, .int x3), (4, .int x4)]) dc_Mo_hasNull_98 (Eq.refl 100) (Nat.le_of_ble_eq_true rfl) rfl ?_
  refine J_goto dc_Mo_hasNull_100 rfl ?_
  refine J_sub [1, 2, 3, 4, 0] rfl ?_
  exact h
theorem dc_Mo_part_0 : decode m_Mo_part.2.1 0 = .ok (.aload_n 0, 1) := by decide +kernel
theorem dc_Mo_part_1 : decode m_Mo_part.2.1 1 = .ok (.iload_n 1, 1) := by decide +kernel
theorem dc_Mo_part_2 : decode m_Mo_part.2.1 2 = .ok (.iload_n 2, 1) := by decide +kernel
theorem dc_Mo_part_3 : decode m_Mo_part.2.1 3 = .ok (.invokevirtual 408, 3) := by decide +kernel
theorem dc_Mo_part_6 : decode m_Mo_part.2.1 6 = .ok (.ifCond .eq 10, 3) := by decide +kernel
theorem dc_Mo_part_9 : decode m_Mo_part.2.1 9 = .ok (.iload_n 3, 1) := by decide +kernel
theorem dc_Mo_part_10 : decode m_Mo_part.2.1 10 = .ok (.invokestatic 291, 3) := by decide +kernel
theorem dc_Mo_part_13 : decode m_Mo_part.2.1 13 = .ok (.ifCond .ne 5, 3) := by decide +kernel
theorem dc_Mo_part_16 : decode m_Mo_part.2.1 16 = .ok (.iconst (-1), 1) := by decide +kernel
theorem dc_Mo_part_17 : decode m_Mo_part.2.1 17 = .ok (.ireturn, 1) := by decide +kernel
theorem dc_Mo_part_18 : decode m_Mo_part.2.1 18 = .ok (.aload_n 0, 1) := by decide +kernel
theorem dc_Mo_part_19 : decode m_Mo_part.2.1 19 = .ok (.invokevirtual 376, 3) := by decide +kernel
theorem dc_Mo_part_22 : decode m_Mo_part.2.1 22 = .ok (.aload_n 0, 1) := by decide +kernel
theorem dc_Mo_part_23 : decode m_Mo_part.2.1 23 = .ok (.iload_n 1, 1) := by decide +kernel
theorem dc_Mo_part_24 : decode m_Mo_part.2.1 24 = .ok (.iload_n 2, 1) := by decide +kernel
theorem dc_Mo_part_25 : decode m_Mo_part.2.1 25 = .ok (.iconst 0, 1) := by decide +kernel
theorem dc_Mo_part_26 : decode m_Mo_part.2.1 26 = .ok (.iconst 0, 1) := by decide +kernel
theorem dc_Mo_part_27 : decode m_Mo_part.2.1 27 = .ok (.invokevirtual 438, 3) := by decide +kernel
theorem dc_Mo_part_30 : decode m_Mo_part.2.1 30 = .ok (.aload_n 0, 1) := by decide +kernel
theorem dc_Mo_part_31 : decode m_Mo_part.2.1 31 = .ok (.getfield 299, 3) := by decide +kernel
theorem dc_Mo_part_34 : decode m_Mo_part.2.1 34 = .ok (.ifCond .eq 5, 3) := by decide +kernel
theorem dc_Mo_part_37 : decode m_Mo_part.2.1 37 = .ok (.iconst (-1), 1) := by decide +kernel
theorem dc_Mo_part_38 : decode m_Mo_part.2.1 38 = .ok (.ireturn, 1) := by decide +kernel
theorem dc_Mo_part_39 : decode m_Mo_part.2.1 39 = .ok (.aload_n 0, 1) := by decide +kernel
theorem dc_Mo_part_40 : decode m_Mo_part.2.1 40 = .ok (.iload_n 3, 1) := by decide +kernel
theorem dc_Mo_part_41 : decode m_Mo_part.2.1 41 = .ok (.invokevirtual 392, 3) := by decide +kernel
theorem dc_Mo_part_44 : decode m_Mo_part.2.1 44 = .ok (.aload_n 0, 1) := by decide +kernel
theorem dc_Mo_part_45 : decode m_Mo_part.2.1 45 = .ok (.getfield 35, 3) := by decide +kernel
theorem dc_Mo_part_48 : decode m_Mo_part.2.1 48 = .ok (.iload_n 3, 1) := by decide +kernel
theorem dc_Mo_part_49 : decode m_Mo_part.2.1 49 = .ok (.iaload, 1) := by decide +kernel
theorem dc_Mo_part_50 : decode m_Mo_part.2.1 50 = .ok (.ireturn, 1) := by decide +kernel
theorem b_Mo_part_0 {E : En_t} {d : Nat} {σ : S_t} {Q : Option Value → S_t → Prop} {x1 : Int32} {x2 : Int32} {x3 : Int32}
    (h : CI E d m_Mo_has [pv E 0, .int x1, .int x2] σ (fun r2 σ1 => (r2 = 0 → Q (some (.int (-1 : Int32))) σ1) ∧ (¬ r2 = 0 → CI E d m_Mo_isShelf [.int x3] σ1 (fun r4 σ3 => (¬ r4 = 0 → CV E d m_Mo_beginMade [pv E 0] σ3 (fun σ5 => CV E d m_Mo_copy [pv E 0, .int x1, .int x2, .int (0 : Int32), .int (0 : Int32)] σ5 (fun σ6 => ((gI σ6 0 39) = 0 → CV E d m_Mo_shelve [pv E 0, .int x3] σ6 (fun σ7 => vp_in x3 9 ∧ (Q (some (.int (gI σ7 9 x3.toNatClampNeg))) σ7))) ∧ (¬ (gI σ6 0 39) = 0 → Q (some (.int (-1 : Int32))) σ6)))) ∧ (r4 = 0 → Q (some (.int (-1 : Int32))) σ3))))) :
    JE E (d + 1) m_Mo_part 0 [(0, pv E 0), (1, .int x1), (2, .int x2), (3, .int x3)] [] σ Q := by
  refine J_aload_n dc_Mo_part_0 (Eq.refl 1) 0 rfl ?_
  refine J_iload_n dc_Mo_part_1 (Eq.refl 2) 1 rfl ?_
  refine J_iload_n dc_Mo_part_2 (Eq.refl 3) 2 rfl ?_
  refine J_callVI (As := [.int x1, .int x2]) (st := []) dc_Mo_part_3 (Eq.refl 6) lk_Mo_408 mi_Mo_has rfl (Nat.le_of_ble_eq_true rfl) rfl rfl (Nat.le_of_ble_eq_true rfl) rfl (Nat.le_of_ble_eq_true rfl) (CI.mono h (fun r2 σ1 h => ?_))
  refine J_if_eq dc_Mo_part_6 (Eq.refl 9) rfl (fun hc => ?_) (fun hc => ?_)
  · have h := h.1 hc
    refine J_iconst (v := (-1 : Int32)) dc_Mo_part_16 (Eq.refl 17) rfl ?_
    exact J_iret dc_Mo_part_17 rfl h
  · have h := h.2 hc
    refine J_iload_n dc_Mo_part_9 (Eq.refl 10) 3 rfl ?_
    refine J_callSI (As := [.int x3]) (st := []) dc_Mo_part_10 (Eq.refl 13) lk_Mo_291 mi_Mo_isShelf (Nat.le_of_ble_eq_true rfl) rfl (Nat.le_of_ble_eq_true rfl) (CI.mono h (fun r4 σ3 h => ?_))
    refine J_if_ne dc_Mo_part_13 (Eq.refl 16) rfl (fun hc => ?_) (fun hc => ?_)
    · have h := h.1 hc
      refine J_aload_n dc_Mo_part_18 (Eq.refl 19) 0 rfl ?_
      refine J_callVV (As := []) (st := []) dc_Mo_part_19 (Eq.refl 22) lk_Mo_376 mi_Mo_beginMade rfl (Nat.le_of_ble_eq_true rfl) rfl rfl (Nat.le_of_ble_eq_true rfl) rfl (Nat.le_of_ble_eq_true rfl) (CV.mono h (fun σ5 h => ?_))
      refine J_aload_n dc_Mo_part_22 (Eq.refl 23) 0 rfl ?_
      refine J_iload_n dc_Mo_part_23 (Eq.refl 24) 1 rfl ?_
      refine J_iload_n dc_Mo_part_24 (Eq.refl 25) 2 rfl ?_
      refine J_iconst (v := (0 : Int32)) dc_Mo_part_25 (Eq.refl 26) rfl ?_
      refine J_iconst (v := (0 : Int32)) dc_Mo_part_26 (Eq.refl 27) rfl ?_
      refine J_callVV (As := [.int x1, .int x2, .int (0 : Int32), .int (0 : Int32)]) (st := []) dc_Mo_part_27 (Eq.refl 30) lk_Mo_438 mi_Mo_copy rfl (Nat.le_of_ble_eq_true rfl) rfl rfl (Nat.le_of_ble_eq_true rfl) rfl (Nat.le_of_ble_eq_true rfl) (CV.mono h (fun σ6 h => ?_))
      refine J_aload_n dc_Mo_part_30 (Eq.refl 31) 0 rfl ?_
      refine J_getI dc_Mo_part_31 (Eq.refl 34) fl_Mo_299 (Nat.le_of_ble_eq_true rfl) rfl (Or.inr rfl) ?_
      refine J_if_eq dc_Mo_part_34 (Eq.refl 37) rfl (fun hc => ?_) (fun hc => ?_)
      · have h := h.1 hc
        refine J_aload_n dc_Mo_part_39 (Eq.refl 40) 0 rfl ?_
        refine J_iload_n dc_Mo_part_40 (Eq.refl 41) 3 rfl ?_
        refine J_callVV (As := [.int x3]) (st := []) dc_Mo_part_41 (Eq.refl 44) lk_Mo_392 mi_Mo_shelve rfl (Nat.le_of_ble_eq_true rfl) rfl rfl (Nat.le_of_ble_eq_true rfl) rfl (Nat.le_of_ble_eq_true rfl) (CV.mono h (fun σ7 h => ?_))
        refine J_aload_n dc_Mo_part_44 (Eq.refl 45) 0 rfl ?_
        refine J_getF (y := 9) dc_Mo_part_45 (Eq.refl 48) fl_Mo_35 (Nat.le_of_ble_eq_true rfl) rfl (Or.inl rfl) rfl ?_
        refine J_iload_n dc_Mo_part_48 (Eq.refl 49) 3 rfl ?_
        obtain ⟨hg, h⟩ := h
        refine J_iald dc_Mo_part_49 (Eq.refl 50) rfl rfl hg ?_
        exact J_iret dc_Mo_part_50 rfl h
      · have h := h.2 hc
        refine J_iconst (v := (-1 : Int32)) dc_Mo_part_37 (Eq.refl 38) rfl ?_
        exact J_iret dc_Mo_part_38 rfl h
    · have h := h.2 hc
      refine J_iconst (v := (-1 : Int32)) dc_Mo_part_16 (Eq.refl 17) rfl ?_
      exact J_iret dc_Mo_part_17 rfl h
theorem dc_Mo_about_0 : decode m_Mo_about.2.1 0 = .ok (.iload_n 1, 1) := by decide +kernel
theorem dc_Mo_about_1 : decode m_Mo_about.2.1 1 = .ok (.tableswitch 72 0 2 #[27, 32, 37], 27) := by decide +kernel
theorem dc_Mo_about_28 : decode m_Mo_about.2.1 28 = .ok (.aload_n 0, 1) := by decide +kernel
theorem dc_Mo_about_29 : decode m_Mo_about.2.1 29 = .ok (.getfield 162, 3) := by decide +kernel
theorem dc_Mo_about_32 : decode m_Mo_about.2.1 32 = .ok (.ireturn, 1) := by decide +kernel
theorem dc_Mo_about_33 : decode m_Mo_about.2.1 33 = .ok (.aload_n 0, 1) := by decide +kernel
theorem dc_Mo_about_34 : decode m_Mo_about.2.1 34 = .ok (.getfield 172, 3) := by decide +kernel
theorem dc_Mo_about_37 : decode m_Mo_about.2.1 37 = .ok (.ireturn, 1) := by decide +kernel
theorem dc_Mo_about_38 : decode m_Mo_about.2.1 38 = .ok (.iconst 0, 1) := by decide +kernel
theorem dc_Mo_about_39 : decode m_Mo_about.2.1 39 = .ok (.istore_n 2, 1) := by decide +kernel
theorem dc_Mo_about_40 : decode m_Mo_about.2.1 40 = .ok (.iconst 0, 1) := by decide +kernel
theorem dc_Mo_about_41 : decode m_Mo_about.2.1 41 = .ok (.istore_n 3, 1) := by decide +kernel
theorem dc_Mo_about_42 : decode m_Mo_about.2.1 42 = .ok (.iload_n 3, 1) := by decide +kernel
theorem dc_Mo_about_43 : decode m_Mo_about.2.1 43 = .ok (.bipush 8, 2) := by decide +kernel
theorem dc_Mo_about_45 : decode m_Mo_about.2.1 45 = .ok (.if_icmp .ge 26, 3) := by decide +kernel
theorem dc_Mo_about_48 : decode m_Mo_about.2.1 48 = .ok (.iload_n 2, 1) := by decide +kernel
theorem dc_Mo_about_49 : decode m_Mo_about.2.1 49 = .ok (.aload_n 0, 1) := by decide +kernel
theorem dc_Mo_about_50 : decode m_Mo_about.2.1 50 = .ok (.getfield 31, 3) := by decide +kernel
theorem dc_Mo_about_53 : decode m_Mo_about.2.1 53 = .ok (.iload_n 3, 1) := by decide +kernel
theorem dc_Mo_about_54 : decode m_Mo_about.2.1 54 = .ok (.baload, 1) := by decide +kernel
theorem dc_Mo_about_55 : decode m_Mo_about.2.1 55 = .ok (.ifCond .eq 7, 3) := by decide +kernel
theorem dc_Mo_about_58 : decode m_Mo_about.2.1 58 = .ok (.iconst 1, 1) := by decide +kernel
theorem dc_Mo_about_59 : decode m_Mo_about.2.1 59 = .ok (.goto 4, 3) := by decide +kernel
theorem dc_Mo_about_62 : decode m_Mo_about.2.1 62 = .ok (.iconst 0, 1) := by decide +kernel
theorem dc_Mo_about_63 : decode m_Mo_about.2.1 63 = .ok (.iadd, 1) := by decide +kernel
theorem dc_Mo_about_64 : decode m_Mo_about.2.1 64 = .ok (.istore_n 2, 1) := by decide +kernel
theorem dc_Mo_about_65 : decode m_Mo_about.2.1 65 = .ok (.iinc 3 1, 3) := by decide +kernel
theorem dc_Mo_about_68 : decode m_Mo_about.2.1 68 = .ok (.goto (-26), 3) := by decide +kernel
theorem dc_Mo_about_71 : decode m_Mo_about.2.1 71 = .ok (.iload_n 2, 1) := by decide +kernel
theorem dc_Mo_about_72 : decode m_Mo_about.2.1 72 = .ok (.ireturn, 1) := by decide +kernel
theorem dc_Mo_about_73 : decode m_Mo_about.2.1 73 = .ok (.iconst (-1), 1) := by decide +kernel
theorem dc_Mo_about_74 : decode m_Mo_about.2.1 74 = .ok (.ireturn, 1) := by decide +kernel
theorem b_Mo_about_0 {E : En_t} {d : Nat} {σ : S_t} {Q : Option Value → S_t → Prop} {x1 : Int32}
    (h : (x1 = (0 : Int32) → Q (some (.int (gI σ 0 1))) σ) ∧ (x1 = (1 : Int32) → Q (some (.int (gI σ 0 3))) σ) ∧ (x1 = (2 : Int32) → JE E d m_Mo_about 42 [(0, pv E 0), (2, .int (0 : Int32)), (3, .int (0 : Int32))] [] σ Q) ∧ (¬ x1 = (0 : Int32) → ¬ x1 = (1 : Int32) → ¬ x1 = (2 : Int32) → Q (some (.int (-1 : Int32))) σ)) :
    JE E d m_Mo_about 0 [(0, pv E 0), (1, .int x1)] [] σ Q := by
  refine J_iload_n dc_Mo_about_0 (Eq.refl 1) 1 rfl ?_
  by_cases q0 : x1 = (0 : Int32)
  · have h := h.1 q0
    refine J_tableIn (tgt := 28) dc_Mo_about_1 (by rw [q0]; decide) (by rw [q0]; decide) (by rw [q0]; rfl) rfl ?_
    refine J_aload_n dc_Mo_about_28 (Eq.refl 29) 0 rfl ?_
    refine J_getI dc_Mo_about_29 (Eq.refl 32) fl_Mo_162 (Nat.le_of_ble_eq_true rfl) rfl (Or.inl rfl) ?_
    exact J_iret dc_Mo_about_32 rfl h
  have h := h.2
  by_cases q1 : x1 = (1 : Int32)
  · have h := h.1 q1
    refine J_tableIn (tgt := 33) dc_Mo_about_1 (by rw [q1]; decide) (by rw [q1]; decide) (by rw [q1]; rfl) rfl ?_
    refine J_aload_n dc_Mo_about_33 (Eq.refl 34) 0 rfl ?_
    refine J_getI dc_Mo_about_34 (Eq.refl 37) fl_Mo_172 (Nat.le_of_ble_eq_true rfl) rfl (Or.inl rfl) ?_
    exact J_iret dc_Mo_about_37 rfl h
  have h := h.2
  by_cases q2 : x1 = (2 : Int32)
  · have h := h.1 q2
    refine J_tableIn (tgt := 38) dc_Mo_about_1 (by rw [q2]; decide) (by rw [q2]; decide) (by rw [q2]; rfl) rfl ?_
    refine J_iconst (v := (0 : Int32)) dc_Mo_about_38 (Eq.refl 39) rfl ?_
    refine J_istore_n (L' := [(2, .int (0 : Int32)), (0, pv E 0), (1, .int x1)]) dc_Mo_about_39 (Eq.refl 40) (Nat.le_of_ble_eq_true rfl) rfl ?_
    refine J_iconst (v := (0 : Int32)) dc_Mo_about_40 (Eq.refl 41) rfl ?_
    refine J_istore_n (L' := [(3, .int (0 : Int32)), (2, .int (0 : Int32)), (0, pv E 0), (1, .int x1)]) dc_Mo_about_41 (Eq.refl 42) (Nat.le_of_ble_eq_true rfl) rfl ?_
    refine J_sub [2, 1, 0] rfl ?_
    exact h
  have h := h.2
  have h := h q0 q1 q2
  refine J_tableOut (tgt := 73) dc_Mo_about_1 (sw_out (n := 2) (by decide) (fun k hk => ?_)) rfl ?_
  · have hk : k = 0 ∨ k = 1 ∨ k = 2 := by omega
    rcases hk with rfl | rfl | rfl
    · exact q0
    · exact q1
    · exact q2
  · skip
    refine J_iconst (v := (-1 : Int32)) dc_Mo_about_73 (Eq.refl 74) rfl ?_
    exact J_iret dc_Mo_about_74 rfl h
theorem b_Mo_about_42 {E : En_t} {d : Nat} {σ : S_t} {Q : Option Value → S_t → Prop} {x2 : Int32} {x3 : Int32}
    (h : ((8 : Int32) ≤ x3 → Q (some (.int x2)) σ) ∧ (¬ (8 : Int32) ≤ x3 → vp_in x3 9 ∧ (((gI σ 8 x3.toNatClampNeg) = 0 → JE E d m_Mo_about 63 [(0, pv E 0), (3, .int x3)] [.int (0 : Int32), .int x2] σ Q) ∧ (¬ (gI σ 8 x3.toNatClampNeg) = 0 → JE E d m_Mo_about 63 [(0, pv E 0), (3, .int x3)] [.int (1 : Int32), .int x2] σ Q)))) :
    JE E d m_Mo_about 42 [(0, pv E 0), (2, .int x2), (3, .int x3)] [] σ Q := by
  refine J_iload_n dc_Mo_about_42 (Eq.refl 43) 2 rfl ?_
  refine J_bipush (v := (8 : Int32)) dc_Mo_about_43 (Eq.refl 45) rfl ?_
  refine J_icmp_ge dc_Mo_about_45 (Eq.refl 48) rfl (fun hc => ?_) (fun hc => ?_)
  · have h := h.1 hc
    refine J_iload_n dc_Mo_about_71 (Eq.refl 72) 1 rfl ?_
    exact J_iret dc_Mo_about_72 rfl h
  · have h := h.2 hc
    refine J_iload_n dc_Mo_about_48 (Eq.refl 49) 1 rfl ?_
    refine J_aload_n dc_Mo_about_49 (Eq.refl 50) 0 rfl ?_
    refine J_getF (y := 8) dc_Mo_about_50 (Eq.refl 53) fl_Mo_31 (Nat.le_of_ble_eq_true rfl) rfl (Or.inl rfl) rfl ?_
    refine J_iload_n dc_Mo_about_53 (Eq.refl 54) 2 rfl ?_
    obtain ⟨hg, h⟩ := h
    refine J_zald dc_Mo_about_54 (Eq.refl 55) rfl rfl hg ?_
    refine J_if_eq dc_Mo_about_55 (Eq.refl 58) rfl (fun hc => ?_) (fun hc => ?_)
    · have h := h.1 hc
      refine J_iconst (v := (0 : Int32)) dc_Mo_about_62 (Eq.refl 63) rfl ?_
      refine J_sub [0, 2] rfl ?_
      exact h
    · have h := h.2 hc
      refine J_iconst (v := (1 : Int32)) dc_Mo_about_58 (Eq.refl 59) rfl ?_
      refine J_goto dc_Mo_about_59 rfl ?_
      refine J_sub [0, 2] rfl ?_
      exact h
theorem b_Mo_about_63 {E : En_t} {d : Nat} {σ : S_t} {Q : Option Value → S_t → Prop} {x3 : Int32} {s0 : Int32} {s1 : Int32}
    (h : JE E d m_Mo_about 42 [(0, pv E 0), (2, .int (s1 + s0)), (3, .int (x3 + (1 : Int32)))] [] σ Q) :
    JE E d m_Mo_about 63 [(0, pv E 0), (3, .int x3)] [.int s0, .int s1] σ Q := by
  refine J_iadd dc_Mo_about_63 (Eq.refl 64) ?_
  refine J_istore_n (L' := [(2, .int (s1 + s0)), (0, pv E 0), (3, .int x3)]) dc_Mo_about_64 (Eq.refl 65) (Nat.le_of_ble_eq_true rfl) rfl ?_
  refine J_iinc (v := x3 + (1 : Int32)) (L' := [(3, .int (x3 + (1 : Int32))), (2, .int (s1 + s0)), (0, pv E 0)]) dc_Mo_about_65 (Eq.refl 68) 2 rfl rfl (Nat.le_of_ble_eq_true rfl) rfl ?_
  refine J_goto dc_Mo_about_68 rfl ?_
  refine J_sub [2, 1, 0] rfl ?_
  exact h
