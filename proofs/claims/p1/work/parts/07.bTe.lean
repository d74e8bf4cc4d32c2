theorem dc_Te_push_0 : decode m_Te_push.2.1 0 = .ok (.bipush 24, 2) := by decide +kernel
theorem dc_Te_push_2 : decode m_Te_push.2.1 2 = .ok (.istore_n 2, 1) := by decide +kernel
theorem dc_Te_push_3 : decode m_Te_push.2.1 3 = .ok (.iload_n 2, 1) := by decide +kernel
theorem dc_Te_push_4 : decode m_Te_push.2.1 4 = .ok (.ifCond .lt 42, 3) := by decide +kernel
theorem dc_Te_push_7 : decode m_Te_push.2.1 7 = .ok (.aload_n 0, 1) := by decide +kernel
theorem dc_Te_push_8 : decode m_Te_push.2.1 8 = .ok (.getfield 15, 3) := by decide +kernel
theorem dc_Te_push_11 : decode m_Te_push.2.1 11 = .ok (.sipush 2000, 3) := by decide +kernel
theorem dc_Te_push_14 : decode m_Te_push.2.1 14 = .ok (.if_icmp .ge 32, 3) := by decide +kernel
theorem dc_Te_push_17 : decode m_Te_push.2.1 17 = .ok (.aload_n 0, 1) := by decide +kernel
theorem dc_Te_push_18 : decode m_Te_push.2.1 18 = .ok (.getfield 9, 3) := by decide +kernel
theorem dc_Te_push_21 : decode m_Te_push.2.1 21 = .ok (.aload_n 0, 1) := by decide +kernel
theorem dc_Te_push_22 : decode m_Te_push.2.1 22 = .ok (.getfield 15, 3) := by decide +kernel
theorem dc_Te_push_25 : decode m_Te_push.2.1 25 = .ok (.iload_n 1, 1) := by decide +kernel
theorem dc_Te_push_26 : decode m_Te_push.2.1 26 = .ok (.iload_n 2, 1) := by decide +kernel
theorem dc_Te_push_27 : decode m_Te_push.2.1 27 = .ok (.iushr, 1) := by decide +kernel
theorem dc_Te_push_28 : decode m_Te_push.2.1 28 = .ok (.i2b, 1) := by decide +kernel
theorem dc_Te_push_29 : decode m_Te_push.2.1 29 = .ok (.bastore, 1) := by decide +kernel
theorem dc_Te_push_30 : decode m_Te_push.2.1 30 = .ok (.aload_n 0, 1) := by decide +kernel
theorem dc_Te_push_31 : decode m_Te_push.2.1 31 = .ok (.dup, 1) := by decide +kernel
theorem dc_Te_push_32 : decode m_Te_push.2.1 32 = .ok (.getfield 15, 3) := by decide +kernel
theorem dc_Te_push_35 : decode m_Te_push.2.1 35 = .ok (.iconst 1, 1) := by decide +kernel
theorem dc_Te_push_36 : decode m_Te_push.2.1 36 = .ok (.iadd, 1) := by decide +kernel
theorem dc_Te_push_37 : decode m_Te_push.2.1 37 = .ok (.putfield 15, 3) := by decide +kernel
theorem dc_Te_push_40 : decode m_Te_push.2.1 40 = .ok (.iinc 2 (-8), 3) := by decide +kernel
theorem dc_Te_push_43 : decode m_Te_push.2.1 43 = .ok (.goto (-40), 3) := by decide +kernel
theorem dc_Te_push_46 : decode m_Te_push.2.1 46 = .ok (.return_, 1) := by decide +kernel
theorem b_Te_push_0 {E : En_t} {d : Nat} {σ : S_t} {Q : Option Value → S_t → Prop} {x1 : Int32}
    (h : JE E d m_Te_push 3 [(0, pv E 51), (1, .int x1), (2, .int (24 : Int32))] [] σ Q) :
    JE E d m_Te_push 0 [(0, pv E 51), (1, .int x1)] [] σ Q := by
  refine J_bipush (v := (24 : Int32)) dc_Te_push_0 (Eq.refl 2) rfl ?_
  refine J_istore_n (L' := [(2, .int (24 : Int32)), (0, pv E 51), (1, .int x1)]) dc_Te_push_2 (Eq.refl 3) (Nat.le_of_ble_eq_true rfl) rfl ?_
  refine J_sub [1, 2, 0] rfl ?_
  exact h
theorem b_Te_push_3 {E : En_t} {d : Nat} {σ : S_t} {Q : Option Value → S_t → Prop} {x1 : Int32} {x2 : Int32}
    (h : (x2 < 0 → Q none σ) ∧ (¬ x2 < 0 → ((2000 : Int32) ≤ (gI σ 51 1) → Q none σ) ∧ (¬ (2000 : Int32) ≤ (gI σ 51 1) → vp_in (gI σ 51 1) 2000 ∧ (∀ v1, v1 = gI (sI σ 52 (gI σ 51 1).toNatClampNeg (vp_nar .byte (((x1.toUInt32 >>> (x2.toUInt32 &&& Int32.toUInt32 31)).toInt32).toInt8.toInt32))) 51 1 → (∀ σ2, σ2 = sI (sI σ 52 (gI σ 51 1).toNatClampNeg (vp_nar .byte (((x1.toUInt32 >>> (x2.toUInt32 &&& Int32.toUInt32 31)).toInt32).toInt8.toInt32))) 51 1 (v1 + (1 : Int32)) → (JE E d m_Te_push 3 [(0, pv E 51), (1, .int x1), (2, .int (x2 + (-8 : Int32)))] [] σ2 Q)))))) :
    JE E d m_Te_push 3 [(0, pv E 51), (1, .int x1), (2, .int x2)] [] σ Q := by
  refine J_iload_n dc_Te_push_3 (Eq.refl 4) 2 rfl ?_
  refine J_if_lt dc_Te_push_4 (Eq.refl 7) rfl (fun hc => ?_) (fun hc => ?_)
  · have h := h.1 hc
    exact J_vret dc_Te_push_46 rfl h
  · have h := h.2 hc
    refine J_aload_n dc_Te_push_7 (Eq.refl 8) 0 rfl ?_
    refine J_getI dc_Te_push_8 (Eq.refl 11) fl_Te_15 (Nat.le_of_ble_eq_true rfl) rfl (Or.inl rfl) ?_
    refine J_sipush (v := (2000 : Int32)) dc_Te_push_11 (Eq.refl 14) rfl ?_
    refine J_icmp_ge dc_Te_push_14 (Eq.refl 17) rfl (fun hc => ?_) (fun hc => ?_)
    · have h := h.1 hc
      exact J_vret dc_Te_push_46 rfl h
    · have h := h.2 hc
      refine J_aload_n dc_Te_push_17 (Eq.refl 18) 0 rfl ?_
      refine J_getF (y := 52) dc_Te_push_18 (Eq.refl 21) fl_Te_9 (Nat.le_of_ble_eq_true rfl) rfl (Or.inl rfl) rfl ?_
      refine J_aload_n dc_Te_push_21 (Eq.refl 22) 0 rfl ?_
      refine J_getI dc_Te_push_22 (Eq.refl 25) fl_Te_15 (Nat.le_of_ble_eq_true rfl) rfl (Or.inl rfl) ?_
      refine J_iload_n dc_Te_push_25 (Eq.refl 26) 1 rfl ?_
      refine J_iload_n dc_Te_push_26 (Eq.refl 27) 2 rfl ?_
      refine J_iushr dc_Te_push_27 (Eq.refl 28) ?_
      refine J_i2b dc_Te_push_28 (Eq.refl 29) ?_
      obtain ⟨hg, h⟩ := h
      refine J_bast dc_Te_push_29 (Eq.refl 30) rfl rfl hg ?_
      refine J_aload_n dc_Te_push_30 (Eq.refl 31) 0 rfl ?_
      refine J_dup dc_Te_push_31 (Eq.refl 32) rfl ?_
      refine J_getI dc_Te_push_32 (Eq.refl 35) fl_Te_15 (Nat.le_of_ble_eq_true rfl) rfl (Or.inl rfl) ?_
      refine J_topi (fun v1 ev1 => ?_)
      have h := h v1 ev1
      refine J_iconst (v := (1 : Int32)) dc_Te_push_35 (Eq.refl 36) rfl ?_
      refine J_iadd dc_Te_push_36 (Eq.refl 37) ?_
      refine J_putI dc_Te_push_37 (Eq.refl 40) pl_Te_15 (Nat.le_of_ble_eq_true rfl) rfl rfl ?_
      refine J_st (fun σ2 eσ2 => ?_)
      have h := h σ2 eσ2
      refine J_iinc (v := x2 + (-8 : Int32)) (L' := [(2, .int (x2 + (-8 : Int32))), (0, pv E 51), (1, .int x1)]) dc_Te_push_40 (Eq.refl 43) 2 rfl rfl (Nat.le_of_ble_eq_true rfl) rfl ?_
      refine J_goto dc_Te_push_43 rfl ?_
      refine J_sub [1, 2, 0] rfl ?_
      exact h
theorem dc_Te_pass_0 : decode m_Te_pass.2.1 0 = .ok (.aload_n 0, 1) := by decide +kernel
theorem dc_Te_pass_1 : decode m_Te_pass.2.1 1 = .ok (.getfield 19, 3) := by decide +kernel
theorem dc_Te_pass_4 : decode m_Te_pass.2.1 4 = .ok (.ifCond .lt 35, 3) := by decide +kernel
theorem dc_Te_pass_7 : decode m_Te_pass.2.1 7 = .ok (.aload_n 0, 1) := by decide +kernel
theorem dc_Te_pass_8 : decode m_Te_pass.2.1 8 = .ok (.getfield 19, 3) := by decide +kernel
theorem dc_Te_pass_11 : decode m_Te_pass.2.1 11 = .ok (.aload_n 0, 1) := by decide +kernel
theorem dc_Te_pass_12 : decode m_Te_pass.2.1 12 = .ok (.getfield 15, 3) := by decide +kernel
theorem dc_Te_pass_15 : decode m_Te_pass.2.1 15 = .ok (.if_icmp .ge 24, 3) := by decide +kernel
theorem dc_Te_pass_18 : decode m_Te_pass.2.1 18 = .ok (.aload_n 0, 1) := by decide +kernel
theorem dc_Te_pass_19 : decode m_Te_pass.2.1 19 = .ok (.getfield 9, 3) := by decide +kernel
theorem dc_Te_pass_22 : decode m_Te_pass.2.1 22 = .ok (.aload_n 0, 1) := by decide +kernel
theorem dc_Te_pass_23 : decode m_Te_pass.2.1 23 = .ok (.getfield 19, 3) := by decide +kernel
theorem dc_Te_pass_26 : decode m_Te_pass.2.1 26 = .ok (.baload, 1) := by decide +kernel
theorem dc_Te_pass_27 : decode m_Te_pass.2.1 27 = .ok (.sipush 255, 3) := by decide +kernel
theorem dc_Te_pass_30 : decode m_Te_pass.2.1 30 = .ok (.iand, 1) := by decide +kernel
theorem dc_Te_pass_31 : decode m_Te_pass.2.1 31 = .ok (.iload_n 1, 1) := by decide +kernel
theorem dc_Te_pass_32 : decode m_Te_pass.2.1 32 = .ok (.if_icmp .ne 7, 3) := by decide +kernel
theorem dc_Te_pass_35 : decode m_Te_pass.2.1 35 = .ok (.iconst 1, 1) := by decide +kernel
theorem dc_Te_pass_36 : decode m_Te_pass.2.1 36 = .ok (.goto 4, 3) := by decide +kernel
theorem dc_Te_pass_39 : decode m_Te_pass.2.1 39 = .ok (.iconst 0, 1) := by decide +kernel
theorem dc_Te_pass_40 : decode m_Te_pass.2.1 40 = .ok (.istore_n 2, 1) := by decide +kernel
theorem dc_Te_pass_41 : decode m_Te_pass.2.1 41 = .ok (.iload_n 2, 1) := by decide +kernel
theorem dc_Te_pass_42 : decode m_Te_pass.2.1 42 = .ok (.ifCond .eq 13, 3) := by decide +kernel
theorem dc_Te_pass_45 : decode m_Te_pass.2.1 45 = .ok (.aload_n 0, 1) := by decide +kernel
theorem dc_Te_pass_46 : decode m_Te_pass.2.1 46 = .ok (.dup, 1) := by decide +kernel
theorem dc_Te_pass_47 : decode m_Te_pass.2.1 47 = .ok (.getfield 19, 3) := by decide +kernel
theorem dc_Te_pass_50 : decode m_Te_pass.2.1 50 = .ok (.iconst 1, 1) := by decide +kernel
theorem dc_Te_pass_51 : decode m_Te_pass.2.1 51 = .ok (.iadd, 1) := by decide +kernel
theorem dc_Te_pass_52 : decode m_Te_pass.2.1 52 = .ok (.putfield 19, 3) := by decide +kernel
theorem dc_Te_pass_55 : decode m_Te_pass.2.1 55 = .ok (.iload_n 2, 1) := by decide +kernel
theorem dc_Te_pass_56 : decode m_Te_pass.2.1 56 = .ok (.ireturn, 1) := by decide +kernel
theorem b_Te_pass_0 {E : En_t} {d : Nat} {σ : S_t} {Q : Option Value → S_t → Prop} {x1 : Int32}
    (h : ((gI σ 51 2) < 0 → JE E d m_Te_pass 39 [(0, pv E 51)] [] σ Q) ∧ (¬ (gI σ 51 2) < 0 → ((gI σ 51 1) ≤ (gI σ 51 2) → JE E d m_Te_pass 39 [(0, pv E 51)] [] σ Q) ∧ (¬ (gI σ 51 1) ≤ (gI σ 51 2) → vp_in (gI σ 51 2) 2000 ∧ ((¬ ((gI σ 52 (gI σ 51 2).toNatClampNeg) &&& (255 : Int32)) = x1 → JE E d m_Te_pass 39 [(0, pv E 51)] [] σ Q) ∧ (((gI σ 52 (gI σ 51 2).toNatClampNeg) &&& (255 : Int32)) = x1 → JE E d m_Te_pass 40 [(0, pv E 51)] [.int (1 : Int32)] σ Q))))) :
    JE E d m_Te_pass 0 [(0, pv E 51), (1, .int x1)] [] σ Q := by
  refine J_aload_n dc_Te_pass_0 (Eq.refl 1) 0 rfl ?_
  refine J_getI dc_Te_pass_1 (Eq.refl 4) fl_Te_19 (Nat.le_of_ble_eq_true rfl) rfl (Or.inl rfl) ?_
  refine J_if_lt dc_Te_pass_4 (Eq.refl 7) rfl (fun hc => ?_) (fun hc => ?_)
  · have h := h.1 hc
    refine J_sub [0] rfl ?_
    exact h
  · have h := h.2 hc
    refine J_aload_n dc_Te_pass_7 (Eq.refl 8) 0 rfl ?_
    refine J_getI dc_Te_pass_8 (Eq.refl 11) fl_Te_19 (Nat.le_of_ble_eq_true rfl) rfl (Or.inl rfl) ?_
    refine J_aload_n dc_Te_pass_11 (Eq.refl 12) 0 rfl ?_
    refine J_getI dc_Te_pass_12 (Eq.refl 15) fl_Te_15 (Nat.le_of_ble_eq_true rfl) rfl (Or.inl rfl) ?_
    refine J_icmp_ge dc_Te_pass_15 (Eq.refl 18) rfl (fun hc => ?_) (fun hc => ?_)
    · have h := h.1 hc
      refine J_sub [0] rfl ?_
      exact h
    · have h := h.2 hc
      refine J_aload_n dc_Te_pass_18 (Eq.refl 19) 0 rfl ?_
      refine J_getF (y := 52) dc_Te_pass_19 (Eq.refl 22) fl_Te_9 (Nat.le_of_ble_eq_true rfl) rfl (Or.inl rfl) rfl ?_
      refine J_aload_n dc_Te_pass_22 (Eq.refl 23) 0 rfl ?_
      refine J_getI dc_Te_pass_23 (Eq.refl 26) fl_Te_19 (Nat.le_of_ble_eq_true rfl) rfl (Or.inl rfl) ?_
      obtain ⟨hg, h⟩ := h
      refine J_bald dc_Te_pass_26 (Eq.refl 27) rfl rfl hg ?_
      refine J_sipush (v := (255 : Int32)) dc_Te_pass_27 (Eq.refl 30) rfl ?_
      refine J_iand dc_Te_pass_30 (Eq.refl 31) ?_
      refine J_iload_n dc_Te_pass_31 (Eq.refl 32) 1 rfl ?_
      refine J_icmp_ne dc_Te_pass_32 (Eq.refl 35) rfl (fun hc => ?_) (fun hc => ?_)
      · have h := h.1 hc
        refine J_sub [0] rfl ?_
        exact h
      · have h := h.2 hc
        refine J_iconst (v := (1 : Int32)) dc_Te_pass_35 (Eq.refl 36) rfl ?_
        refine J_goto dc_Te_pass_36 rfl ?_
        refine J_sub [0] rfl ?_
        exact h
theorem b_Te_pass_39 {E : En_t} {d : Nat} {σ : S_t} {Q : Option Value → S_t → Prop}
    (h : JE E d m_Te_pass 40 [(0, pv E 51)] [.int (0 : Int32)] σ Q) :
    JE E d m_Te_pass 39 [(0, pv E 51)] [] σ Q := by
  refine J_iconst (v := (0 : Int32)) dc_Te_pass_39 (Eq.refl 40) rfl ?_
  exact h
theorem b_Te_pass_40 {E : En_t} {d : Nat} {σ : S_t} {Q : Option Value → S_t → Prop} {s0 : Int32}
    (h : (s0 = 0 → narrow .boolean (.int s0) = .int s0 ∧ Q (some (.int s0)) σ) ∧ (¬ s0 = 0 → narrow .boolean (.int s0) = .int s0 ∧ Q (some (.int s0)) (sI σ 51 2 ((gI σ 51 2) + (1 : Int32))))) :
    JE E d m_Te_pass 40 [(0, pv E 51)] [.int s0] σ Q := by
  refine J_istore_n (L' := [(2, .int s0), (0, pv E 51)]) dc_Te_pass_40 (Eq.refl 41) (Nat.le_of_ble_eq_true rfl) rfl ?_
  refine J_iload_n dc_Te_pass_41 (Eq.refl 42) 0 rfl ?_
  refine J_if_eq dc_Te_pass_42 (Eq.refl 45) rfl (fun hc => ?_) (fun hc => ?_)
  · have h := h.1 hc
    refine J_iload_n dc_Te_pass_55 (Eq.refl 56) 0 rfl ?_
    exact J_zret dc_Te_pass_56 rfl h.1 h.2
  · have h := h.2 hc
    refine J_aload_n dc_Te_pass_45 (Eq.refl 46) 1 rfl ?_
    refine J_dup dc_Te_pass_46 (Eq.refl 47) rfl ?_
    refine J_getI dc_Te_pass_47 (Eq.refl 50) fl_Te_19 (Nat.le_of_ble_eq_true rfl) rfl (Or.inl rfl) ?_
    refine J_iconst (v := (1 : Int32)) dc_Te_pass_50 (Eq.refl 51) rfl ?_
    refine J_iadd dc_Te_pass_51 (Eq.refl 52) ?_
    refine J_putI dc_Te_pass_52 (Eq.refl 55) pl_Te_19 (Nat.le_of_ble_eq_true rfl) rfl rfl ?_
    refine J_iload_n dc_Te_pass_55 (Eq.refl 56) 0 rfl ?_
    exact J_zret dc_Te_pass_56 rfl h.1 h.2
theorem dc_Te_here_0 : decode m_Te_here.2.1 0 = .ok (.aload_n 0, 1) := by decide +kernel
theorem dc_Te_here_1 : decode m_Te_here.2.1 1 = .ok (.getfield 19, 3) := by decide +kernel
theorem dc_Te_here_4 : decode m_Te_here.2.1 4 = .ok (.ifCond .lt 30, 3) := by decide +kernel
theorem dc_Te_here_7 : decode m_Te_here.2.1 7 = .ok (.aload_n 0, 1) := by decide +kernel
theorem dc_Te_here_8 : decode m_Te_here.2.1 8 = .ok (.getfield 19, 3) := by decide +kernel
theorem dc_Te_here_11 : decode m_Te_here.2.1 11 = .ok (.aload_n 0, 1) := by decide +kernel
theorem dc_Te_here_12 : decode m_Te_here.2.1 12 = .ok (.getfield 15, 3) := by decide +kernel
theorem dc_Te_here_15 : decode m_Te_here.2.1 15 = .ok (.if_icmp .ge 19, 3) := by decide +kernel
theorem dc_Te_here_18 : decode m_Te_here.2.1 18 = .ok (.aload_n 0, 1) := by decide +kernel
theorem dc_Te_here_19 : decode m_Te_here.2.1 19 = .ok (.getfield 9, 3) := by decide +kernel
theorem dc_Te_here_22 : decode m_Te_here.2.1 22 = .ok (.aload_n 0, 1) := by decide +kernel
theorem dc_Te_here_23 : decode m_Te_here.2.1 23 = .ok (.getfield 19, 3) := by decide +kernel
theorem dc_Te_here_26 : decode m_Te_here.2.1 26 = .ok (.baload, 1) := by decide +kernel
theorem dc_Te_here_27 : decode m_Te_here.2.1 27 = .ok (.sipush 255, 3) := by decide +kernel
theorem dc_Te_here_30 : decode m_Te_here.2.1 30 = .ok (.iand, 1) := by decide +kernel
theorem dc_Te_here_31 : decode m_Te_here.2.1 31 = .ok (.goto 4, 3) := by decide +kernel
theorem dc_Te_here_34 : decode m_Te_here.2.1 34 = .ok (.iconst (-1), 1) := by decide +kernel
theorem dc_Te_here_35 : decode m_Te_here.2.1 35 = .ok (.ireturn, 1) := by decide +kernel
theorem b_Te_here_0 {E : En_t} {d : Nat} {σ : S_t} {Q : Option Value → S_t → Prop}
    (h : ((gI σ 51 2) < 0 → Q (some (.int (-1 : Int32))) σ) ∧ (¬ (gI σ 51 2) < 0 → ((gI σ 51 1) ≤ (gI σ 51 2) → Q (some (.int (-1 : Int32))) σ) ∧ (¬ (gI σ 51 1) ≤ (gI σ 51 2) → vp_in (gI σ 51 2) 2000 ∧ (Q (some (.int ((gI σ 52 (gI σ 51 2).toNatClampNeg) &&& (255 : Int32)))) σ)))) :
    JE E d m_Te_here 0 [(0, pv E 51)] [] σ Q := by
  refine J_aload_n dc_Te_here_0 (Eq.refl 1) 0 rfl ?_
  refine J_getI dc_Te_here_1 (Eq.refl 4) fl_Te_19 (Nat.le_of_ble_eq_true rfl) rfl (Or.inl rfl) ?_
  refine J_if_lt dc_Te_here_4 (Eq.refl 7) rfl (fun hc => ?_) (fun hc => ?_)
  · have h := h.1 hc
    refine J_iconst (v := (-1 : Int32)) dc_Te_here_34 (Eq.refl 35) rfl ?_
    exact J_iret dc_Te_here_35 rfl h
  · have h := h.2 hc
    refine J_aload_n dc_Te_here_7 (Eq.refl 8) 0 rfl ?_
    refine J_getI dc_Te_here_8 (Eq.refl 11) fl_Te_19 (Nat.le_of_ble_eq_true rfl) rfl (Or.inl rfl) ?_
    refine J_aload_n dc_Te_here_11 (Eq.refl 12) 0 rfl ?_
    refine J_getI dc_Te_here_12 (Eq.refl 15) fl_Te_15 (Nat.le_of_ble_eq_true rfl) rfl (Or.inl rfl) ?_
    refine J_icmp_ge dc_Te_here_15 (Eq.refl 18) rfl (fun hc => ?_) (fun hc => ?_)
    · have h := h.1 hc
      refine J_iconst (v := (-1 : Int32)) dc_Te_here_34 (Eq.refl 35) rfl ?_
      exact J_iret dc_Te_here_35 rfl h
    · have h := h.2 hc
      refine J_aload_n dc_Te_here_18 (Eq.refl 19) 0 rfl ?_
      refine J_getF (y := 52) dc_Te_here_19 (Eq.refl 22) fl_Te_9 (Nat.le_of_ble_eq_true rfl) rfl (Or.inl rfl) rfl ?_
      refine J_aload_n dc_Te_here_22 (Eq.refl 23) 0 rfl ?_
      refine J_getI dc_Te_here_23 (Eq.refl 26) fl_Te_19 (Nat.le_of_ble_eq_true rfl) rfl (Or.inl rfl) ?_
      obtain ⟨hg, h⟩ := h
      refine J_bald dc_Te_here_26 (Eq.refl 27) rfl rfl hg ?_
      refine J_sipush (v := (255 : Int32)) dc_Te_here_27 (Eq.refl 30) rfl ?_
      refine J_iand dc_Te_here_30 (Eq.refl 31) ?_
      refine J_goto dc_Te_here_31 rfl ?_
      exact J_iret dc_Te_here_35 rfl h
theorem dc_Te_clear_0 : decode m_Te_clear.2.1 0 = .ok (.aload_n 0, 1) := by decide +kernel
theorem dc_Te_clear_1 : decode m_Te_clear.2.1 1 = .ok (.iconst 0, 1) := by decide +kernel
theorem dc_Te_clear_2 : decode m_Te_clear.2.1 2 = .ok (.putfield 15, 3) := by decide +kernel
theorem dc_Te_clear_5 : decode m_Te_clear.2.1 5 = .ok (.aload_n 0, 1) := by decide +kernel
theorem dc_Te_clear_6 : decode m_Te_clear.2.1 6 = .ok (.iconst 0, 1) := by decide +kernel
theorem dc_Te_clear_7 : decode m_Te_clear.2.1 7 = .ok (.putfield 19, 3) := by decide +kernel
theorem dc_Te_clear_10 : decode m_Te_clear.2.1 10 = .ok (.return_, 1) := by decide +kernel
theorem b_Te_clear_0 {E : En_t} {d : Nat} {σ : S_t} {Q : Option Value → S_t → Prop}
    (h : Q none (sI (sI σ 51 1 (0 : Int32)) 51 2 (0 : Int32))) :
    JE E d m_Te_clear 0 [(0, pv E 51)] [] σ Q := by
  refine J_aload_n dc_Te_clear_0 (Eq.refl 1) 0 rfl ?_
  refine J_iconst (v := (0 : Int32)) dc_Te_clear_1 (Eq.refl 2) rfl ?_
  refine J_putI dc_Te_clear_2 (Eq.refl 5) pl_Te_15 (Nat.le_of_ble_eq_true rfl) rfl rfl ?_
  refine J_aload_n dc_Te_clear_5 (Eq.refl 6) 0 rfl ?_
  refine J_iconst (v := (0 : Int32)) dc_Te_clear_6 (Eq.refl 7) rfl ?_
  refine J_putI dc_Te_clear_7 (Eq.refl 10) pl_Te_19 (Nat.le_of_ble_eq_true rfl) rfl rfl ?_
  exact J_vret dc_Te_clear_10 rfl h
theorem dc_Te_nextCharacter_0 : decode m_Te_nextCharacter.2.1 0 = .ok (.aload_n 0, 1) := by decide +kernel
theorem dc_Te_nextCharacter_1 : decode m_Te_nextCharacter.2.1 1 = .ok (.invokevirtual 38, 3) := by decide +kernel
theorem dc_Te_nextCharacter_4 : decode m_Te_nextCharacter.2.1 4 = .ok (.istore_n 1, 1) := by decide +kernel
theorem dc_Te_nextCharacter_5 : decode m_Te_nextCharacter.2.1 5 = .ok (.iload_n 1, 1) := by decide +kernel
theorem dc_Te_nextCharacter_6 : decode m_Te_nextCharacter.2.1 6 = .ok (.invokestatic 41, 3) := by decide +kernel
theorem dc_Te_nextCharacter_9 : decode m_Te_nextCharacter.2.1 9 = .ok (.istore_n 2, 1) := by decide +kernel
theorem dc_Te_nextCharacter_10 : decode m_Te_nextCharacter.2.1 10 = .ok (.iload_n 2, 1) := by decide +kernel
theorem dc_Te_nextCharacter_11 : decode m_Te_nextCharacter.2.1 11 = .ok (.iconst (-1), 1) := by decide +kernel
theorem dc_Te_nextCharacter_12 : decode m_Te_nextCharacter.2.1 12 = .ok (.if_icmp .ne 5, 3) := by decide +kernel
theorem dc_Te_nextCharacter_15 : decode m_Te_nextCharacter.2.1 15 = .ok (.iconst (-1), 1) := by decide +kernel
theorem dc_Te_nextCharacter_16 : decode m_Te_nextCharacter.2.1 16 = .ok (.ireturn, 1) := by decide +kernel
theorem dc_Te_nextCharacter_17 : decode m_Te_nextCharacter.2.1 17 = .ok (.aload_n 0, 1) := by decide +kernel
theorem dc_Te_nextCharacter_18 : decode m_Te_nextCharacter.2.1 18 = .ok (.dup, 1) := by decide +kernel
theorem dc_Te_nextCharacter_19 : decode m_Te_nextCharacter.2.1 19 = .ok (.getfield 19, 3) := by decide +kernel
theorem dc_Te_nextCharacter_22 : decode m_Te_nextCharacter.2.1 22 = .ok (.iconst 1, 1) := by decide +kernel
theorem dc_Te_nextCharacter_23 : decode m_Te_nextCharacter.2.1 23 = .ok (.iadd, 1) := by decide +kernel
theorem dc_Te_nextCharacter_24 : decode m_Te_nextCharacter.2.1 24 = .ok (.putfield 19, 3) := by decide +kernel
theorem dc_Te_nextCharacter_27 : decode m_Te_nextCharacter.2.1 27 = .ok (.iload_n 2, 1) := by decide +kernel
theorem dc_Te_nextCharacter_28 : decode m_Te_nextCharacter.2.1 28 = .ok (.ifCond .ne 7, 3) := by decide +kernel
theorem dc_Te_nextCharacter_31 : decode m_Te_nextCharacter.2.1 31 = .ok (.iload_n 1, 1) := by decide +kernel
theorem dc_Te_nextCharacter_32 : decode m_Te_nextCharacter.2.1 32 = .ok (.goto 9, 3) := by decide +kernel
theorem dc_Te_nextCharacter_35 : decode m_Te_nextCharacter.2.1 35 = .ok (.iload_n 1, 1) := by decide +kernel
theorem dc_Te_nextCharacter_36 : decode m_Te_nextCharacter.2.1 36 = .ok (.bipush 63, 2) := by decide +kernel
theorem dc_Te_nextCharacter_38 : decode m_Te_nextCharacter.2.1 38 = .ok (.iload_n 2, 1) := by decide +kernel
theorem dc_Te_nextCharacter_39 : decode m_Te_nextCharacter.2.1 39 = .ok (.ishr, 1) := by decide +kernel
theorem dc_Te_nextCharacter_40 : decode m_Te_nextCharacter.2.1 40 = .ok (.iand, 1) := by decide +kernel
theorem dc_Te_nextCharacter_41 : decode m_Te_nextCharacter.2.1 41 = .ok (.istore_n 3, 1) := by decide +kernel
theorem dc_Te_nextCharacter_42 : decode m_Te_nextCharacter.2.1 42 = .ok (.iload_n 1, 1) := by decide +kernel
theorem dc_Te_nextCharacter_43 : decode m_Te_nextCharacter.2.1 43 = .ok (.sipush 224, 3) := by decide +kernel
theorem dc_Te_nextCharacter_46 : decode m_Te_nextCharacter.2.1 46 = .ok (.if_icmp .ne 9, 3) := by decide +kernel
theorem dc_Te_nextCharacter_49 : decode m_Te_nextCharacter.2.1 49 = .ok (.sipush 160, 3) := by decide +kernel
theorem dc_Te_nextCharacter_52 : decode m_Te_nextCharacter.2.1 52 = .ok (.goto 19, 3) := by decide +kernel
theorem dc_Te_nextCharacter_55 : decode m_Te_nextCharacter.2.1 55 = .ok (.iload_n 1, 1) := by decide +kernel
theorem dc_Te_nextCharacter_56 : decode m_Te_nextCharacter.2.1 56 = .ok (.sipush 240, 3) := by decide +kernel
theorem dc_Te_nextCharacter_59 : decode m_Te_nextCharacter.2.1 59 = .ok (.if_icmp .ne 9, 3) := by decide +kernel
theorem dc_Te_nextCharacter_62 : decode m_Te_nextCharacter.2.1 62 = .ok (.sipush 144, 3) := by decide +kernel
theorem dc_Te_nextCharacter_65 : decode m_Te_nextCharacter.2.1 65 = .ok (.goto 6, 3) := by decide +kernel
theorem dc_Te_nextCharacter_68 : decode m_Te_nextCharacter.2.1 68 = .ok (.sipush 128, 3) := by decide +kernel
theorem dc_Te_nextCharacter_71 : decode m_Te_nextCharacter.2.1 71 = .ok (.istore 4, 2) := by decide +kernel
theorem dc_Te_nextCharacter_73 : decode m_Te_nextCharacter.2.1 73 = .ok (.iload_n 1, 1) := by decide +kernel
theorem dc_Te_nextCharacter_74 : decode m_Te_nextCharacter.2.1 74 = .ok (.sipush 237, 3) := by decide +kernel
theorem dc_Te_nextCharacter_77 : decode m_Te_nextCharacter.2.1 77 = .ok (.if_icmp .ne 9, 3) := by decide +kernel
theorem dc_Te_nextCharacter_80 : decode m_Te_nextCharacter.2.1 80 = .ok (.sipush 159, 3) := by decide +kernel
theorem dc_Te_nextCharacter_83 : decode m_Te_nextCharacter.2.1 83 = .ok (.goto 19, 3) := by decide +kernel
theorem dc_Te_nextCharacter_86 : decode m_Te_nextCharacter.2.1 86 = .ok (.iload_n 1, 1) := by decide +kernel
theorem dc_Te_nextCharacter_87 : decode m_Te_nextCharacter.2.1 87 = .ok (.sipush 244, 3) := by decide +kernel
theorem dc_Te_nextCharacter_90 : decode m_Te_nextCharacter.2.1 90 = .ok (.if_icmp .ne 9, 3) := by decide +kernel
theorem dc_Te_nextCharacter_93 : decode m_Te_nextCharacter.2.1 93 = .ok (.sipush 143, 3) := by decide +kernel
theorem dc_Te_nextCharacter_96 : decode m_Te_nextCharacter.2.1 96 = .ok (.goto 6, 3) := by decide +kernel
theorem dc_Te_nextCharacter_99 : decode m_Te_nextCharacter.2.1 99 = .ok (.sipush 191, 3) := by decide +kernel
theorem dc_Te_nextCharacter_102 : decode m_Te_nextCharacter.2.1 102 = .ok (.istore 5, 2) := by decide +kernel
theorem dc_Te_nextCharacter_104 : decode m_Te_nextCharacter.2.1 104 = .ok (.iconst 0, 1) := by decide +kernel
theorem dc_Te_nextCharacter_105 : decode m_Te_nextCharacter.2.1 105 = .ok (.istore 6, 2) := by decide +kernel
theorem dc_Te_nextCharacter_107 : decode m_Te_nextCharacter.2.1 107 = .ok (.iload 6, 2) := by decide +kernel
theorem dc_Te_nextCharacter_109 : decode m_Te_nextCharacter.2.1 109 = .ok (.iload_n 2, 1) := by decide +kernel
theorem dc_Te_nextCharacter_110 : decode m_Te_nextCharacter.2.1 110 = .ok (.if_icmp .ge 62, 3) := by decide +kernel
theorem dc_Te_nextCharacter_113 : decode m_Te_nextCharacter.2.1 113 = .ok (.aload_n 0, 1) := by decide +kernel
theorem dc_Te_nextCharacter_114 : decode m_Te_nextCharacter.2.1 114 = .ok (.invokevirtual 38, 3) := by decide +kernel
theorem dc_Te_nextCharacter_117 : decode m_Te_nextCharacter.2.1 117 = .ok (.istore 7, 2) := by decide +kernel
theorem dc_Te_nextCharacter_119 : decode m_Te_nextCharacter.2.1 119 = .ok (.iload 7, 2) := by decide +kernel
theorem dc_Te_nextCharacter_121 : decode m_Te_nextCharacter.2.1 121 = .ok (.iload 4, 2) := by decide +kernel
theorem dc_Te_nextCharacter_123 : decode m_Te_nextCharacter.2.1 123 = .ok (.if_icmp .lt 10, 3) := by decide +kernel
theorem dc_Te_nextCharacter_126 : decode m_Te_nextCharacter.2.1 126 = .ok (.iload 7, 2) := by decide +kernel
theorem dc_Te_nextCharacter_128 : decode m_Te_nextCharacter.2.1 128 = .ok (.iload 5, 2) := by decide +kernel
theorem dc_Te_nextCharacter_130 : decode m_Te_nextCharacter.2.1 130 = .ok (.if_icmp .le 5, 3) := by decide +kernel
theorem dc_Te_nextCharacter_133 : decode m_Te_nextCharacter.2.1 133 = .ok (.iconst (-1), 1) := by decide +kernel
theorem dc_Te_nextCharacter_134 : decode m_Te_nextCharacter.2.1 134 = .ok (.ireturn, 1) := by decide +kernel
theorem dc_Te_nextCharacter_135 : decode m_Te_nextCharacter.2.1 135 = .ok (.iload_n 3, 1) := by decide +kernel
theorem dc_Te_nextCharacter_136 : decode m_Te_nextCharacter.2.1 136 = .ok (.bipush 6, 2) := by decide +kernel
theorem dc_Te_nextCharacter_138 : decode m_Te_nextCharacter.2.1 138 = .ok (.ishl, 1) := by decide +kernel
theorem dc_Te_nextCharacter_139 : decode m_Te_nextCharacter.2.1 139 = .ok (.iload 7, 2) := by decide +kernel
theorem dc_Te_nextCharacter_141 : decode m_Te_nextCharacter.2.1 141 = .ok (.bipush 63, 2) := by decide +kernel
theorem dc_Te_nextCharacter_143 : decode m_Te_nextCharacter.2.1 143 = .ok (.iand, 1) := by decide +kernel
theorem dc_Te_nextCharacter_144 : decode m_Te_nextCharacter.2.1 144 = .ok (.ior, 1) := by decide +kernel
theorem dc_Te_nextCharacter_145 : decode m_Te_nextCharacter.2.1 145 = .ok (.istore_n 3, 1) := by decide +kernel
theorem dc_Te_nextCharacter_146 : decode m_Te_nextCharacter.2.1 146 = .ok (.sipush 128, 3) := by decide +kernel
theorem dc_Te_nextCharacter_149 : decode m_Te_nextCharacter.2.1 149 = .ok (.istore 4, 2) := by decide +kernel
theorem dc_Te_nextCharacter_151 : decode m_Te_nextCharacter.2.1 151 = .ok (.sipush 191, 3) := by decide +kernel
theorem dc_Te_nextCharacter_154 : decode m_Te_nextCharacter.2.1 154 = .ok (.istore 5, 2) := by decide +kernel
theorem dc_Te_nextCharacter_156 : decode m_Te_nextCharacter.2.1 156 = .ok (.aload_n 0, 1) := by decide +kernel
theorem dc_Te_nextCharacter_157 : decode m_Te_nextCharacter.2.1 157 = .ok (.dup, 1) := by decide +kernel
theorem dc_Te_nextCharacter_158 : decode m_Te_nextCharacter.2.1 158 = .ok (.getfield 19, 3) := by decide +kernel
theorem dc_Te_nextCharacter_161 : decode m_Te_nextCharacter.2.1 161 = .ok (.iconst 1, 1) := by decide +kernel
theorem dc_Te_nextCharacter_162 : decode m_Te_nextCharacter.2.1 162 = .ok (.iadd, 1) := by decide +kernel
theorem dc_Te_nextCharacter_163 : decode m_Te_nextCharacter.2.1 163 = .ok (.putfield 19, 3) := by decide +kernel
theorem dc_Te_nextCharacter_166 : decode m_Te_nextCharacter.2.1 166 = .ok (.iinc 6 1, 3) := by decide +kernel
theorem dc_Te_nextCharacter_169 : decode m_Te_nextCharacter.2.1 169 = .ok (.goto (-62), 3) := by decide +kernel
theorem dc_Te_nextCharacter_172 : decode m_Te_nextCharacter.2.1 172 = .ok (.iload_n 3, 1) := by decide +kernel
theorem dc_Te_nextCharacter_173 : decode m_Te_nextCharacter.2.1 173 = .ok (.ireturn, 1) := by decide +kernel
theorem b_Te_nextCharacter_0 {E : En_t} {d : Nat} {σ : S_t} {Q : Option Value → S_t → Prop}
    (h : CI E d m_Te_here [pv E 51] σ (fun r2 σ1 => CI E d m_Te_bytesBehind [.int r2] σ1 (fun r4 σ3 => (¬ r4 = (-1 : Int32) → (¬ r4 = 0 → JE E (d + 1) m_Te_nextCharacter 41 [(0, pv E 51), (1, .int r2), (2, .int r4)] [.int (r2 &&& ((63 : Int32) >>> (r4 &&& 31)))] (sI σ3 51 2 ((gI σ3 51 2) + (1 : Int32))) Q) ∧ (r4 = 0 → JE E (d + 1) m_Te_nextCharacter 41 [(0, pv E 51), (1, .int r2), (2, .int r4)] [.int r2] (sI σ3 51 2 ((gI σ3 51 2) + (1 : Int32))) Q)) ∧ (r4 = (-1 : Int32) → Q (some (.int (-1 : Int32))) σ3)))) :
    JE E (d + 1) m_Te_nextCharacter 0 [(0, pv E 51)] [] σ Q := by
  refine J_aload_n dc_Te_nextCharacter_0 (Eq.refl 1) 0 rfl ?_
  refine J_callVI (As := []) (st := []) dc_Te_nextCharacter_1 (Eq.refl 4) lk_Te_38 mi_Te_here rfl (Nat.le_of_ble_eq_true rfl) rfl rfl (Nat.le_of_ble_eq_true rfl) rfl (Nat.le_of_ble_eq_true rfl) (CI.mono h (fun r2 σ1 h => ?_))
  refine J_istore_n (L' := [(1, .int r2), (0, pv E 51)]) dc_Te_nextCharacter_4 (Eq.refl 5) (Nat.le_of_ble_eq_true rfl) rfl ?_
  refine J_iload_n dc_Te_nextCharacter_5 (Eq.refl 6) 0 rfl ?_
  refine J_callSI (As := [.int r2]) (st := []) dc_Te_nextCharacter_6 (Eq.refl 9) lk_Te_41 mi_Te_bytesBehind (Nat.le_of_ble_eq_true rfl) rfl (Nat.le_of_ble_eq_true rfl) (CI.mono h (fun r4 σ3 h => ?_))
  refine J_istore_n (L' := [(2, .int r4), (1, .int r2), (0, pv E 51)]) dc_Te_nextCharacter_9 (Eq.refl 10) (Nat.le_of_ble_eq_true rfl) rfl ?_
  refine J_iload_n dc_Te_nextCharacter_10 (Eq.refl 11) 0 rfl ?_
  refine J_iconst (v := (-1 : Int32)) dc_Te_nextCharacter_11 (Eq.refl 12) rfl ?_
  refine J_icmp_ne dc_Te_nextCharacter_12 (Eq.refl 15) rfl (fun hc => ?_) (fun hc => ?_)
  · have h := h.1 hc
    refine J_aload_n dc_Te_nextCharacter_17 (Eq.refl 18) 2 rfl ?_
    refine J_dup dc_Te_nextCharacter_18 (Eq.refl 19) rfl ?_
    refine J_getI dc_Te_nextCharacter_19 (Eq.refl 22) fl_Te_19 (Nat.le_of_ble_eq_true rfl) rfl (Or.inl rfl) ?_
    refine J_iconst (v := (1 : Int32)) dc_Te_nextCharacter_22 (Eq.refl 23) rfl ?_
    refine J_iadd dc_Te_nextCharacter_23 (Eq.refl 24) ?_
    refine J_putI dc_Te_nextCharacter_24 (Eq.refl 27) pl_Te_19 (Nat.le_of_ble_eq_true rfl) rfl rfl ?_
    refine J_iload_n dc_Te_nextCharacter_27 (Eq.refl 28) 0 rfl ?_
    refine J_if_ne dc_Te_nextCharacter_28 (Eq.refl 31) rfl (fun hc => ?_) (fun hc => ?_)
    · have h := h.1 hc
      refine J_iload_n dc_Te_nextCharacter_35 (Eq.refl 36) 1 rfl ?_
      refine J_bipush (v := (63 : Int32)) dc_Te_nextCharacter_36 (Eq.refl 38) rfl ?_
      refine J_iload_n dc_Te_nextCharacter_38 (Eq.refl 39) 0 rfl ?_
      refine J_ishr dc_Te_nextCharacter_39 (Eq.refl 40) ?_
      refine J_iand dc_Te_nextCharacter_40 (Eq.refl 41) ?_
      refine J_sub [2, 1, 0] rfl ?_
      exact h
    · have h := h.2 hc
      refine J_iload_n dc_Te_nextCharacter_31 (Eq.refl 32) 1 rfl ?_
      refine J_goto dc_Te_nextCharacter_32 rfl ?_
      refine J_sub [2, 1, 0] rfl ?_
      exact h
  · have h := h.2 hc
    refine J_iconst (v := (-1 : Int32)) dc_Te_nextCharacter_15 (Eq.refl 16) rfl ?_
    exact J_iret dc_Te_nextCharacter_16 rfl h
theorem b_Te_nextCharacter_41 {E : En_t} {d : Nat} {σ : S_t} {Q : Option Value → S_t → Prop} {x1 : Int32} {x2 : Int32} {s0 : Int32}
    (h : (¬ x1 = (224 : Int32) → (¬ x1 = (240 : Int32) → JE E (d + 1) m_Te_nextCharacter 71 [(0, pv E 51), (1, .int x1), (2, .int x2), (3, .int s0)] [.int (128 : Int32)] σ Q) ∧ (x1 = (240 : Int32) → JE E (d + 1) m_Te_nextCharacter 71 [(0, pv E 51), (1, .int x1), (2, .int x2), (3, .int s0)] [.int (144 : Int32)] σ Q)) ∧ (x1 = (224 : Int32) → JE E (d + 1) m_Te_nextCharacter 71 [(0, pv E 51), (1, .int x1), (2, .int x2), (3, .int s0)] [.int (160 : Int32)] σ Q)) :
    JE E (d + 1) m_Te_nextCharacter 41 [(0, pv E 51), (1, .int x1), (2, .int x2)] [.int s0] σ Q := by
  refine J_istore_n (L' := [(3, .int s0), (0, pv E 51), (1, .int x1), (2, .int x2)]) dc_Te_nextCharacter_41 (Eq.refl 42) (Nat.le_of_ble_eq_true rfl) rfl ?_
  refine J_iload_n dc_Te_nextCharacter_42 (Eq.refl 43) 2 rfl ?_
  refine J_sipush (v := (224 : Int32)) dc_Te_nextCharacter_43 (Eq.refl 46) rfl ?_
  refine J_icmp_ne dc_Te_nextCharacter_46 (Eq.refl 49) rfl (fun hc => ?_) (fun hc => ?_)
  · have h := h.1 hc
    refine J_iload_n dc_Te_nextCharacter_55 (Eq.refl 56) 2 rfl ?_
    refine J_sipush (v := (240 : Int32)) dc_Te_nextCharacter_56 (Eq.refl 59) rfl ?_
    refine J_icmp_ne dc_Te_nextCharacter_59 (Eq.refl 62) rfl (fun hc => ?_) (fun hc => ?_)
    · have h := h.1 hc
      refine J_sipush (v := (128 : Int32)) dc_Te_nextCharacter_68 (Eq.refl 71) rfl ?_
      refine J_sub [1, 2, 3, 0] rfl ?_
      exact h
    · have h := h.2 hc
      refine J_sipush (v := (144 : Int32)) dc_Te_nextCharacter_62 (Eq.refl 65) rfl ?_
      refine J_goto dc_Te_nextCharacter_65 rfl ?_
      refine J_sub [1, 2, 3, 0] rfl ?_
      exact h
  · have h := h.2 hc
    refine J_sipush (v := (160 : Int32)) dc_Te_nextCharacter_49 (Eq.refl 52) rfl ?_
    refine J_goto dc_Te_nextCharacter_52 rfl ?_
    refine J_sub [1, 2, 3, 0] rfl ?_
    exact h
theorem b_Te_nextCharacter_71 {E : En_t} {d : Nat} {σ : S_t} {Q : Option Value → S_t → Prop} {x1 : Int32} {x2 : Int32} {x3 : Int32} {s0 : Int32}
    (h : (¬ x1 = (237 : Int32) → (¬ x1 = (244 : Int32) → JE E (d + 1) m_Te_nextCharacter 102 [(0, pv E 51), (2, .int x2), (3, .int x3), (4, .int s0)] [.int (191 : Int32)] σ Q) ∧ (x1 = (244 : Int32) → JE E (d + 1) m_Te_nextCharacter 102 [(0, pv E 51), (2, .int x2), (3, .int x3), (4, .int s0)] [.int (143 : Int32)] σ Q)) ∧ (x1 = (237 : Int32) → JE E (d + 1) m_Te_nextCharacter 102 [(0, pv E 51), (2, .int x2), (3, .int x3), (4, .int s0)] [.int (159 : Int32)] σ Q)) :
    JE E (d + 1) m_Te_nextCharacter 71 [(0, pv E 51), (1, .int x1), (2, .int x2), (3, .int x3)] [.int s0] σ Q := by
  refine J_istore (L' := [(4, .int s0), (0, pv E 51), (1, .int x1), (2, .int x2), (3, .int x3)]) dc_Te_nextCharacter_71 (Eq.refl 73) (Nat.le_of_ble_eq_true rfl) rfl ?_
  refine J_iload_n dc_Te_nextCharacter_73 (Eq.refl 74) 2 rfl ?_
  refine J_sipush (v := (237 : Int32)) dc_Te_nextCharacter_74 (Eq.refl 77) rfl ?_
  refine J_icmp_ne dc_Te_nextCharacter_77 (Eq.refl 80) rfl (fun hc => ?_) (fun hc => ?_)
  · have h := h.1 hc
    refine J_iload_n dc_Te_nextCharacter_86 (Eq.refl 87) 2 rfl ?_
    refine J_sipush (v := (244 : Int32)) dc_Te_nextCharacter_87 (Eq.refl 90) rfl ?_
    refine J_icmp_ne dc_Te_nextCharacter_90 (Eq.refl 93) rfl (fun hc => ?_) (fun hc => ?_)
    · have h := h.1 hc
      refine J_sipush (v := (191 : Int32)) dc_Te_nextCharacter_99 (Eq.refl 102) rfl ?_
      refine J_sub [1, 3, 4, 0] rfl ?_
      exact h
    · have h := h.2 hc
      refine J_sipush (v := (143 : Int32)) dc_Te_nextCharacter_93 (Eq.refl 96) rfl ?_
      refine J_goto dc_Te_nextCharacter_96 rfl ?_
      refine J_sub [1, 3, 4, 0] rfl ?_
      exact h
  · have h := h.2 hc
    refine J_sipush (v := (159 : Int32)) dc_Te_nextCharacter_80 (Eq.refl 83) rfl ?_
    refine J_goto dc_Te_nextCharacter_83 rfl ?_
    refine J_sub [1, 3, 4, 0] rfl ?_
    exact h
theorem b_Te_nextCharacter_102 {E : En_t} {d : Nat} {σ : S_t} {Q : Option Value → S_t → Prop} {x2 : Int32} {x3 : Int32} {x4 : Int32} {s0 : Int32}
    (h : JE E (d + 1) m_Te_nextCharacter 107 [(0, pv E 51), (2, .int x2), (3, .int x3), (4, .int x4), (5, .int s0), (6, .int (0 : Int32))] [] σ Q) :
    JE E (d + 1) m_Te_nextCharacter 102 [(0, pv E 51), (2, .int x2), (3, .int x3), (4, .int x4)] [.int s0] σ Q := by
  refine J_istore (L' := [(5, .int s0), (0, pv E 51), (2, .int x2), (3, .int x3), (4, .int x4)]) dc_Te_nextCharacter_102 (Eq.refl 104) (Nat.le_of_ble_eq_true rfl) rfl ?_
  refine J_iconst (v := (0 : Int32)) dc_Te_nextCharacter_104 (Eq.refl 105) rfl ?_
  refine J_istore (L' := [(6, .int (0 : Int32)), (5, .int s0), (0, pv E 51), (2, .int x2), (3, .int x3), (4, .int x4)]) dc_Te_nextCharacter_105 (Eq.refl 107) (Nat.le_of_ble_eq_true rfl) rfl ?_
  refine J_sub [2, 3, 4, 5, 1, 0] rfl ?_
  exact h
theorem b_Te_nextCharacter_107 {E : En_t} {d : Nat} {σ : S_t} {Q : Option Value → S_t → Prop} {x2 : Int32} {x3 : Int32} {x4 : Int32} {x5 : Int32} {x6 : Int32}
    (h : (x2 ≤ x6 → Q (some (.int x3)) σ) ∧ (¬ x2 ≤ x6 → CI E d m_Te_here [pv E 51] σ (fun r2 σ1 => (r2 < x4 → Q (some (.int (-1 : Int32))) σ1) ∧ (¬ r2 < x4 → (r2 ≤ x5 → JE E (d + 1) m_Te_nextCharacter 107 [(0, pv E 51), (2, .int x2), (3, .int ((x3 <<< ((6 : Int32) &&& 31)) ||| (r2 &&& (63 : Int32)))), (4, .int (128 : Int32)), (5, .int (191 : Int32)), (6, .int (x6 + (1 : Int32)))] [] (sI σ1 51 2 ((gI σ1 51 2) + (1 : Int32))) Q) ∧ (¬ r2 ≤ x5 → Q (some (.int (-1 : Int32))) σ1))))) :
    JE E (d + 1) m_Te_nextCharacter 107 [(0, pv E 51), (2, .int x2), (3, .int x3), (4, .int x4), (5, .int x5), (6, .int x6)] [] σ Q := by
  refine J_iload dc_Te_nextCharacter_107 (Eq.refl 109) 5 rfl ?_
  refine J_iload_n dc_Te_nextCharacter_109 (Eq.refl 110) 1 rfl ?_
  refine J_icmp_ge dc_Te_nextCharacter_110 (Eq.refl 113) rfl (fun hc => ?_) (fun hc => ?_)
  · have h := h.1 hc
    refine J_iload_n dc_Te_nextCharacter_172 (Eq.refl 173) 2 rfl ?_
    exact J_iret dc_Te_nextCharacter_173 rfl h
  · have h := h.2 hc
    refine J_aload_n dc_Te_nextCharacter_113 (Eq.refl 114) 0 rfl ?_
    refine J_callVI (As := []) (st := []) dc_Te_nextCharacter_114 (Eq.refl 117) lk_Te_38 mi_Te_here rfl (Nat.le_of_ble_eq_true rfl) rfl rfl (Nat.le_of_ble_eq_true rfl) rfl (Nat.le_of_ble_eq_true rfl) (CI.mono h (fun r2 σ1 h => ?_))
    refine J_istore (L' := [(7, .int r2), (0, pv E 51), (2, .int x2), (3, .int x3), (4, .int x4), (5, .int x5), (6, .int x6)]) dc_Te_nextCharacter_117 (Eq.refl 119) (Nat.le_of_ble_eq_true rfl) rfl ?_
    refine J_iload dc_Te_nextCharacter_119 (Eq.refl 121) 0 rfl ?_
    refine J_iload dc_Te_nextCharacter_121 (Eq.refl 123) 4 rfl ?_
    refine J_icmp_lt dc_Te_nextCharacter_123 (Eq.refl 126) rfl (fun hc => ?_) (fun hc => ?_)
    · have h := h.1 hc
      refine J_iconst (v := (-1 : Int32)) dc_Te_nextCharacter_133 (Eq.refl 134) rfl ?_
      exact J_iret dc_Te_nextCharacter_134 rfl h
    · have h := h.2 hc
      refine J_iload dc_Te_nextCharacter_126 (Eq.refl 128) 0 rfl ?_
      refine J_iload dc_Te_nextCharacter_128 (Eq.refl 130) 5 rfl ?_
      refine J_icmp_le dc_Te_nextCharacter_130 (Eq.refl 133) rfl (fun hc => ?_) (fun hc => ?_)
      · have h := h.1 hc
        refine J_iload_n dc_Te_nextCharacter_135 (Eq.refl 136) 3 rfl ?_
        refine J_bipush (v := (6 : Int32)) dc_Te_nextCharacter_136 (Eq.refl 138) rfl ?_
        refine J_ishl dc_Te_nextCharacter_138 (Eq.refl 139) ?_
        refine J_iload dc_Te_nextCharacter_139 (Eq.refl 141) 0 rfl ?_
        refine J_bipush (v := (63 : Int32)) dc_Te_nextCharacter_141 (Eq.refl 143) rfl ?_
        refine J_iand dc_Te_nextCharacter_143 (Eq.refl 144) ?_
        refine J_ior dc_Te_nextCharacter_144 (Eq.refl 145) ?_
        refine J_istore_n (L' := [(3, .int ((x3 <<< ((6 : Int32) &&& 31)) ||| (r2 &&& (63 : Int32)))), (7, .int r2), (0, pv E 51), (2, .int x2), (4, .int x4), (5, .int x5), (6, .int x6)]) dc_Te_nextCharacter_145 (Eq.refl 146) (Nat.le_of_ble_eq_true rfl) rfl ?_
        refine J_sipush (v := (128 : Int32)) dc_Te_nextCharacter_146 (Eq.refl 149) rfl ?_
        refine J_istore (L' := [(4, .int (128 : Int32)), (3, .int ((x3 <<< ((6 : Int32) &&& 31)) ||| (r2 &&& (63 : Int32)))), (7, .int r2), (0, pv E 51), (2, .int x2), (5, .int x5), (6, .int x6)]) dc_Te_nextCharacter_149 (Eq.refl 151) (Nat.le_of_ble_eq_true rfl) rfl ?_
        refine J_sipush (v := (191 : Int32)) dc_Te_nextCharacter_151 (Eq.refl 154) rfl ?_
        refine J_istore (L' := [(5, .int (191 : Int32)), (4, .int (128 : Int32)), (3, .int ((x3 <<< ((6 : Int32) &&& 31)) ||| (r2 &&& (63 : Int32)))), (7, .int r2), (0, pv E 51), (2, .int x2), (6, .int x6)]) dc_Te_nextCharacter_154 (Eq.refl 156) (Nat.le_of_ble_eq_true rfl) rfl ?_
        refine J_aload_n dc_Te_nextCharacter_156 (Eq.refl 157) 4 rfl ?_
        refine J_dup dc_Te_nextCharacter_157 (Eq.refl 158) rfl ?_
        refine J_getI dc_Te_nextCharacter_158 (Eq.refl 161) fl_Te_19 (Nat.le_of_ble_eq_true rfl) rfl (Or.inl rfl) ?_
        refine J_iconst (v := (1 : Int32)) dc_Te_nextCharacter_161 (Eq.refl 162) rfl ?_
        refine J_iadd dc_Te_nextCharacter_162 (Eq.refl 163) ?_
        refine J_putI dc_Te_nextCharacter_163 (Eq.refl 166) pl_Te_19 (Nat.le_of_ble_eq_true rfl) rfl rfl ?_
        refine J_iinc (v := x6 + (1 : Int32)) (L' := [(6, .int (x6 + (1 : Int32))), (5, .int (191 : Int32)), (4, .int (128 : Int32)), (3, .int ((x3 <<< ((6 : Int32) &&& 31)) ||| (r2 &&& (63 : Int32)))), (7, .int r2), (0, pv E 51), (2, .int x2)]) dc_Te_nextCharacter_166 (Eq.refl 169) 6 rfl rfl (Nat.le_of_ble_eq_true rfl) rfl ?_
        refine J_goto dc_Te_nextCharacter_169 rfl ?_
        refine J_sub [5, 6, 3, 2, 1, 0] rfl ?_
        exact h
      · have h := h.2 hc
        refine J_iconst (v := (-1 : Int32)) dc_Te_nextCharacter_133 (Eq.refl 134) rfl ?_
        exact J_iret dc_Te_nextCharacter_134 rfl h
theorem dc_Te_bytesBehind_0 : decode m_Te_bytesBehind.2.1 0 = .ok (.iload_n 0, 1) := by decide +kernel
theorem dc_Te_bytesBehind_1 : decode m_Te_bytesBehind.2.1 1 = .ok (.sipush 128, 3) := by decide +kernel
theorem dc_Te_bytesBehind_4 : decode m_Te_bytesBehind.2.1 4 = .ok (.if_icmp .ge 13, 3) := by decide +kernel
theorem dc_Te_bytesBehind_7 : decode m_Te_bytesBehind.2.1 7 = .ok (.iload_n 0, 1) := by decide +kernel
theorem dc_Te_bytesBehind_8 : decode m_Te_bytesBehind.2.1 8 = .ok (.ifCond .ge 7, 3) := by decide +kernel
theorem dc_Te_bytesBehind_11 : decode m_Te_bytesBehind.2.1 11 = .ok (.iconst (-1), 1) := by decide +kernel
theorem dc_Te_bytesBehind_12 : decode m_Te_bytesBehind.2.1 12 = .ok (.goto 4, 3) := by decide +kernel
theorem dc_Te_bytesBehind_15 : decode m_Te_bytesBehind.2.1 15 = .ok (.iconst 0, 1) := by decide +kernel
theorem dc_Te_bytesBehind_16 : decode m_Te_bytesBehind.2.1 16 = .ok (.ireturn, 1) := by decide +kernel
theorem dc_Te_bytesBehind_17 : decode m_Te_bytesBehind.2.1 17 = .ok (.iload_n 0, 1) := by decide +kernel
theorem dc_Te_bytesBehind_18 : decode m_Te_bytesBehind.2.1 18 = .ok (.sipush 194, 3) := by decide +kernel
theorem dc_Te_bytesBehind_21 : decode m_Te_bytesBehind.2.1 21 = .ok (.if_icmp .lt 10, 3) := by decide +kernel
theorem dc_Te_bytesBehind_24 : decode m_Te_bytesBehind.2.1 24 = .ok (.iload_n 0, 1) := by decide +kernel
theorem dc_Te_bytesBehind_25 : decode m_Te_bytesBehind.2.1 25 = .ok (.sipush 244, 3) := by decide +kernel
theorem dc_Te_bytesBehind_28 : decode m_Te_bytesBehind.2.1 28 = .ok (.if_icmp .le 5, 3) := by decide +kernel
theorem dc_Te_bytesBehind_31 : decode m_Te_bytesBehind.2.1 31 = .ok (.iconst (-1), 1) := by decide +kernel
theorem dc_Te_bytesBehind_32 : decode m_Te_bytesBehind.2.1 32 = .ok (.ireturn, 1) := by decide +kernel
theorem dc_Te_bytesBehind_33 : decode m_Te_bytesBehind.2.1 33 = .ok (.iload_n 0, 1) := by decide +kernel
theorem dc_Te_bytesBehind_34 : decode m_Te_bytesBehind.2.1 34 = .ok (.sipush 224, 3) := by decide +kernel
theorem dc_Te_bytesBehind_37 : decode m_Te_bytesBehind.2.1 37 = .ok (.if_icmp .ge 7, 3) := by decide +kernel
theorem dc_Te_bytesBehind_40 : decode m_Te_bytesBehind.2.1 40 = .ok (.iconst 1, 1) := by decide +kernel
theorem dc_Te_bytesBehind_41 : decode m_Te_bytesBehind.2.1 41 = .ok (.goto 15, 3) := by decide +kernel
theorem dc_Te_bytesBehind_44 : decode m_Te_bytesBehind.2.1 44 = .ok (.iload_n 0, 1) := by decide +kernel
theorem dc_Te_bytesBehind_45 : decode m_Te_bytesBehind.2.1 45 = .ok (.sipush 240, 3) := by decide +kernel
theorem dc_Te_bytesBehind_48 : decode m_Te_bytesBehind.2.1 48 = .ok (.if_icmp .ge 7, 3) := by decide +kernel
theorem dc_Te_bytesBehind_51 : decode m_Te_bytesBehind.2.1 51 = .ok (.iconst 2, 1) := by decide +kernel
theorem dc_Te_bytesBehind_52 : decode m_Te_bytesBehind.2.1 52 = .ok (.goto 4, 3) := by decide +kernel
theorem dc_Te_bytesBehind_55 : decode m_Te_bytesBehind.2.1 55 = .ok (.iconst 3, 1) := by decide +kernel
theorem dc_Te_bytesBehind_56 : decode m_Te_bytesBehind.2.1 56 = .ok (.ireturn, 1) := by decide +kernel
theorem b_Te_bytesBehind_0 {E : En_t} {d : Nat} {σ : S_t} {Q : Option Value → S_t → Prop} {x0 : Int32}
    (h : ((128 : Int32) ≤ x0 → (x0 < (194 : Int32) → Q (some (.int (-1 : Int32))) σ) ∧ (¬ x0 < (194 : Int32) → (x0 ≤ (244 : Int32) → ((224 : Int32) ≤ x0 → ((240 : Int32) ≤ x0 → Q (some (.int (3 : Int32))) σ) ∧ (¬ (240 : Int32) ≤ x0 → Q (some (.int (2 : Int32))) σ)) ∧ (¬ (224 : Int32) ≤ x0 → Q (some (.int (1 : Int32))) σ)) ∧ (¬ x0 ≤ (244 : Int32) → Q (some (.int (-1 : Int32))) σ))) ∧ (¬ (128 : Int32) ≤ x0 → (0 ≤ x0 → Q (some (.int (0 : Int32))) σ) ∧ (¬ 0 ≤ x0 → Q (some (.int (-1 : Int32))) σ))) :
    JE E d m_Te_bytesBehind 0 [(0, .int x0)] [] σ Q := by
  refine J_iload_n dc_Te_bytesBehind_0 (Eq.refl 1) 0 rfl ?_
  refine J_sipush (v := (128 : Int32)) dc_Te_bytesBehind_1 (Eq.refl 4) rfl ?_
  refine J_icmp_ge dc_Te_bytesBehind_4 (Eq.refl 7) rfl (fun hc => ?_) (fun hc => ?_)
  · have h := h.1 hc
    refine J_iload_n dc_Te_bytesBehind_17 (Eq.refl 18) 0 rfl ?_
    refine J_sipush (v := (194 : Int32)) dc_Te_bytesBehind_18 (Eq.refl 21) rfl ?_
    refine J_icmp_lt dc_Te_bytesBehind_21 (Eq.refl 24) rfl (fun hc => ?_) (fun hc => ?_)
    · have h := h.1 hc
      refine J_iconst (v := (-1 : Int32)) dc_Te_bytesBehind_31 (Eq.refl 32) rfl ?_
      exact J_iret dc_Te_bytesBehind_32 rfl h
    · have h := h.2 hc
      refine J_iload_n dc_Te_bytesBehind_24 (Eq.refl 25) 0 rfl ?_
      refine J_sipush (v := (244 : Int32)) dc_Te_bytesBehind_25 (Eq.refl 28) rfl ?_
      refine J_icmp_le dc_Te_bytesBehind_28 (Eq.refl 31) rfl (fun hc => ?_) (fun hc => ?_)
      · have h := h.1 hc
        refine J_iload_n dc_Te_bytesBehind_33 (Eq.refl 34) 0 rfl ?_
        refine J_sipush (v := (224 : Int32)) dc_Te_bytesBehind_34 (Eq.refl 37) rfl ?_
        refine J_icmp_ge dc_Te_bytesBehind_37 (Eq.refl 40) rfl (fun hc => ?_) (fun hc => ?_)
        · have h := h.1 hc
          refine J_iload_n dc_Te_bytesBehind_44 (Eq.refl 45) 0 rfl ?_
          refine J_sipush (v := (240 : Int32)) dc_Te_bytesBehind_45 (Eq.refl 48) rfl ?_
          refine J_icmp_ge dc_Te_bytesBehind_48 (Eq.refl 51) rfl (fun hc => ?_) (fun hc => ?_)
          · have h := h.1 hc
            refine J_iconst (v := (3 : Int32)) dc_Te_bytesBehind_55 (Eq.refl 56) rfl ?_
            exact J_iret dc_Te_bytesBehind_56 rfl h
          · have h := h.2 hc
            refine J_iconst (v := (2 : Int32)) dc_Te_bytesBehind_51 (Eq.refl 52) rfl ?_
            refine J_goto dc_Te_bytesBehind_52 rfl ?_
            exact J_iret dc_Te_bytesBehind_56 rfl h
        · have h := h.2 hc
          refine J_iconst (v := (1 : Int32)) dc_Te_bytesBehind_40 (Eq.refl 41) rfl ?_
          refine J_goto dc_Te_bytesBehind_41 rfl ?_
          exact J_iret dc_Te_bytesBehind_56 rfl h
      · have h := h.2 hc
        refine J_iconst (v := (-1 : Int32)) dc_Te_bytesBehind_31 (Eq.refl 32) rfl ?_
        exact J_iret dc_Te_bytesBehind_32 rfl h
  · have h := h.2 hc
    refine J_iload_n dc_Te_bytesBehind_7 (Eq.refl 8) 0 rfl ?_
    refine J_if_ge dc_Te_bytesBehind_8 (Eq.refl 11) rfl (fun hc => ?_) (fun hc => ?_)
    · have h := h.1 hc
      refine J_iconst (v := (0 : Int32)) dc_Te_bytesBehind_15 (Eq.refl 16) rfl ?_
      exact J_iret dc_Te_bytesBehind_16 rfl h
    · have h := h.2 hc
      refine J_iconst (v := (-1 : Int32)) dc_Te_bytesBehind_11 (Eq.refl 12) rfl ?_
      refine J_goto dc_Te_bytesBehind_12 rfl ?_
      exact J_iret dc_Te_bytesBehind_16 rfl h
theorem dc_Te_skipBlanks_0 : decode m_Te_skipBlanks.2.1 0 = .ok (.aload_n 0, 1) := by decide +kernel
theorem dc_Te_skipBlanks_1 : decode m_Te_skipBlanks.2.1 1 = .ok (.getfield 19, 3) := by decide +kernel
theorem dc_Te_skipBlanks_4 : decode m_Te_skipBlanks.2.1 4 = .ok (.ifCond .lt 42, 3) := by decide +kernel
theorem dc_Te_skipBlanks_7 : decode m_Te_skipBlanks.2.1 7 = .ok (.aload_n 0, 1) := by decide +kernel
theorem dc_Te_skipBlanks_8 : decode m_Te_skipBlanks.2.1 8 = .ok (.getfield 19, 3) := by decide +kernel
theorem dc_Te_skipBlanks_11 : decode m_Te_skipBlanks.2.1 11 = .ok (.aload_n 0, 1) := by decide +kernel
theorem dc_Te_skipBlanks_12 : decode m_Te_skipBlanks.2.1 12 = .ok (.getfield 15, 3) := by decide +kernel
theorem dc_Te_skipBlanks_15 : decode m_Te_skipBlanks.2.1 15 = .ok (.if_icmp .ge 31, 3) := by decide +kernel
theorem dc_Te_skipBlanks_18 : decode m_Te_skipBlanks.2.1 18 = .ok (.aload_n 0, 1) := by decide +kernel
theorem dc_Te_skipBlanks_19 : decode m_Te_skipBlanks.2.1 19 = .ok (.getfield 9, 3) := by decide +kernel
theorem dc_Te_skipBlanks_22 : decode m_Te_skipBlanks.2.1 22 = .ok (.aload_n 0, 1) := by decide +kernel
theorem dc_Te_skipBlanks_23 : decode m_Te_skipBlanks.2.1 23 = .ok (.getfield 19, 3) := by decide +kernel
theorem dc_Te_skipBlanks_26 : decode m_Te_skipBlanks.2.1 26 = .ok (.baload, 1) := by decide +kernel
theorem dc_Te_skipBlanks_27 : decode m_Te_skipBlanks.2.1 27 = .ok (.invokestatic 35, 3) := by decide +kernel
theorem dc_Te_skipBlanks_30 : decode m_Te_skipBlanks.2.1 30 = .ok (.ifCond .eq 16, 3) := by decide +kernel
theorem dc_Te_skipBlanks_33 : decode m_Te_skipBlanks.2.1 33 = .ok (.aload_n 0, 1) := by decide +kernel
theorem dc_Te_skipBlanks_34 : decode m_Te_skipBlanks.2.1 34 = .ok (.dup, 1) := by decide +kernel
theorem dc_Te_skipBlanks_35 : decode m_Te_skipBlanks.2.1 35 = .ok (.getfield 19, 3) := by decide +kernel
theorem dc_Te_skipBlanks_38 : decode m_Te_skipBlanks.2.1 38 = .ok (.iconst 1, 1) := by decide +kernel
theorem dc_Te_skipBlanks_39 : decode m_Te_skipBlanks.2.1 39 = .ok (.iadd, 1) := by decide +kernel
theorem dc_Te_skipBlanks_40 : decode m_Te_skipBlanks.2.1 40 = .ok (.putfield 19, 3) := by decide +kernel
theorem dc_Te_skipBlanks_43 : decode m_Te_skipBlanks.2.1 43 = .ok (.goto (-43), 3) := by decide +kernel
theorem dc_Te_skipBlanks_46 : decode m_Te_skipBlanks.2.1 46 = .ok (.return_, 1) := by decide +kernel
theorem b_Te_skipBlanks_0 {E : En_t} {d : Nat} {σ : S_t} {Q : Option Value → S_t → Prop}
    (h : ((gI σ 51 2) < 0 → Q none σ) ∧ (¬ (gI σ 51 2) < 0 → ((gI σ 51 1) ≤ (gI σ 51 2) → Q none σ) ∧ (¬ (gI σ 51 1) ≤ (gI σ 51 2) → vp_in (gI σ 51 2) 2000 ∧ (CI E d m_Te_isBlank [.int (gI σ 52 (gI σ 51 2).toNatClampNeg)] σ (fun r2 σ1 => (r2 = 0 → Q none σ1) ∧ (¬ r2 = 0 → JE E (d + 1) m_Te_skipBlanks 0 [(0, pv E 51)] [] (sI σ1 51 2 ((gI σ1 51 2) + (1 : Int32))) Q)))))) :
    JE E (d + 1) m_Te_skipBlanks 0 [(0, pv E 51)] [] σ Q := by
  refine J_aload_n dc_Te_skipBlanks_0 (Eq.refl 1) 0 rfl ?_
  refine J_getI dc_Te_skipBlanks_1 (Eq.refl 4) fl_Te_19 (Nat.le_of_ble_eq_true rfl) rfl (Or.inl rfl) ?_
  refine J_if_lt dc_Te_skipBlanks_4 (Eq.refl 7) rfl (fun hc => ?_) (fun hc => ?_)
  · have h := h.1 hc
    exact J_vret dc_Te_skipBlanks_46 rfl h
  · have h := h.2 hc
    refine J_aload_n dc_Te_skipBlanks_7 (Eq.refl 8) 0 rfl ?_
    refine J_getI dc_Te_skipBlanks_8 (Eq.refl 11) fl_Te_19 (Nat.le_of_ble_eq_true rfl) rfl (Or.inl rfl) ?_
    refine J_aload_n dc_Te_skipBlanks_11 (Eq.refl 12) 0 rfl ?_
    refine J_getI dc_Te_skipBlanks_12 (Eq.refl 15) fl_Te_15 (Nat.le_of_ble_eq_true rfl) rfl (Or.inl rfl) ?_
    refine J_icmp_ge dc_Te_skipBlanks_15 (Eq.refl 18) rfl (fun hc => ?_) (fun hc => ?_)
    · have h := h.1 hc
      exact J_vret dc_Te_skipBlanks_46 rfl h
    · have h := h.2 hc
      refine J_aload_n dc_Te_skipBlanks_18 (Eq.refl 19) 0 rfl ?_
      refine J_getF (y := 52) dc_Te_skipBlanks_19 (Eq.refl 22) fl_Te_9 (Nat.le_of_ble_eq_true rfl) rfl (Or.inl rfl) rfl ?_
      refine J_aload_n dc_Te_skipBlanks_22 (Eq.refl 23) 0 rfl ?_
      refine J_getI dc_Te_skipBlanks_23 (Eq.refl 26) fl_Te_19 (Nat.le_of_ble_eq_true rfl) rfl (Or.inl rfl) ?_
      obtain ⟨hg, h⟩ := h
      refine J_bald dc_Te_skipBlanks_26 (Eq.refl 27) rfl rfl hg ?_
      refine J_callSI (As := [.int (gI σ 52 (gI σ 51 2).toNatClampNeg)]) (st := []) dc_Te_skipBlanks_27 (Eq.refl 30) lk_Te_35 mi_Te_isBlank (Nat.le_of_ble_eq_true rfl) rfl (Nat.le_of_ble_eq_true rfl) (CI.mono h (fun r2 σ1 h => ?_))
      refine J_if_eq dc_Te_skipBlanks_30 (Eq.refl 33) rfl (fun hc => ?_) (fun hc => ?_)
      · have h := h.1 hc
        exact J_vret dc_Te_skipBlanks_46 rfl h
      · have h := h.2 hc
        refine J_aload_n dc_Te_skipBlanks_33 (Eq.refl 34) 0 rfl ?_
        refine J_dup dc_Te_skipBlanks_34 (Eq.refl 35) rfl ?_
        refine J_getI dc_Te_skipBlanks_35 (Eq.refl 38) fl_Te_19 (Nat.le_of_ble_eq_true rfl) rfl (Or.inl rfl) ?_
        refine J_iconst (v := (1 : Int32)) dc_Te_skipBlanks_38 (Eq.refl 39) rfl ?_
        refine J_iadd dc_Te_skipBlanks_39 (Eq.refl 40) ?_
        refine J_putI dc_Te_skipBlanks_40 (Eq.refl 43) pl_Te_19 (Nat.le_of_ble_eq_true rfl) rfl rfl ?_
        refine J_goto dc_Te_skipBlanks_43 rfl ?_
        exact h
theorem dc_Te_isBlank_0 : decode m_Te_isBlank.2.1 0 = .ok (.iload_n 0, 1) := by decide +kernel
theorem dc_Te_isBlank_1 : decode m_Te_isBlank.2.1 1 = .ok (.bipush 32, 2) := by decide +kernel
theorem dc_Te_isBlank_3 : decode m_Te_isBlank.2.1 3 = .ok (.if_icmp .eq 21, 3) := by decide +kernel
theorem dc_Te_isBlank_6 : decode m_Te_isBlank.2.1 6 = .ok (.iload_n 0, 1) := by decide +kernel
theorem dc_Te_isBlank_7 : decode m_Te_isBlank.2.1 7 = .ok (.bipush 9, 2) := by decide +kernel
theorem dc_Te_isBlank_9 : decode m_Te_isBlank.2.1 9 = .ok (.if_icmp .eq 15, 3) := by decide +kernel
theorem dc_Te_isBlank_12 : decode m_Te_isBlank.2.1 12 = .ok (.iload_n 0, 1) := by decide +kernel
theorem dc_Te_isBlank_13 : decode m_Te_isBlank.2.1 13 = .ok (.bipush 10, 2) := by decide +kernel
theorem dc_Te_isBlank_15 : decode m_Te_isBlank.2.1 15 = .ok (.if_icmp .eq 9, 3) := by decide +kernel
theorem dc_Te_isBlank_18 : decode m_Te_isBlank.2.1 18 = .ok (.iload_n 0, 1) := by decide +kernel
theorem dc_Te_isBlank_19 : decode m_Te_isBlank.2.1 19 = .ok (.bipush 13, 2) := by decide +kernel
theorem dc_Te_isBlank_21 : decode m_Te_isBlank.2.1 21 = .ok (.if_icmp .ne 7, 3) := by decide +kernel
theorem dc_Te_isBlank_24 : decode m_Te_isBlank.2.1 24 = .ok (.iconst 1, 1) := by decide +kernel
theorem dc_Te_isBlank_25 : decode m_Te_isBlank.2.1 25 = .ok (.goto 4, 3) := by decide +kernel
theorem dc_Te_isBlank_28 : decode m_Te_isBlank.2.1 28 = .ok (.iconst 0, 1) := by decide +kernel
theorem dc_Te_isBlank_29 : decode m_Te_isBlank.2.1 29 = .ok (.ireturn, 1) := by decide +kernel
theorem b_Te_isBlank_0 {E : En_t} {d : Nat} {σ : S_t} {Q : Option Value → S_t → Prop} {x0 : Int32}
    (h : (x0 = (32 : Int32) → JE E d m_Te_isBlank 24 [] [] σ Q) ∧ (¬ x0 = (32 : Int32) → (x0 = (9 : Int32) → JE E d m_Te_isBlank 24 [] [] σ Q) ∧ (¬ x0 = (9 : Int32) → (x0 = (10 : Int32) → JE E d m_Te_isBlank 24 [] [] σ Q) ∧ (¬ x0 = (10 : Int32) → (¬ x0 = (13 : Int32) → Q (some (.int (0 : Int32))) σ) ∧ (x0 = (13 : Int32) → JE E d m_Te_isBlank 24 [] [] σ Q))))) :
    JE E d m_Te_isBlank 0 [(0, .int x0)] [] σ Q := by
  refine J_iload_n dc_Te_isBlank_0 (Eq.refl 1) 0 rfl ?_
  refine J_bipush (v := (32 : Int32)) dc_Te_isBlank_1 (Eq.refl 3) rfl ?_
  refine J_icmp_eq dc_Te_isBlank_3 (Eq.refl 6) rfl (fun hc => ?_) (fun hc => ?_)
  · have h := h.1 hc
    refine J_sub [] rfl ?_
    exact h
  · have h := h.2 hc
    refine J_iload_n dc_Te_isBlank_6 (Eq.refl 7) 0 rfl ?_
    refine J_bipush (v := (9 : Int32)) dc_Te_isBlank_7 (Eq.refl 9) rfl ?_
    refine J_icmp_eq dc_Te_isBlank_9 (Eq.refl 12) rfl (fun hc => ?_) (fun hc => ?_)
    · have h := h.1 hc
      refine J_sub [] rfl ?_
      exact h
    · have h := h.2 hc
      refine J_iload_n dc_Te_isBlank_12 (Eq.refl 13) 0 rfl ?_
      refine J_bipush (v := (10 : Int32)) dc_Te_isBlank_13 (Eq.refl 15) rfl ?_
      refine J_icmp_eq dc_Te_isBlank_15 (Eq.refl 18) rfl (fun hc => ?_) (fun hc => ?_)
      · have h := h.1 hc
        refine J_sub [] rfl ?_
        exact h
      · have h := h.2 hc
        refine J_iload_n dc_Te_isBlank_18 (Eq.refl 19) 0 rfl ?_
        refine J_bipush (v := (13 : Int32)) dc_Te_isBlank_19 (Eq.refl 21) rfl ?_
        refine J_icmp_ne dc_Te_isBlank_21 (Eq.refl 24) rfl (fun hc => ?_) (fun hc => ?_)
        · have h := h.1 hc
          refine J_iconst (v := (0 : Int32)) dc_Te_isBlank_28 (Eq.refl 29) rfl ?_
          exact J_zret dc_Te_isBlank_29 rfl rfl h
        · have h := h.2 hc
          refine J_sub [] rfl ?_
          exact h
theorem b_Te_isBlank_24 {E : En_t} {d : Nat} {σ : S_t} {Q : Option Value → S_t → Prop}
    (h : Q (some (.int (1 : Int32))) σ) :
    JE E d m_Te_isBlank 24 [] [] σ Q := by
  refine J_iconst (v := (1 : Int32)) dc_Te_isBlank_24 (Eq.refl 25) rfl ?_
  refine J_goto dc_Te_isBlank_25 rfl ?_
  exact J_zret dc_Te_isBlank_29 rfl rfl h
