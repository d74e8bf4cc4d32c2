theorem dc_Po_decode_0 : decode m_Po_decode.2.1 0 = .ok (.aload_n 1, 1) := by decide +kernel
theorem dc_Po_decode_1 : decode m_Po_decode.2.1 1 = .ok (.iconst 0, 1) := by decide +kernel
theorem dc_Po_decode_2 : decode m_Po_decode.2.1 2 = .ok (.putfield 15, 3) := by decide +kernel
theorem dc_Po_decode_5 : decode m_Po_decode.2.1 5 = .ok (.aload_n 0, 1) := by decide +kernel
theorem dc_Po_decode_6 : decode m_Po_decode.2.1 6 = .ok (.iconst 0, 1) := by decide +kernel
theorem dc_Po_decode_7 : decode m_Po_decode.2.1 7 = .ok (.putfield 21, 3) := by decide +kernel
theorem dc_Po_decode_10 : decode m_Po_decode.2.1 10 = .ok (.aload_n 1, 1) := by decide +kernel
theorem dc_Po_decode_11 : decode m_Po_decode.2.1 11 = .ok (.getfield 24, 3) := by decide +kernel
theorem dc_Po_decode_14 : decode m_Po_decode.2.1 14 = .ok (.ifCond .le 14, 3) := by decide +kernel
theorem dc_Po_decode_17 : decode m_Po_decode.2.1 17 = .ok (.aload_n 1, 1) := by decide +kernel
theorem dc_Po_decode_18 : decode m_Po_decode.2.1 18 = .ok (.invokevirtual 27, 3) := by decide +kernel
theorem dc_Po_decode_21 : decode m_Po_decode.2.1 21 = .ok (.bipush 47, 2) := by decide +kernel
theorem dc_Po_decode_23 : decode m_Po_decode.2.1 23 = .ok (.if_icmp .eq 5, 3) := by decide +kernel
theorem dc_Po_decode_26 : decode m_Po_decode.2.1 26 = .ok (.iconst 0, 1) := by decide +kernel
theorem dc_Po_decode_27 : decode m_Po_decode.2.1 27 = .ok (.ireturn, 1) := by decide +kernel
theorem dc_Po_decode_28 : decode m_Po_decode.2.1 28 = .ok (.iconst 0, 1) := by decide +kernel
theorem dc_Po_decode_29 : decode m_Po_decode.2.1 29 = .ok (.istore_n 2, 1) := by decide +kernel
theorem dc_Po_decode_30 : decode m_Po_decode.2.1 30 = .ok (.iload_n 2, 1) := by decide +kernel
theorem dc_Po_decode_31 : decode m_Po_decode.2.1 31 = .ok (.sipush 2000, 3) := by decide +kernel
theorem dc_Po_decode_34 : decode m_Po_decode.2.1 34 = .ok (.if_icmp .ge 49, 3) := by decide +kernel
theorem dc_Po_decode_37 : decode m_Po_decode.2.1 37 = .ok (.aload_n 1, 1) := by decide +kernel
theorem dc_Po_decode_38 : decode m_Po_decode.2.1 38 = .ok (.getfield 15, 3) := by decide +kernel
theorem dc_Po_decode_41 : decode m_Po_decode.2.1 41 = .ok (.aload_n 1, 1) := by decide +kernel
theorem dc_Po_decode_42 : decode m_Po_decode.2.1 42 = .ok (.getfield 24, 3) := by decide +kernel
theorem dc_Po_decode_45 : decode m_Po_decode.2.1 45 = .ok (.if_icmp .ge 38, 3) := by decide +kernel
theorem dc_Po_decode_48 : decode m_Po_decode.2.1 48 = .ok (.aload_n 1, 1) := by decide +kernel
theorem dc_Po_decode_49 : decode m_Po_decode.2.1 49 = .ok (.invokestatic 31, 3) := by decide +kernel
theorem dc_Po_decode_52 : decode m_Po_decode.2.1 52 = .ok (.istore_n 3, 1) := by decide +kernel
theorem dc_Po_decode_53 : decode m_Po_decode.2.1 53 = .ok (.iload_n 3, 1) := by decide +kernel
theorem dc_Po_decode_54 : decode m_Po_decode.2.1 54 = .ok (.iconst (-1), 1) := by decide +kernel
theorem dc_Po_decode_55 : decode m_Po_decode.2.1 55 = .ok (.if_icmp .ne 5, 3) := by decide +kernel
theorem dc_Po_decode_58 : decode m_Po_decode.2.1 58 = .ok (.iconst 0, 1) := by decide +kernel
theorem dc_Po_decode_59 : decode m_Po_decode.2.1 59 = .ok (.ireturn, 1) := by decide +kernel
theorem dc_Po_decode_60 : decode m_Po_decode.2.1 60 = .ok (.aload_n 0, 1) := by decide +kernel
theorem dc_Po_decode_61 : decode m_Po_decode.2.1 61 = .ok (.getfield 9, 3) := by decide +kernel
theorem dc_Po_decode_64 : decode m_Po_decode.2.1 64 = .ok (.iload_n 2, 1) := by decide +kernel
theorem dc_Po_decode_65 : decode m_Po_decode.2.1 65 = .ok (.iload_n 3, 1) := by decide +kernel
theorem dc_Po_decode_66 : decode m_Po_decode.2.1 66 = .ok (.iastore, 1) := by decide +kernel
theorem dc_Po_decode_67 : decode m_Po_decode.2.1 67 = .ok (.aload_n 0, 1) := by decide +kernel
theorem dc_Po_decode_68 : decode m_Po_decode.2.1 68 = .ok (.dup, 1) := by decide +kernel
theorem dc_Po_decode_69 : decode m_Po_decode.2.1 69 = .ok (.getfield 21, 3) := by decide +kernel
theorem dc_Po_decode_72 : decode m_Po_decode.2.1 72 = .ok (.iconst 1, 1) := by decide +kernel
theorem dc_Po_decode_73 : decode m_Po_decode.2.1 73 = .ok (.iadd, 1) := by decide +kernel
theorem dc_Po_decode_74 : decode m_Po_decode.2.1 74 = .ok (.putfield 21, 3) := by decide +kernel
theorem dc_Po_decode_77 : decode m_Po_decode.2.1 77 = .ok (.iinc 2 1, 3) := by decide +kernel
theorem dc_Po_decode_80 : decode m_Po_decode.2.1 80 = .ok (.goto (-50), 3) := by decide +kernel
theorem dc_Po_decode_83 : decode m_Po_decode.2.1 83 = .ok (.iconst 1, 1) := by decide +kernel
theorem dc_Po_decode_84 : decode m_Po_decode.2.1 84 = .ok (.ireturn, 1) := by decide +kernel
theorem b_Po_decode_0 {E : En_t} {d : Nat} {σ : S_t} {Q : Option Value → S_t → Prop}
    (h : ((gI (sI (sI σ 51 2 (0 : Int32)) 69 1 (0 : Int32)) 51 1) ≤ 0 → JE E (d + 1) m_Po_decode 28 [(0, pv E 69), (1, pv E 51)] [] (sI (sI σ 51 2 (0 : Int32)) 69 1 (0 : Int32)) Q) ∧ (¬ (gI (sI (sI σ 51 2 (0 : Int32)) 69 1 (0 : Int32)) 51 1) ≤ 0 → CI E d m_Te_here [pv E 51] (sI (sI σ 51 2 (0 : Int32)) 69 1 (0 : Int32)) (fun r2 σ1 => (r2 = (47 : Int32) → JE E (d + 1) m_Po_decode 28 [(0, pv E 69), (1, pv E 51)] [] σ1 Q) ∧ (¬ r2 = (47 : Int32) → Q (some (.int (0 : Int32))) σ1)))) :
    JE E (d + 1) m_Po_decode 0 [(0, pv E 69), (1, pv E 51)] [] σ Q := by
  refine J_aload_n dc_Po_decode_0 (Eq.refl 1) 1 rfl ?_
  refine J_iconst (v := (0 : Int32)) dc_Po_decode_1 (Eq.refl 2) rfl ?_
  refine J_putI dc_Po_decode_2 (Eq.refl 5) pl_Po_15 (Nat.le_of_ble_eq_true rfl) rfl rfl ?_
  refine J_aload_n dc_Po_decode_5 (Eq.refl 6) 0 rfl ?_
  refine J_iconst (v := (0 : Int32)) dc_Po_decode_6 (Eq.refl 7) rfl ?_
  refine J_putI dc_Po_decode_7 (Eq.refl 10) pl_Po_21 (Nat.le_of_ble_eq_true rfl) rfl rfl ?_
  refine J_aload_n dc_Po_decode_10 (Eq.refl 11) 1 rfl ?_
  refine J_getI dc_Po_decode_11 (Eq.refl 14) fl_Po_24 (Nat.le_of_ble_eq_true rfl) rfl (Or.inl rfl) ?_
  refine J_if_le dc_Po_decode_14 (Eq.refl 17) rfl (fun hc => ?_) (fun hc => ?_)
  · have h := h.1 hc
    exact h
  · have h := h.2 hc
    refine J_aload_n dc_Po_decode_17 (Eq.refl 18) 1 rfl ?_
    refine J_callVI (As := []) (st := []) dc_Po_decode_18 (Eq.refl 21) lk_Po_27 mi_Te_here rfl (Nat.le_of_ble_eq_true rfl) rfl rfl (Nat.le_of_ble_eq_true rfl) rfl (Nat.le_of_ble_eq_true rfl) (CI.mono h (fun r2 σ1 h => ?_))
    refine J_bipush (v := (47 : Int32)) dc_Po_decode_21 (Eq.refl 23) rfl ?_
    refine J_icmp_eq dc_Po_decode_23 (Eq.refl 26) rfl (fun hc => ?_) (fun hc => ?_)
    · have h := h.1 hc
      exact h
    · have h := h.2 hc
      refine J_iconst (v := (0 : Int32)) dc_Po_decode_26 (Eq.refl 27) rfl ?_
      exact J_zret dc_Po_decode_27 rfl rfl h
theorem b_Po_decode_28 {E : En_t} {d : Nat} {σ : S_t} {Q : Option Value → S_t → Prop}
    (h : JE E (d + 1) m_Po_decode 30 [(0, pv E 69), (1, pv E 51), (2, .int (0 : Int32))] [] σ Q) :
    JE E (d + 1) m_Po_decode 28 [(0, pv E 69), (1, pv E 51)] [] σ Q := by
  refine J_iconst (v := (0 : Int32)) dc_Po_decode_28 (Eq.refl 29) rfl ?_
  refine J_istore_n (L' := [(2, .int (0 : Int32)), (0, pv E 69), (1, pv E 51)]) dc_Po_decode_29 (Eq.refl 30) (Nat.le_of_ble_eq_true rfl) rfl ?_
  refine J_sub [1, 2, 0] rfl ?_
  exact h
theorem b_Po_decode_30 {E : En_t} {d : Nat} {σ : S_t} {Q : Option Value → S_t → Prop} {x2 : Int32}
    (h : ((2000 : Int32) ≤ x2 → Q (some (.int (1 : Int32))) σ) ∧ (¬ (2000 : Int32) ≤ x2 → ((gI σ 51 1) ≤ (gI σ 51 2) → Q (some (.int (1 : Int32))) σ) ∧ (¬ (gI σ 51 1) ≤ (gI σ 51 2) → CI E d m_Po_nextMark [pv E 51] σ (fun r2 σ1 => (¬ r2 = (-1 : Int32) → vp_in x2 2000 ∧ (JE E (d + 1) m_Po_decode 30 [(0, pv E 69), (1, pv E 51), (2, .int (x2 + (1 : Int32)))] [] (sI (sI σ1 70 x2.toNatClampNeg r2) 69 1 ((gI (sI σ1 70 x2.toNatClampNeg r2) 69 1) + (1 : Int32))) Q)) ∧ (r2 = (-1 : Int32) → Q (some (.int (0 : Int32))) σ1))))) :
    JE E (d + 1) m_Po_decode 30 [(0, pv E 69), (1, pv E 51), (2, .int x2)] [] σ Q := by
  refine J_iload_n dc_Po_decode_30 (Eq.refl 31) 2 rfl ?_
  refine J_sipush (v := (2000 : Int32)) dc_Po_decode_31 (Eq.refl 34) rfl ?_
  refine J_icmp_ge dc_Po_decode_34 (Eq.refl 37) rfl (fun hc => ?_) (fun hc => ?_)
  · have h := h.1 hc
    refine J_iconst (v := (1 : Int32)) dc_Po_decode_83 (Eq.refl 84) rfl ?_
    exact J_zret dc_Po_decode_84 rfl rfl h
  · have h := h.2 hc
    refine J_aload_n dc_Po_decode_37 (Eq.refl 38) 1 rfl ?_
    refine J_getI dc_Po_decode_38 (Eq.refl 41) fl_Po_15 (Nat.le_of_ble_eq_true rfl) rfl (Or.inl rfl) ?_
    refine J_aload_n dc_Po_decode_41 (Eq.refl 42) 1 rfl ?_
    refine J_getI dc_Po_decode_42 (Eq.refl 45) fl_Po_24 (Nat.le_of_ble_eq_true rfl) rfl (Or.inl rfl) ?_
    refine J_icmp_ge dc_Po_decode_45 (Eq.refl 48) rfl (fun hc => ?_) (fun hc => ?_)
    · have h := h.1 hc
      refine J_iconst (v := (1 : Int32)) dc_Po_decode_83 (Eq.refl 84) rfl ?_
      exact J_zret dc_Po_decode_84 rfl rfl h
    · have h := h.2 hc
      refine J_aload_n dc_Po_decode_48 (Eq.refl 49) 1 rfl ?_
      refine J_callSI (As := [pv E 51]) (st := []) dc_Po_decode_49 (Eq.refl 52) lk_Po_31 mi_Po_nextMark (Nat.le_of_ble_eq_true rfl) rfl (Nat.le_of_ble_eq_true rfl) (CI.mono h (fun r2 σ1 h => ?_))
      refine J_istore_n (L' := [(3, .int r2), (0, pv E 69), (1, pv E 51), (2, .int x2)]) dc_Po_decode_52 (Eq.refl 53) (Nat.le_of_ble_eq_true rfl) rfl ?_
      refine J_iload_n dc_Po_decode_53 (Eq.refl 54) 0 rfl ?_
      refine J_iconst (v := (-1 : Int32)) dc_Po_decode_54 (Eq.refl 55) rfl ?_
      refine J_icmp_ne dc_Po_decode_55 (Eq.refl 58) rfl (fun hc => ?_) (fun hc => ?_)
      · have h := h.1 hc
        refine J_aload_n dc_Po_decode_60 (Eq.refl 61) 1 rfl ?_
        refine J_getF (y := 70) dc_Po_decode_61 (Eq.refl 64) fl_Po_9 (Nat.le_of_ble_eq_true rfl) rfl (Or.inl rfl) rfl ?_
        refine J_iload_n dc_Po_decode_64 (Eq.refl 65) 3 rfl ?_
        refine J_iload_n dc_Po_decode_65 (Eq.refl 66) 0 rfl ?_
        obtain ⟨hg, h⟩ := h
        refine J_iast dc_Po_decode_66 (Eq.refl 67) rfl rfl hg ?_
        refine J_aload_n dc_Po_decode_67 (Eq.refl 68) 1 rfl ?_
        refine J_dup dc_Po_decode_68 (Eq.refl 69) rfl ?_
        refine J_getI dc_Po_decode_69 (Eq.refl 72) fl_Po_21 (Nat.le_of_ble_eq_true rfl) rfl (Or.inl rfl) ?_
        refine J_iconst (v := (1 : Int32)) dc_Po_decode_72 (Eq.refl 73) rfl ?_
        refine J_iadd dc_Po_decode_73 (Eq.refl 74) ?_
        refine J_putI dc_Po_decode_74 (Eq.refl 77) pl_Po_21 (Nat.le_of_ble_eq_true rfl) rfl rfl ?_
        refine J_iinc (v := x2 + (1 : Int32)) (L' := [(2, .int (x2 + (1 : Int32))), (3, .int r2), (0, pv E 69), (1, pv E 51)]) dc_Po_decode_77 (Eq.refl 80) 3 rfl rfl (Nat.le_of_ble_eq_true rfl) rfl ?_
        refine J_goto dc_Po_decode_80 rfl ?_
        refine J_sub [2, 3, 0] rfl ?_
        exact h
      · have h := h.2 hc
        refine J_iconst (v := (0 : Int32)) dc_Po_decode_58 (Eq.refl 59) rfl ?_
        exact J_zret dc_Po_decode_59 rfl rfl h
theorem dc_Po_nextMark_0 : decode m_Po_nextMark.2.1 0 = .ok (.aload_n 0, 1) := by decide +kernel
theorem dc_Po_nextMark_1 : decode m_Po_nextMark.2.1 1 = .ok (.bipush 47, 2) := by decide +kernel
theorem dc_Po_nextMark_3 : decode m_Po_nextMark.2.1 3 = .ok (.invokevirtual 35, 3) := by decide +kernel
theorem dc_Po_nextMark_6 : decode m_Po_nextMark.2.1 6 = .ok (.ifCond .eq 6, 3) := by decide +kernel
theorem dc_Po_nextMark_9 : decode m_Po_nextMark.2.1 9 = .ok (.bipush (-2), 2) := by decide +kernel
theorem dc_Po_nextMark_11 : decode m_Po_nextMark.2.1 11 = .ok (.ireturn, 1) := by decide +kernel
theorem dc_Po_nextMark_12 : decode m_Po_nextMark.2.1 12 = .ok (.aload_n 0, 1) := by decide +kernel
theorem dc_Po_nextMark_13 : decode m_Po_nextMark.2.1 13 = .ok (.bipush 126, 2) := by decide +kernel
theorem dc_Po_nextMark_15 : decode m_Po_nextMark.2.1 15 = .ok (.invokevirtual 35, 3) := by decide +kernel
theorem dc_Po_nextMark_18 : decode m_Po_nextMark.2.1 18 = .ok (.ifCond .ne 8, 3) := by decide +kernel
theorem dc_Po_nextMark_21 : decode m_Po_nextMark.2.1 21 = .ok (.aload_n 0, 1) := by decide +kernel
theorem dc_Po_nextMark_22 : decode m_Po_nextMark.2.1 22 = .ok (.invokevirtual 39, 3) := by decide +kernel
theorem dc_Po_nextMark_25 : decode m_Po_nextMark.2.1 25 = .ok (.ireturn, 1) := by decide +kernel
theorem dc_Po_nextMark_26 : decode m_Po_nextMark.2.1 26 = .ok (.aload_n 0, 1) := by decide +kernel
theorem dc_Po_nextMark_27 : decode m_Po_nextMark.2.1 27 = .ok (.bipush 48, 2) := by decide +kernel
theorem dc_Po_nextMark_29 : decode m_Po_nextMark.2.1 29 = .ok (.invokevirtual 35, 3) := by decide +kernel
theorem dc_Po_nextMark_32 : decode m_Po_nextMark.2.1 32 = .ok (.ifCond .eq 6, 3) := by decide +kernel
theorem dc_Po_nextMark_35 : decode m_Po_nextMark.2.1 35 = .ok (.bipush 126, 2) := by decide +kernel
theorem dc_Po_nextMark_37 : decode m_Po_nextMark.2.1 37 = .ok (.ireturn, 1) := by decide +kernel
theorem dc_Po_nextMark_38 : decode m_Po_nextMark.2.1 38 = .ok (.aload_n 0, 1) := by decide +kernel
theorem dc_Po_nextMark_39 : decode m_Po_nextMark.2.1 39 = .ok (.bipush 49, 2) := by decide +kernel
theorem dc_Po_nextMark_41 : decode m_Po_nextMark.2.1 41 = .ok (.invokevirtual 35, 3) := by decide +kernel
theorem dc_Po_nextMark_44 : decode m_Po_nextMark.2.1 44 = .ok (.ifCond .eq 8, 3) := by decide +kernel
theorem dc_Po_nextMark_47 : decode m_Po_nextMark.2.1 47 = .ok (.bipush 47, 2) := by decide +kernel
theorem dc_Po_nextMark_49 : decode m_Po_nextMark.2.1 49 = .ok (.goto 4, 3) := by decide +kernel
theorem dc_Po_nextMark_52 : decode m_Po_nextMark.2.1 52 = .ok (.iconst (-1), 1) := by decide +kernel
theorem dc_Po_nextMark_53 : decode m_Po_nextMark.2.1 53 = .ok (.ireturn, 1) := by decide +kernel
theorem b_Po_nextMark_0 {E : En_t} {d : Nat} {σ : S_t} {Q : Option Value → S_t → Prop}
    (h : CI E d m_Te_pass [pv E 51, .int (47 : Int32)] σ (fun r2 σ1 => (r2 = 0 → CI E d m_Te_pass [pv E 51, .int (126 : Int32)] σ1 (fun r4 σ3 => (¬ r4 = 0 → CI E d m_Te_pass [pv E 51, .int (48 : Int32)] σ3 (fun r6 σ5 => (r6 = 0 → CI E d m_Te_pass [pv E 51, .int (49 : Int32)] σ5 (fun r8 σ7 => (r8 = 0 → Q (some (.int (-1 : Int32))) σ7) ∧ (¬ r8 = 0 → Q (some (.int (47 : Int32))) σ7))) ∧ (¬ r6 = 0 → Q (some (.int (126 : Int32))) σ5))) ∧ (r4 = 0 → CI E d m_Te_nextCharacter [pv E 51] σ3 (fun r10 σ9 => Q (some (.int r10)) σ9)))) ∧ (¬ r2 = 0 → Q (some (.int (-2 : Int32))) σ1))) :
    JE E (d + 1) m_Po_nextMark 0 [(0, pv E 51)] [] σ Q := by
  refine J_aload_n dc_Po_nextMark_0 (Eq.refl 1) 0 rfl ?_
  refine J_bipush (v := (47 : Int32)) dc_Po_nextMark_1 (Eq.refl 3) rfl ?_
  refine J_callVI (As := [.int (47 : Int32)]) (st := []) dc_Po_nextMark_3 (Eq.refl 6) lk_Po_35 mi_Te_pass rfl (Nat.le_of_ble_eq_true rfl) rfl rfl (Nat.le_of_ble_eq_true rfl) rfl (Nat.le_of_ble_eq_true rfl) (CI.mono h (fun r2 σ1 h => ?_))
  refine J_if_eq dc_Po_nextMark_6 (Eq.refl 9) rfl (fun hc => ?_) (fun hc => ?_)
  · have h := h.1 hc
    refine J_aload_n dc_Po_nextMark_12 (Eq.refl 13) 0 rfl ?_
    refine J_bipush (v := (126 : Int32)) dc_Po_nextMark_13 (Eq.refl 15) rfl ?_
    refine J_callVI (As := [.int (126 : Int32)]) (st := []) dc_Po_nextMark_15 (Eq.refl 18) lk_Po_35 mi_Te_pass rfl (Nat.le_of_ble_eq_true rfl) rfl rfl (Nat.le_of_ble_eq_true rfl) rfl (Nat.le_of_ble_eq_true rfl) (CI.mono h (fun r4 σ3 h => ?_))
    refine J_if_ne dc_Po_nextMark_18 (Eq.refl 21) rfl (fun hc => ?_) (fun hc => ?_)
    · have h := h.1 hc
      refine J_aload_n dc_Po_nextMark_26 (Eq.refl 27) 0 rfl ?_
      refine J_bipush (v := (48 : Int32)) dc_Po_nextMark_27 (Eq.refl 29) rfl ?_
      refine J_callVI (As := [.int (48 : Int32)]) (st := []) dc_Po_nextMark_29 (Eq.refl 32) lk_Po_35 mi_Te_pass rfl (Nat.le_of_ble_eq_true rfl) rfl rfl (Nat.le_of_ble_eq_true rfl) rfl (Nat.le_of_ble_eq_true rfl) (CI.mono h (fun r6 σ5 h => ?_))
      refine J_if_eq dc_Po_nextMark_32 (Eq.refl 35) rfl (fun hc => ?_) (fun hc => ?_)
      · have h := h.1 hc
        refine J_aload_n dc_Po_nextMark_38 (Eq.refl 39) 0 rfl ?_
        refine J_bipush (v := (49 : Int32)) dc_Po_nextMark_39 (Eq.refl 41) rfl ?_
        refine J_callVI (As := [.int (49 : Int32)]) (st := []) dc_Po_nextMark_41 (Eq.refl 44) lk_Po_35 mi_Te_pass rfl (Nat.le_of_ble_eq_true rfl) rfl rfl (Nat.le_of_ble_eq_true rfl) rfl (Nat.le_of_ble_eq_true rfl) (CI.mono h (fun r8 σ7 h => ?_))
        refine J_if_eq dc_Po_nextMark_44 (Eq.refl 47) rfl (fun hc => ?_) (fun hc => ?_)
        · have h := h.1 hc
          refine J_iconst (v := (-1 : Int32)) dc_Po_nextMark_52 (Eq.refl 53) rfl ?_
          exact J_iret dc_Po_nextMark_53 rfl h
        · have h := h.2 hc
          refine J_bipush (v := (47 : Int32)) dc_Po_nextMark_47 (Eq.refl 49) rfl ?_
          refine J_goto dc_Po_nextMark_49 rfl ?_
          exact J_iret dc_Po_nextMark_53 rfl h
      · have h := h.2 hc
        refine J_bipush (v := (126 : Int32)) dc_Po_nextMark_35 (Eq.refl 37) rfl ?_
        exact J_iret dc_Po_nextMark_37 rfl h
    · have h := h.2 hc
      refine J_aload_n dc_Po_nextMark_21 (Eq.refl 22) 0 rfl ?_
      refine J_callVI (As := []) (st := []) dc_Po_nextMark_22 (Eq.refl 25) lk_Po_39 mi_Te_nextCharacter rfl (Nat.le_of_ble_eq_true rfl) rfl rfl (Nat.le_of_ble_eq_true rfl) rfl (Nat.le_of_ble_eq_true rfl) (CI.mono h (fun r10 σ9 h => ?_))
      exact J_iret dc_Po_nextMark_25 rfl h
  · have h := h.2 hc
    refine J_bipush (v := (-2 : Int32)) dc_Po_nextMark_9 (Eq.refl 11) rfl ?_
    exact J_iret dc_Po_nextMark_11 rfl h
theorem dc_Po_find_0 : decode m_Po_find.2.1 0 = .ok (.iconst 0, 1) := by decide +kernel
theorem dc_Po_find_1 : decode m_Po_find.2.1 1 = .ok (.istore_n 2, 1) := by decide +kernel
theorem dc_Po_find_2 : decode m_Po_find.2.1 2 = .ok (.iconst 0, 1) := by decide +kernel
theorem dc_Po_find_3 : decode m_Po_find.2.1 3 = .ok (.istore_n 3, 1) := by decide +kernel
theorem dc_Po_find_4 : decode m_Po_find.2.1 4 = .ok (.iconst 0, 1) := by decide +kernel
theorem dc_Po_find_5 : decode m_Po_find.2.1 5 = .ok (.istore 4, 2) := by decide +kernel
theorem dc_Po_find_7 : decode m_Po_find.2.1 7 = .ok (.iload 4, 2) := by decide +kernel
theorem dc_Po_find_9 : decode m_Po_find.2.1 9 = .ok (.sipush 2000, 3) := by decide +kernel
theorem dc_Po_find_12 : decode m_Po_find.2.1 12 = .ok (.if_icmp .ge 46, 3) := by decide +kernel
theorem dc_Po_find_15 : decode m_Po_find.2.1 15 = .ok (.iload_n 3, 1) := by decide +kernel
theorem dc_Po_find_16 : decode m_Po_find.2.1 16 = .ok (.aload_n 0, 1) := by decide +kernel
theorem dc_Po_find_17 : decode m_Po_find.2.1 17 = .ok (.getfield 21, 3) := by decide +kernel
theorem dc_Po_find_20 : decode m_Po_find.2.1 20 = .ok (.if_icmp .ge 38, 3) := by decide +kernel
theorem dc_Po_find_23 : decode m_Po_find.2.1 23 = .ok (.iload_n 2, 1) := by decide +kernel
theorem dc_Po_find_24 : decode m_Po_find.2.1 24 = .ok (.iconst (-1), 1) := by decide +kernel
theorem dc_Po_find_25 : decode m_Po_find.2.1 25 = .ok (.if_icmp .eq 33, 3) := by decide +kernel
theorem dc_Po_find_28 : decode m_Po_find.2.1 28 = .ok (.aload_n 0, 1) := by decide +kernel
theorem dc_Po_find_29 : decode m_Po_find.2.1 29 = .ok (.iload_n 3, 1) := by decide +kernel
theorem dc_Po_find_30 : decode m_Po_find.2.1 30 = .ok (.iconst 1, 1) := by decide +kernel
theorem dc_Po_find_31 : decode m_Po_find.2.1 31 = .ok (.iadd, 1) := by decide +kernel
theorem dc_Po_find_32 : decode m_Po_find.2.1 32 = .ok (.invokevirtual 42, 3) := by decide +kernel
theorem dc_Po_find_35 : decode m_Po_find.2.1 35 = .ok (.istore 5, 2) := by decide +kernel
theorem dc_Po_find_37 : decode m_Po_find.2.1 37 = .ok (.aload_n 0, 1) := by decide +kernel
theorem dc_Po_find_38 : decode m_Po_find.2.1 38 = .ok (.aload_n 1, 1) := by decide +kernel
theorem dc_Po_find_39 : decode m_Po_find.2.1 39 = .ok (.iload_n 2, 1) := by decide +kernel
theorem dc_Po_find_40 : decode m_Po_find.2.1 40 = .ok (.iload_n 3, 1) := by decide +kernel
theorem dc_Po_find_41 : decode m_Po_find.2.1 41 = .ok (.iconst 1, 1) := by decide +kernel
theorem dc_Po_find_42 : decode m_Po_find.2.1 42 = .ok (.iadd, 1) := by decide +kernel
theorem dc_Po_find_43 : decode m_Po_find.2.1 43 = .ok (.iload 5, 2) := by decide +kernel
theorem dc_Po_find_45 : decode m_Po_find.2.1 45 = .ok (.invokevirtual 46, 3) := by decide +kernel
theorem dc_Po_find_48 : decode m_Po_find.2.1 48 = .ok (.istore_n 2, 1) := by decide +kernel
theorem dc_Po_find_49 : decode m_Po_find.2.1 49 = .ok (.iload 5, 2) := by decide +kernel
theorem dc_Po_find_51 : decode m_Po_find.2.1 51 = .ok (.istore_n 3, 1) := by decide +kernel
theorem dc_Po_find_52 : decode m_Po_find.2.1 52 = .ok (.iinc 4 1, 3) := by decide +kernel
theorem dc_Po_find_55 : decode m_Po_find.2.1 55 = .ok (.goto (-48), 3) := by decide +kernel
theorem dc_Po_find_58 : decode m_Po_find.2.1 58 = .ok (.iload_n 2, 1) := by decide +kernel
theorem dc_Po_find_59 : decode m_Po_find.2.1 59 = .ok (.ireturn, 1) := by decide +kernel
theorem b_Po_find_0 {E : En_t} {d : Nat} {σ : S_t} {Q : Option Value → S_t → Prop} {o1 : Nat} (hk_o1 : kindP o1 = 11)
    (h : JE E (d + 1) m_Po_find 7 [(0, pv E 69), (1, pv E o1), (2, .int (0 : Int32)), (3, .int (0 : Int32)), (4, .int (0 : Int32))] [] σ Q) :
    JE E (d + 1) m_Po_find 0 [(0, pv E 69), (1, pv E o1)] [] σ Q := by
  refine J_iconst (v := (0 : Int32)) dc_Po_find_0 (Eq.refl 1) rfl ?_
  refine J_istore_n (L' := [(2, .int (0 : Int32)), (0, pv E 69), (1, pv E o1)]) dc_Po_find_1 (Eq.refl 2) (Nat.le_of_ble_eq_true rfl) rfl ?_
  refine J_iconst (v := (0 : Int32)) dc_Po_find_2 (Eq.refl 3) rfl ?_
  refine J_istore_n (L' := [(3, .int (0 : Int32)), (2, .int (0 : Int32)), (0, pv E 69), (1, pv E o1)]) dc_Po_find_3 (Eq.refl 4) (Nat.le_of_ble_eq_true rfl) rfl ?_
  refine J_iconst (v := (0 : Int32)) dc_Po_find_4 (Eq.refl 5) rfl ?_
  refine J_istore (L' := [(4, .int (0 : Int32)), (3, .int (0 : Int32)), (2, .int (0 : Int32)), (0, pv E 69), (1, pv E o1)]) dc_Po_find_5 (Eq.refl 7) (Nat.le_of_ble_eq_true rfl) rfl ?_
  refine J_sub [3, 4, 2, 1, 0] rfl ?_
  exact h
theorem b_Po_find_7 {E : En_t} {d : Nat} {σ : S_t} {Q : Option Value → S_t → Prop} {o1 : Nat} {x2 : Int32} {x3 : Int32} {x4 : Int32} (hk_o1 : kindP o1 = 11)
    (h : ((2000 : Int32) ≤ x4 → Q (some (.int x2)) σ) ∧ (¬ (2000 : Int32) ≤ x4 → ((gI σ 69 1) ≤ x3 → Q (some (.int x2)) σ) ∧ (¬ (gI σ 69 1) ≤ x3 → (x2 = (-1 : Int32) → Q (some (.int x2)) σ) ∧ (¬ x2 = (-1 : Int32) → CI E d m_Po_endOfToken [pv E 69, .int (x3 + (1 : Int32))] σ (fun r2 σ1 => CI E d m_Po_findPart [pv E 69, pv E o1, .int x2, .int (x3 + (1 : Int32)), .int r2] σ1 (fun r4 σ3 => JE E (d + 1) m_Po_find 7 [(0, pv E 69), (1, pv E o1), (2, .int r4), (3, .int r2), (4, .int (x4 + (1 : Int32)))] [] σ3 Q)))))) :
    JE E (d + 1) m_Po_find 7 [(0, pv E 69), (1, pv E o1), (2, .int x2), (3, .int x3), (4, .int x4)] [] σ Q := by
  refine J_iload dc_Po_find_7 (Eq.refl 9) 4 rfl ?_
  refine J_sipush (v := (2000 : Int32)) dc_Po_find_9 (Eq.refl 12) rfl ?_
  refine J_icmp_ge dc_Po_find_12 (Eq.refl 15) rfl (fun hc => ?_) (fun hc => ?_)
  · have h := h.1 hc
    refine J_iload_n dc_Po_find_58 (Eq.refl 59) 2 rfl ?_
    exact J_iret dc_Po_find_59 rfl h
  · have h := h.2 hc
    refine J_iload_n dc_Po_find_15 (Eq.refl 16) 3 rfl ?_
    refine J_aload_n dc_Po_find_16 (Eq.refl 17) 0 rfl ?_
    refine J_getI dc_Po_find_17 (Eq.refl 20) fl_Po_21 (Nat.le_of_ble_eq_true rfl) rfl (Or.inl rfl) ?_
    refine J_icmp_ge dc_Po_find_20 (Eq.refl 23) rfl (fun hc => ?_) (fun hc => ?_)
    · have h := h.1 hc
      refine J_iload_n dc_Po_find_58 (Eq.refl 59) 2 rfl ?_
      exact J_iret dc_Po_find_59 rfl h
    · have h := h.2 hc
      refine J_iload_n dc_Po_find_23 (Eq.refl 24) 2 rfl ?_
      refine J_iconst (v := (-1 : Int32)) dc_Po_find_24 (Eq.refl 25) rfl ?_
      refine J_icmp_eq dc_Po_find_25 (Eq.refl 28) rfl (fun hc => ?_) (fun hc => ?_)
      · have h := h.1 hc
        refine J_iload_n dc_Po_find_58 (Eq.refl 59) 2 rfl ?_
        exact J_iret dc_Po_find_59 rfl h
      · have h := h.2 hc
        refine J_aload_n dc_Po_find_28 (Eq.refl 29) 0 rfl ?_
        refine J_iload_n dc_Po_find_29 (Eq.refl 30) 3 rfl ?_
        refine J_iconst (v := (1 : Int32)) dc_Po_find_30 (Eq.refl 31) rfl ?_
        refine J_iadd dc_Po_find_31 (Eq.refl 32) ?_
        refine J_callVI (As := [.int (x3 + (1 : Int32))]) (st := []) dc_Po_find_32 (Eq.refl 35) lk_Po_42 mi_Po_endOfToken rfl (Nat.le_of_ble_eq_true rfl) rfl rfl (Nat.le_of_ble_eq_true rfl) rfl (Nat.le_of_ble_eq_true rfl) (CI.mono h (fun r2 σ1 h => ?_))
        refine J_istore (L' := [(5, .int r2), (0, pv E 69), (1, pv E o1), (2, .int x2), (3, .int x3), (4, .int x4)]) dc_Po_find_35 (Eq.refl 37) (Nat.le_of_ble_eq_true rfl) rfl ?_
        refine J_aload_n dc_Po_find_37 (Eq.refl 38) 1 rfl ?_
        refine J_aload_n dc_Po_find_38 (Eq.refl 39) 2 rfl ?_
        refine J_iload_n dc_Po_find_39 (Eq.refl 40) 3 rfl ?_
        refine J_iload_n dc_Po_find_40 (Eq.refl 41) 4 rfl ?_
        refine J_iconst (v := (1 : Int32)) dc_Po_find_41 (Eq.refl 42) rfl ?_
        refine J_iadd dc_Po_find_42 (Eq.refl 43) ?_
        refine J_iload dc_Po_find_43 (Eq.refl 45) 0 rfl ?_
        refine J_callVI (As := [pv E o1, .int x2, .int (x3 + (1 : Int32)), .int r2]) (st := []) dc_Po_find_45 (Eq.refl 48) lk_Po_46 mi_Po_findPart rfl (Nat.le_of_ble_eq_true rfl) rfl rfl (Nat.le_of_ble_eq_true rfl) rfl (Nat.le_of_ble_eq_true rfl) (CI.mono h (fun r4 σ3 h => ?_))
        refine J_istore_n (L' := [(2, .int r4), (5, .int r2), (0, pv E 69), (1, pv E o1), (3, .int x3), (4, .int x4)]) dc_Po_find_48 (Eq.refl 49) (Nat.le_of_ble_eq_true rfl) rfl ?_
        refine J_iload dc_Po_find_49 (Eq.refl 51) 1 rfl ?_
        refine J_istore_n (L' := [(3, .int r2), (2, .int r4), (5, .int r2), (0, pv E 69), (1, pv E o1), (4, .int x4)]) dc_Po_find_51 (Eq.refl 52) (Nat.le_of_ble_eq_true rfl) rfl ?_
        refine J_iinc (v := x4 + (1 : Int32)) (L' := [(4, .int (x4 + (1 : Int32))), (3, .int r2), (2, .int r4), (5, .int r2), (0, pv E 69), (1, pv E o1)]) dc_Po_find_52 (Eq.refl 55) 5 rfl rfl (Nat.le_of_ble_eq_true rfl) rfl ?_
        refine J_goto dc_Po_find_55 rfl ?_
        refine J_sub [4, 5, 2, 1, 0] rfl ?_
        exact h
theorem dc_Po_endOfToken_0 : decode m_Po_endOfToken.2.1 0 = .ok (.iload_n 1, 1) := by decide +kernel
theorem dc_Po_endOfToken_1 : decode m_Po_endOfToken.2.1 1 = .ok (.istore_n 2, 1) := by decide +kernel
theorem dc_Po_endOfToken_2 : decode m_Po_endOfToken.2.1 2 = .ok (.iload_n 2, 1) := by decide +kernel
theorem dc_Po_endOfToken_3 : decode m_Po_endOfToken.2.1 3 = .ok (.aload_n 0, 1) := by decide +kernel
theorem dc_Po_endOfToken_4 : decode m_Po_endOfToken.2.1 4 = .ok (.getfield 21, 3) := by decide +kernel
theorem dc_Po_endOfToken_7 : decode m_Po_endOfToken.2.1 7 = .ok (.if_icmp .ge 20, 3) := by decide +kernel
theorem dc_Po_endOfToken_10 : decode m_Po_endOfToken.2.1 10 = .ok (.aload_n 0, 1) := by decide +kernel
theorem dc_Po_endOfToken_11 : decode m_Po_endOfToken.2.1 11 = .ok (.getfield 9, 3) := by decide +kernel
theorem dc_Po_endOfToken_14 : decode m_Po_endOfToken.2.1 14 = .ok (.iload_n 2, 1) := by decide +kernel
theorem dc_Po_endOfToken_15 : decode m_Po_endOfToken.2.1 15 = .ok (.iaload, 1) := by decide +kernel
theorem dc_Po_endOfToken_16 : decode m_Po_endOfToken.2.1 16 = .ok (.bipush (-2), 2) := by decide +kernel
theorem dc_Po_endOfToken_18 : decode m_Po_endOfToken.2.1 18 = .ok (.if_icmp .eq 9, 3) := by decide +kernel
theorem dc_Po_endOfToken_21 : decode m_Po_endOfToken.2.1 21 = .ok (.iinc 2 1, 3) := by decide +kernel
theorem dc_Po_endOfToken_24 : decode m_Po_endOfToken.2.1 24 = .ok (.goto (-22), 3) := by decide +kernel
theorem dc_Po_endOfToken_27 : decode m_Po_endOfToken.2.1 27 = .ok (.iload_n 2, 1) := by decide +kernel
theorem dc_Po_endOfToken_28 : decode m_Po_endOfToken.2.1 28 = .ok (.ireturn, 1) := by decide +kernel
theorem b_Po_endOfToken_0 {E : En_t} {d : Nat} {σ : S_t} {Q : Option Value → S_t → Prop} {x1 : Int32}
    (h : JE E d m_Po_endOfToken 2 [(0, pv E 69), (2, .int x1)] [] σ Q) :
    JE E d m_Po_endOfToken 0 [(0, pv E 69), (1, .int x1)] [] σ Q := by
  refine J_iload_n dc_Po_endOfToken_0 (Eq.refl 1) 1 rfl ?_
  refine J_istore_n (L' := [(2, .int x1), (0, pv E 69), (1, .int x1)]) dc_Po_endOfToken_1 (Eq.refl 2) (Nat.le_of_ble_eq_true rfl) rfl ?_
  refine J_sub [1, 0] rfl ?_
  exact h
theorem b_Po_endOfToken_2 {E : En_t} {d : Nat} {σ : S_t} {Q : Option Value → S_t → Prop} {x2 : Int32}
    (h : ((gI σ 69 1) ≤ x2 → Q (some (.int x2)) σ) ∧ (¬ (gI σ 69 1) ≤ x2 → vp_in x2 2000 ∧ (((gI σ 70 x2.toNatClampNeg) = (-2 : Int32) → Q (some (.int x2)) σ) ∧ (¬ (gI σ 70 x2.toNatClampNeg) = (-2 : Int32) → JE E d m_Po_endOfToken 2 [(0, pv E 69), (2, .int (x2 + (1 : Int32)))] [] σ Q)))) :
    JE E d m_Po_endOfToken 2 [(0, pv E 69), (2, .int x2)] [] σ Q := by
  refine J_iload_n dc_Po_endOfToken_2 (Eq.refl 3) 1 rfl ?_
  refine J_aload_n dc_Po_endOfToken_3 (Eq.refl 4) 0 rfl ?_
  refine J_getI dc_Po_endOfToken_4 (Eq.refl 7) fl_Po_21 (Nat.le_of_ble_eq_true rfl) rfl (Or.inl rfl) ?_
  refine J_icmp_ge dc_Po_endOfToken_7 (Eq.refl 10) rfl (fun hc => ?_) (fun hc => ?_)
  · have h := h.1 hc
    refine J_iload_n dc_Po_endOfToken_27 (Eq.refl 28) 1 rfl ?_
    exact J_iret dc_Po_endOfToken_28 rfl h
  · have h := h.2 hc
    refine J_aload_n dc_Po_endOfToken_10 (Eq.refl 11) 0 rfl ?_
    refine J_getF (y := 70) dc_Po_endOfToken_11 (Eq.refl 14) fl_Po_9 (Nat.le_of_ble_eq_true rfl) rfl (Or.inl rfl) rfl ?_
    refine J_iload_n dc_Po_endOfToken_14 (Eq.refl 15) 1 rfl ?_
    obtain ⟨hg, h⟩ := h
    refine J_iald dc_Po_endOfToken_15 (Eq.refl 16) rfl rfl hg ?_
    refine J_bipush (v := (-2 : Int32)) dc_Po_endOfToken_16 (Eq.refl 18) rfl ?_
    refine J_icmp_eq dc_Po_endOfToken_18 (Eq.refl 21) rfl (fun hc => ?_) (fun hc => ?_)
    · have h := h.1 hc
      refine J_iload_n dc_Po_endOfToken_27 (Eq.refl 28) 1 rfl ?_
      exact J_iret dc_Po_endOfToken_28 rfl h
    · have h := h.2 hc
      refine J_iinc (v := x2 + (1 : Int32)) (L' := [(2, .int (x2 + (1 : Int32))), (0, pv E 69)]) dc_Po_endOfToken_21 (Eq.refl 24) 1 rfl rfl (Nat.le_of_ble_eq_true rfl) rfl ?_
      refine J_goto dc_Po_endOfToken_24 rfl ?_
      refine J_sub [1, 0] rfl ?_
      exact h
theorem dc_Po_findPart_0 : decode m_Po_findPart.2.1 0 = .ok (.aload_n 1, 1) := by decide +kernel
theorem dc_Po_findPart_1 : decode m_Po_findPart.2.1 1 = .ok (.getfield 50, 3) := by decide +kernel
theorem dc_Po_findPart_4 : decode m_Po_findPart.2.1 4 = .ok (.iload_n 2, 1) := by decide +kernel
theorem dc_Po_findPart_5 : decode m_Po_findPart.2.1 5 = .ok (.iaload, 1) := by decide +kernel
theorem dc_Po_findPart_6 : decode m_Po_findPart.2.1 6 = .ok (.bipush 6, 2) := by decide +kernel
theorem dc_Po_findPart_8 : decode m_Po_findPart.2.1 8 = .ok (.if_icmp .ne 7, 3) := by decide +kernel
theorem dc_Po_findPart_11 : decode m_Po_findPart.2.1 11 = .ok (.iconst 1, 1) := by decide +kernel
theorem dc_Po_findPart_12 : decode m_Po_findPart.2.1 12 = .ok (.goto 4, 3) := by decide +kernel
theorem dc_Po_findPart_15 : decode m_Po_findPart.2.1 15 = .ok (.iconst 0, 1) := by decide +kernel
theorem dc_Po_findPart_16 : decode m_Po_findPart.2.1 16 = .ok (.istore 5, 2) := by decide +kernel
theorem dc_Po_findPart_18 : decode m_Po_findPart.2.1 18 = .ok (.iload 5, 2) := by decide +kernel
theorem dc_Po_findPart_20 : decode m_Po_findPart.2.1 20 = .ok (.ifCond .ne 15, 3) := by decide +kernel
theorem dc_Po_findPart_23 : decode m_Po_findPart.2.1 23 = .ok (.aload_n 1, 1) := by decide +kernel
theorem dc_Po_findPart_24 : decode m_Po_findPart.2.1 24 = .ok (.getfield 50, 3) := by decide +kernel
theorem dc_Po_findPart_27 : decode m_Po_findPart.2.1 27 = .ok (.iload_n 2, 1) := by decide +kernel
theorem dc_Po_findPart_28 : decode m_Po_findPart.2.1 28 = .ok (.iaload, 1) := by decide +kernel
theorem dc_Po_findPart_29 : decode m_Po_findPart.2.1 29 = .ok (.iconst 5, 1) := by decide +kernel
theorem dc_Po_findPart_30 : decode m_Po_findPart.2.1 30 = .ok (.if_icmp .eq 5, 3) := by decide +kernel
theorem dc_Po_findPart_33 : decode m_Po_findPart.2.1 33 = .ok (.iconst (-1), 1) := by decide +kernel
theorem dc_Po_findPart_34 : decode m_Po_findPart.2.1 34 = .ok (.ireturn, 1) := by decide +kernel
theorem dc_Po_findPart_35 : decode m_Po_findPart.2.1 35 = .ok (.iload 5, 2) := by decide +kernel
theorem dc_Po_findPart_37 : decode m_Po_findPart.2.1 37 = .ok (.ifCond .eq 7, 3) := by decide +kernel
theorem dc_Po_findPart_40 : decode m_Po_findPart.2.1 40 = .ok (.iconst (-1), 1) := by decide +kernel
theorem dc_Po_findPart_41 : decode m_Po_findPart.2.1 41 = .ok (.goto 10, 3) := by decide +kernel
theorem dc_Po_findPart_44 : decode m_Po_findPart.2.1 44 = .ok (.aload_n 0, 1) := by decide +kernel
theorem dc_Po_findPart_45 : decode m_Po_findPart.2.1 45 = .ok (.iload_n 3, 1) := by decide +kernel
theorem dc_Po_findPart_46 : decode m_Po_findPart.2.1 46 = .ok (.iload 4, 2) := by decide +kernel
theorem dc_Po_findPart_48 : decode m_Po_findPart.2.1 48 = .ok (.invokevirtual 55, 3) := by decide +kernel
theorem dc_Po_findPart_51 : decode m_Po_findPart.2.1 51 = .ok (.istore 6, 2) := by decide +kernel
theorem dc_Po_findPart_53 : decode m_Po_findPart.2.1 53 = .ok (.aload_n 1, 1) := by decide +kernel
theorem dc_Po_findPart_54 : decode m_Po_findPart.2.1 54 = .ok (.getfield 59, 3) := by decide +kernel
theorem dc_Po_findPart_57 : decode m_Po_findPart.2.1 57 = .ok (.iload_n 2, 1) := by decide +kernel
theorem dc_Po_findPart_58 : decode m_Po_findPart.2.1 58 = .ok (.aload_n 1, 1) := by decide +kernel
theorem dc_Po_findPart_59 : decode m_Po_findPart.2.1 59 = .ok (.getfield 60, 3) := by decide +kernel
theorem dc_Po_findPart_62 : decode m_Po_findPart.2.1 62 = .ok (.iload_n 2, 1) := by decide +kernel
theorem dc_Po_findPart_63 : decode m_Po_findPart.2.1 63 = .ok (.iaload, 1) := by decide +kernel
theorem dc_Po_findPart_64 : decode m_Po_findPart.2.1 64 = .ok (.iadd, 1) := by decide +kernel
theorem dc_Po_findPart_65 : decode m_Po_findPart.2.1 65 = .ok (.invokestatic 63, 3) := by decide +kernel
theorem dc_Po_findPart_68 : decode m_Po_findPart.2.1 68 = .ok (.istore 7, 2) := by decide +kernel
theorem dc_Po_findPart_70 : decode m_Po_findPart.2.1 70 = .ok (.iload_n 2, 1) := by decide +kernel
theorem dc_Po_findPart_71 : decode m_Po_findPart.2.1 71 = .ok (.iconst 1, 1) := by decide +kernel
theorem dc_Po_findPart_72 : decode m_Po_findPart.2.1 72 = .ok (.iadd, 1) := by decide +kernel
theorem dc_Po_findPart_73 : decode m_Po_findPart.2.1 73 = .ok (.istore 8, 2) := by decide +kernel
theorem dc_Po_findPart_75 : decode m_Po_findPart.2.1 75 = .ok (.iload 8, 2) := by decide +kernel
theorem dc_Po_findPart_77 : decode m_Po_findPart.2.1 77 = .ok (.iload 7, 2) := by decide +kernel
theorem dc_Po_findPart_79 : decode m_Po_findPart.2.1 79 = .ok (.if_icmp .ge 58, 3) := by decide +kernel
theorem dc_Po_findPart_82 : decode m_Po_findPart.2.1 82 = .ok (.iload 5, 2) := by decide +kernel
theorem dc_Po_findPart_84 : decode m_Po_findPart.2.1 84 = .ok (.ifCond .eq 19, 3) := by decide +kernel
theorem dc_Po_findPart_87 : decode m_Po_findPart.2.1 87 = .ok (.aload_n 0, 1) := by decide +kernel
theorem dc_Po_findPart_88 : decode m_Po_findPart.2.1 88 = .ok (.aload_n 1, 1) := by decide +kernel
theorem dc_Po_findPart_89 : decode m_Po_findPart.2.1 89 = .ok (.iload 8, 2) := by decide +kernel
theorem dc_Po_findPart_91 : decode m_Po_findPart.2.1 91 = .ok (.iload_n 3, 1) := by decide +kernel
theorem dc_Po_findPart_92 : decode m_Po_findPart.2.1 92 = .ok (.iload 4, 2) := by decide +kernel
theorem dc_Po_findPart_94 : decode m_Po_findPart.2.1 94 = .ok (.invokevirtual 68, 3) := by decide +kernel
theorem dc_Po_findPart_97 : decode m_Po_findPart.2.1 97 = .ok (.ifCond .eq 21, 3) := by decide +kernel
theorem dc_Po_findPart_100 : decode m_Po_findPart.2.1 100 = .ok (.goto 15, 3) := by decide +kernel
theorem dc_Po_findPart_103 : decode m_Po_findPart.2.1 103 = .ok (.aload_n 1, 1) := by decide +kernel
theorem dc_Po_findPart_104 : decode m_Po_findPart.2.1 104 = .ok (.getfield 72, 3) := by decide +kernel
theorem dc_Po_findPart_107 : decode m_Po_findPart.2.1 107 = .ok (.iload 8, 2) := by decide +kernel
theorem dc_Po_findPart_109 : decode m_Po_findPart.2.1 109 = .ok (.iaload, 1) := by decide +kernel
theorem dc_Po_findPart_110 : decode m_Po_findPart.2.1 110 = .ok (.iload 6, 2) := by decide +kernel
theorem dc_Po_findPart_112 : decode m_Po_findPart.2.1 112 = .ok (.if_icmp .ne 6, 3) := by decide +kernel
theorem dc_Po_findPart_115 : decode m_Po_findPart.2.1 115 = .ok (.iload 8, 2) := by decide +kernel
theorem dc_Po_findPart_117 : decode m_Po_findPart.2.1 117 = .ok (.ireturn, 1) := by decide +kernel
theorem dc_Po_findPart_118 : decode m_Po_findPart.2.1 118 = .ok (.iload 8, 2) := by decide +kernel
theorem dc_Po_findPart_120 : decode m_Po_findPart.2.1 120 = .ok (.iconst 1, 1) := by decide +kernel
theorem dc_Po_findPart_121 : decode m_Po_findPart.2.1 121 = .ok (.aload_n 1, 1) := by decide +kernel
theorem dc_Po_findPart_122 : decode m_Po_findPart.2.1 122 = .ok (.getfield 60, 3) := by decide +kernel
theorem dc_Po_findPart_125 : decode m_Po_findPart.2.1 125 = .ok (.iload 8, 2) := by decide +kernel
theorem dc_Po_findPart_127 : decode m_Po_findPart.2.1 127 = .ok (.iaload, 1) := by decide +kernel
theorem dc_Po_findPart_128 : decode m_Po_findPart.2.1 128 = .ok (.invokestatic 75, 3) := by decide +kernel
theorem dc_Po_findPart_131 : decode m_Po_findPart.2.1 131 = .ok (.iadd, 1) := by decide +kernel
theorem dc_Po_findPart_132 : decode m_Po_findPart.2.1 132 = .ok (.istore 8, 2) := by decide +kernel
theorem dc_Po_findPart_134 : decode m_Po_findPart.2.1 134 = .ok (.goto (-59), 3) := by decide +kernel
theorem dc_Po_findPart_137 : decode m_Po_findPart.2.1 137 = .ok (.iconst (-1), 1) := by decide +kernel
theorem dc_Po_findPart_138 : decode m_Po_findPart.2.1 138 = .ok (.ireturn, 1) := by decide +kernel
theorem b_Po_findPart_0 {E : En_t} {d : Nat} {σ : S_t} {Q : Option Value → S_t → Prop} {o1 : Nat} {x2 : Int32} {x3 : Int32} {x4 : Int32} (hk_o1 : kindP o1 = 11)
    (h : vp_in x2 500 ∧ ((¬ (gI σ (o1 + 1) x2.toNatClampNeg) = (6 : Int32) → JE E (d + 1) m_Po_findPart 16 [(0, pv E 69), (1, pv E o1), (2, .int x2), (3, .int x3), (4, .int x4)] [.int (0 : Int32)] σ Q) ∧ ((gI σ (o1 + 1) x2.toNatClampNeg) = (6 : Int32) → JE E (d + 1) m_Po_findPart 16 [(0, pv E 69), (1, pv E o1), (2, .int x2), (3, .int x3), (4, .int x4)] [.int (1 : Int32)] σ Q))) :
    JE E (d + 1) m_Po_findPart 0 [(0, pv E 69), (1, pv E o1), (2, .int x2), (3, .int x3), (4, .int x4)] [] σ Q := by
  refine J_aload_n dc_Po_findPart_0 (Eq.refl 1) 1 rfl ?_
  refine J_getF (y := o1 + 1) dc_Po_findPart_1 (Eq.refl 4) fl_Po_50 (Nat.le_of_ble_eq_true rfl) hk_o1 (Or.inl rfl) rfl ?_
  refine J_iload_n dc_Po_findPart_4 (Eq.refl 5) 2 rfl ?_
  obtain ⟨hg, h⟩ := h
  refine J_iald dc_Po_findPart_5 (Eq.refl 6) (ak_Tr_0 hk_o1).1 (ak_Tr_0 hk_o1).2 hg ?_
  refine J_bipush (v := (6 : Int32)) dc_Po_findPart_6 (Eq.refl 8) rfl ?_
  refine J_icmp_ne dc_Po_findPart_8 (Eq.refl 11) rfl (fun hc => ?_) (fun hc => ?_)
  · have h := h.1 hc
    refine J_iconst (v := (0 : Int32)) dc_Po_findPart_15 (Eq.refl 16) rfl ?_
    exact h
  · have h := h.2 hc
    refine J_iconst (v := (1 : Int32)) dc_Po_findPart_11 (Eq.refl 12) rfl ?_
    refine J_goto dc_Po_findPart_12 rfl ?_
    exact h
theorem b_Po_findPart_16 {E : En_t} {d : Nat} {σ : S_t} {Q : Option Value → S_t → Prop} {o1 : Nat} {x2 : Int32} {x3 : Int32} {x4 : Int32} {s0 : Int32} (hk_o1 : kindP o1 = 11)
    (h : (¬ s0 = 0 → JE E (d + 1) m_Po_findPart 35 [(0, pv E 69), (1, pv E o1), (2, .int x2), (3, .int x3), (4, .int x4), (5, .int s0)] [] σ Q) ∧ (s0 = 0 → vp_in x2 500 ∧ (((gI σ (o1 + 1) x2.toNatClampNeg) = (5 : Int32) → JE E (d + 1) m_Po_findPart 35 [(0, pv E 69), (1, pv E o1), (2, .int x2), (3, .int x3), (4, .int x4), (5, .int s0)] [] σ Q) ∧ (¬ (gI σ (o1 + 1) x2.toNatClampNeg) = (5 : Int32) → Q (some (.int (-1 : Int32))) σ)))) :
    JE E (d + 1) m_Po_findPart 16 [(0, pv E 69), (1, pv E o1), (2, .int x2), (3, .int x3), (4, .int x4)] [.int s0] σ Q := by
  refine J_istore (L' := [(5, .int s0), (0, pv E 69), (1, pv E o1), (2, .int x2), (3, .int x3), (4, .int x4)]) dc_Po_findPart_16 (Eq.refl 18) (Nat.le_of_ble_eq_true rfl) rfl ?_
  refine J_iload dc_Po_findPart_18 (Eq.refl 20) 0 rfl ?_
  refine J_if_ne dc_Po_findPart_20 (Eq.refl 23) rfl (fun hc => ?_) (fun hc => ?_)
  · have h := h.1 hc
    refine J_sub [1, 2, 3, 4, 5, 0] rfl ?_
    exact h
  · have h := h.2 hc
    refine J_aload_n dc_Po_findPart_23 (Eq.refl 24) 2 rfl ?_
    refine J_getF (y := o1 + 1) dc_Po_findPart_24 (Eq.refl 27) fl_Po_50 (Nat.le_of_ble_eq_true rfl) hk_o1 (Or.inl rfl) rfl ?_
    refine J_iload_n dc_Po_findPart_27 (Eq.refl 28) 3 rfl ?_
    obtain ⟨hg, h⟩ := h
    refine J_iald dc_Po_findPart_28 (Eq.refl 29) (ak_Tr_0 hk_o1).1 (ak_Tr_0 hk_o1).2 hg ?_
    refine J_iconst (v := (5 : Int32)) dc_Po_findPart_29 (Eq.refl 30) rfl ?_
    refine J_icmp_eq dc_Po_findPart_30 (Eq.refl 33) rfl (fun hc => ?_) (fun hc => ?_)
    · have h := h.1 hc
      refine J_sub [1, 2, 3, 4, 5, 0] rfl ?_
      exact h
    · have h := h.2 hc
      refine J_iconst (v := (-1 : Int32)) dc_Po_findPart_33 (Eq.refl 34) rfl ?_
      exact J_iret dc_Po_findPart_34 rfl h
theorem b_Po_findPart_35 {E : En_t} {d : Nat} {σ : S_t} {Q : Option Value → S_t → Prop} {o1 : Nat} {x2 : Int32} {x3 : Int32} {x4 : Int32} {x5 : Int32} (hk_o1 : kindP o1 = 11)
    (h : (x5 = 0 → CI E d m_Po_index [pv E 69, .int x3, .int x4] σ (fun r2 σ1 => JE E (d + 1) m_Po_findPart 51 [(0, pv E 69), (1, pv E o1), (2, .int x2), (3, .int x3), (4, .int x4), (5, .int x5)] [.int r2] σ1 Q)) ∧ (¬ x5 = 0 → JE E (d + 1) m_Po_findPart 51 [(0, pv E 69), (1, pv E o1), (2, .int x2), (3, .int x3), (4, .int x4), (5, .int x5)] [.int (-1 : Int32)] σ Q)) :
    JE E (d + 1) m_Po_findPart 35 [(0, pv E 69), (1, pv E o1), (2, .int x2), (3, .int x3), (4, .int x4), (5, .int x5)] [] σ Q := by
  refine J_iload dc_Po_findPart_35 (Eq.refl 37) 5 rfl ?_
  refine J_if_eq dc_Po_findPart_37 (Eq.refl 40) rfl (fun hc => ?_) (fun hc => ?_)
  · have h := h.1 hc
    refine J_aload_n dc_Po_findPart_44 (Eq.refl 45) 0 rfl ?_
    refine J_iload_n dc_Po_findPart_45 (Eq.refl 46) 3 rfl ?_
    refine J_iload dc_Po_findPart_46 (Eq.refl 48) 4 rfl ?_
    refine J_callVI (As := [.int x3, .int x4]) (st := []) dc_Po_findPart_48 (Eq.refl 51) lk_Po_55 mi_Po_index rfl (Nat.le_of_ble_eq_true rfl) rfl rfl (Nat.le_of_ble_eq_true rfl) rfl (Nat.le_of_ble_eq_true rfl) (CI.mono h (fun r2 σ1 h => ?_))
    exact h
  · have h := h.2 hc
    refine J_iconst (v := (-1 : Int32)) dc_Po_findPart_40 (Eq.refl 41) rfl ?_
    refine J_goto dc_Po_findPart_41 rfl ?_
    exact h
theorem b_Po_findPart_51 {E : En_t} {d : Nat} {σ : S_t} {Q : Option Value → S_t → Prop} {o1 : Nat} {x2 : Int32} {x3 : Int32} {x4 : Int32} {x5 : Int32} {s0 : Int32} (hk_o1 : kindP o1 = 11)
    (h : vp_in x2 500 ∧ (∀ r1, r1 = mnI (gI σ o1 13) (x2 + (gI σ (o1 + 5) x2.toNatClampNeg)) → (JE E (d + 1) m_Po_findPart 75 [(0, pv E 69), (1, pv E o1), (3, .int x3), (4, .int x4), (5, .int x5), (6, .int s0), (7, .int r1), (8, .int (x2 + (1 : Int32)))] [] σ Q))) :
    JE E (d + 1) m_Po_findPart 51 [(0, pv E 69), (1, pv E o1), (2, .int x2), (3, .int x3), (4, .int x4), (5, .int x5)] [.int s0] σ Q := by
  refine J_istore (L' := [(6, .int s0), (0, pv E 69), (1, pv E o1), (2, .int x2), (3, .int x3), (4, .int x4), (5, .int x5)]) dc_Po_findPart_51 (Eq.refl 53) (Nat.le_of_ble_eq_true rfl) rfl ?_
  refine J_aload_n dc_Po_findPart_53 (Eq.refl 54) 2 rfl ?_
  refine J_getI dc_Po_findPart_54 (Eq.refl 57) fl_Po_59 (Nat.le_of_ble_eq_true rfl) hk_o1 (Or.inl rfl) ?_
  refine J_iload_n dc_Po_findPart_57 (Eq.refl 58) 3 rfl ?_
  refine J_aload_n dc_Po_findPart_58 (Eq.refl 59) 2 rfl ?_
  refine J_getF (y := o1 + 5) dc_Po_findPart_59 (Eq.refl 62) fl_Po_60 (Nat.le_of_ble_eq_true rfl) hk_o1 (Or.inl rfl) rfl ?_
  refine J_iload_n dc_Po_findPart_62 (Eq.refl 63) 3 rfl ?_
  obtain ⟨hg, h⟩ := h
  refine J_iald dc_Po_findPart_63 (Eq.refl 64) (ak_Tr_4 hk_o1).1 (ak_Tr_4 hk_o1).2 hg ?_
  refine J_iadd dc_Po_findPart_64 (Eq.refl 65) ?_
  refine J_mmin dc_Po_findPart_65 (Eq.refl 68) lk_Po_63 (Nat.le_of_ble_eq_true rfl) (fun r1 er1 => ?_)
  have h := h r1 er1
  refine J_istore (L' := [(7, .int r1), (6, .int s0), (0, pv E 69), (1, pv E o1), (2, .int x2), (3, .int x3), (4, .int x4), (5, .int x5)]) dc_Po_findPart_68 (Eq.refl 70) (Nat.le_of_ble_eq_true rfl) rfl ?_
  refine J_iload_n dc_Po_findPart_70 (Eq.refl 71) 4 rfl ?_
  refine J_iconst (v := (1 : Int32)) dc_Po_findPart_71 (Eq.refl 72) rfl ?_
  refine J_iadd dc_Po_findPart_72 (Eq.refl 73) ?_
  refine J_istore (L' := [(8, .int (x2 + (1 : Int32))), (7, .int r1), (6, .int s0), (0, pv E 69), (1, pv E o1), (2, .int x2), (3, .int x3), (4, .int x4), (5, .int x5)]) dc_Po_findPart_73 (Eq.refl 75) (Nat.le_of_ble_eq_true rfl) rfl ?_
  refine J_sub [3, 4, 6, 7, 8, 2, 1, 0] rfl ?_
  exact h
theorem b_Po_findPart_75 {E : En_t} {d : Nat} {σ : S_t} {Q : Option Value → S_t → Prop} {o1 : Nat} {x3 : Int32} {x4 : Int32} {x5 : Int32} {x6 : Int32} {x7 : Int32} {x8 : Int32} (hk_o1 : kindP o1 = 11)
    (h : (x7 ≤ x8 → Q (some (.int (-1 : Int32))) σ) ∧ (¬ x7 ≤ x8 → (x5 = 0 → vp_in x8 500 ∧ ((¬ (gI σ (o1 + 4) x8.toNatClampNeg) = x6 → JE E (d + 1) m_Po_findPart 118 [(0, pv E 69), (1, pv E o1), (3, .int x3), (4, .int x4), (5, .int x5), (6, .int x6), (7, .int x7), (8, .int x8)] [] σ Q) ∧ ((gI σ (o1 + 4) x8.toNatClampNeg) = x6 → Q (some (.int x8)) σ))) ∧ (¬ x5 = 0 → CI E d m_Po_isName [pv E 69, pv E o1, .int x8, .int x3, .int x4] σ (fun r2 σ1 => (r2 = 0 → JE E (d + 1) m_Po_findPart 118 [(0, pv E 69), (1, pv E o1), (3, .int x3), (4, .int x4), (5, .int x5), (6, .int x6), (7, .int x7), (8, .int x8)] [] σ1 Q) ∧ (¬ r2 = 0 → Q (some (.int x8)) σ1))))) :
    JE E (d + 1) m_Po_findPart 75 [(0, pv E 69), (1, pv E o1), (3, .int x3), (4, .int x4), (5, .int x5), (6, .int x6), (7, .int x7), (8, .int x8)] [] σ Q := by
  refine J_iload dc_Po_findPart_75 (Eq.refl 77) 7 rfl ?_
  refine J_iload dc_Po_findPart_77 (Eq.refl 79) 6 rfl ?_
  refine J_icmp_ge dc_Po_findPart_79 (Eq.refl 82) rfl (fun hc => ?_) (fun hc => ?_)
  · have h := h.1 hc
    refine J_iconst (v := (-1 : Int32)) dc_Po_findPart_137 (Eq.refl 138) rfl ?_
    exact J_iret dc_Po_findPart_138 rfl h
  · have h := h.2 hc
    refine J_iload dc_Po_findPart_82 (Eq.refl 84) 4 rfl ?_
    refine J_if_eq dc_Po_findPart_84 (Eq.refl 87) rfl (fun hc => ?_) (fun hc => ?_)
    · have h := h.1 hc
      refine J_aload_n dc_Po_findPart_103 (Eq.refl 104) 1 rfl ?_
      refine J_getF (y := o1 + 4) dc_Po_findPart_104 (Eq.refl 107) fl_Po_72 (Nat.le_of_ble_eq_true rfl) hk_o1 (Or.inl rfl) rfl ?_
      refine J_iload dc_Po_findPart_107 (Eq.refl 109) 7 rfl ?_
      obtain ⟨hg, h⟩ := h
      refine J_iald dc_Po_findPart_109 (Eq.refl 110) (ak_Tr_3 hk_o1).1 (ak_Tr_3 hk_o1).2 hg ?_
      refine J_iload dc_Po_findPart_110 (Eq.refl 112) 5 rfl ?_
      refine J_icmp_ne dc_Po_findPart_112 (Eq.refl 115) rfl (fun hc => ?_) (fun hc => ?_)
      · have h := h.1 hc
        exact h
      · have h := h.2 hc
        refine J_iload dc_Po_findPart_115 (Eq.refl 117) 7 rfl ?_
        exact J_iret dc_Po_findPart_117 rfl h
    · have h := h.2 hc
      refine J_aload_n dc_Po_findPart_87 (Eq.refl 88) 0 rfl ?_
      refine J_aload_n dc_Po_findPart_88 (Eq.refl 89) 1 rfl ?_
      refine J_iload dc_Po_findPart_89 (Eq.refl 91) 7 rfl ?_
      refine J_iload_n dc_Po_findPart_91 (Eq.refl 92) 2 rfl ?_
      refine J_iload dc_Po_findPart_92 (Eq.refl 94) 3 rfl ?_
      refine J_callVI (As := [pv E o1, .int x8, .int x3, .int x4]) (st := []) dc_Po_findPart_94 (Eq.refl 97) lk_Po_68 mi_Po_isName rfl (Nat.le_of_ble_eq_true rfl) rfl rfl (Nat.le_of_ble_eq_true rfl) rfl (Nat.le_of_ble_eq_true rfl) (CI.mono h (fun r2 σ1 h => ?_))
      refine J_if_eq dc_Po_findPart_97 (Eq.refl 100) rfl (fun hc => ?_) (fun hc => ?_)
      · have h := h.1 hc
        exact h
      · have h := h.2 hc
        refine J_goto dc_Po_findPart_100 rfl ?_
        refine J_iload dc_Po_findPart_115 (Eq.refl 117) 7 rfl ?_
        exact J_iret dc_Po_findPart_117 rfl h
theorem b_Po_findPart_118 {E : En_t} {d : Nat} {σ : S_t} {Q : Option Value → S_t → Prop} {o1 : Nat} {x3 : Int32} {x4 : Int32} {x5 : Int32} {x6 : Int32} {x7 : Int32} {x8 : Int32} (hk_o1 : kindP o1 = 11)
    (h : vp_in x8 500 ∧ (∀ r1, r1 = mxI (1 : Int32) (gI σ (o1 + 5) x8.toNatClampNeg) → (JE E (d + 1) m_Po_findPart 75 [(0, pv E 69), (1, pv E o1), (3, .int x3), (4, .int x4), (5, .int x5), (6, .int x6), (7, .int x7), (8, .int (x8 + r1))] [] σ Q))) :
    JE E (d + 1) m_Po_findPart 118 [(0, pv E 69), (1, pv E o1), (3, .int x3), (4, .int x4), (5, .int x5), (6, .int x6), (7, .int x7), (8, .int x8)] [] σ Q := by
  refine J_iload dc_Po_findPart_118 (Eq.refl 120) 7 rfl ?_
  refine J_iconst (v := (1 : Int32)) dc_Po_findPart_120 (Eq.refl 121) rfl ?_
  refine J_aload_n dc_Po_findPart_121 (Eq.refl 122) 1 rfl ?_
  refine J_getF (y := o1 + 5) dc_Po_findPart_122 (Eq.refl 125) fl_Po_60 (Nat.le_of_ble_eq_true rfl) hk_o1 (Or.inl rfl) rfl ?_
  refine J_iload dc_Po_findPart_125 (Eq.refl 127) 7 rfl ?_
  obtain ⟨hg, h⟩ := h
  refine J_iald dc_Po_findPart_127 (Eq.refl 128) (ak_Tr_4 hk_o1).1 (ak_Tr_4 hk_o1).2 hg ?_
  refine J_mmax dc_Po_findPart_128 (Eq.refl 131) lk_Po_75 (Nat.le_of_ble_eq_true rfl) (fun r1 er1 => ?_)
  have h := h r1 er1
  refine J_iadd dc_Po_findPart_131 (Eq.refl 132) ?_
  refine J_istore (L' := [(8, .int (x8 + r1)), (0, pv E 69), (1, pv E o1), (3, .int x3), (4, .int x4), (5, .int x5), (6, .int x6), (7, .int x7)]) dc_Po_findPart_132 (Eq.refl 134) (Nat.le_of_ble_eq_true rfl) rfl ?_
  refine J_goto dc_Po_findPart_134 rfl ?_
  refine J_sub [1, 2, 3, 4, 5, 6, 7, 0] rfl ?_
  exact h
theorem dc_Po_index_0 : decode m_Po_index.2.1 0 = .ok (.iload_n 1, 1) := by decide +kernel
theorem dc_Po_index_1 : decode m_Po_index.2.1 1 = .ok (.iload_n 2, 1) := by decide +kernel
theorem dc_Po_index_2 : decode m_Po_index.2.1 2 = .ok (.if_icmp .ge 18, 3) := by decide +kernel
theorem dc_Po_index_5 : decode m_Po_index.2.1 5 = .ok (.aload_n 0, 1) := by decide +kernel
theorem dc_Po_index_6 : decode m_Po_index.2.1 6 = .ok (.getfield 9, 3) := by decide +kernel
theorem dc_Po_index_9 : decode m_Po_index.2.1 9 = .ok (.iload_n 1, 1) := by decide +kernel
theorem dc_Po_index_10 : decode m_Po_index.2.1 10 = .ok (.iaload, 1) := by decide +kernel
theorem dc_Po_index_11 : decode m_Po_index.2.1 11 = .ok (.bipush 48, 2) := by decide +kernel
theorem dc_Po_index_13 : decode m_Po_index.2.1 13 = .ok (.if_icmp .ne 7, 3) := by decide +kernel
theorem dc_Po_index_16 : decode m_Po_index.2.1 16 = .ok (.iconst 1, 1) := by decide +kernel
theorem dc_Po_index_17 : decode m_Po_index.2.1 17 = .ok (.goto 4, 3) := by decide +kernel
theorem dc_Po_index_20 : decode m_Po_index.2.1 20 = .ok (.iconst 0, 1) := by decide +kernel
theorem dc_Po_index_21 : decode m_Po_index.2.1 21 = .ok (.istore_n 3, 1) := by decide +kernel
theorem dc_Po_index_22 : decode m_Po_index.2.1 22 = .ok (.iload_n 1, 1) := by decide +kernel
theorem dc_Po_index_23 : decode m_Po_index.2.1 23 = .ok (.iload_n 2, 1) := by decide +kernel
theorem dc_Po_index_24 : decode m_Po_index.2.1 24 = .ok (.if_icmp .ge 14, 3) := by decide +kernel
theorem dc_Po_index_27 : decode m_Po_index.2.1 27 = .ok (.iload_n 3, 1) := by decide +kernel
theorem dc_Po_index_28 : decode m_Po_index.2.1 28 = .ok (.ifCond .eq 12, 3) := by decide +kernel
theorem dc_Po_index_31 : decode m_Po_index.2.1 31 = .ok (.iload_n 2, 1) := by decide +kernel
theorem dc_Po_index_32 : decode m_Po_index.2.1 32 = .ok (.iload_n 1, 1) := by decide +kernel
theorem dc_Po_index_33 : decode m_Po_index.2.1 33 = .ok (.isub, 1) := by decide +kernel
theorem dc_Po_index_34 : decode m_Po_index.2.1 34 = .ok (.iconst 1, 1) := by decide +kernel
theorem dc_Po_index_35 : decode m_Po_index.2.1 35 = .ok (.if_icmp .le 5, 3) := by decide +kernel
theorem dc_Po_index_38 : decode m_Po_index.2.1 38 = .ok (.iconst (-1), 1) := by decide +kernel
theorem dc_Po_index_39 : decode m_Po_index.2.1 39 = .ok (.ireturn, 1) := by decide +kernel
theorem dc_Po_index_40 : decode m_Po_index.2.1 40 = .ok (.iconst 0, 1) := by decide +kernel
theorem dc_Po_index_41 : decode m_Po_index.2.1 41 = .ok (.istore 4, 2) := by decide +kernel
theorem dc_Po_index_43 : decode m_Po_index.2.1 43 = .ok (.iload_n 1, 1) := by decide +kernel
theorem dc_Po_index_44 : decode m_Po_index.2.1 44 = .ok (.istore 5, 2) := by decide +kernel
theorem dc_Po_index_46 : decode m_Po_index.2.1 46 = .ok (.iload 5, 2) := by decide +kernel
theorem dc_Po_index_48 : decode m_Po_index.2.1 48 = .ok (.iload_n 2, 1) := by decide +kernel
theorem dc_Po_index_49 : decode m_Po_index.2.1 49 = .ok (.if_icmp .ge 59, 3) := by decide +kernel
theorem dc_Po_index_52 : decode m_Po_index.2.1 52 = .ok (.aload_n 0, 1) := by decide +kernel
theorem dc_Po_index_53 : decode m_Po_index.2.1 53 = .ok (.getfield 9, 3) := by decide +kernel
theorem dc_Po_index_56 : decode m_Po_index.2.1 56 = .ok (.iload 5, 2) := by decide +kernel
theorem dc_Po_index_58 : decode m_Po_index.2.1 58 = .ok (.iaload, 1) := by decide +kernel
theorem dc_Po_index_59 : decode m_Po_index.2.1 59 = .ok (.bipush 48, 2) := by decide +kernel
theorem dc_Po_index_61 : decode m_Po_index.2.1 61 = .ok (.if_icmp .lt 15, 3) := by decide +kernel
theorem dc_Po_index_64 : decode m_Po_index.2.1 64 = .ok (.aload_n 0, 1) := by decide +kernel
theorem dc_Po_index_65 : decode m_Po_index.2.1 65 = .ok (.getfield 9, 3) := by decide +kernel
theorem dc_Po_index_68 : decode m_Po_index.2.1 68 = .ok (.iload 5, 2) := by decide +kernel
theorem dc_Po_index_70 : decode m_Po_index.2.1 70 = .ok (.iaload, 1) := by decide +kernel
theorem dc_Po_index_71 : decode m_Po_index.2.1 71 = .ok (.bipush 57, 2) := by decide +kernel
theorem dc_Po_index_73 : decode m_Po_index.2.1 73 = .ok (.if_icmp .le 5, 3) := by decide +kernel
theorem dc_Po_index_76 : decode m_Po_index.2.1 76 = .ok (.iconst (-1), 1) := by decide +kernel
theorem dc_Po_index_77 : decode m_Po_index.2.1 77 = .ok (.ireturn, 1) := by decide +kernel
theorem dc_Po_index_78 : decode m_Po_index.2.1 78 = .ok (.sipush 500, 3) := by decide +kernel
theorem dc_Po_index_81 : decode m_Po_index.2.1 81 = .ok (.bipush 10, 2) := by decide +kernel
theorem dc_Po_index_83 : decode m_Po_index.2.1 83 = .ok (.iload 4, 2) := by decide +kernel
theorem dc_Po_index_85 : decode m_Po_index.2.1 85 = .ok (.imul, 1) := by decide +kernel
theorem dc_Po_index_86 : decode m_Po_index.2.1 86 = .ok (.aload_n 0, 1) := by decide +kernel
theorem dc_Po_index_87 : decode m_Po_index.2.1 87 = .ok (.getfield 9, 3) := by decide +kernel
theorem dc_Po_index_90 : decode m_Po_index.2.1 90 = .ok (.iload 5, 2) := by decide +kernel
theorem dc_Po_index_92 : decode m_Po_index.2.1 92 = .ok (.iaload, 1) := by decide +kernel
theorem dc_Po_index_93 : decode m_Po_index.2.1 93 = .ok (.iadd, 1) := by decide +kernel
theorem dc_Po_index_94 : decode m_Po_index.2.1 94 = .ok (.bipush 48, 2) := by decide +kernel
theorem dc_Po_index_96 : decode m_Po_index.2.1 96 = .ok (.isub, 1) := by decide +kernel
theorem dc_Po_index_97 : decode m_Po_index.2.1 97 = .ok (.invokestatic 63, 3) := by decide +kernel
theorem dc_Po_index_100 : decode m_Po_index.2.1 100 = .ok (.istore 4, 2) := by decide +kernel
theorem dc_Po_index_102 : decode m_Po_index.2.1 102 = .ok (.iinc 5 1, 3) := by decide +kernel
theorem dc_Po_index_105 : decode m_Po_index.2.1 105 = .ok (.goto (-59), 3) := by decide +kernel
theorem dc_Po_index_108 : decode m_Po_index.2.1 108 = .ok (.iload 4, 2) := by decide +kernel
theorem dc_Po_index_110 : decode m_Po_index.2.1 110 = .ok (.ireturn, 1) := by decide +kernel
theorem b_Po_index_0 {E : En_t} {d : Nat} {σ : S_t} {Q : Option Value → S_t → Prop} {x1 : Int32} {x2 : Int32}
    (h : (x2 ≤ x1 → JE E (d + 1) m_Po_index 20 [(0, pv E 69), (1, .int x1), (2, .int x2)] [] σ Q) ∧ (¬ x2 ≤ x1 → vp_in x1 2000 ∧ ((¬ (gI σ 70 x1.toNatClampNeg) = (48 : Int32) → JE E (d + 1) m_Po_index 20 [(0, pv E 69), (1, .int x1), (2, .int x2)] [] σ Q) ∧ ((gI σ 70 x1.toNatClampNeg) = (48 : Int32) → JE E (d + 1) m_Po_index 21 [(0, pv E 69), (1, .int x1), (2, .int x2)] [.int (1 : Int32)] σ Q)))) :
    JE E (d + 1) m_Po_index 0 [(0, pv E 69), (1, .int x1), (2, .int x2)] [] σ Q := by
  refine J_iload_n dc_Po_index_0 (Eq.refl 1) 1 rfl ?_
  refine J_iload_n dc_Po_index_1 (Eq.refl 2) 2 rfl ?_
  refine J_icmp_ge dc_Po_index_2 (Eq.refl 5) rfl (fun hc => ?_) (fun hc => ?_)
  · have h := h.1 hc
    exact h
  · have h := h.2 hc
    refine J_aload_n dc_Po_index_5 (Eq.refl 6) 0 rfl ?_
    refine J_getF (y := 70) dc_Po_index_6 (Eq.refl 9) fl_Po_9 (Nat.le_of_ble_eq_true rfl) rfl (Or.inl rfl) rfl ?_
    refine J_iload_n dc_Po_index_9 (Eq.refl 10) 1 rfl ?_
    obtain ⟨hg, h⟩ := h
    refine J_iald dc_Po_index_10 (Eq.refl 11) rfl rfl hg ?_
    refine J_bipush (v := (48 : Int32)) dc_Po_index_11 (Eq.refl 13) rfl ?_
    refine J_icmp_ne dc_Po_index_13 (Eq.refl 16) rfl (fun hc => ?_) (fun hc => ?_)
    · have h := h.1 hc
      exact h
    · have h := h.2 hc
      refine J_iconst (v := (1 : Int32)) dc_Po_index_16 (Eq.refl 17) rfl ?_
      refine J_goto dc_Po_index_17 rfl ?_
      exact h
theorem b_Po_index_20 {E : En_t} {d : Nat} {σ : S_t} {Q : Option Value → S_t → Prop} {x1 : Int32} {x2 : Int32}
    (h : JE E (d + 1) m_Po_index 21 [(0, pv E 69), (1, .int x1), (2, .int x2)] [.int (0 : Int32)] σ Q) :
    JE E (d + 1) m_Po_index 20 [(0, pv E 69), (1, .int x1), (2, .int x2)] [] σ Q := by
  refine J_iconst (v := (0 : Int32)) dc_Po_index_20 (Eq.refl 21) rfl ?_
  exact h
theorem b_Po_index_21 {E : En_t} {d : Nat} {σ : S_t} {Q : Option Value → S_t → Prop} {x1 : Int32} {x2 : Int32} {s0 : Int32}
    (h : (x2 ≤ x1 → Q (some (.int (-1 : Int32))) σ) ∧ (¬ x2 ≤ x1 → (s0 = 0 → JE E (d + 1) m_Po_index 40 [(0, pv E 69), (1, .int x1), (2, .int x2)] [] σ Q) ∧ (¬ s0 = 0 → ((x2 - x1) ≤ (1 : Int32) → JE E (d + 1) m_Po_index 40 [(0, pv E 69), (1, .int x1), (2, .int x2)] [] σ Q) ∧ (¬ (x2 - x1) ≤ (1 : Int32) → Q (some (.int (-1 : Int32))) σ)))) :
    JE E (d + 1) m_Po_index 21 [(0, pv E 69), (1, .int x1), (2, .int x2)] [.int s0] σ Q := by
  refine J_istore_n (L' := [(3, .int s0), (0, pv E 69), (1, .int x1), (2, .int x2)]) dc_Po_index_21 (Eq.refl 22) (Nat.le_of_ble_eq_true rfl) rfl ?_
  refine J_iload_n dc_Po_index_22 (Eq.refl 23) 2 rfl ?_
  refine J_iload_n dc_Po_index_23 (Eq.refl 24) 3 rfl ?_
  refine J_icmp_ge dc_Po_index_24 (Eq.refl 27) rfl (fun hc => ?_) (fun hc => ?_)
  · have h := h.1 hc
    refine J_iconst (v := (-1 : Int32)) dc_Po_index_38 (Eq.refl 39) rfl ?_
    exact J_iret dc_Po_index_39 rfl h
  · have h := h.2 hc
    refine J_iload_n dc_Po_index_27 (Eq.refl 28) 0 rfl ?_
    refine J_if_eq dc_Po_index_28 (Eq.refl 31) rfl (fun hc => ?_) (fun hc => ?_)
    · have h := h.1 hc
      refine J_sub [1, 2, 3] rfl ?_
      exact h
    · have h := h.2 hc
      refine J_iload_n dc_Po_index_31 (Eq.refl 32) 3 rfl ?_
      refine J_iload_n dc_Po_index_32 (Eq.refl 33) 2 rfl ?_
      refine J_isub dc_Po_index_33 (Eq.refl 34) ?_
      refine J_iconst (v := (1 : Int32)) dc_Po_index_34 (Eq.refl 35) rfl ?_
      refine J_icmp_le dc_Po_index_35 (Eq.refl 38) rfl (fun hc => ?_) (fun hc => ?_)
      · have h := h.1 hc
        refine J_sub [1, 2, 3] rfl ?_
        exact h
      · have h := h.2 hc
        refine J_iconst (v := (-1 : Int32)) dc_Po_index_38 (Eq.refl 39) rfl ?_
        exact J_iret dc_Po_index_39 rfl h
theorem b_Po_index_40 {E : En_t} {d : Nat} {σ : S_t} {Q : Option Value → S_t → Prop} {x1 : Int32} {x2 : Int32}
    (h : JE E (d + 1) m_Po_index 46 [(0, pv E 69), (2, .int x2), (4, .int (0 : Int32)), (5, .int x1)] [] σ Q) :
    JE E (d + 1) m_Po_index 40 [(0, pv E 69), (1, .int x1), (2, .int x2)] [] σ Q := by
  refine J_iconst (v := (0 : Int32)) dc_Po_index_40 (Eq.refl 41) rfl ?_
  refine J_istore (L' := [(4, .int (0 : Int32)), (0, pv E 69), (1, .int x1), (2, .int x2)]) dc_Po_index_41 (Eq.refl 43) (Nat.le_of_ble_eq_true rfl) rfl ?_
  refine J_iload_n dc_Po_index_43 (Eq.refl 44) 2 rfl ?_
  refine J_istore (L' := [(5, .int x1), (4, .int (0 : Int32)), (0, pv E 69), (1, .int x1), (2, .int x2)]) dc_Po_index_44 (Eq.refl 46) (Nat.le_of_ble_eq_true rfl) rfl ?_
  refine J_sub [2, 4, 1, 0] rfl ?_
  exact h
theorem b_Po_index_46 {E : En_t} {d : Nat} {σ : S_t} {Q : Option Value → S_t → Prop} {x2 : Int32} {x4 : Int32} {x5 : Int32}
    (h : (x2 ≤ x5 → Q (some (.int x4)) σ) ∧ (¬ x2 ≤ x5 → vp_in x5 2000 ∧ (((gI σ 70 x5.toNatClampNeg) < (48 : Int32) → Q (some (.int (-1 : Int32))) σ) ∧ (¬ (gI σ 70 x5.toNatClampNeg) < (48 : Int32) → vp_in x5 2000 ∧ (((gI σ 70 x5.toNatClampNeg) ≤ (57 : Int32) → vp_in x5 2000 ∧ (∀ r1, r1 = mnI (500 : Int32) ((((10 : Int32) * x4) + (gI σ 70 x5.toNatClampNeg)) - (48 : Int32)) → (JE E (d + 1) m_Po_index 46 [(0, pv E 69), (2, .int x2), (4, .int r1), (5, .int (x5 + (1 : Int32)))] [] σ Q))) ∧ (¬ (gI σ 70 x5.toNatClampNeg) ≤ (57 : Int32) → Q (some (.int (-1 : Int32))) σ)))))) :
    JE E (d + 1) m_Po_index 46 [(0, pv E 69), (2, .int x2), (4, .int x4), (5, .int x5)] [] σ Q := by
  refine J_iload dc_Po_index_46 (Eq.refl 48) 3 rfl ?_
  refine J_iload_n dc_Po_index_48 (Eq.refl 49) 1 rfl ?_
  refine J_icmp_ge dc_Po_index_49 (Eq.refl 52) rfl (fun hc => ?_) (fun hc => ?_)
  · have h := h.1 hc
    refine J_iload dc_Po_index_108 (Eq.refl 110) 2 rfl ?_
    exact J_iret dc_Po_index_110 rfl h
  · have h := h.2 hc
    refine J_aload_n dc_Po_index_52 (Eq.refl 53) 0 rfl ?_
    refine J_getF (y := 70) dc_Po_index_53 (Eq.refl 56) fl_Po_9 (Nat.le_of_ble_eq_true rfl) rfl (Or.inl rfl) rfl ?_
    refine J_iload dc_Po_index_56 (Eq.refl 58) 3 rfl ?_
    obtain ⟨hg, h⟩ := h
    refine J_iald dc_Po_index_58 (Eq.refl 59) rfl rfl hg ?_
    refine J_bipush (v := (48 : Int32)) dc_Po_index_59 (Eq.refl 61) rfl ?_
    refine J_icmp_lt dc_Po_index_61 (Eq.refl 64) rfl (fun hc => ?_) (fun hc => ?_)
    · have h := h.1 hc
      refine J_iconst (v := (-1 : Int32)) dc_Po_index_76 (Eq.refl 77) rfl ?_
      exact J_iret dc_Po_index_77 rfl h
    · have h := h.2 hc
      refine J_aload_n dc_Po_index_64 (Eq.refl 65) 0 rfl ?_
      refine J_getF (y := 70) dc_Po_index_65 (Eq.refl 68) fl_Po_9 (Nat.le_of_ble_eq_true rfl) rfl (Or.inl rfl) rfl ?_
      refine J_iload dc_Po_index_68 (Eq.refl 70) 3 rfl ?_
      obtain ⟨hg, h⟩ := h
      refine J_iald dc_Po_index_70 (Eq.refl 71) rfl rfl hg ?_
      refine J_bipush (v := (57 : Int32)) dc_Po_index_71 (Eq.refl 73) rfl ?_
      refine J_icmp_le dc_Po_index_73 (Eq.refl 76) rfl (fun hc => ?_) (fun hc => ?_)
      · have h := h.1 hc
        refine J_sipush (v := (500 : Int32)) dc_Po_index_78 (Eq.refl 81) rfl ?_
        refine J_bipush (v := (10 : Int32)) dc_Po_index_81 (Eq.refl 83) rfl ?_
        refine J_iload dc_Po_index_83 (Eq.refl 85) 2 rfl ?_
        refine J_imul dc_Po_index_85 (Eq.refl 86) ?_
        refine J_aload_n dc_Po_index_86 (Eq.refl 87) 0 rfl ?_
        refine J_getF (y := 70) dc_Po_index_87 (Eq.refl 90) fl_Po_9 (Nat.le_of_ble_eq_true rfl) rfl (Or.inl rfl) rfl ?_
        refine J_iload dc_Po_index_90 (Eq.refl 92) 3 rfl ?_
        obtain ⟨hg, h⟩ := h
        refine J_iald dc_Po_index_92 (Eq.refl 93) rfl rfl hg ?_
        refine J_iadd dc_Po_index_93 (Eq.refl 94) ?_
        refine J_bipush (v := (48 : Int32)) dc_Po_index_94 (Eq.refl 96) rfl ?_
        refine J_isub dc_Po_index_96 (Eq.refl 97) ?_
        refine J_mmin dc_Po_index_97 (Eq.refl 100) lk_Po_63 (Nat.le_of_ble_eq_true rfl) (fun r1 er1 => ?_)
        have h := h r1 er1
        refine J_istore (L' := [(4, .int r1), (0, pv E 69), (2, .int x2), (5, .int x5)]) dc_Po_index_100 (Eq.refl 102) (Nat.le_of_ble_eq_true rfl) rfl ?_
        refine J_iinc (v := x5 + (1 : Int32)) (L' := [(5, .int (x5 + (1 : Int32))), (4, .int r1), (0, pv E 69), (2, .int x2)]) dc_Po_index_102 (Eq.refl 105) 3 rfl rfl (Nat.le_of_ble_eq_true rfl) rfl ?_
        refine J_goto dc_Po_index_105 rfl ?_
        refine J_sub [2, 3, 1, 0] rfl ?_
        exact h
      · have h := h.2 hc
        refine J_iconst (v := (-1 : Int32)) dc_Po_index_76 (Eq.refl 77) rfl ?_
        exact J_iret dc_Po_index_77 rfl h
theorem dc_Po_isName_0 : decode m_Po_isName.2.1 0 = .ok (.aload_n 1, 1) := by decide +kernel
theorem dc_Po_isName_1 : decode m_Po_isName.2.1 1 = .ok (.getfield 78, 3) := by decide +kernel
theorem dc_Po_isName_4 : decode m_Po_isName.2.1 4 = .ok (.iload_n 2, 1) := by decide +kernel
theorem dc_Po_isName_5 : decode m_Po_isName.2.1 5 = .ok (.iaload, 1) := by decide +kernel
theorem dc_Po_isName_6 : decode m_Po_isName.2.1 6 = .ok (.iload 4, 2) := by decide +kernel
theorem dc_Po_isName_8 : decode m_Po_isName.2.1 8 = .ok (.iload_n 3, 1) := by decide +kernel
theorem dc_Po_isName_9 : decode m_Po_isName.2.1 9 = .ok (.isub, 1) := by decide +kernel
theorem dc_Po_isName_10 : decode m_Po_isName.2.1 10 = .ok (.if_icmp .eq 5, 3) := by decide +kernel
theorem dc_Po_isName_13 : decode m_Po_isName.2.1 13 = .ok (.iconst 0, 1) := by decide +kernel
theorem dc_Po_isName_14 : decode m_Po_isName.2.1 14 = .ok (.ireturn, 1) := by decide +kernel
theorem dc_Po_isName_15 : decode m_Po_isName.2.1 15 = .ok (.iload_n 3, 1) := by decide +kernel
theorem dc_Po_isName_16 : decode m_Po_isName.2.1 16 = .ok (.istore 5, 2) := by decide +kernel
theorem dc_Po_isName_18 : decode m_Po_isName.2.1 18 = .ok (.iload 5, 2) := by decide +kernel
theorem dc_Po_isName_20 : decode m_Po_isName.2.1 20 = .ok (.iload 4, 2) := by decide +kernel
theorem dc_Po_isName_22 : decode m_Po_isName.2.1 22 = .ok (.if_icmp .ge 30, 3) := by decide +kernel
theorem dc_Po_isName_25 : decode m_Po_isName.2.1 25 = .ok (.aload_n 1, 1) := by decide +kernel
theorem dc_Po_isName_26 : decode m_Po_isName.2.1 26 = .ok (.iload_n 2, 1) := by decide +kernel
theorem dc_Po_isName_27 : decode m_Po_isName.2.1 27 = .ok (.iload 5, 2) := by decide +kernel
theorem dc_Po_isName_29 : decode m_Po_isName.2.1 29 = .ok (.iload_n 3, 1) := by decide +kernel
theorem dc_Po_isName_30 : decode m_Po_isName.2.1 30 = .ok (.isub, 1) := by decide +kernel
theorem dc_Po_isName_31 : decode m_Po_isName.2.1 31 = .ok (.invokevirtual 81, 3) := by decide +kernel
theorem dc_Po_isName_34 : decode m_Po_isName.2.1 34 = .ok (.aload_n 0, 1) := by decide +kernel
theorem dc_Po_isName_35 : decode m_Po_isName.2.1 35 = .ok (.getfield 9, 3) := by decide +kernel
theorem dc_Po_isName_38 : decode m_Po_isName.2.1 38 = .ok (.iload 5, 2) := by decide +kernel
theorem dc_Po_isName_40 : decode m_Po_isName.2.1 40 = .ok (.iaload, 1) := by decide +kernel
theorem dc_Po_isName_41 : decode m_Po_isName.2.1 41 = .ok (.if_icmp .eq 5, 3) := by decide +kernel
theorem dc_Po_isName_44 : decode m_Po_isName.2.1 44 = .ok (.iconst 0, 1) := by decide +kernel
theorem dc_Po_isName_45 : decode m_Po_isName.2.1 45 = .ok (.ireturn, 1) := by decide +kernel
theorem dc_Po_isName_46 : decode m_Po_isName.2.1 46 = .ok (.iinc 5 1, 3) := by decide +kernel
theorem dc_Po_isName_49 : decode m_Po_isName.2.1 49 = .ok (.goto (-31), 3) := by decide +kernel
theorem dc_Po_isName_52 : decode m_Po_isName.2.1 52 = .ok (.iconst 1, 1) := by decide +kernel
theorem dc_Po_isName_53 : decode m_Po_isName.2.1 53 = .ok (.ireturn, 1) := by decide +kernel
theorem b_Po_isName_0 {E : En_t} {d : Nat} {σ : S_t} {Q : Option Value → S_t → Prop} {o1 : Nat} {x2 : Int32} {x3 : Int32} {x4 : Int32} (hk_o1 : kindP o1 = 11)
    (h : vp_in x2 500 ∧ (((gI σ (o1 + 9) x2.toNatClampNeg) = (x4 - x3) → JE E (d + 1) m_Po_isName 18 [(0, pv E 69), (1, pv E o1), (2, .int x2), (3, .int x3), (4, .int x4), (5, .int x3)] [] σ Q) ∧ (¬ (gI σ (o1 + 9) x2.toNatClampNeg) = (x4 - x3) → Q (some (.int (0 : Int32))) σ))) :
    JE E (d + 1) m_Po_isName 0 [(0, pv E 69), (1, pv E o1), (2, .int x2), (3, .int x3), (4, .int x4)] [] σ Q := by
  refine J_aload_n dc_Po_isName_0 (Eq.refl 1) 1 rfl ?_
  refine J_getF (y := o1 + 9) dc_Po_isName_1 (Eq.refl 4) fl_Po_78 (Nat.le_of_ble_eq_true rfl) hk_o1 (Or.inl rfl) rfl ?_
  refine J_iload_n dc_Po_isName_4 (Eq.refl 5) 2 rfl ?_
  obtain ⟨hg, h⟩ := h
  refine J_iald dc_Po_isName_5 (Eq.refl 6) (ak_Tr_8 hk_o1).1 (ak_Tr_8 hk_o1).2 hg ?_
  refine J_iload dc_Po_isName_6 (Eq.refl 8) 4 rfl ?_
  refine J_iload_n dc_Po_isName_8 (Eq.refl 9) 3 rfl ?_
  refine J_isub dc_Po_isName_9 (Eq.refl 10) ?_
  refine J_icmp_eq dc_Po_isName_10 (Eq.refl 13) rfl (fun hc => ?_) (fun hc => ?_)
  · have h := h.1 hc
    refine J_iload_n dc_Po_isName_15 (Eq.refl 16) 3 rfl ?_
    refine J_istore (L' := [(5, .int x3), (0, pv E 69), (1, pv E o1), (2, .int x2), (3, .int x3), (4, .int x4)]) dc_Po_isName_16 (Eq.refl 18) (Nat.le_of_ble_eq_true rfl) rfl ?_
    refine J_sub [1, 2, 3, 4, 5, 0] rfl ?_
    exact h
  · have h := h.2 hc
    refine J_iconst (v := (0 : Int32)) dc_Po_isName_13 (Eq.refl 14) rfl ?_
    exact J_zret dc_Po_isName_14 rfl rfl h
theorem b_Po_isName_18 {E : En_t} {d : Nat} {σ : S_t} {Q : Option Value → S_t → Prop} {o1 : Nat} {x2 : Int32} {x3 : Int32} {x4 : Int32} {x5 : Int32} (hk_o1 : kindP o1 = 11)
    (h : (x4 ≤ x5 → Q (some (.int (1 : Int32))) σ) ∧ (¬ x4 ≤ x5 → CI E d m_Tr_nameCharacter [pv E o1, .int x2, .int (x5 - x3)] σ (fun r2 σ1 => vp_in x5 2000 ∧ ((r2 = (gI σ1 70 x5.toNatClampNeg) → JE E (d + 1) m_Po_isName 18 [(0, pv E 69), (1, pv E o1), (2, .int x2), (3, .int x3), (4, .int x4), (5, .int (x5 + (1 : Int32)))] [] σ1 Q) ∧ (¬ r2 = (gI σ1 70 x5.toNatClampNeg) → Q (some (.int (0 : Int32))) σ1))))) :
    JE E (d + 1) m_Po_isName 18 [(0, pv E 69), (1, pv E o1), (2, .int x2), (3, .int x3), (4, .int x4), (5, .int x5)] [] σ Q := by
  refine J_iload dc_Po_isName_18 (Eq.refl 20) 5 rfl ?_
  refine J_iload dc_Po_isName_20 (Eq.refl 22) 4 rfl ?_
  refine J_icmp_ge dc_Po_isName_22 (Eq.refl 25) rfl (fun hc => ?_) (fun hc => ?_)
  · have h := h.1 hc
    refine J_iconst (v := (1 : Int32)) dc_Po_isName_52 (Eq.refl 53) rfl ?_
    exact J_zret dc_Po_isName_53 rfl rfl h
  · have h := h.2 hc
    refine J_aload_n dc_Po_isName_25 (Eq.refl 26) 1 rfl ?_
    refine J_iload_n dc_Po_isName_26 (Eq.refl 27) 2 rfl ?_
    refine J_iload dc_Po_isName_27 (Eq.refl 29) 5 rfl ?_
    refine J_iload_n dc_Po_isName_29 (Eq.refl 30) 3 rfl ?_
    refine J_isub dc_Po_isName_30 (Eq.refl 31) ?_
    refine J_callVI (As := [.int x2, .int (x5 - x3)]) (st := []) dc_Po_isName_31 (Eq.refl 34) lk_Po_81 mi_Tr_nameCharacter hk_o1 (Nat.le_of_ble_eq_true rfl) rfl rfl (Nat.le_of_ble_eq_true rfl) rfl (Nat.le_of_ble_eq_true rfl) (CI.mono h (fun r2 σ1 h => ?_))
    refine J_aload_n dc_Po_isName_34 (Eq.refl 35) 0 rfl ?_
    refine J_getF (y := 70) dc_Po_isName_35 (Eq.refl 38) fl_Po_9 (Nat.le_of_ble_eq_true rfl) rfl (Or.inl rfl) rfl ?_
    refine J_iload dc_Po_isName_38 (Eq.refl 40) 5 rfl ?_
    obtain ⟨hg, h⟩ := h
    refine J_iald dc_Po_isName_40 (Eq.refl 41) rfl rfl hg ?_
    refine J_icmp_eq dc_Po_isName_41 (Eq.refl 44) rfl (fun hc => ?_) (fun hc => ?_)
    · have h := h.1 hc
      refine J_iinc (v := x5 + (1 : Int32)) (L' := [(5, .int (x5 + (1 : Int32))), (0, pv E 69), (1, pv E o1), (2, .int x2), (3, .int x3), (4, .int x4)]) dc_Po_isName_46 (Eq.refl 49) 5 rfl rfl (Nat.le_of_ble_eq_true rfl) rfl ?_
      refine J_goto dc_Po_isName_49 rfl ?_
      refine J_sub [1, 2, 3, 4, 5, 0] rfl ?_
      exact h
    · have h := h.2 hc
      refine J_iconst (v := (0 : Int32)) dc_Po_isName_44 (Eq.refl 45) rfl ?_
      exact J_zret dc_Po_isName_45 rfl rfl h
