theorem dc_Nu_scan_0 : decode m_Nu_scan.2.1 0 = .ok (.aload_n 0, 1) := by decide +kernel
theorem dc_Nu_scan_1 : decode m_Nu_scan.2.1 1 = .ok (.iconst 0, 1) := by decide +kernel
theorem dc_Nu_scan_2 : decode m_Nu_scan.2.1 2 = .ok (.putfield 22, 3) := by decide +kernel
theorem dc_Nu_scan_5 : decode m_Nu_scan.2.1 5 = .ok (.aload_n 0, 1) := by decide +kernel
theorem dc_Nu_scan_6 : decode m_Nu_scan.2.1 6 = .ok (.iconst 0, 1) := by decide +kernel
theorem dc_Nu_scan_7 : decode m_Nu_scan.2.1 7 = .ok (.putfield 26, 3) := by decide +kernel
theorem dc_Nu_scan_10 : decode m_Nu_scan.2.1 10 = .ok (.aload_n 0, 1) := by decide +kernel
theorem dc_Nu_scan_11 : decode m_Nu_scan.2.1 11 = .ok (.iconst 0, 1) := by decide +kernel
theorem dc_Nu_scan_12 : decode m_Nu_scan.2.1 12 = .ok (.putfield 29, 3) := by decide +kernel
theorem dc_Nu_scan_15 : decode m_Nu_scan.2.1 15 = .ok (.aload_n 0, 1) := by decide +kernel
theorem dc_Nu_scan_16 : decode m_Nu_scan.2.1 16 = .ok (.aload_n 1, 1) := by decide +kernel
theorem dc_Nu_scan_17 : decode m_Nu_scan.2.1 17 = .ok (.bipush 45, 2) := by decide +kernel
theorem dc_Nu_scan_19 : decode m_Nu_scan.2.1 19 = .ok (.invokevirtual 33, 3) := by decide +kernel
theorem dc_Nu_scan_22 : decode m_Nu_scan.2.1 22 = .ok (.putfield 39, 3) := by decide +kernel
theorem dc_Nu_scan_25 : decode m_Nu_scan.2.1 25 = .ok (.aload_n 1, 1) := by decide +kernel
theorem dc_Nu_scan_26 : decode m_Nu_scan.2.1 26 = .ok (.bipush 48, 2) := by decide +kernel
theorem dc_Nu_scan_28 : decode m_Nu_scan.2.1 28 = .ok (.invokevirtual 33, 3) := by decide +kernel
theorem dc_Nu_scan_31 : decode m_Nu_scan.2.1 31 = .ok (.ifCond .ne 14, 3) := by decide +kernel
theorem dc_Nu_scan_34 : decode m_Nu_scan.2.1 34 = .ok (.aload_n 0, 1) := by decide +kernel
theorem dc_Nu_scan_35 : decode m_Nu_scan.2.1 35 = .ok (.aload_n 1, 1) := by decide +kernel
theorem dc_Nu_scan_36 : decode m_Nu_scan.2.1 36 = .ok (.iconst 1, 1) := by decide +kernel
theorem dc_Nu_scan_37 : decode m_Nu_scan.2.1 37 = .ok (.invokevirtual 42, 3) := by decide +kernel
theorem dc_Nu_scan_40 : decode m_Nu_scan.2.1 40 = .ok (.ifCond .ne 5, 3) := by decide +kernel
theorem dc_Nu_scan_43 : decode m_Nu_scan.2.1 43 = .ok (.iconst 0, 1) := by decide +kernel
theorem dc_Nu_scan_44 : decode m_Nu_scan.2.1 44 = .ok (.ireturn, 1) := by decide +kernel
theorem dc_Nu_scan_45 : decode m_Nu_scan.2.1 45 = .ok (.aload_n 1, 1) := by decide +kernel
theorem dc_Nu_scan_46 : decode m_Nu_scan.2.1 46 = .ok (.bipush 46, 2) := by decide +kernel
theorem dc_Nu_scan_48 : decode m_Nu_scan.2.1 48 = .ok (.invokevirtual 33, 3) := by decide +kernel
theorem dc_Nu_scan_51 : decode m_Nu_scan.2.1 51 = .ok (.ifCond .eq 14, 3) := by decide +kernel
theorem dc_Nu_scan_54 : decode m_Nu_scan.2.1 54 = .ok (.aload_n 0, 1) := by decide +kernel
theorem dc_Nu_scan_55 : decode m_Nu_scan.2.1 55 = .ok (.aload_n 1, 1) := by decide +kernel
theorem dc_Nu_scan_56 : decode m_Nu_scan.2.1 56 = .ok (.iconst 0, 1) := by decide +kernel
theorem dc_Nu_scan_57 : decode m_Nu_scan.2.1 57 = .ok (.invokevirtual 42, 3) := by decide +kernel
theorem dc_Nu_scan_60 : decode m_Nu_scan.2.1 60 = .ok (.ifCond .ne 5, 3) := by decide +kernel
theorem dc_Nu_scan_63 : decode m_Nu_scan.2.1 63 = .ok (.iconst 0, 1) := by decide +kernel
theorem dc_Nu_scan_64 : decode m_Nu_scan.2.1 64 = .ok (.ireturn, 1) := by decide +kernel
theorem dc_Nu_scan_65 : decode m_Nu_scan.2.1 65 = .ok (.aload_n 1, 1) := by decide +kernel
theorem dc_Nu_scan_66 : decode m_Nu_scan.2.1 66 = .ok (.bipush 101, 2) := by decide +kernel
theorem dc_Nu_scan_68 : decode m_Nu_scan.2.1 68 = .ok (.invokevirtual 33, 3) := by decide +kernel
theorem dc_Nu_scan_71 : decode m_Nu_scan.2.1 71 = .ok (.ifCond .ne 12, 3) := by decide +kernel
theorem dc_Nu_scan_74 : decode m_Nu_scan.2.1 74 = .ok (.aload_n 1, 1) := by decide +kernel
theorem dc_Nu_scan_75 : decode m_Nu_scan.2.1 75 = .ok (.bipush 69, 2) := by decide +kernel
theorem dc_Nu_scan_77 : decode m_Nu_scan.2.1 77 = .ok (.invokevirtual 33, 3) := by decide +kernel
theorem dc_Nu_scan_80 : decode m_Nu_scan.2.1 80 = .ok (.ifCond .eq 13, 3) := by decide +kernel
theorem dc_Nu_scan_83 : decode m_Nu_scan.2.1 83 = .ok (.aload_n 0, 1) := by decide +kernel
theorem dc_Nu_scan_84 : decode m_Nu_scan.2.1 84 = .ok (.aload_n 1, 1) := by decide +kernel
theorem dc_Nu_scan_85 : decode m_Nu_scan.2.1 85 = .ok (.invokevirtual 46, 3) := by decide +kernel
theorem dc_Nu_scan_88 : decode m_Nu_scan.2.1 88 = .ok (.ifCond .ne 5, 3) := by decide +kernel
theorem dc_Nu_scan_91 : decode m_Nu_scan.2.1 91 = .ok (.iconst 0, 1) := by decide +kernel
theorem dc_Nu_scan_92 : decode m_Nu_scan.2.1 92 = .ok (.ireturn, 1) := by decide +kernel
theorem dc_Nu_scan_93 : decode m_Nu_scan.2.1 93 = .ok (.aload_n 0, 1) := by decide +kernel
theorem dc_Nu_scan_94 : decode m_Nu_scan.2.1 94 = .ok (.invokevirtual 50, 3) := by decide +kernel
theorem dc_Nu_scan_97 : decode m_Nu_scan.2.1 97 = .ok (.iconst 1, 1) := by decide +kernel
theorem dc_Nu_scan_98 : decode m_Nu_scan.2.1 98 = .ok (.ireturn, 1) := by decide +kernel
theorem b_Nu_scan_0 {E : En_t} {d : Nat} {σ : S_t} {Q : Option Value → S_t → Prop}
    (h : CI E d m_Te_pass [pv E 51, .int (45 : Int32)] (sI (sI (sI σ 55 2 (0 : Int32)) 55 3 (0 : Int32)) 55 4 (0 : Int32)) (fun r2 σ1 => (r2 = 0 ∨ r2 = 1) ∧ (CI E d m_Te_pass [pv E 51, .int (48 : Int32)] (sI σ1 55 5 r2) (fun r4 σ3 => (¬ r4 = 0 → JE E (d + 1) m_Nu_scan 45 [(0, pv E 55), (1, pv E 51)] [] σ3 Q) ∧ (r4 = 0 → CI E d m_Nu_scanDigits [pv E 55, pv E 51, .int (1 : Int32)] σ3 (fun r6 σ5 => (¬ r6 = 0 → JE E (d + 1) m_Nu_scan 45 [(0, pv E 55), (1, pv E 51)] [] σ5 Q) ∧ (r6 = 0 → Q (some (.int (0 : Int32))) σ5))))))) :
    JE E (d + 1) m_Nu_scan 0 [(0, pv E 55), (1, pv E 51)] [] σ Q := by
  refine J_aload_n dc_Nu_scan_0 (Eq.refl 1) 0 rfl ?_
  refine J_iconst (v := (0 : Int32)) dc_Nu_scan_1 (Eq.refl 2) rfl ?_
  refine J_putI dc_Nu_scan_2 (Eq.refl 5) pl_Nu_22 (Nat.le_of_ble_eq_true rfl) rfl rfl ?_
  refine J_aload_n dc_Nu_scan_5 (Eq.refl 6) 0 rfl ?_
  refine J_iconst (v := (0 : Int32)) dc_Nu_scan_6 (Eq.refl 7) rfl ?_
  refine J_putI dc_Nu_scan_7 (Eq.refl 10) pl_Nu_26 (Nat.le_of_ble_eq_true rfl) rfl rfl ?_
  refine J_aload_n dc_Nu_scan_10 (Eq.refl 11) 0 rfl ?_
  refine J_iconst (v := (0 : Int32)) dc_Nu_scan_11 (Eq.refl 12) rfl ?_
  refine J_putZ dc_Nu_scan_12 (Eq.refl 15) pl_Nu_29 (Nat.le_of_ble_eq_true rfl) rfl rfl (Or.inl rfl) ?_
  refine J_aload_n dc_Nu_scan_15 (Eq.refl 16) 0 rfl ?_
  refine J_aload_n dc_Nu_scan_16 (Eq.refl 17) 1 rfl ?_
  refine J_bipush (v := (45 : Int32)) dc_Nu_scan_17 (Eq.refl 19) rfl ?_
  refine J_callVI (As := [.int (45 : Int32)]) (st := [pv E 55]) dc_Nu_scan_19 (Eq.refl 22) lk_Nu_33 mi_Te_pass rfl (Nat.le_of_ble_eq_true rfl) rfl rfl (Nat.le_of_ble_eq_true rfl) rfl (Nat.le_of_ble_eq_true rfl) (CI.mono h (fun r2 σ1 h => ?_))
  obtain ⟨hg, h⟩ := h
  refine J_putZ dc_Nu_scan_22 (Eq.refl 25) pl_Nu_39 (Nat.le_of_ble_eq_true rfl) rfl rfl hg ?_
  refine J_aload_n dc_Nu_scan_25 (Eq.refl 26) 1 rfl ?_
  refine J_bipush (v := (48 : Int32)) dc_Nu_scan_26 (Eq.refl 28) rfl ?_
  refine J_callVI (As := [.int (48 : Int32)]) (st := []) dc_Nu_scan_28 (Eq.refl 31) lk_Nu_33 mi_Te_pass rfl (Nat.le_of_ble_eq_true rfl) rfl rfl (Nat.le_of_ble_eq_true rfl) rfl (Nat.le_of_ble_eq_true rfl) (CI.mono h (fun r4 σ3 h => ?_))
  refine J_if_ne dc_Nu_scan_31 (Eq.refl 34) rfl (fun hc => ?_) (fun hc => ?_)
  · have h := h.1 hc
    exact h
  · have h := h.2 hc
    refine J_aload_n dc_Nu_scan_34 (Eq.refl 35) 0 rfl ?_
    refine J_aload_n dc_Nu_scan_35 (Eq.refl 36) 1 rfl ?_
    refine J_iconst (v := (1 : Int32)) dc_Nu_scan_36 (Eq.refl 37) rfl ?_
    refine J_callVI (As := [pv E 51, .int (1 : Int32)]) (st := []) dc_Nu_scan_37 (Eq.refl 40) lk_Nu_42 mi_Nu_scanDigits rfl (Nat.le_of_ble_eq_true rfl) rfl rfl (Nat.le_of_ble_eq_true rfl) rfl (Nat.le_of_ble_eq_true rfl) (CI.mono h (fun r6 σ5 h => ?_))
    refine J_if_ne dc_Nu_scan_40 (Eq.refl 43) rfl (fun hc => ?_) (fun hc => ?_)
    · have h := h.1 hc
      exact h
    · have h := h.2 hc
      refine J_iconst (v := (0 : Int32)) dc_Nu_scan_43 (Eq.refl 44) rfl ?_
      exact J_zret dc_Nu_scan_44 rfl rfl h
theorem b_Nu_scan_45 {E : En_t} {d : Nat} {σ : S_t} {Q : Option Value → S_t → Prop}
    (h : CI E d m_Te_pass [pv E 51, .int (46 : Int32)] σ (fun r2 σ1 => (r2 = 0 → JE E (d + 1) m_Nu_scan 65 [(0, pv E 55), (1, pv E 51)] [] σ1 Q) ∧ (¬ r2 = 0 → CI E d m_Nu_scanDigits [pv E 55, pv E 51, .int (0 : Int32)] σ1 (fun r4 σ3 => (¬ r4 = 0 → JE E (d + 1) m_Nu_scan 65 [(0, pv E 55), (1, pv E 51)] [] σ3 Q) ∧ (r4 = 0 → Q (some (.int (0 : Int32))) σ3))))) :
    JE E (d + 1) m_Nu_scan 45 [(0, pv E 55), (1, pv E 51)] [] σ Q := by
  refine J_aload_n dc_Nu_scan_45 (Eq.refl 46) 1 rfl ?_
  refine J_bipush (v := (46 : Int32)) dc_Nu_scan_46 (Eq.refl 48) rfl ?_
  refine J_callVI (As := [.int (46 : Int32)]) (st := []) dc_Nu_scan_48 (Eq.refl 51) lk_Nu_33 mi_Te_pass rfl (Nat.le_of_ble_eq_true rfl) rfl rfl (Nat.le_of_ble_eq_true rfl) rfl (Nat.le_of_ble_eq_true rfl) (CI.mono h (fun r2 σ1 h => ?_))
  refine J_if_eq dc_Nu_scan_51 (Eq.refl 54) rfl (fun hc => ?_) (fun hc => ?_)
  · have h := h.1 hc
    exact h
  · have h := h.2 hc
    refine J_aload_n dc_Nu_scan_54 (Eq.refl 55) 0 rfl ?_
    refine J_aload_n dc_Nu_scan_55 (Eq.refl 56) 1 rfl ?_
    refine J_iconst (v := (0 : Int32)) dc_Nu_scan_56 (Eq.refl 57) rfl ?_
    refine J_callVI (As := [pv E 51, .int (0 : Int32)]) (st := []) dc_Nu_scan_57 (Eq.refl 60) lk_Nu_42 mi_Nu_scanDigits rfl (Nat.le_of_ble_eq_true rfl) rfl rfl (Nat.le_of_ble_eq_true rfl) rfl (Nat.le_of_ble_eq_true rfl) (CI.mono h (fun r4 σ3 h => ?_))
    refine J_if_ne dc_Nu_scan_60 (Eq.refl 63) rfl (fun hc => ?_) (fun hc => ?_)
    · have h := h.1 hc
      exact h
    · have h := h.2 hc
      refine J_iconst (v := (0 : Int32)) dc_Nu_scan_63 (Eq.refl 64) rfl ?_
      exact J_zret dc_Nu_scan_64 rfl rfl h
theorem b_Nu_scan_65 {E : En_t} {d : Nat} {σ : S_t} {Q : Option Value → S_t → Prop}
    (h : CI E d m_Te_pass [pv E 51, .int (101 : Int32)] σ (fun r2 σ1 => (¬ r2 = 0 → JE E (d + 1) m_Nu_scan 83 [(0, pv E 55), (1, pv E 51)] [] σ1 Q) ∧ (r2 = 0 → CI E d m_Te_pass [pv E 51, .int (69 : Int32)] σ1 (fun r4 σ3 => (r4 = 0 → JE E (d + 1) m_Nu_scan 93 [(0, pv E 55)] [] σ3 Q) ∧ (¬ r4 = 0 → JE E (d + 1) m_Nu_scan 83 [(0, pv E 55), (1, pv E 51)] [] σ3 Q))))) :
    JE E (d + 1) m_Nu_scan 65 [(0, pv E 55), (1, pv E 51)] [] σ Q := by
  refine J_aload_n dc_Nu_scan_65 (Eq.refl 66) 1 rfl ?_
  refine J_bipush (v := (101 : Int32)) dc_Nu_scan_66 (Eq.refl 68) rfl ?_
  refine J_callVI (As := [.int (101 : Int32)]) (st := []) dc_Nu_scan_68 (Eq.refl 71) lk_Nu_33 mi_Te_pass rfl (Nat.le_of_ble_eq_true rfl) rfl rfl (Nat.le_of_ble_eq_true rfl) rfl (Nat.le_of_ble_eq_true rfl) (CI.mono h (fun r2 σ1 h => ?_))
  refine J_if_ne dc_Nu_scan_71 (Eq.refl 74) rfl (fun hc => ?_) (fun hc => ?_)
  · have h := h.1 hc
    exact h
  · have h := h.2 hc
    refine J_aload_n dc_Nu_scan_74 (Eq.refl 75) 1 rfl ?_
    refine J_bipush (v := (69 : Int32)) dc_Nu_scan_75 (Eq.refl 77) rfl ?_
    refine J_callVI (As := [.int (69 : Int32)]) (st := []) dc_Nu_scan_77 (Eq.refl 80) lk_Nu_33 mi_Te_pass rfl (Nat.le_of_ble_eq_true rfl) rfl rfl (Nat.le_of_ble_eq_true rfl) rfl (Nat.le_of_ble_eq_true rfl) (CI.mono h (fun r4 σ3 h => ?_))
    refine J_if_eq dc_Nu_scan_80 (Eq.refl 83) rfl (fun hc => ?_) (fun hc => ?_)
    · have h := h.1 hc
      refine J_sub [0] rfl ?_
      exact h
    · have h := h.2 hc
      exact h
theorem b_Nu_scan_83 {E : En_t} {d : Nat} {σ : S_t} {Q : Option Value → S_t → Prop}
    (h : CI E d m_Nu_scanPower [pv E 55, pv E 51] σ (fun r2 σ1 => (¬ r2 = 0 → JE E (d + 1) m_Nu_scan 93 [(0, pv E 55)] [] σ1 Q) ∧ (r2 = 0 → Q (some (.int (0 : Int32))) σ1))) :
    JE E (d + 1) m_Nu_scan 83 [(0, pv E 55), (1, pv E 51)] [] σ Q := by
  refine J_aload_n dc_Nu_scan_83 (Eq.refl 84) 0 rfl ?_
  refine J_aload_n dc_Nu_scan_84 (Eq.refl 85) 1 rfl ?_
  refine J_callVI (As := [pv E 51]) (st := []) dc_Nu_scan_85 (Eq.refl 88) lk_Nu_46 mi_Nu_scanPower rfl (Nat.le_of_ble_eq_true rfl) rfl rfl (Nat.le_of_ble_eq_true rfl) rfl (Nat.le_of_ble_eq_true rfl) (CI.mono h (fun r2 σ1 h => ?_))
  refine J_if_ne dc_Nu_scan_88 (Eq.refl 91) rfl (fun hc => ?_) (fun hc => ?_)
  · have h := h.1 hc
    refine J_sub [0] rfl ?_
    exact h
  · have h := h.2 hc
    refine J_iconst (v := (0 : Int32)) dc_Nu_scan_91 (Eq.refl 92) rfl ?_
    exact J_zret dc_Nu_scan_92 rfl rfl h
theorem b_Nu_scan_93 {E : En_t} {d : Nat} {σ : S_t} {Q : Option Value → S_t → Prop}
    (h : CV E d m_Nu_stripZeros [pv E 55] σ (fun σ1 => Q (some (.int (1 : Int32))) σ1)) :
    JE E (d + 1) m_Nu_scan 93 [(0, pv E 55)] [] σ Q := by
  refine J_aload_n dc_Nu_scan_93 (Eq.refl 94) 0 rfl ?_
  refine J_callVV (As := []) (st := []) dc_Nu_scan_94 (Eq.refl 97) lk_Nu_50 mi_Nu_stripZeros rfl (Nat.le_of_ble_eq_true rfl) rfl rfl (Nat.le_of_ble_eq_true rfl) rfl (Nat.le_of_ble_eq_true rfl) (CV.mono h (fun σ1 h => ?_))
  refine J_iconst (v := (1 : Int32)) dc_Nu_scan_97 (Eq.refl 98) rfl ?_
  exact J_zret dc_Nu_scan_98 rfl rfl h
theorem dc_Nu_scanDigits_0 : decode m_Nu_scanDigits.2.1 0 = .ok (.aload_n 1, 1) := by decide +kernel
theorem dc_Nu_scanDigits_1 : decode m_Nu_scanDigits.2.1 1 = .ok (.getfield 53, 3) := by decide +kernel
theorem dc_Nu_scanDigits_4 : decode m_Nu_scanDigits.2.1 4 = .ok (.istore_n 3, 1) := by decide +kernel
theorem dc_Nu_scanDigits_5 : decode m_Nu_scanDigits.2.1 5 = .ok (.iconst 0, 1) := by decide +kernel
theorem dc_Nu_scanDigits_6 : decode m_Nu_scanDigits.2.1 6 = .ok (.istore 4, 2) := by decide +kernel
theorem dc_Nu_scanDigits_8 : decode m_Nu_scanDigits.2.1 8 = .ok (.iload 4, 2) := by decide +kernel
theorem dc_Nu_scanDigits_10 : decode m_Nu_scanDigits.2.1 10 = .ok (.sipush 2000, 3) := by decide +kernel
theorem dc_Nu_scanDigits_13 : decode m_Nu_scanDigits.2.1 13 = .ok (.if_icmp .ge 41, 3) := by decide +kernel
theorem dc_Nu_scanDigits_16 : decode m_Nu_scanDigits.2.1 16 = .ok (.aload_n 1, 1) := by decide +kernel
theorem dc_Nu_scanDigits_17 : decode m_Nu_scanDigits.2.1 17 = .ok (.invokevirtual 56, 3) := by decide +kernel
theorem dc_Nu_scanDigits_20 : decode m_Nu_scanDigits.2.1 20 = .ok (.invokestatic 60, 3) := by decide +kernel
theorem dc_Nu_scanDigits_23 : decode m_Nu_scanDigits.2.1 23 = .ok (.ifCond .eq 31, 3) := by decide +kernel
theorem dc_Nu_scanDigits_26 : decode m_Nu_scanDigits.2.1 26 = .ok (.aload_n 0, 1) := by decide +kernel
theorem dc_Nu_scanDigits_27 : decode m_Nu_scanDigits.2.1 27 = .ok (.aload_n 1, 1) := by decide +kernel
theorem dc_Nu_scanDigits_28 : decode m_Nu_scanDigits.2.1 28 = .ok (.invokevirtual 56, 3) := by decide +kernel
theorem dc_Nu_scanDigits_31 : decode m_Nu_scanDigits.2.1 31 = .ok (.bipush 48, 2) := by decide +kernel
theorem dc_Nu_scanDigits_33 : decode m_Nu_scanDigits.2.1 33 = .ok (.isub, 1) := by decide +kernel
theorem dc_Nu_scanDigits_34 : decode m_Nu_scanDigits.2.1 34 = .ok (.iload_n 2, 1) := by decide +kernel
theorem dc_Nu_scanDigits_35 : decode m_Nu_scanDigits.2.1 35 = .ok (.invokevirtual 63, 3) := by decide +kernel
theorem dc_Nu_scanDigits_38 : decode m_Nu_scanDigits.2.1 38 = .ok (.aload_n 1, 1) := by decide +kernel
theorem dc_Nu_scanDigits_39 : decode m_Nu_scanDigits.2.1 39 = .ok (.dup, 1) := by decide +kernel
theorem dc_Nu_scanDigits_40 : decode m_Nu_scanDigits.2.1 40 = .ok (.getfield 53, 3) := by decide +kernel
theorem dc_Nu_scanDigits_43 : decode m_Nu_scanDigits.2.1 43 = .ok (.iconst 1, 1) := by decide +kernel
theorem dc_Nu_scanDigits_44 : decode m_Nu_scanDigits.2.1 44 = .ok (.iadd, 1) := by decide +kernel
theorem dc_Nu_scanDigits_45 : decode m_Nu_scanDigits.2.1 45 = .ok (.putfield 53, 3) := by decide +kernel
theorem dc_Nu_scanDigits_48 : decode m_Nu_scanDigits.2.1 48 = .ok (.iinc 4 1, 3) := by decide +kernel
theorem dc_Nu_scanDigits_51 : decode m_Nu_scanDigits.2.1 51 = .ok (.goto (-43), 3) := by decide +kernel
theorem dc_Nu_scanDigits_54 : decode m_Nu_scanDigits.2.1 54 = .ok (.aload_n 1, 1) := by decide +kernel
theorem dc_Nu_scanDigits_55 : decode m_Nu_scanDigits.2.1 55 = .ok (.getfield 53, 3) := by decide +kernel
theorem dc_Nu_scanDigits_58 : decode m_Nu_scanDigits.2.1 58 = .ok (.iload_n 3, 1) := by decide +kernel
theorem dc_Nu_scanDigits_59 : decode m_Nu_scanDigits.2.1 59 = .ok (.if_icmp .le 7, 3) := by decide +kernel
theorem dc_Nu_scanDigits_62 : decode m_Nu_scanDigits.2.1 62 = .ok (.iconst 1, 1) := by decide +kernel
theorem dc_Nu_scanDigits_63 : decode m_Nu_scanDigits.2.1 63 = .ok (.goto 4, 3) := by decide +kernel
theorem dc_Nu_scanDigits_66 : decode m_Nu_scanDigits.2.1 66 = .ok (.iconst 0, 1) := by decide +kernel
theorem dc_Nu_scanDigits_67 : decode m_Nu_scanDigits.2.1 67 = .ok (.ireturn, 1) := by decide +kernel
theorem b_Nu_scanDigits_0 {E : En_t} {d : Nat} {σ : S_t} {Q : Option Value → S_t → Prop} {x2 : Int32}
    (h : JE E (d + 1) m_Nu_scanDigits 8 [(0, pv E 55), (1, pv E 51), (2, .int x2), (3, .int (gI σ 51 2)), (4, .int (0 : Int32))] [] σ Q) :
    JE E (d + 1) m_Nu_scanDigits 0 [(0, pv E 55), (1, pv E 51), (2, .int x2)] [] σ Q := by
  refine J_aload_n dc_Nu_scanDigits_0 (Eq.refl 1) 1 rfl ?_
  refine J_getI dc_Nu_scanDigits_1 (Eq.refl 4) fl_Nu_53 (Nat.le_of_ble_eq_true rfl) rfl (Or.inl rfl) ?_
  refine J_istore_n (L' := [(3, .int (gI σ 51 2)), (0, pv E 55), (1, pv E 51), (2, .int x2)]) dc_Nu_scanDigits_4 (Eq.refl 5) (Nat.le_of_ble_eq_true rfl) rfl ?_
  refine J_iconst (v := (0 : Int32)) dc_Nu_scanDigits_5 (Eq.refl 6) rfl ?_
  refine J_istore (L' := [(4, .int (0 : Int32)), (3, .int (gI σ 51 2)), (0, pv E 55), (1, pv E 51), (2, .int x2)]) dc_Nu_scanDigits_6 (Eq.refl 8) (Nat.le_of_ble_eq_true rfl) rfl ?_
  refine J_sub [2, 3, 4, 1, 0] rfl ?_
  exact h
theorem b_Nu_scanDigits_8 {E : En_t} {d : Nat} {σ : S_t} {Q : Option Value → S_t → Prop} {x2 : Int32} {x3 : Int32} {x4 : Int32}
    (h : ((2000 : Int32) ≤ x4 → JE E (d + 1) m_Nu_scanDigits 54 [(1, pv E 51), (3, .int x3)] [] σ Q) ∧ (¬ (2000 : Int32) ≤ x4 → CI E d m_Te_here [pv E 51] σ (fun r2 σ1 => CI E d m_Nu_isDigit [.int r2] σ1 (fun r4 σ3 => (r4 = 0 → JE E (d + 1) m_Nu_scanDigits 54 [(1, pv E 51), (3, .int x3)] [] σ3 Q) ∧ (¬ r4 = 0 → CI E d m_Te_here [pv E 51] σ3 (fun r6 σ5 => CV E d m_Nu_keep [pv E 55, .int (r6 - (48 : Int32)), .int x2] σ5 (fun σ7 => JE E (d + 1) m_Nu_scanDigits 8 [(0, pv E 55), (1, pv E 51), (2, .int x2), (3, .int x3), (4, .int (x4 + (1 : Int32)))] [] (sI σ7 51 2 ((gI σ7 51 2) + (1 : Int32))) Q))))))) :
    JE E (d + 1) m_Nu_scanDigits 8 [(0, pv E 55), (1, pv E 51), (2, .int x2), (3, .int x3), (4, .int x4)] [] σ Q := by
  refine J_iload dc_Nu_scanDigits_8 (Eq.refl 10) 4 rfl ?_
  refine J_sipush (v := (2000 : Int32)) dc_Nu_scanDigits_10 (Eq.refl 13) rfl ?_
  refine J_icmp_ge dc_Nu_scanDigits_13 (Eq.refl 16) rfl (fun hc => ?_) (fun hc => ?_)
  · have h := h.1 hc
    refine J_sub [1, 3] rfl ?_
    exact h
  · have h := h.2 hc
    refine J_aload_n dc_Nu_scanDigits_16 (Eq.refl 17) 1 rfl ?_
    refine J_callVI (As := []) (st := []) dc_Nu_scanDigits_17 (Eq.refl 20) lk_Nu_56 mi_Te_here rfl (Nat.le_of_ble_eq_true rfl) rfl rfl (Nat.le_of_ble_eq_true rfl) rfl (Nat.le_of_ble_eq_true rfl) (CI.mono h (fun r2 σ1 h => ?_))
    refine J_callSI (As := [.int r2]) (st := []) dc_Nu_scanDigits_20 (Eq.refl 23) lk_Nu_60 mi_Nu_isDigit (Nat.le_of_ble_eq_true rfl) rfl (Nat.le_of_ble_eq_true rfl) (CI.mono h (fun r4 σ3 h => ?_))
    refine J_if_eq dc_Nu_scanDigits_23 (Eq.refl 26) rfl (fun hc => ?_) (fun hc => ?_)
    · have h := h.1 hc
      refine J_sub [1, 3] rfl ?_
      exact h
    · have h := h.2 hc
      refine J_aload_n dc_Nu_scanDigits_26 (Eq.refl 27) 0 rfl ?_
      refine J_aload_n dc_Nu_scanDigits_27 (Eq.refl 28) 1 rfl ?_
      refine J_callVI (As := []) (st := [pv E 55]) dc_Nu_scanDigits_28 (Eq.refl 31) lk_Nu_56 mi_Te_here rfl (Nat.le_of_ble_eq_true rfl) rfl rfl (Nat.le_of_ble_eq_true rfl) rfl (Nat.le_of_ble_eq_true rfl) (CI.mono h (fun r6 σ5 h => ?_))
      refine J_bipush (v := (48 : Int32)) dc_Nu_scanDigits_31 (Eq.refl 33) rfl ?_
      refine J_isub dc_Nu_scanDigits_33 (Eq.refl 34) ?_
      refine J_iload_n dc_Nu_scanDigits_34 (Eq.refl 35) 2 rfl ?_
      refine J_callVV (As := [.int (r6 - (48 : Int32)), .int x2]) (st := []) dc_Nu_scanDigits_35 (Eq.refl 38) lk_Nu_63 mi_Nu_keep rfl (Nat.le_of_ble_eq_true rfl) rfl rfl (Nat.le_of_ble_eq_true rfl) rfl (Nat.le_of_ble_eq_true rfl) (CV.mono h (fun σ7 h => ?_))
      refine J_aload_n dc_Nu_scanDigits_38 (Eq.refl 39) 1 rfl ?_
      refine J_dup dc_Nu_scanDigits_39 (Eq.refl 40) rfl ?_
      refine J_getI dc_Nu_scanDigits_40 (Eq.refl 43) fl_Nu_53 (Nat.le_of_ble_eq_true rfl) rfl (Or.inl rfl) ?_
      refine J_iconst (v := (1 : Int32)) dc_Nu_scanDigits_43 (Eq.refl 44) rfl ?_
      refine J_iadd dc_Nu_scanDigits_44 (Eq.refl 45) ?_
      refine J_putI dc_Nu_scanDigits_45 (Eq.refl 48) pl_Nu_53 (Nat.le_of_ble_eq_true rfl) rfl rfl ?_
      refine J_iinc (v := x4 + (1 : Int32)) (L' := [(4, .int (x4 + (1 : Int32))), (0, pv E 55), (1, pv E 51), (2, .int x2), (3, .int x3)]) dc_Nu_scanDigits_48 (Eq.refl 51) 4 rfl rfl (Nat.le_of_ble_eq_true rfl) rfl ?_
      refine J_goto dc_Nu_scanDigits_51 rfl ?_
      refine J_sub [1, 2, 3, 4, 0] rfl ?_
      exact h
theorem b_Nu_scanDigits_54 {E : En_t} {d : Nat} {σ : S_t} {Q : Option Value → S_t → Prop} {x3 : Int32}
    (h : ((gI σ 51 2) ≤ x3 → Q (some (.int (0 : Int32))) σ) ∧ (¬ (gI σ 51 2) ≤ x3 → Q (some (.int (1 : Int32))) σ)) :
    JE E (d + 1) m_Nu_scanDigits 54 [(1, pv E 51), (3, .int x3)] [] σ Q := by
  refine J_aload_n dc_Nu_scanDigits_54 (Eq.refl 55) 0 rfl ?_
  refine J_getI dc_Nu_scanDigits_55 (Eq.refl 58) fl_Nu_53 (Nat.le_of_ble_eq_true rfl) rfl (Or.inl rfl) ?_
  refine J_iload_n dc_Nu_scanDigits_58 (Eq.refl 59) 1 rfl ?_
  refine J_icmp_le dc_Nu_scanDigits_59 (Eq.refl 62) rfl (fun hc => ?_) (fun hc => ?_)
  · have h := h.1 hc
    refine J_iconst (v := (0 : Int32)) dc_Nu_scanDigits_66 (Eq.refl 67) rfl ?_
    exact J_zret dc_Nu_scanDigits_67 rfl rfl h
  · have h := h.2 hc
    refine J_iconst (v := (1 : Int32)) dc_Nu_scanDigits_62 (Eq.refl 63) rfl ?_
    refine J_goto dc_Nu_scanDigits_63 rfl ?_
    exact J_zret dc_Nu_scanDigits_67 rfl rfl h
theorem dc_Nu_isDigit_0 : decode m_Nu_isDigit.2.1 0 = .ok (.iload_n 0, 1) := by decide +kernel
theorem dc_Nu_isDigit_1 : decode m_Nu_isDigit.2.1 1 = .ok (.bipush 48, 2) := by decide +kernel
theorem dc_Nu_isDigit_3 : decode m_Nu_isDigit.2.1 3 = .ok (.if_icmp .lt 13, 3) := by decide +kernel
theorem dc_Nu_isDigit_6 : decode m_Nu_isDigit.2.1 6 = .ok (.iload_n 0, 1) := by decide +kernel
theorem dc_Nu_isDigit_7 : decode m_Nu_isDigit.2.1 7 = .ok (.bipush 57, 2) := by decide +kernel
theorem dc_Nu_isDigit_9 : decode m_Nu_isDigit.2.1 9 = .ok (.if_icmp .gt 7, 3) := by decide +kernel
theorem dc_Nu_isDigit_12 : decode m_Nu_isDigit.2.1 12 = .ok (.iconst 1, 1) := by decide +kernel
theorem dc_Nu_isDigit_13 : decode m_Nu_isDigit.2.1 13 = .ok (.goto 4, 3) := by decide +kernel
theorem dc_Nu_isDigit_16 : decode m_Nu_isDigit.2.1 16 = .ok (.iconst 0, 1) := by decide +kernel
theorem dc_Nu_isDigit_17 : decode m_Nu_isDigit.2.1 17 = .ok (.ireturn, 1) := by decide +kernel
theorem b_Nu_isDigit_0 {E : En_t} {d : Nat} {σ : S_t} {Q : Option Value → S_t → Prop} {x0 : Int32}
    (h : (x0 < (48 : Int32) → Q (some (.int (0 : Int32))) σ) ∧ (¬ x0 < (48 : Int32) → ((57 : Int32) < x0 → Q (some (.int (0 : Int32))) σ) ∧ (¬ (57 : Int32) < x0 → Q (some (.int (1 : Int32))) σ))) :
    JE E d m_Nu_isDigit 0 [(0, .int x0)] [] σ Q := by
  refine J_iload_n dc_Nu_isDigit_0 (Eq.refl 1) 0 rfl ?_
  refine J_bipush (v := (48 : Int32)) dc_Nu_isDigit_1 (Eq.refl 3) rfl ?_
  refine J_icmp_lt dc_Nu_isDigit_3 (Eq.refl 6) rfl (fun hc => ?_) (fun hc => ?_)
  · have h := h.1 hc
    refine J_iconst (v := (0 : Int32)) dc_Nu_isDigit_16 (Eq.refl 17) rfl ?_
    exact J_zret dc_Nu_isDigit_17 rfl rfl h
  · have h := h.2 hc
    refine J_iload_n dc_Nu_isDigit_6 (Eq.refl 7) 0 rfl ?_
    refine J_bipush (v := (57 : Int32)) dc_Nu_isDigit_7 (Eq.refl 9) rfl ?_
    refine J_icmp_gt dc_Nu_isDigit_9 (Eq.refl 12) rfl (fun hc => ?_) (fun hc => ?_)
    · have h := h.1 hc
      refine J_iconst (v := (0 : Int32)) dc_Nu_isDigit_16 (Eq.refl 17) rfl ?_
      exact J_zret dc_Nu_isDigit_17 rfl rfl h
    · have h := h.2 hc
      refine J_iconst (v := (1 : Int32)) dc_Nu_isDigit_12 (Eq.refl 13) rfl ?_
      refine J_goto dc_Nu_isDigit_13 rfl ?_
      exact J_zret dc_Nu_isDigit_17 rfl rfl h
theorem dc_Nu_keep_0 : decode m_Nu_keep.2.1 0 = .ok (.aload_n 0, 1) := by decide +kernel
theorem dc_Nu_keep_1 : decode m_Nu_keep.2.1 1 = .ok (.getfield 22, 3) := by decide +kernel
theorem dc_Nu_keep_4 : decode m_Nu_keep.2.1 4 = .ok (.ifCond .ne 20, 3) := by decide +kernel
theorem dc_Nu_keep_7 : decode m_Nu_keep.2.1 7 = .ok (.iload_n 1, 1) := by decide +kernel
theorem dc_Nu_keep_8 : decode m_Nu_keep.2.1 8 = .ok (.ifCond .ne 16, 3) := by decide +kernel
theorem dc_Nu_keep_11 : decode m_Nu_keep.2.1 11 = .ok (.aload_n 0, 1) := by decide +kernel
theorem dc_Nu_keep_12 : decode m_Nu_keep.2.1 12 = .ok (.dup, 1) := by decide +kernel
theorem dc_Nu_keep_13 : decode m_Nu_keep.2.1 13 = .ok (.getfield 26, 3) := by decide +kernel
theorem dc_Nu_keep_16 : decode m_Nu_keep.2.1 16 = .ok (.iload_n 2, 1) := by decide +kernel
theorem dc_Nu_keep_17 : decode m_Nu_keep.2.1 17 = .ok (.iconst 1, 1) := by decide +kernel
theorem dc_Nu_keep_18 : decode m_Nu_keep.2.1 18 = .ok (.isub, 1) := by decide +kernel
theorem dc_Nu_keep_19 : decode m_Nu_keep.2.1 19 = .ok (.iadd, 1) := by decide +kernel
theorem dc_Nu_keep_20 : decode m_Nu_keep.2.1 20 = .ok (.putfield 26, 3) := by decide +kernel
theorem dc_Nu_keep_23 : decode m_Nu_keep.2.1 23 = .ok (.return_, 1) := by decide +kernel
theorem dc_Nu_keep_24 : decode m_Nu_keep.2.1 24 = .ok (.aload_n 0, 1) := by decide +kernel
theorem dc_Nu_keep_25 : decode m_Nu_keep.2.1 25 = .ok (.dup, 1) := by decide +kernel
theorem dc_Nu_keep_26 : decode m_Nu_keep.2.1 26 = .ok (.getfield 26, 3) := by decide +kernel
theorem dc_Nu_keep_29 : decode m_Nu_keep.2.1 29 = .ok (.iload_n 2, 1) := by decide +kernel
theorem dc_Nu_keep_30 : decode m_Nu_keep.2.1 30 = .ok (.iadd, 1) := by decide +kernel
theorem dc_Nu_keep_31 : decode m_Nu_keep.2.1 31 = .ok (.putfield 26, 3) := by decide +kernel
theorem dc_Nu_keep_34 : decode m_Nu_keep.2.1 34 = .ok (.aload_n 0, 1) := by decide +kernel
theorem dc_Nu_keep_35 : decode m_Nu_keep.2.1 35 = .ok (.getfield 22, 3) := by decide +kernel
theorem dc_Nu_keep_38 : decode m_Nu_keep.2.1 38 = .ok (.sipush 800, 3) := by decide +kernel
theorem dc_Nu_keep_41 : decode m_Nu_keep.2.1 41 = .ok (.if_icmp .ge 27, 3) := by decide +kernel
theorem dc_Nu_keep_44 : decode m_Nu_keep.2.1 44 = .ok (.aload_n 0, 1) := by decide +kernel
theorem dc_Nu_keep_45 : decode m_Nu_keep.2.1 45 = .ok (.getfield 11, 3) := by decide +kernel
theorem dc_Nu_keep_48 : decode m_Nu_keep.2.1 48 = .ok (.aload_n 0, 1) := by decide +kernel
theorem dc_Nu_keep_49 : decode m_Nu_keep.2.1 49 = .ok (.getfield 22, 3) := by decide +kernel
theorem dc_Nu_keep_52 : decode m_Nu_keep.2.1 52 = .ok (.iload_n 1, 1) := by decide +kernel
theorem dc_Nu_keep_53 : decode m_Nu_keep.2.1 53 = .ok (.i2b, 1) := by decide +kernel
theorem dc_Nu_keep_54 : decode m_Nu_keep.2.1 54 = .ok (.bastore, 1) := by decide +kernel
theorem dc_Nu_keep_55 : decode m_Nu_keep.2.1 55 = .ok (.aload_n 0, 1) := by decide +kernel
theorem dc_Nu_keep_56 : decode m_Nu_keep.2.1 56 = .ok (.dup, 1) := by decide +kernel
theorem dc_Nu_keep_57 : decode m_Nu_keep.2.1 57 = .ok (.getfield 22, 3) := by decide +kernel
theorem dc_Nu_keep_60 : decode m_Nu_keep.2.1 60 = .ok (.iconst 1, 1) := by decide +kernel
theorem dc_Nu_keep_61 : decode m_Nu_keep.2.1 61 = .ok (.iadd, 1) := by decide +kernel
theorem dc_Nu_keep_62 : decode m_Nu_keep.2.1 62 = .ok (.putfield 22, 3) := by decide +kernel
theorem dc_Nu_keep_65 : decode m_Nu_keep.2.1 65 = .ok (.goto 12, 3) := by decide +kernel
theorem dc_Nu_keep_68 : decode m_Nu_keep.2.1 68 = .ok (.iload_n 1, 1) := by decide +kernel
theorem dc_Nu_keep_69 : decode m_Nu_keep.2.1 69 = .ok (.ifCond .eq 8, 3) := by decide +kernel
theorem dc_Nu_keep_72 : decode m_Nu_keep.2.1 72 = .ok (.aload_n 0, 1) := by decide +kernel
theorem dc_Nu_keep_73 : decode m_Nu_keep.2.1 73 = .ok (.iconst 1, 1) := by decide +kernel
theorem dc_Nu_keep_74 : decode m_Nu_keep.2.1 74 = .ok (.putfield 29, 3) := by decide +kernel
theorem dc_Nu_keep_77 : decode m_Nu_keep.2.1 77 = .ok (.return_, 1) := by decide +kernel
theorem b_Nu_keep_0 {E : En_t} {d : Nat} {σ : S_t} {Q : Option Value → S_t → Prop} {x1 : Int32} {x2 : Int32}
    (h : (¬ (gI σ 55 2) = 0 → JE E d m_Nu_keep 24 [(0, pv E 55), (1, .int x1), (2, .int x2)] [] σ Q) ∧ ((gI σ 55 2) = 0 → (¬ x1 = 0 → JE E d m_Nu_keep 24 [(0, pv E 55), (1, .int x1), (2, .int x2)] [] σ Q) ∧ (x1 = 0 → Q none (sI σ 55 3 ((gI σ 55 3) + (x2 - (1 : Int32))))))) :
    JE E d m_Nu_keep 0 [(0, pv E 55), (1, .int x1), (2, .int x2)] [] σ Q := by
  refine J_aload_n dc_Nu_keep_0 (Eq.refl 1) 0 rfl ?_
  refine J_getI dc_Nu_keep_1 (Eq.refl 4) fl_Nu_22 (Nat.le_of_ble_eq_true rfl) rfl (Or.inl rfl) ?_
  refine J_if_ne dc_Nu_keep_4 (Eq.refl 7) rfl (fun hc => ?_) (fun hc => ?_)
  · have h := h.1 hc
    exact h
  · have h := h.2 hc
    refine J_iload_n dc_Nu_keep_7 (Eq.refl 8) 1 rfl ?_
    refine J_if_ne dc_Nu_keep_8 (Eq.refl 11) rfl (fun hc => ?_) (fun hc => ?_)
    · have h := h.1 hc
      exact h
    · have h := h.2 hc
      refine J_aload_n dc_Nu_keep_11 (Eq.refl 12) 0 rfl ?_
      refine J_dup dc_Nu_keep_12 (Eq.refl 13) rfl ?_
      refine J_getI dc_Nu_keep_13 (Eq.refl 16) fl_Nu_26 (Nat.le_of_ble_eq_true rfl) rfl (Or.inl rfl) ?_
      refine J_iload_n dc_Nu_keep_16 (Eq.refl 17) 2 rfl ?_
      refine J_iconst (v := (1 : Int32)) dc_Nu_keep_17 (Eq.refl 18) rfl ?_
      refine J_isub dc_Nu_keep_18 (Eq.refl 19) ?_
      refine J_iadd dc_Nu_keep_19 (Eq.refl 20) ?_
      refine J_putI dc_Nu_keep_20 (Eq.refl 23) pl_Nu_26 (Nat.le_of_ble_eq_true rfl) rfl rfl ?_
      exact J_vret dc_Nu_keep_23 rfl h
theorem b_Nu_keep_24 {E : En_t} {d : Nat} {σ : S_t} {Q : Option Value → S_t → Prop} {x1 : Int32} {x2 : Int32}
    (h : ((800 : Int32) ≤ (gI (sI σ 55 3 ((gI σ 55 3) + x2)) 55 2) → (x1 = 0 → Q none (sI σ 55 3 ((gI σ 55 3) + x2))) ∧ (¬ x1 = 0 → Q none (sI (sI σ 55 3 ((gI σ 55 3) + x2)) 55 4 (1 : Int32)))) ∧ (¬ (800 : Int32) ≤ (gI (sI σ 55 3 ((gI σ 55 3) + x2)) 55 2) → vp_in (gI (sI σ 55 3 ((gI σ 55 3) + x2)) 55 2) 800 ∧ (∀ v1, v1 = gI (sI (sI σ 55 3 ((gI σ 55 3) + x2)) 56 (gI (sI σ 55 3 ((gI σ 55 3) + x2)) 55 2).toNatClampNeg (vp_nar .byte x1.toInt8.toInt32)) 55 2 → (∀ σ2, σ2 = sI (sI (sI σ 55 3 ((gI σ 55 3) + x2)) 56 (gI (sI σ 55 3 ((gI σ 55 3) + x2)) 55 2).toNatClampNeg (vp_nar .byte x1.toInt8.toInt32)) 55 2 (v1 + (1 : Int32)) → (Q none σ2))))) :
    JE E d m_Nu_keep 24 [(0, pv E 55), (1, .int x1), (2, .int x2)] [] σ Q := by
  refine J_aload_n dc_Nu_keep_24 (Eq.refl 25) 0 rfl ?_
  refine J_dup dc_Nu_keep_25 (Eq.refl 26) rfl ?_
  refine J_getI dc_Nu_keep_26 (Eq.refl 29) fl_Nu_26 (Nat.le_of_ble_eq_true rfl) rfl (Or.inl rfl) ?_
  refine J_iload_n dc_Nu_keep_29 (Eq.refl 30) 2 rfl ?_
  refine J_iadd dc_Nu_keep_30 (Eq.refl 31) ?_
  refine J_putI dc_Nu_keep_31 (Eq.refl 34) pl_Nu_26 (Nat.le_of_ble_eq_true rfl) rfl rfl ?_
  refine J_aload_n dc_Nu_keep_34 (Eq.refl 35) 0 rfl ?_
  refine J_getI dc_Nu_keep_35 (Eq.refl 38) fl_Nu_22 (Nat.le_of_ble_eq_true rfl) rfl (Or.inl rfl) ?_
  refine J_sipush (v := (800 : Int32)) dc_Nu_keep_38 (Eq.refl 41) rfl ?_
  refine J_icmp_ge dc_Nu_keep_41 (Eq.refl 44) rfl (fun hc => ?_) (fun hc => ?_)
  · have h := h.1 hc
    refine J_iload_n dc_Nu_keep_68 (Eq.refl 69) 1 rfl ?_
    refine J_if_eq dc_Nu_keep_69 (Eq.refl 72) rfl (fun hc => ?_) (fun hc => ?_)
    · have h := h.1 hc
      exact J_vret dc_Nu_keep_77 rfl h
    · have h := h.2 hc
      refine J_aload_n dc_Nu_keep_72 (Eq.refl 73) 0 rfl ?_
      refine J_iconst (v := (1 : Int32)) dc_Nu_keep_73 (Eq.refl 74) rfl ?_
      refine J_putZ dc_Nu_keep_74 (Eq.refl 77) pl_Nu_29 (Nat.le_of_ble_eq_true rfl) rfl rfl (Or.inr rfl) ?_
      exact J_vret dc_Nu_keep_77 rfl h
  · have h := h.2 hc
    refine J_aload_n dc_Nu_keep_44 (Eq.refl 45) 0 rfl ?_
    refine J_getF (y := 56) dc_Nu_keep_45 (Eq.refl 48) fl_Nu_11 (Nat.le_of_ble_eq_true rfl) rfl (Or.inl rfl) rfl ?_
    refine J_aload_n dc_Nu_keep_48 (Eq.refl 49) 0 rfl ?_
    refine J_getI dc_Nu_keep_49 (Eq.refl 52) fl_Nu_22 (Nat.le_of_ble_eq_true rfl) rfl (Or.inl rfl) ?_
    refine J_iload_n dc_Nu_keep_52 (Eq.refl 53) 1 rfl ?_
    refine J_i2b dc_Nu_keep_53 (Eq.refl 54) ?_
    obtain ⟨hg, h⟩ := h
    refine J_bast dc_Nu_keep_54 (Eq.refl 55) rfl rfl hg ?_
    refine J_aload_n dc_Nu_keep_55 (Eq.refl 56) 0 rfl ?_
    refine J_dup dc_Nu_keep_56 (Eq.refl 57) rfl ?_
    refine J_getI dc_Nu_keep_57 (Eq.refl 60) fl_Nu_22 (Nat.le_of_ble_eq_true rfl) rfl (Or.inl rfl) ?_
    refine J_topi (fun v1 ev1 => ?_)
    have h := h v1 ev1
    refine J_iconst (v := (1 : Int32)) dc_Nu_keep_60 (Eq.refl 61) rfl ?_
    refine J_iadd dc_Nu_keep_61 (Eq.refl 62) ?_
    refine J_putI dc_Nu_keep_62 (Eq.refl 65) pl_Nu_22 (Nat.le_of_ble_eq_true rfl) rfl rfl ?_
    refine J_st (fun σ2 eσ2 => ?_)
    have h := h σ2 eσ2
    refine J_goto dc_Nu_keep_65 rfl ?_
    exact J_vret dc_Nu_keep_77 rfl h
theorem dc_Nu_scanPower_0 : decode m_Nu_scanPower.2.1 0 = .ok (.aload_n 1, 1) := by decide +kernel
theorem dc_Nu_scanPower_1 : decode m_Nu_scanPower.2.1 1 = .ok (.bipush 45, 2) := by decide +kernel
theorem dc_Nu_scanPower_3 : decode m_Nu_scanPower.2.1 3 = .ok (.invokevirtual 33, 3) := by decide +kernel
theorem dc_Nu_scanPower_6 : decode m_Nu_scanPower.2.1 6 = .ok (.istore_n 2, 1) := by decide +kernel
theorem dc_Nu_scanPower_7 : decode m_Nu_scanPower.2.1 7 = .ok (.iload_n 2, 1) := by decide +kernel
theorem dc_Nu_scanPower_8 : decode m_Nu_scanPower.2.1 8 = .ok (.ifCond .ne 10, 3) := by decide +kernel
theorem dc_Nu_scanPower_11 : decode m_Nu_scanPower.2.1 11 = .ok (.aload_n 1, 1) := by decide +kernel
theorem dc_Nu_scanPower_12 : decode m_Nu_scanPower.2.1 12 = .ok (.bipush 43, 2) := by decide +kernel
theorem dc_Nu_scanPower_14 : decode m_Nu_scanPower.2.1 14 = .ok (.invokevirtual 33, 3) := by decide +kernel
theorem dc_Nu_scanPower_17 : decode m_Nu_scanPower.2.1 17 = .ok (.pop, 1) := by decide +kernel
theorem dc_Nu_scanPower_18 : decode m_Nu_scanPower.2.1 18 = .ok (.aload_n 1, 1) := by decide +kernel
theorem dc_Nu_scanPower_19 : decode m_Nu_scanPower.2.1 19 = .ok (.getfield 53, 3) := by decide +kernel
theorem dc_Nu_scanPower_22 : decode m_Nu_scanPower.2.1 22 = .ok (.istore_n 3, 1) := by decide +kernel
theorem dc_Nu_scanPower_23 : decode m_Nu_scanPower.2.1 23 = .ok (.iconst 0, 1) := by decide +kernel
theorem dc_Nu_scanPower_24 : decode m_Nu_scanPower.2.1 24 = .ok (.istore 4, 2) := by decide +kernel
theorem dc_Nu_scanPower_26 : decode m_Nu_scanPower.2.1 26 = .ok (.iconst 0, 1) := by decide +kernel
theorem dc_Nu_scanPower_27 : decode m_Nu_scanPower.2.1 27 = .ok (.istore 5, 2) := by decide +kernel
theorem dc_Nu_scanPower_29 : decode m_Nu_scanPower.2.1 29 = .ok (.iload 5, 2) := by decide +kernel
theorem dc_Nu_scanPower_31 : decode m_Nu_scanPower.2.1 31 = .ok (.sipush 2000, 3) := by decide +kernel
theorem dc_Nu_scanPower_34 : decode m_Nu_scanPower.2.1 34 = .ok (.if_icmp .ge 49, 3) := by decide +kernel
theorem dc_Nu_scanPower_37 : decode m_Nu_scanPower.2.1 37 = .ok (.aload_n 1, 1) := by decide +kernel
theorem dc_Nu_scanPower_38 : decode m_Nu_scanPower.2.1 38 = .ok (.invokevirtual 56, 3) := by decide +kernel
theorem dc_Nu_scanPower_41 : decode m_Nu_scanPower.2.1 41 = .ok (.invokestatic 60, 3) := by decide +kernel
theorem dc_Nu_scanPower_44 : decode m_Nu_scanPower.2.1 44 = .ok (.ifCond .eq 39, 3) := by decide +kernel
theorem dc_Nu_scanPower_47 : decode m_Nu_scanPower.2.1 47 = .ok (.ldc 67, 2) := by decide +kernel
theorem dc_Nu_scanPower_49 : decode m_Nu_scanPower.2.1 49 = .ok (.bipush 10, 2) := by decide +kernel
theorem dc_Nu_scanPower_51 : decode m_Nu_scanPower.2.1 51 = .ok (.iload 4, 2) := by decide +kernel
theorem dc_Nu_scanPower_53 : decode m_Nu_scanPower.2.1 53 = .ok (.imul, 1) := by decide +kernel
theorem dc_Nu_scanPower_54 : decode m_Nu_scanPower.2.1 54 = .ok (.aload_n 1, 1) := by decide +kernel
theorem dc_Nu_scanPower_55 : decode m_Nu_scanPower.2.1 55 = .ok (.invokevirtual 56, 3) := by decide +kernel
theorem dc_Nu_scanPower_58 : decode m_Nu_scanPower.2.1 58 = .ok (.iadd, 1) := by decide +kernel
theorem dc_Nu_scanPower_59 : decode m_Nu_scanPower.2.1 59 = .ok (.bipush 48, 2) := by decide +kernel
theorem dc_Nu_scanPower_61 : decode m_Nu_scanPower.2.1 61 = .ok (.isub, 1) := by decide +kernel
theorem dc_Nu_scanPower_62 : decode m_Nu_scanPower.2.1 62 = .ok (.invokestatic 68, 3) := by decide +kernel
theorem dc_Nu_scanPower_65 : decode m_Nu_scanPower.2.1 65 = .ok (.istore 4, 2) := by decide +kernel
theorem dc_Nu_scanPower_67 : decode m_Nu_scanPower.2.1 67 = .ok (.aload_n 1, 1) := by decide +kernel
theorem dc_Nu_scanPower_68 : decode m_Nu_scanPower.2.1 68 = .ok (.dup, 1) := by decide +kernel
theorem dc_Nu_scanPower_69 : decode m_Nu_scanPower.2.1 69 = .ok (.getfield 53, 3) := by decide +kernel
theorem dc_Nu_scanPower_72 : decode m_Nu_scanPower.2.1 72 = .ok (.iconst 1, 1) := by decide +kernel
theorem dc_Nu_scanPower_73 : decode m_Nu_scanPower.2.1 73 = .ok (.iadd, 1) := by decide +kernel
theorem dc_Nu_scanPower_74 : decode m_Nu_scanPower.2.1 74 = .ok (.putfield 53, 3) := by decide +kernel
theorem dc_Nu_scanPower_77 : decode m_Nu_scanPower.2.1 77 = .ok (.iinc 5 1, 3) := by decide +kernel
theorem dc_Nu_scanPower_80 : decode m_Nu_scanPower.2.1 80 = .ok (.goto (-51), 3) := by decide +kernel
theorem dc_Nu_scanPower_83 : decode m_Nu_scanPower.2.1 83 = .ok (.aload_n 0, 1) := by decide +kernel
theorem dc_Nu_scanPower_84 : decode m_Nu_scanPower.2.1 84 = .ok (.dup, 1) := by decide +kernel
theorem dc_Nu_scanPower_85 : decode m_Nu_scanPower.2.1 85 = .ok (.getfield 26, 3) := by decide +kernel
theorem dc_Nu_scanPower_88 : decode m_Nu_scanPower.2.1 88 = .ok (.iload_n 2, 1) := by decide +kernel
theorem dc_Nu_scanPower_89 : decode m_Nu_scanPower.2.1 89 = .ok (.ifCond .eq 9, 3) := by decide +kernel
theorem dc_Nu_scanPower_92 : decode m_Nu_scanPower.2.1 92 = .ok (.iload 4, 2) := by decide +kernel
theorem dc_Nu_scanPower_94 : decode m_Nu_scanPower.2.1 94 = .ok (.ineg, 1) := by decide +kernel
theorem dc_Nu_scanPower_95 : decode m_Nu_scanPower.2.1 95 = .ok (.goto 5, 3) := by decide +kernel
theorem dc_Nu_scanPower_98 : decode m_Nu_scanPower.2.1 98 = .ok (.iload 4, 2) := by decide +kernel
theorem dc_Nu_scanPower_100 : decode m_Nu_scanPower.2.1 100 = .ok (.iadd, 1) := by decide +kernel
theorem dc_Nu_scanPower_101 : decode m_Nu_scanPower.2.1 101 = .ok (.putfield 26, 3) := by decide +kernel
theorem dc_Nu_scanPower_104 : decode m_Nu_scanPower.2.1 104 = .ok (.aload_n 1, 1) := by decide +kernel
theorem dc_Nu_scanPower_105 : decode m_Nu_scanPower.2.1 105 = .ok (.getfield 53, 3) := by decide +kernel
theorem dc_Nu_scanPower_108 : decode m_Nu_scanPower.2.1 108 = .ok (.iload_n 3, 1) := by decide +kernel
theorem dc_Nu_scanPower_109 : decode m_Nu_scanPower.2.1 109 = .ok (.if_icmp .le 7, 3) := by decide +kernel
theorem dc_Nu_scanPower_112 : decode m_Nu_scanPower.2.1 112 = .ok (.iconst 1, 1) := by decide +kernel
theorem dc_Nu_scanPower_113 : decode m_Nu_scanPower.2.1 113 = .ok (.goto 4, 3) := by decide +kernel
theorem dc_Nu_scanPower_116 : decode m_Nu_scanPower.2.1 116 = .ok (.iconst 0, 1) := by decide +kernel
theorem dc_Nu_scanPower_117 : decode m_Nu_scanPower.2.1 117 = .ok (.ireturn, 1) := by decide +kernel
theorem b_Nu_scanPower_0 {E : En_t} {d : Nat} {σ : S_t} {Q : Option Value → S_t → Prop}
    (h : CI E d m_Te_pass [pv E 51, .int (45 : Int32)] σ (fun r2 σ1 => (¬ r2 = 0 → JE E (d + 1) m_Nu_scanPower 18 [(0, pv E 55), (1, pv E 51), (2, .int r2)] [] σ1 Q) ∧ (r2 = 0 → CI E d m_Te_pass [pv E 51, .int (43 : Int32)] σ1 (fun r4 σ3 => JE E (d + 1) m_Nu_scanPower 18 [(0, pv E 55), (1, pv E 51), (2, .int r2)] [] σ3 Q)))) :
    JE E (d + 1) m_Nu_scanPower 0 [(0, pv E 55), (1, pv E 51)] [] σ Q := by
  refine J_aload_n dc_Nu_scanPower_0 (Eq.refl 1) 1 rfl ?_
  refine J_bipush (v := (45 : Int32)) dc_Nu_scanPower_1 (Eq.refl 3) rfl ?_
  refine J_callVI (As := [.int (45 : Int32)]) (st := []) dc_Nu_scanPower_3 (Eq.refl 6) lk_Nu_33 mi_Te_pass rfl (Nat.le_of_ble_eq_true rfl) rfl rfl (Nat.le_of_ble_eq_true rfl) rfl (Nat.le_of_ble_eq_true rfl) (CI.mono h (fun r2 σ1 h => ?_))
  refine J_istore_n (L' := [(2, .int r2), (0, pv E 55), (1, pv E 51)]) dc_Nu_scanPower_6 (Eq.refl 7) (Nat.le_of_ble_eq_true rfl) rfl ?_
  refine J_iload_n dc_Nu_scanPower_7 (Eq.refl 8) 0 rfl ?_
  refine J_if_ne dc_Nu_scanPower_8 (Eq.refl 11) rfl (fun hc => ?_) (fun hc => ?_)
  · have h := h.1 hc
    refine J_sub [1, 2, 0] rfl ?_
    exact h
  · have h := h.2 hc
    refine J_aload_n dc_Nu_scanPower_11 (Eq.refl 12) 2 rfl ?_
    refine J_bipush (v := (43 : Int32)) dc_Nu_scanPower_12 (Eq.refl 14) rfl ?_
    refine J_callVI (As := [.int (43 : Int32)]) (st := []) dc_Nu_scanPower_14 (Eq.refl 17) lk_Nu_33 mi_Te_pass rfl (Nat.le_of_ble_eq_true rfl) rfl rfl (Nat.le_of_ble_eq_true rfl) rfl (Nat.le_of_ble_eq_true rfl) (CI.mono h (fun r4 σ3 h => ?_))
    refine J_pop dc_Nu_scanPower_17 (Eq.refl 18) rfl ?_
    refine J_sub [1, 2, 0] rfl ?_
    exact h
theorem b_Nu_scanPower_18 {E : En_t} {d : Nat} {σ : S_t} {Q : Option Value → S_t → Prop} {x2 : Int32}
    (h : JE E (d + 1) m_Nu_scanPower 29 [(0, pv E 55), (1, pv E 51), (2, .int x2), (3, .int (gI σ 51 2)), (4, .int (0 : Int32)), (5, .int (0 : Int32))] [] σ Q) :
    JE E (d + 1) m_Nu_scanPower 18 [(0, pv E 55), (1, pv E 51), (2, .int x2)] [] σ Q := by
  refine J_aload_n dc_Nu_scanPower_18 (Eq.refl 19) 1 rfl ?_
  refine J_getI dc_Nu_scanPower_19 (Eq.refl 22) fl_Nu_53 (Nat.le_of_ble_eq_true rfl) rfl (Or.inl rfl) ?_
  refine J_istore_n (L' := [(3, .int (gI σ 51 2)), (0, pv E 55), (1, pv E 51), (2, .int x2)]) dc_Nu_scanPower_22 (Eq.refl 23) (Nat.le_of_ble_eq_true rfl) rfl ?_
  refine J_iconst (v := (0 : Int32)) dc_Nu_scanPower_23 (Eq.refl 24) rfl ?_
  refine J_istore (L' := [(4, .int (0 : Int32)), (3, .int (gI σ 51 2)), (0, pv E 55), (1, pv E 51), (2, .int x2)]) dc_Nu_scanPower_24 (Eq.refl 26) (Nat.le_of_ble_eq_true rfl) rfl ?_
  refine J_iconst (v := (0 : Int32)) dc_Nu_scanPower_26 (Eq.refl 27) rfl ?_
  refine J_istore (L' := [(5, .int (0 : Int32)), (4, .int (0 : Int32)), (3, .int (gI σ 51 2)), (0, pv E 55), (1, pv E 51), (2, .int x2)]) dc_Nu_scanPower_27 (Eq.refl 29) (Nat.le_of_ble_eq_true rfl) rfl ?_
  refine J_sub [3, 4, 5, 2, 1, 0] rfl ?_
  exact h
theorem b_Nu_scanPower_29 {E : En_t} {d : Nat} {σ : S_t} {Q : Option Value → S_t → Prop} {x2 : Int32} {x3 : Int32} {x4 : Int32} {x5 : Int32}
    (h : ((2000 : Int32) ≤ x5 → JE E (d + 1) m_Nu_scanPower 83 [(0, pv E 55), (1, pv E 51), (2, .int x2), (3, .int x3), (4, .int x4)] [] σ Q) ∧ (¬ (2000 : Int32) ≤ x5 → CI E d m_Te_here [pv E 51] σ (fun r2 σ1 => CI E d m_Nu_isDigit [.int r2] σ1 (fun r4 σ3 => (r4 = 0 → JE E (d + 1) m_Nu_scanPower 83 [(0, pv E 55), (1, pv E 51), (2, .int x2), (3, .int x3), (4, .int x4)] [] σ3 Q) ∧ (¬ r4 = 0 → CI E d m_Te_here [pv E 51] σ3 (fun r6 σ5 => ∀ r7, r7 = mnI (99999 : Int32) ((((10 : Int32) * x4) + r6) - (48 : Int32)) → (JE E (d + 1) m_Nu_scanPower 29 [(0, pv E 55), (1, pv E 51), (2, .int x2), (3, .int x3), (4, .int r7), (5, .int (x5 + (1 : Int32)))] [] (sI σ5 51 2 ((gI σ5 51 2) + (1 : Int32))) Q))))))) :
    JE E (d + 1) m_Nu_scanPower 29 [(0, pv E 55), (1, pv E 51), (2, .int x2), (3, .int x3), (4, .int x4), (5, .int x5)] [] σ Q := by
  refine J_iload dc_Nu_scanPower_29 (Eq.refl 31) 5 rfl ?_
  refine J_sipush (v := (2000 : Int32)) dc_Nu_scanPower_31 (Eq.refl 34) rfl ?_
  refine J_icmp_ge dc_Nu_scanPower_34 (Eq.refl 37) rfl (fun hc => ?_) (fun hc => ?_)
  · have h := h.1 hc
    refine J_sub [0, 1, 2, 3, 4] rfl ?_
    exact h
  · have h := h.2 hc
    refine J_aload_n dc_Nu_scanPower_37 (Eq.refl 38) 1 rfl ?_
    refine J_callVI (As := []) (st := []) dc_Nu_scanPower_38 (Eq.refl 41) lk_Nu_56 mi_Te_here rfl (Nat.le_of_ble_eq_true rfl) rfl rfl (Nat.le_of_ble_eq_true rfl) rfl (Nat.le_of_ble_eq_true rfl) (CI.mono h (fun r2 σ1 h => ?_))
    refine J_callSI (As := [.int r2]) (st := []) dc_Nu_scanPower_41 (Eq.refl 44) lk_Nu_60 mi_Nu_isDigit (Nat.le_of_ble_eq_true rfl) rfl (Nat.le_of_ble_eq_true rfl) (CI.mono h (fun r4 σ3 h => ?_))
    refine J_if_eq dc_Nu_scanPower_44 (Eq.refl 47) rfl (fun hc => ?_) (fun hc => ?_)
    · have h := h.1 hc
      refine J_sub [0, 1, 2, 3, 4] rfl ?_
      exact h
    · have h := h.2 hc
      refine J_ldc dc_Nu_scanPower_47 (Eq.refl 49) kc_Nu_67 ?_
      refine J_bipush (v := (10 : Int32)) dc_Nu_scanPower_49 (Eq.refl 51) rfl ?_
      refine J_iload dc_Nu_scanPower_51 (Eq.refl 53) 4 rfl ?_
      refine J_imul dc_Nu_scanPower_53 (Eq.refl 54) ?_
      refine J_aload_n dc_Nu_scanPower_54 (Eq.refl 55) 1 rfl ?_
      refine J_callVI (As := []) (st := [.int ((10 : Int32) * x4), .int (99999 : Int32)]) dc_Nu_scanPower_55 (Eq.refl 58) lk_Nu_56 mi_Te_here rfl (Nat.le_of_ble_eq_true rfl) rfl rfl (Nat.le_of_ble_eq_true rfl) rfl (Nat.le_of_ble_eq_true rfl) (CI.mono h (fun r6 σ5 h => ?_))
      refine J_iadd dc_Nu_scanPower_58 (Eq.refl 59) ?_
      refine J_bipush (v := (48 : Int32)) dc_Nu_scanPower_59 (Eq.refl 61) rfl ?_
      refine J_isub dc_Nu_scanPower_61 (Eq.refl 62) ?_
      refine J_mmin dc_Nu_scanPower_62 (Eq.refl 65) lk_Nu_68 (Nat.le_of_ble_eq_true rfl) (fun r7 er7 => ?_)
      have h := h r7 er7
      refine J_istore (L' := [(4, .int r7), (0, pv E 55), (1, pv E 51), (2, .int x2), (3, .int x3), (5, .int x5)]) dc_Nu_scanPower_65 (Eq.refl 67) (Nat.le_of_ble_eq_true rfl) rfl ?_
      refine J_aload_n dc_Nu_scanPower_67 (Eq.refl 68) 2 rfl ?_
      refine J_dup dc_Nu_scanPower_68 (Eq.refl 69) rfl ?_
      refine J_getI dc_Nu_scanPower_69 (Eq.refl 72) fl_Nu_53 (Nat.le_of_ble_eq_true rfl) rfl (Or.inl rfl) ?_
      refine J_iconst (v := (1 : Int32)) dc_Nu_scanPower_72 (Eq.refl 73) rfl ?_
      refine J_iadd dc_Nu_scanPower_73 (Eq.refl 74) ?_
      refine J_putI dc_Nu_scanPower_74 (Eq.refl 77) pl_Nu_53 (Nat.le_of_ble_eq_true rfl) rfl rfl ?_
      refine J_iinc (v := x5 + (1 : Int32)) (L' := [(5, .int (x5 + (1 : Int32))), (4, .int r7), (0, pv E 55), (1, pv E 51), (2, .int x2), (3, .int x3)]) dc_Nu_scanPower_77 (Eq.refl 80) 5 rfl rfl (Nat.le_of_ble_eq_true rfl) rfl ?_
      refine J_goto dc_Nu_scanPower_80 rfl ?_
      refine J_sub [2, 3, 4, 5, 1, 0] rfl ?_
      exact h
theorem b_Nu_scanPower_83 {E : En_t} {d : Nat} {σ : S_t} {Q : Option Value → S_t → Prop} {x2 : Int32} {x3 : Int32} {x4 : Int32}
    (h : (x2 = 0 → JE E (d + 1) m_Nu_scanPower 100 [(1, pv E 51), (3, .int x3)] [.int x4, .int (gI σ 55 3), pv E 55] σ Q) ∧ (¬ x2 = 0 → JE E (d + 1) m_Nu_scanPower 100 [(1, pv E 51), (3, .int x3)] [.int (-x4), .int (gI σ 55 3), pv E 55] σ Q)) :
    JE E (d + 1) m_Nu_scanPower 83 [(0, pv E 55), (1, pv E 51), (2, .int x2), (3, .int x3), (4, .int x4)] [] σ Q := by
  refine J_aload_n dc_Nu_scanPower_83 (Eq.refl 84) 0 rfl ?_
  refine J_dup dc_Nu_scanPower_84 (Eq.refl 85) rfl ?_
  refine J_getI dc_Nu_scanPower_85 (Eq.refl 88) fl_Nu_26 (Nat.le_of_ble_eq_true rfl) rfl (Or.inl rfl) ?_
  refine J_iload_n dc_Nu_scanPower_88 (Eq.refl 89) 2 rfl ?_
  refine J_if_eq dc_Nu_scanPower_89 (Eq.refl 92) rfl (fun hc => ?_) (fun hc => ?_)
  · have h := h.1 hc
    refine J_iload dc_Nu_scanPower_98 (Eq.refl 100) 4 rfl ?_
    refine J_sub [1, 3] rfl ?_
    exact h
  · have h := h.2 hc
    refine J_iload dc_Nu_scanPower_92 (Eq.refl 94) 4 rfl ?_
    refine J_ineg dc_Nu_scanPower_94 (Eq.refl 95) ?_
    refine J_goto dc_Nu_scanPower_95 rfl ?_
    refine J_sub [1, 3] rfl ?_
    exact h
theorem b_Nu_scanPower_100 {E : En_t} {d : Nat} {σ : S_t} {Q : Option Value → S_t → Prop} {x3 : Int32} {s0 : Int32} {s1 : Int32}
    (h : ((gI (sI σ 55 3 (s1 + s0)) 51 2) ≤ x3 → Q (some (.int (0 : Int32))) (sI σ 55 3 (s1 + s0))) ∧ (¬ (gI (sI σ 55 3 (s1 + s0)) 51 2) ≤ x3 → Q (some (.int (1 : Int32))) (sI σ 55 3 (s1 + s0)))) :
    JE E (d + 1) m_Nu_scanPower 100 [(1, pv E 51), (3, .int x3)] [.int s0, .int s1, pv E 55] σ Q := by
  refine J_iadd dc_Nu_scanPower_100 (Eq.refl 101) ?_
  refine J_putI dc_Nu_scanPower_101 (Eq.refl 104) pl_Nu_26 (Nat.le_of_ble_eq_true rfl) rfl rfl ?_
  refine J_aload_n dc_Nu_scanPower_104 (Eq.refl 105) 0 rfl ?_
  refine J_getI dc_Nu_scanPower_105 (Eq.refl 108) fl_Nu_53 (Nat.le_of_ble_eq_true rfl) rfl (Or.inl rfl) ?_
  refine J_iload_n dc_Nu_scanPower_108 (Eq.refl 109) 1 rfl ?_
  refine J_icmp_le dc_Nu_scanPower_109 (Eq.refl 112) rfl (fun hc => ?_) (fun hc => ?_)
  · have h := h.1 hc
    refine J_iconst (v := (0 : Int32)) dc_Nu_scanPower_116 (Eq.refl 117) rfl ?_
    exact J_zret dc_Nu_scanPower_117 rfl rfl h
  · have h := h.2 hc
    refine J_iconst (v := (1 : Int32)) dc_Nu_scanPower_112 (Eq.refl 113) rfl ?_
    refine J_goto dc_Nu_scanPower_113 rfl ?_
    exact J_zret dc_Nu_scanPower_117 rfl rfl h
theorem dc_Nu_stripZeros_0 : decode m_Nu_stripZeros.2.1 0 = .ok (.aload_n 0, 1) := by decide +kernel
theorem dc_Nu_stripZeros_1 : decode m_Nu_stripZeros.2.1 1 = .ok (.getfield 22, 3) := by decide +kernel
theorem dc_Nu_stripZeros_4 : decode m_Nu_stripZeros.2.1 4 = .ok (.ifCond .le 30, 3) := by decide +kernel
theorem dc_Nu_stripZeros_7 : decode m_Nu_stripZeros.2.1 7 = .ok (.aload_n 0, 1) := by decide +kernel
theorem dc_Nu_stripZeros_8 : decode m_Nu_stripZeros.2.1 8 = .ok (.getfield 11, 3) := by decide +kernel
theorem dc_Nu_stripZeros_11 : decode m_Nu_stripZeros.2.1 11 = .ok (.aload_n 0, 1) := by decide +kernel
theorem dc_Nu_stripZeros_12 : decode m_Nu_stripZeros.2.1 12 = .ok (.getfield 22, 3) := by decide +kernel
theorem dc_Nu_stripZeros_15 : decode m_Nu_stripZeros.2.1 15 = .ok (.iconst 1, 1) := by decide +kernel
theorem dc_Nu_stripZeros_16 : decode m_Nu_stripZeros.2.1 16 = .ok (.isub, 1) := by decide +kernel
theorem dc_Nu_stripZeros_17 : decode m_Nu_stripZeros.2.1 17 = .ok (.baload, 1) := by decide +kernel
theorem dc_Nu_stripZeros_18 : decode m_Nu_stripZeros.2.1 18 = .ok (.ifCond .ne 16, 3) := by decide +kernel
theorem dc_Nu_stripZeros_21 : decode m_Nu_stripZeros.2.1 21 = .ok (.aload_n 0, 1) := by decide +kernel
theorem dc_Nu_stripZeros_22 : decode m_Nu_stripZeros.2.1 22 = .ok (.dup, 1) := by decide +kernel
theorem dc_Nu_stripZeros_23 : decode m_Nu_stripZeros.2.1 23 = .ok (.getfield 22, 3) := by decide +kernel
theorem dc_Nu_stripZeros_26 : decode m_Nu_stripZeros.2.1 26 = .ok (.iconst 1, 1) := by decide +kernel
theorem dc_Nu_stripZeros_27 : decode m_Nu_stripZeros.2.1 27 = .ok (.isub, 1) := by decide +kernel
theorem dc_Nu_stripZeros_28 : decode m_Nu_stripZeros.2.1 28 = .ok (.putfield 22, 3) := by decide +kernel
theorem dc_Nu_stripZeros_31 : decode m_Nu_stripZeros.2.1 31 = .ok (.goto (-31), 3) := by decide +kernel
theorem dc_Nu_stripZeros_34 : decode m_Nu_stripZeros.2.1 34 = .ok (.return_, 1) := by decide +kernel
theorem b_Nu_stripZeros_0 {E : En_t} {d : Nat} {σ : S_t} {Q : Option Value → S_t → Prop}
    (h : ((gI σ 55 2) ≤ 0 → Q none σ) ∧ (¬ (gI σ 55 2) ≤ 0 → vp_in ((gI σ 55 2) - (1 : Int32)) 800 ∧ ((¬ (gI σ 56 ((gI σ 55 2) - (1 : Int32)).toNatClampNeg) = 0 → Q none σ) ∧ ((gI σ 56 ((gI σ 55 2) - (1 : Int32)).toNatClampNeg) = 0 → JE E d m_Nu_stripZeros 0 [(0, pv E 55)] [] (sI σ 55 2 ((gI σ 55 2) - (1 : Int32))) Q)))) :
    JE E d m_Nu_stripZeros 0 [(0, pv E 55)] [] σ Q := by
  refine J_aload_n dc_Nu_stripZeros_0 (Eq.refl 1) 0 rfl ?_
  refine J_getI dc_Nu_stripZeros_1 (Eq.refl 4) fl_Nu_22 (Nat.le_of_ble_eq_true rfl) rfl (Or.inl rfl) ?_
  refine J_if_le dc_Nu_stripZeros_4 (Eq.refl 7) rfl (fun hc => ?_) (fun hc => ?_)
  · have h := h.1 hc
    exact J_vret dc_Nu_stripZeros_34 rfl h
  · have h := h.2 hc
    refine J_aload_n dc_Nu_stripZeros_7 (Eq.refl 8) 0 rfl ?_
    refine J_getF (y := 56) dc_Nu_stripZeros_8 (Eq.refl 11) fl_Nu_11 (Nat.le_of_ble_eq_true rfl) rfl (Or.inl rfl) rfl ?_
    refine J_aload_n dc_Nu_stripZeros_11 (Eq.refl 12) 0 rfl ?_
    refine J_getI dc_Nu_stripZeros_12 (Eq.refl 15) fl_Nu_22 (Nat.le_of_ble_eq_true rfl) rfl (Or.inl rfl) ?_
    refine J_iconst (v := (1 : Int32)) dc_Nu_stripZeros_15 (Eq.refl 16) rfl ?_
    refine J_isub dc_Nu_stripZeros_16 (Eq.refl 17) ?_
    obtain ⟨hg, h⟩ := h
    refine J_bald dc_Nu_stripZeros_17 (Eq.refl 18) rfl rfl hg ?_
    refine J_if_ne dc_Nu_stripZeros_18 (Eq.refl 21) rfl (fun hc => ?_) (fun hc => ?_)
    · have h := h.1 hc
      exact J_vret dc_Nu_stripZeros_34 rfl h
    · have h := h.2 hc
      refine J_aload_n dc_Nu_stripZeros_21 (Eq.refl 22) 0 rfl ?_
      refine J_dup dc_Nu_stripZeros_22 (Eq.refl 23) rfl ?_
      refine J_getI dc_Nu_stripZeros_23 (Eq.refl 26) fl_Nu_22 (Nat.le_of_ble_eq_true rfl) rfl (Or.inl rfl) ?_
      refine J_iconst (v := (1 : Int32)) dc_Nu_stripZeros_26 (Eq.refl 27) rfl ?_
      refine J_isub dc_Nu_stripZeros_27 (Eq.refl 28) ?_
      refine J_putI dc_Nu_stripZeros_28 (Eq.refl 31) pl_Nu_22 (Nat.le_of_ble_eq_true rfl) rfl rfl ?_
      refine J_goto dc_Nu_stripZeros_31 rfl ?_
      exact h
theorem dc_Nu_toBits_0 : decode m_Nu_toBits.2.1 0 = .ok (.aload_n 0, 1) := by decide +kernel
theorem dc_Nu_toBits_1 : decode m_Nu_toBits.2.1 1 = .ok (.getfield 39, 3) := by decide +kernel
theorem dc_Nu_toBits_4 : decode m_Nu_toBits.2.1 4 = .ok (.ifCond .eq 9, 3) := by decide +kernel
theorem dc_Nu_toBits_7 : decode m_Nu_toBits.2.1 7 = .ok (.ldc2_w 74, 3) := by decide +kernel
theorem dc_Nu_toBits_10 : decode m_Nu_toBits.2.1 10 = .ok (.goto 4, 3) := by decide +kernel
theorem dc_Nu_toBits_13 : decode m_Nu_toBits.2.1 13 = .ok (.lconst 0, 1) := by decide +kernel
theorem dc_Nu_toBits_14 : decode m_Nu_toBits.2.1 14 = .ok (.lstore_n 1, 1) := by decide +kernel
theorem dc_Nu_toBits_15 : decode m_Nu_toBits.2.1 15 = .ok (.aload_n 0, 1) := by decide +kernel
theorem dc_Nu_toBits_16 : decode m_Nu_toBits.2.1 16 = .ok (.getfield 22, 3) := by decide +kernel
theorem dc_Nu_toBits_19 : decode m_Nu_toBits.2.1 19 = .ok (.ifCond .eq 13, 3) := by decide +kernel
theorem dc_Nu_toBits_22 : decode m_Nu_toBits.2.1 22 = .ok (.aload_n 0, 1) := by decide +kernel
theorem dc_Nu_toBits_23 : decode m_Nu_toBits.2.1 23 = .ok (.getfield 26, 3) := by decide +kernel
theorem dc_Nu_toBits_26 : decode m_Nu_toBits.2.1 26 = .ok (.sipush (-330), 3) := by decide +kernel
theorem dc_Nu_toBits_29 : decode m_Nu_toBits.2.1 29 = .ok (.if_icmp .ge 5, 3) := by decide +kernel
theorem dc_Nu_toBits_32 : decode m_Nu_toBits.2.1 32 = .ok (.lload_n 1, 1) := by decide +kernel
theorem dc_Nu_toBits_33 : decode m_Nu_toBits.2.1 33 = .ok (.lreturn, 1) := by decide +kernel
theorem dc_Nu_toBits_34 : decode m_Nu_toBits.2.1 34 = .ok (.aload_n 0, 1) := by decide +kernel
theorem dc_Nu_toBits_35 : decode m_Nu_toBits.2.1 35 = .ok (.getfield 26, 3) := by decide +kernel
theorem dc_Nu_toBits_38 : decode m_Nu_toBits.2.1 38 = .ok (.sipush 310, 3) := by decide +kernel
theorem dc_Nu_toBits_41 : decode m_Nu_toBits.2.1 41 = .ok (.if_icmp .le 9, 3) := by decide +kernel
theorem dc_Nu_toBits_44 : decode m_Nu_toBits.2.1 44 = .ok (.lload_n 1, 1) := by decide +kernel
theorem dc_Nu_toBits_45 : decode m_Nu_toBits.2.1 45 = .ok (.ldc2_w 76, 3) := by decide +kernel
theorem dc_Nu_toBits_48 : decode m_Nu_toBits.2.1 48 = .ok (.lor, 1) := by decide +kernel
theorem dc_Nu_toBits_49 : decode m_Nu_toBits.2.1 49 = .ok (.lreturn, 1) := by decide +kernel
theorem dc_Nu_toBits_50 : decode m_Nu_toBits.2.1 50 = .ok (.aload_n 0, 1) := by decide +kernel
theorem dc_Nu_toBits_51 : decode m_Nu_toBits.2.1 51 = .ok (.invokevirtual 78, 3) := by decide +kernel
theorem dc_Nu_toBits_54 : decode m_Nu_toBits.2.1 54 = .ok (.aload_n 0, 1) := by decide +kernel
theorem dc_Nu_toBits_55 : decode m_Nu_toBits.2.1 55 = .ok (.getfield 26, 3) := by decide +kernel
theorem dc_Nu_toBits_58 : decode m_Nu_toBits.2.1 58 = .ok (.aload_n 0, 1) := by decide +kernel
theorem dc_Nu_toBits_59 : decode m_Nu_toBits.2.1 59 = .ok (.getfield 22, 3) := by decide +kernel
theorem dc_Nu_toBits_62 : decode m_Nu_toBits.2.1 62 = .ok (.isub, 1) := by decide +kernel
theorem dc_Nu_toBits_63 : decode m_Nu_toBits.2.1 63 = .ok (.istore_n 3, 1) := by decide +kernel
theorem dc_Nu_toBits_64 : decode m_Nu_toBits.2.1 64 = .ok (.iload_n 3, 1) := by decide +kernel
theorem dc_Nu_toBits_65 : decode m_Nu_toBits.2.1 65 = .ok (.istore 4, 2) := by decide +kernel
theorem dc_Nu_toBits_67 : decode m_Nu_toBits.2.1 67 = .ok (.iload_n 3, 1) := by decide +kernel
theorem dc_Nu_toBits_68 : decode m_Nu_toBits.2.1 68 = .ok (.ifCond .lt 14, 3) := by decide +kernel
theorem dc_Nu_toBits_71 : decode m_Nu_toBits.2.1 71 = .ok (.aload_n 0, 1) := by decide +kernel
theorem dc_Nu_toBits_72 : decode m_Nu_toBits.2.1 72 = .ok (.getfield 18, 3) := by decide +kernel
theorem dc_Nu_toBits_75 : decode m_Nu_toBits.2.1 75 = .ok (.iload_n 3, 1) := by decide +kernel
theorem dc_Nu_toBits_76 : decode m_Nu_toBits.2.1 76 = .ok (.invokevirtual 81, 3) := by decide +kernel
theorem dc_Nu_toBits_79 : decode m_Nu_toBits.2.1 79 = .ok (.goto 50, 3) := by decide +kernel
theorem dc_Nu_toBits_82 : decode m_Nu_toBits.2.1 82 = .ok (.iconst 0, 1) := by decide +kernel
theorem dc_Nu_toBits_83 : decode m_Nu_toBits.2.1 83 = .ok (.iload_n 3, 1) := by decide +kernel
theorem dc_Nu_toBits_84 : decode m_Nu_toBits.2.1 84 = .ok (.ineg, 1) := by decide +kernel
theorem dc_Nu_toBits_85 : decode m_Nu_toBits.2.1 85 = .ok (.invokestatic 85, 3) := by decide +kernel
theorem dc_Nu_toBits_88 : decode m_Nu_toBits.2.1 88 = .ok (.bipush 66, 2) := by decide +kernel
theorem dc_Nu_toBits_90 : decode m_Nu_toBits.2.1 90 = .ok (.iadd, 1) := by decide +kernel
theorem dc_Nu_toBits_91 : decode m_Nu_toBits.2.1 91 = .ok (.aload_n 0, 1) := by decide +kernel
theorem dc_Nu_toBits_92 : decode m_Nu_toBits.2.1 92 = .ok (.getfield 18, 3) := by decide +kernel
theorem dc_Nu_toBits_95 : decode m_Nu_toBits.2.1 95 = .ok (.invokevirtual 89, 3) := by decide +kernel
theorem dc_Nu_toBits_98 : decode m_Nu_toBits.2.1 98 = .ok (.isub, 1) := by decide +kernel
theorem dc_Nu_toBits_99 : decode m_Nu_toBits.2.1 99 = .ok (.invokestatic 92, 3) := by decide +kernel
theorem dc_Nu_toBits_102 : decode m_Nu_toBits.2.1 102 = .ok (.istore 5, 2) := by decide +kernel
theorem dc_Nu_toBits_104 : decode m_Nu_toBits.2.1 104 = .ok (.aload_n 0, 1) := by decide +kernel
theorem dc_Nu_toBits_105 : decode m_Nu_toBits.2.1 105 = .ok (.getfield 18, 3) := by decide +kernel
theorem dc_Nu_toBits_108 : decode m_Nu_toBits.2.1 108 = .ok (.iload 5, 2) := by decide +kernel
theorem dc_Nu_toBits_110 : decode m_Nu_toBits.2.1 110 = .ok (.invokevirtual 95, 3) := by decide +kernel
theorem dc_Nu_toBits_113 : decode m_Nu_toBits.2.1 113 = .ok (.aload_n 0, 1) := by decide +kernel
theorem dc_Nu_toBits_114 : decode m_Nu_toBits.2.1 114 = .ok (.getfield 18, 3) := by decide +kernel
theorem dc_Nu_toBits_117 : decode m_Nu_toBits.2.1 117 = .ok (.iload_n 3, 1) := by decide +kernel
theorem dc_Nu_toBits_118 : decode m_Nu_toBits.2.1 118 = .ok (.ineg, 1) := by decide +kernel
theorem dc_Nu_toBits_119 : decode m_Nu_toBits.2.1 119 = .ok (.invokevirtual 98, 3) := by decide +kernel
theorem dc_Nu_toBits_122 : decode m_Nu_toBits.2.1 122 = .ok (.iload 4, 2) := by decide +kernel
theorem dc_Nu_toBits_124 : decode m_Nu_toBits.2.1 124 = .ok (.iload 5, 2) := by decide +kernel
theorem dc_Nu_toBits_126 : decode m_Nu_toBits.2.1 126 = .ok (.isub, 1) := by decide +kernel
theorem dc_Nu_toBits_127 : decode m_Nu_toBits.2.1 127 = .ok (.istore 4, 2) := by decide +kernel
theorem dc_Nu_toBits_129 : decode m_Nu_toBits.2.1 129 = .ok (.lload_n 1, 1) := by decide +kernel
theorem dc_Nu_toBits_130 : decode m_Nu_toBits.2.1 130 = .ok (.aload_n 0, 1) := by decide +kernel
theorem dc_Nu_toBits_131 : decode m_Nu_toBits.2.1 131 = .ok (.iload 4, 2) := by decide +kernel
theorem dc_Nu_toBits_133 : decode m_Nu_toBits.2.1 133 = .ok (.invokevirtual 101, 3) := by decide +kernel
theorem dc_Nu_toBits_136 : decode m_Nu_toBits.2.1 136 = .ok (.lor, 1) := by decide +kernel
theorem dc_Nu_toBits_137 : decode m_Nu_toBits.2.1 137 = .ok (.lreturn, 1) := by decide +kernel
theorem b_Nu_toBits_0 {E : En_t} {d : Nat} {σ : S_t} {Q : Option Value → S_t → Prop}
    (h : ((gI σ 55 5) = 0 → JE E (d + 1) m_Nu_toBits 14 [(0, pv E 55)] [.long (0 : Int64)] σ Q) ∧ (¬ (gI σ 55 5) = 0 → JE E (d + 1) m_Nu_toBits 14 [(0, pv E 55)] [.long (-9223372036854775808 : Int64)] σ Q)) :
    JE E (d + 1) m_Nu_toBits 0 [(0, pv E 55)] [] σ Q := by
  refine J_aload_n dc_Nu_toBits_0 (Eq.refl 1) 0 rfl ?_
  refine J_getI dc_Nu_toBits_1 (Eq.refl 4) fl_Nu_39 (Nat.le_of_ble_eq_true rfl) rfl (Or.inr rfl) ?_
  refine J_if_eq dc_Nu_toBits_4 (Eq.refl 7) rfl (fun hc => ?_) (fun hc => ?_)
  · have h := h.1 hc
    refine J_lconst (v := (0 : Int64)) dc_Nu_toBits_13 (Eq.refl 14) rfl ?_
    exact h
  · have h := h.2 hc
    refine J_ldc2 dc_Nu_toBits_7 (Eq.refl 10) kc_Nu_74 ?_
    refine J_goto dc_Nu_toBits_10 rfl ?_
    exact h
theorem b_Nu_toBits_14 {E : En_t} {d : Nat} {σ : S_t} {Q : Option Value → S_t → Prop} {s0 : Int64}
    (h : ((gI σ 55 2) = 0 → Q (some (.long s0)) σ) ∧ (¬ (gI σ 55 2) = 0 → ((-330 : Int32) ≤ (gI σ 55 3) → ((gI σ 55 3) ≤ (310 : Int32) → CV E d m_Nu_loadDigits [pv E 55] σ (fun σ1 => (((gI σ1 55 3) - (gI σ1 55 2)) < 0 → CI E d m_Nu_bitsOfFives [.int (-((gI σ1 55 3) - (gI σ1 55 2)))] σ1 (fun r3 σ2 => CI E d m_Bi_bitLength [pv E 57] σ2 (fun r5 σ4 => ∀ r6, r6 = mxI (0 : Int32) ((r3 + (66 : Int32)) - r5) → (CV E d m_Bi_shiftLeft [pv E 57, .int r6] σ4 (fun σ7 => CV E d m_Bi_overFive [pv E 57, .int (-((gI σ1 55 3) - (gI σ1 55 2)))] σ7 (fun σ8 => JE E (d + 1) m_Nu_toBits 129 [(0, pv E 55), (1, .long s0), (4, .int (((gI σ1 55 3) - (gI σ1 55 2)) - r6))] [] σ8 Q)))))) ∧ (¬ ((gI σ1 55 3) - (gI σ1 55 2)) < 0 → CV E d m_Bi_timesFive [pv E 57, .int ((gI σ1 55 3) - (gI σ1 55 2))] σ1 (fun σ9 => JE E (d + 1) m_Nu_toBits 129 [(0, pv E 55), (1, .long s0), (4, .int ((gI σ1 55 3) - (gI σ1 55 2)))] [] σ9 Q)))) ∧ (¬ (gI σ 55 3) ≤ (310 : Int32) → Q (some (.long (s0 ||| (9218868437227405312 : Int64)))) σ)) ∧ (¬ (-330 : Int32) ≤ (gI σ 55 3) → Q (some (.long s0)) σ))) :
    JE E (d + 1) m_Nu_toBits 14 [(0, pv E 55)] [.long s0] σ Q := by
  refine J_lstore_n (L' := [(1, .long s0), (0, pv E 55)]) dc_Nu_toBits_14 (Eq.refl 15) (Nat.le_of_ble_eq_true rfl) rfl ?_
  refine J_aload_n dc_Nu_toBits_15 (Eq.refl 16) 1 rfl ?_
  refine J_getI dc_Nu_toBits_16 (Eq.refl 19) fl_Nu_22 (Nat.le_of_ble_eq_true rfl) rfl (Or.inl rfl) ?_
  refine J_if_eq dc_Nu_toBits_19 (Eq.refl 22) rfl (fun hc => ?_) (fun hc => ?_)
  · have h := h.1 hc
    refine J_lload_n dc_Nu_toBits_32 (Eq.refl 33) 0 rfl ?_
    exact J_lret dc_Nu_toBits_33 rfl h
  · have h := h.2 hc
    refine J_aload_n dc_Nu_toBits_22 (Eq.refl 23) 1 rfl ?_
    refine J_getI dc_Nu_toBits_23 (Eq.refl 26) fl_Nu_26 (Nat.le_of_ble_eq_true rfl) rfl (Or.inl rfl) ?_
    refine J_sipush (v := (-330 : Int32)) dc_Nu_toBits_26 (Eq.refl 29) rfl ?_
    refine J_icmp_ge dc_Nu_toBits_29 (Eq.refl 32) rfl (fun hc => ?_) (fun hc => ?_)
    · have h := h.1 hc
      refine J_aload_n dc_Nu_toBits_34 (Eq.refl 35) 1 rfl ?_
      refine J_getI dc_Nu_toBits_35 (Eq.refl 38) fl_Nu_26 (Nat.le_of_ble_eq_true rfl) rfl (Or.inl rfl) ?_
      refine J_sipush (v := (310 : Int32)) dc_Nu_toBits_38 (Eq.refl 41) rfl ?_
      refine J_icmp_le dc_Nu_toBits_41 (Eq.refl 44) rfl (fun hc => ?_) (fun hc => ?_)
      · have h := h.1 hc
        refine J_aload_n dc_Nu_toBits_50 (Eq.refl 51) 1 rfl ?_
        refine J_callVV (As := []) (st := []) dc_Nu_toBits_51 (Eq.refl 54) lk_Nu_78 mi_Nu_loadDigits rfl (Nat.le_of_ble_eq_true rfl) rfl rfl (Nat.le_of_ble_eq_true rfl) rfl (Nat.le_of_ble_eq_true rfl) (CV.mono h (fun σ1 h => ?_))
        refine J_aload_n dc_Nu_toBits_54 (Eq.refl 55) 1 rfl ?_
        refine J_getI dc_Nu_toBits_55 (Eq.refl 58) fl_Nu_26 (Nat.le_of_ble_eq_true rfl) rfl (Or.inl rfl) ?_
        refine J_aload_n dc_Nu_toBits_58 (Eq.refl 59) 1 rfl ?_
        refine J_getI dc_Nu_toBits_59 (Eq.refl 62) fl_Nu_22 (Nat.le_of_ble_eq_true rfl) rfl (Or.inl rfl) ?_
        refine J_isub dc_Nu_toBits_62 (Eq.refl 63) ?_
        refine J_istore_n (L' := [(3, .int ((gI σ1 55 3) - (gI σ1 55 2))), (1, .long s0), (0, pv E 55)]) dc_Nu_toBits_63 (Eq.refl 64) (Nat.le_of_ble_eq_true rfl) rfl ?_
        refine J_iload_n dc_Nu_toBits_64 (Eq.refl 65) 0 rfl ?_
        refine J_istore (L' := [(4, .int ((gI σ1 55 3) - (gI σ1 55 2))), (3, .int ((gI σ1 55 3) - (gI σ1 55 2))), (1, .long s0), (0, pv E 55)]) dc_Nu_toBits_65 (Eq.refl 67) (Nat.le_of_ble_eq_true rfl) rfl ?_
        refine J_iload_n dc_Nu_toBits_67 (Eq.refl 68) 1 rfl ?_
        refine J_if_lt dc_Nu_toBits_68 (Eq.refl 71) rfl (fun hc => ?_) (fun hc => ?_)
        · have h := h.1 hc
          refine J_iconst (v := (0 : Int32)) dc_Nu_toBits_82 (Eq.refl 83) rfl ?_
          refine J_iload_n dc_Nu_toBits_83 (Eq.refl 84) 1 rfl ?_
          refine J_ineg dc_Nu_toBits_84 (Eq.refl 85) ?_
          refine J_callSI (As := [.int (-((gI σ1 55 3) - (gI σ1 55 2)))]) (st := [.int (0 : Int32)]) dc_Nu_toBits_85 (Eq.refl 88) lk_Nu_85 mi_Nu_bitsOfFives (Nat.le_of_ble_eq_true rfl) rfl (Nat.le_of_ble_eq_true rfl) (CI.mono h (fun r3 σ2 h => ?_))
          refine J_bipush (v := (66 : Int32)) dc_Nu_toBits_88 (Eq.refl 90) rfl ?_
          refine J_iadd dc_Nu_toBits_90 (Eq.refl 91) ?_
          refine J_aload_n dc_Nu_toBits_91 (Eq.refl 92) 3 rfl ?_
          refine J_getF (y := 57) dc_Nu_toBits_92 (Eq.refl 95) fl_Nu_18 (Nat.le_of_ble_eq_true rfl) rfl (Or.inr rfl) rfl ?_
          refine J_callVI (As := []) (st := [.int (r3 + (66 : Int32)), .int (0 : Int32)]) dc_Nu_toBits_95 (Eq.refl 98) lk_Nu_89 mi_Bi_bitLength rfl (Nat.le_of_ble_eq_true rfl) rfl rfl (Nat.le_of_ble_eq_true rfl) rfl (Nat.le_of_ble_eq_true rfl) (CI.mono h (fun r5 σ4 h => ?_))
          refine J_isub dc_Nu_toBits_98 (Eq.refl 99) ?_
          refine J_mmax dc_Nu_toBits_99 (Eq.refl 102) lk_Nu_92 (Nat.le_of_ble_eq_true rfl) (fun r6 er6 => ?_)
          have h := h r6 er6
          refine J_istore (L' := [(5, .int r6), (4, .int ((gI σ1 55 3) - (gI σ1 55 2))), (3, .int ((gI σ1 55 3) - (gI σ1 55 2))), (1, .long s0), (0, pv E 55)]) dc_Nu_toBits_102 (Eq.refl 104) (Nat.le_of_ble_eq_true rfl) rfl ?_
          refine J_aload_n dc_Nu_toBits_104 (Eq.refl 105) 4 rfl ?_
          refine J_getF (y := 57) dc_Nu_toBits_105 (Eq.refl 108) fl_Nu_18 (Nat.le_of_ble_eq_true rfl) rfl (Or.inr rfl) rfl ?_
          refine J_iload dc_Nu_toBits_108 (Eq.refl 110) 0 rfl ?_
          refine J_callVV (As := [.int r6]) (st := []) dc_Nu_toBits_110 (Eq.refl 113) lk_Nu_95 mi_Bi_shiftLeft rfl (Nat.le_of_ble_eq_true rfl) rfl rfl (Nat.le_of_ble_eq_true rfl) rfl (Nat.le_of_ble_eq_true rfl) (CV.mono h (fun σ7 h => ?_))
          refine J_aload_n dc_Nu_toBits_113 (Eq.refl 114) 4 rfl ?_
          refine J_getF (y := 57) dc_Nu_toBits_114 (Eq.refl 117) fl_Nu_18 (Nat.le_of_ble_eq_true rfl) rfl (Or.inr rfl) rfl ?_
          refine J_iload_n dc_Nu_toBits_117 (Eq.refl 118) 2 rfl ?_
          refine J_ineg dc_Nu_toBits_118 (Eq.refl 119) ?_
          refine J_callVV (As := [.int (-((gI σ1 55 3) - (gI σ1 55 2)))]) (st := []) dc_Nu_toBits_119 (Eq.refl 122) lk_Nu_98 mi_Bi_overFive rfl (Nat.le_of_ble_eq_true rfl) rfl rfl (Nat.le_of_ble_eq_true rfl) rfl (Nat.le_of_ble_eq_true rfl) (CV.mono h (fun σ8 h => ?_))
          refine J_iload dc_Nu_toBits_122 (Eq.refl 124) 1 rfl ?_
          refine J_iload dc_Nu_toBits_124 (Eq.refl 126) 0 rfl ?_
          refine J_isub dc_Nu_toBits_126 (Eq.refl 127) ?_
          refine J_istore (L' := [(4, .int (((gI σ1 55 3) - (gI σ1 55 2)) - r6)), (5, .int r6), (3, .int ((gI σ1 55 3) - (gI σ1 55 2))), (1, .long s0), (0, pv E 55)]) dc_Nu_toBits_127 (Eq.refl 129) (Nat.le_of_ble_eq_true rfl) rfl ?_
          refine J_sub [4, 3, 0] rfl ?_
          exact h
        · have h := h.2 hc
          refine J_aload_n dc_Nu_toBits_71 (Eq.refl 72) 3 rfl ?_
          refine J_getF (y := 57) dc_Nu_toBits_72 (Eq.refl 75) fl_Nu_18 (Nat.le_of_ble_eq_true rfl) rfl (Or.inr rfl) rfl ?_
          refine J_iload_n dc_Nu_toBits_75 (Eq.refl 76) 1 rfl ?_
          refine J_callVV (As := [.int ((gI σ1 55 3) - (gI σ1 55 2))]) (st := []) dc_Nu_toBits_76 (Eq.refl 79) lk_Nu_81 mi_Bi_timesFive rfl (Nat.le_of_ble_eq_true rfl) rfl rfl (Nat.le_of_ble_eq_true rfl) rfl (Nat.le_of_ble_eq_true rfl) (CV.mono h (fun σ9 h => ?_))
          refine J_goto dc_Nu_toBits_79 rfl ?_
          refine J_sub [3, 2, 0] rfl ?_
          exact h
      · have h := h.2 hc
        refine J_lload_n dc_Nu_toBits_44 (Eq.refl 45) 0 rfl ?_
        refine J_ldc2 dc_Nu_toBits_45 (Eq.refl 48) kc_Nu_76 ?_
        refine J_lor dc_Nu_toBits_48 (Eq.refl 49) ?_
        exact J_lret dc_Nu_toBits_49 rfl h
    · have h := h.2 hc
      refine J_lload_n dc_Nu_toBits_32 (Eq.refl 33) 0 rfl ?_
      exact J_lret dc_Nu_toBits_33 rfl h
theorem b_Nu_toBits_129 {E : En_t} {d : Nat} {σ : S_t} {Q : Option Value → S_t → Prop} {x1 : Int64} {x4 : Int32}
    (h : CL E d m_Nu_nearest [pv E 55, .int x4] σ (fun r2 σ1 => Q (some (.long (x1 ||| r2))) σ1)) :
    JE E (d + 1) m_Nu_toBits 129 [(0, pv E 55), (1, .long x1), (4, .int x4)] [] σ Q := by
  refine J_lload_n dc_Nu_toBits_129 (Eq.refl 130) 1 rfl ?_
  refine J_aload_n dc_Nu_toBits_130 (Eq.refl 131) 0 rfl ?_
  refine J_iload dc_Nu_toBits_131 (Eq.refl 133) 2 rfl ?_
  refine J_callVL (As := [.int x4]) (st := [.long x1]) dc_Nu_toBits_133 (Eq.refl 136) lk_Nu_101 mi_Nu_nearest rfl (Nat.le_of_ble_eq_true rfl) rfl rfl (Nat.le_of_ble_eq_true rfl) rfl (Nat.le_of_ble_eq_true rfl) (CL.mono h (fun r2 σ1 h => ?_))
  refine J_lor dc_Nu_toBits_136 (Eq.refl 137) ?_
  exact J_lret dc_Nu_toBits_137 rfl h
theorem dc_Nu_loadDigits_0 : decode m_Nu_loadDigits.2.1 0 = .ok (.aload_n 0, 1) := by decide +kernel
theorem dc_Nu_loadDigits_1 : decode m_Nu_loadDigits.2.1 1 = .ok (.getfield 18, 3) := by decide +kernel
theorem dc_Nu_loadDigits_4 : decode m_Nu_loadDigits.2.1 4 = .ok (.lconst 0, 1) := by decide +kernel
theorem dc_Nu_loadDigits_5 : decode m_Nu_loadDigits.2.1 5 = .ok (.invokevirtual 105, 3) := by decide +kernel
theorem dc_Nu_loadDigits_8 : decode m_Nu_loadDigits.2.1 8 = .ok (.iconst 0, 1) := by decide +kernel
theorem dc_Nu_loadDigits_9 : decode m_Nu_loadDigits.2.1 9 = .ok (.istore_n 1, 1) := by decide +kernel
theorem dc_Nu_loadDigits_10 : decode m_Nu_loadDigits.2.1 10 = .ok (.iload_n 1, 1) := by decide +kernel
theorem dc_Nu_loadDigits_11 : decode m_Nu_loadDigits.2.1 11 = .ok (.aload_n 0, 1) := by decide +kernel
theorem dc_Nu_loadDigits_12 : decode m_Nu_loadDigits.2.1 12 = .ok (.getfield 22, 3) := by decide +kernel
theorem dc_Nu_loadDigits_15 : decode m_Nu_loadDigits.2.1 15 = .ok (.if_icmp .ge 66, 3) := by decide +kernel
theorem dc_Nu_loadDigits_18 : decode m_Nu_loadDigits.2.1 18 = .ok (.aload_n 0, 1) := by decide +kernel
theorem dc_Nu_loadDigits_19 : decode m_Nu_loadDigits.2.1 19 = .ok (.getfield 22, 3) := by decide +kernel
theorem dc_Nu_loadDigits_22 : decode m_Nu_loadDigits.2.1 22 = .ok (.iload_n 1, 1) := by decide +kernel
theorem dc_Nu_loadDigits_23 : decode m_Nu_loadDigits.2.1 23 = .ok (.bipush 9, 2) := by decide +kernel
theorem dc_Nu_loadDigits_25 : decode m_Nu_loadDigits.2.1 25 = .ok (.iadd, 1) := by decide +kernel
theorem dc_Nu_loadDigits_26 : decode m_Nu_loadDigits.2.1 26 = .ok (.invokestatic 68, 3) := by decide +kernel
theorem dc_Nu_loadDigits_29 : decode m_Nu_loadDigits.2.1 29 = .ok (.istore_n 2, 1) := by decide +kernel
theorem dc_Nu_loadDigits_30 : decode m_Nu_loadDigits.2.1 30 = .ok (.iconst 0, 1) := by decide +kernel
theorem dc_Nu_loadDigits_31 : decode m_Nu_loadDigits.2.1 31 = .ok (.istore_n 3, 1) := by decide +kernel
theorem dc_Nu_loadDigits_32 : decode m_Nu_loadDigits.2.1 32 = .ok (.iload_n 1, 1) := by decide +kernel
theorem dc_Nu_loadDigits_33 : decode m_Nu_loadDigits.2.1 33 = .ok (.istore 4, 2) := by decide +kernel
theorem dc_Nu_loadDigits_35 : decode m_Nu_loadDigits.2.1 35 = .ok (.iload 4, 2) := by decide +kernel
theorem dc_Nu_loadDigits_37 : decode m_Nu_loadDigits.2.1 37 = .ok (.iload_n 2, 1) := by decide +kernel
theorem dc_Nu_loadDigits_38 : decode m_Nu_loadDigits.2.1 38 = .ok (.if_icmp .ge 22, 3) := by decide +kernel
theorem dc_Nu_loadDigits_41 : decode m_Nu_loadDigits.2.1 41 = .ok (.bipush 10, 2) := by decide +kernel
theorem dc_Nu_loadDigits_43 : decode m_Nu_loadDigits.2.1 43 = .ok (.iload_n 3, 1) := by decide +kernel
theorem dc_Nu_loadDigits_44 : decode m_Nu_loadDigits.2.1 44 = .ok (.imul, 1) := by decide +kernel
theorem dc_Nu_loadDigits_45 : decode m_Nu_loadDigits.2.1 45 = .ok (.aload_n 0, 1) := by decide +kernel
theorem dc_Nu_loadDigits_46 : decode m_Nu_loadDigits.2.1 46 = .ok (.getfield 11, 3) := by decide +kernel
theorem dc_Nu_loadDigits_49 : decode m_Nu_loadDigits.2.1 49 = .ok (.iload 4, 2) := by decide +kernel
theorem dc_Nu_loadDigits_51 : decode m_Nu_loadDigits.2.1 51 = .ok (.baload, 1) := by decide +kernel
theorem dc_Nu_loadDigits_52 : decode m_Nu_loadDigits.2.1 52 = .ok (.iadd, 1) := by decide +kernel
theorem dc_Nu_loadDigits_53 : decode m_Nu_loadDigits.2.1 53 = .ok (.istore_n 3, 1) := by decide +kernel
theorem dc_Nu_loadDigits_54 : decode m_Nu_loadDigits.2.1 54 = .ok (.iinc 4 1, 3) := by decide +kernel
theorem dc_Nu_loadDigits_57 : decode m_Nu_loadDigits.2.1 57 = .ok (.goto (-22), 3) := by decide +kernel
theorem dc_Nu_loadDigits_60 : decode m_Nu_loadDigits.2.1 60 = .ok (.aload_n 0, 1) := by decide +kernel
theorem dc_Nu_loadDigits_61 : decode m_Nu_loadDigits.2.1 61 = .ok (.getfield 18, 3) := by decide +kernel
theorem dc_Nu_loadDigits_64 : decode m_Nu_loadDigits.2.1 64 = .ok (.getstatic 109, 3) := by decide +kernel
theorem dc_Nu_loadDigits_67 : decode m_Nu_loadDigits.2.1 67 = .ok (.iload_n 2, 1) := by decide +kernel
theorem dc_Nu_loadDigits_68 : decode m_Nu_loadDigits.2.1 68 = .ok (.iload_n 1, 1) := by decide +kernel
theorem dc_Nu_loadDigits_69 : decode m_Nu_loadDigits.2.1 69 = .ok (.isub, 1) := by decide +kernel
theorem dc_Nu_loadDigits_70 : decode m_Nu_loadDigits.2.1 70 = .ok (.iaload, 1) := by decide +kernel
theorem dc_Nu_loadDigits_71 : decode m_Nu_loadDigits.2.1 71 = .ok (.iload_n 3, 1) := by decide +kernel
theorem dc_Nu_loadDigits_72 : decode m_Nu_loadDigits.2.1 72 = .ok (.invokevirtual 113, 3) := by decide +kernel
theorem dc_Nu_loadDigits_75 : decode m_Nu_loadDigits.2.1 75 = .ok (.iinc 1 9, 3) := by decide +kernel
theorem dc_Nu_loadDigits_78 : decode m_Nu_loadDigits.2.1 78 = .ok (.goto (-68), 3) := by decide +kernel
theorem dc_Nu_loadDigits_81 : decode m_Nu_loadDigits.2.1 81 = .ok (.aload_n 0, 1) := by decide +kernel
theorem dc_Nu_loadDigits_82 : decode m_Nu_loadDigits.2.1 82 = .ok (.getfield 18, 3) := by decide +kernel
theorem dc_Nu_loadDigits_85 : decode m_Nu_loadDigits.2.1 85 = .ok (.aload_n 0, 1) := by decide +kernel
theorem dc_Nu_loadDigits_86 : decode m_Nu_loadDigits.2.1 86 = .ok (.getfield 29, 3) := by decide +kernel
theorem dc_Nu_loadDigits_89 : decode m_Nu_loadDigits.2.1 89 = .ok (.putfield 116, 3) := by decide +kernel
theorem dc_Nu_loadDigits_92 : decode m_Nu_loadDigits.2.1 92 = .ok (.return_, 1) := by decide +kernel
theorem b_Nu_loadDigits_0 {E : En_t} {d : Nat} {σ : S_t} {Q : Option Value → S_t → Prop}
    (h : CV E d m_Bi_set [pv E 57, .long (0 : Int64)] σ (fun σ1 => JE E (d + 1) m_Nu_loadDigits 10 [(0, pv E 55), (1, .int (0 : Int32))] [] σ1 Q)) :
    JE E (d + 1) m_Nu_loadDigits 0 [(0, pv E 55)] [] σ Q := by
  refine J_aload_n dc_Nu_loadDigits_0 (Eq.refl 1) 0 rfl ?_
  refine J_getF (y := 57) dc_Nu_loadDigits_1 (Eq.refl 4) fl_Nu_18 (Nat.le_of_ble_eq_true rfl) rfl (Or.inr rfl) rfl ?_
  refine J_lconst (v := (0 : Int64)) dc_Nu_loadDigits_4 (Eq.refl 5) rfl ?_
  refine J_callVV (As := [.long (0 : Int64)]) (st := []) dc_Nu_loadDigits_5 (Eq.refl 8) lk_Nu_105 mi_Bi_set rfl (Nat.le_of_ble_eq_true rfl) rfl rfl (Nat.le_of_ble_eq_true rfl) rfl (Nat.le_of_ble_eq_true rfl) (CV.mono h (fun σ1 h => ?_))
  refine J_iconst (v := (0 : Int32)) dc_Nu_loadDigits_8 (Eq.refl 9) rfl ?_
  refine J_istore_n (L' := [(1, .int (0 : Int32)), (0, pv E 55)]) dc_Nu_loadDigits_9 (Eq.refl 10) (Nat.le_of_ble_eq_true rfl) rfl ?_
  refine J_sub [1, 0] rfl ?_
  exact h
theorem b_Nu_loadDigits_10 {E : En_t} {d : Nat} {σ : S_t} {Q : Option Value → S_t → Prop} {x1 : Int32}
    (h : ((gI σ 55 2) ≤ x1 → ((gI σ 55 4) = 0 ∨ (gI σ 55 4) = 1) ∧ (Q none (sI σ 57 2 (gI σ 55 4)))) ∧ (¬ (gI σ 55 2) ≤ x1 → ∀ r1, r1 = mnI (gI σ 55 2) (x1 + (9 : Int32)) → (JE E (d + 1) m_Nu_loadDigits 35 [(0, pv E 55), (1, .int x1), (2, .int r1), (3, .int (0 : Int32)), (4, .int x1)] [] σ Q))) :
    JE E (d + 1) m_Nu_loadDigits 10 [(0, pv E 55), (1, .int x1)] [] σ Q := by
  refine J_iload_n dc_Nu_loadDigits_10 (Eq.refl 11) 1 rfl ?_
  refine J_aload_n dc_Nu_loadDigits_11 (Eq.refl 12) 0 rfl ?_
  refine J_getI dc_Nu_loadDigits_12 (Eq.refl 15) fl_Nu_22 (Nat.le_of_ble_eq_true rfl) rfl (Or.inl rfl) ?_
  refine J_icmp_ge dc_Nu_loadDigits_15 (Eq.refl 18) rfl (fun hc => ?_) (fun hc => ?_)
  · have h := h.1 hc
    refine J_aload_n dc_Nu_loadDigits_81 (Eq.refl 82) 0 rfl ?_
    refine J_getF (y := 57) dc_Nu_loadDigits_82 (Eq.refl 85) fl_Nu_18 (Nat.le_of_ble_eq_true rfl) rfl (Or.inr rfl) rfl ?_
    refine J_aload_n dc_Nu_loadDigits_85 (Eq.refl 86) 0 rfl ?_
    refine J_getI dc_Nu_loadDigits_86 (Eq.refl 89) fl_Nu_29 (Nat.le_of_ble_eq_true rfl) rfl (Or.inr rfl) ?_
    obtain ⟨hg, h⟩ := h
    refine J_putZ dc_Nu_loadDigits_89 (Eq.refl 92) pl_Nu_116 (Nat.le_of_ble_eq_true rfl) rfl rfl hg ?_
    exact J_vret dc_Nu_loadDigits_92 rfl h
  · have h := h.2 hc
    refine J_aload_n dc_Nu_loadDigits_18 (Eq.refl 19) 0 rfl ?_
    refine J_getI dc_Nu_loadDigits_19 (Eq.refl 22) fl_Nu_22 (Nat.le_of_ble_eq_true rfl) rfl (Or.inl rfl) ?_
    refine J_iload_n dc_Nu_loadDigits_22 (Eq.refl 23) 1 rfl ?_
    refine J_bipush (v := (9 : Int32)) dc_Nu_loadDigits_23 (Eq.refl 25) rfl ?_
    refine J_iadd dc_Nu_loadDigits_25 (Eq.refl 26) ?_
    refine J_mmin dc_Nu_loadDigits_26 (Eq.refl 29) lk_Nu_68 (Nat.le_of_ble_eq_true rfl) (fun r1 er1 => ?_)
    have h := h r1 er1
    refine J_istore_n (L' := [(2, .int r1), (0, pv E 55), (1, .int x1)]) dc_Nu_loadDigits_29 (Eq.refl 30) (Nat.le_of_ble_eq_true rfl) rfl ?_
    refine J_iconst (v := (0 : Int32)) dc_Nu_loadDigits_30 (Eq.refl 31) rfl ?_
    refine J_istore_n (L' := [(3, .int (0 : Int32)), (2, .int r1), (0, pv E 55), (1, .int x1)]) dc_Nu_loadDigits_31 (Eq.refl 32) (Nat.le_of_ble_eq_true rfl) rfl ?_
    refine J_iload_n dc_Nu_loadDigits_32 (Eq.refl 33) 3 rfl ?_
    refine J_istore (L' := [(4, .int x1), (3, .int (0 : Int32)), (2, .int r1), (0, pv E 55), (1, .int x1)]) dc_Nu_loadDigits_33 (Eq.refl 35) (Nat.le_of_ble_eq_true rfl) rfl ?_
    refine J_sub [3, 4, 2, 1, 0] rfl ?_
    exact h
theorem b_Nu_loadDigits_35 {E : En_t} {d : Nat} {σ : S_t} {Q : Option Value → S_t → Prop} {x1 : Int32} {x2 : Int32} {x3 : Int32} {x4 : Int32}
    (h : (x2 ≤ x4 → vp_in (x2 - x1) 10 ∧ (CV E d m_Bi_multiply [pv E 57, .int (tabV 0 (x2 - x1).toNatClampNeg), .int x3] σ (fun σ1 => JE E (d + 1) m_Nu_loadDigits 10 [(0, pv E 55), (1, .int (x1 + (9 : Int32)))] [] σ1 Q))) ∧ (¬ x2 ≤ x4 → vp_in x4 800 ∧ (JE E (d + 1) m_Nu_loadDigits 35 [(0, pv E 55), (1, .int x1), (2, .int x2), (3, .int (((10 : Int32) * x3) + (gI σ 56 x4.toNatClampNeg))), (4, .int (x4 + (1 : Int32)))] [] σ Q))) :
    JE E (d + 1) m_Nu_loadDigits 35 [(0, pv E 55), (1, .int x1), (2, .int x2), (3, .int x3), (4, .int x4)] [] σ Q := by
  refine J_iload dc_Nu_loadDigits_35 (Eq.refl 37) 4 rfl ?_
  refine J_iload_n dc_Nu_loadDigits_37 (Eq.refl 38) 2 rfl ?_
  refine J_icmp_ge dc_Nu_loadDigits_38 (Eq.refl 41) rfl (fun hc => ?_) (fun hc => ?_)
  · have h := h.1 hc
    refine J_aload_n dc_Nu_loadDigits_60 (Eq.refl 61) 0 rfl ?_
    refine J_getF (y := 57) dc_Nu_loadDigits_61 (Eq.refl 64) fl_Nu_18 (Nat.le_of_ble_eq_true rfl) rfl (Or.inr rfl) rfl ?_
    refine J_getsN (i := 0) dc_Nu_loadDigits_64 (Eq.refl 67) ?_
    refine J_iload_n dc_Nu_loadDigits_67 (Eq.refl 68) 2 rfl ?_
    refine J_iload_n dc_Nu_loadDigits_68 (Eq.refl 69) 1 rfl ?_
    refine J_isub dc_Nu_loadDigits_69 (Eq.refl 70) ?_
    obtain ⟨hg, h⟩ := h
    refine J_tald (t := 0) (v := tabV 0 (x2 - x1).toNatClampNeg) dc_Nu_loadDigits_70 (Eq.refl 71) rfl hg rfl ?_
    refine J_iload_n dc_Nu_loadDigits_71 (Eq.refl 72) 3 rfl ?_
    refine J_callVV (As := [.int (tabV 0 (x2 - x1).toNatClampNeg), .int x3]) (st := []) dc_Nu_loadDigits_72 (Eq.refl 75) lk_Nu_113 mi_Bi_multiply rfl (Nat.le_of_ble_eq_true rfl) rfl rfl (Nat.le_of_ble_eq_true rfl) rfl (Nat.le_of_ble_eq_true rfl) (CV.mono h (fun σ1 h => ?_))
    refine J_iinc (v := x1 + (9 : Int32)) (L' := [(1, .int (x1 + (9 : Int32))), (0, pv E 55), (2, .int x2), (3, .int x3), (4, .int x4)]) dc_Nu_loadDigits_75 (Eq.refl 78) 1 rfl rfl (Nat.le_of_ble_eq_true rfl) rfl ?_
    refine J_goto dc_Nu_loadDigits_78 rfl ?_
    refine J_sub [1, 0] rfl ?_
    exact h
  · have h := h.2 hc
    refine J_bipush (v := (10 : Int32)) dc_Nu_loadDigits_41 (Eq.refl 43) rfl ?_
    refine J_iload_n dc_Nu_loadDigits_43 (Eq.refl 44) 3 rfl ?_
    refine J_imul dc_Nu_loadDigits_44 (Eq.refl 45) ?_
    refine J_aload_n dc_Nu_loadDigits_45 (Eq.refl 46) 0 rfl ?_
    refine J_getF (y := 56) dc_Nu_loadDigits_46 (Eq.refl 49) fl_Nu_11 (Nat.le_of_ble_eq_true rfl) rfl (Or.inl rfl) rfl ?_
    refine J_iload dc_Nu_loadDigits_49 (Eq.refl 51) 4 rfl ?_
    obtain ⟨hg, h⟩ := h
    refine J_bald dc_Nu_loadDigits_51 (Eq.refl 52) rfl rfl hg ?_
    refine J_iadd dc_Nu_loadDigits_52 (Eq.refl 53) ?_
    refine J_istore_n (L' := [(3, .int (((10 : Int32) * x3) + (gI σ 56 x4.toNatClampNeg))), (0, pv E 55), (1, .int x1), (2, .int x2), (4, .int x4)]) dc_Nu_loadDigits_53 (Eq.refl 54) (Nat.le_of_ble_eq_true rfl) rfl ?_
    refine J_iinc (v := x4 + (1 : Int32)) (L' := [(4, .int (x4 + (1 : Int32))), (3, .int (((10 : Int32) * x3) + (gI σ 56 x4.toNatClampNeg))), (0, pv E 55), (1, .int x1), (2, .int x2)]) dc_Nu_loadDigits_54 (Eq.refl 57) 4 rfl rfl (Nat.le_of_ble_eq_true rfl) rfl ?_
    refine J_goto dc_Nu_loadDigits_57 rfl ?_
    refine J_sub [2, 3, 4, 1, 0] rfl ?_
    exact h
theorem dc_Nu_bitsOfFives_0 : decode m_Nu_bitsOfFives.2.1 0 = .ok (.iload_n 0, 1) := by decide +kernel
theorem dc_Nu_bitsOfFives_1 : decode m_Nu_bitsOfFives.2.1 1 = .ok (.sipush 2378, 3) := by decide +kernel
theorem dc_Nu_bitsOfFives_4 : decode m_Nu_bitsOfFives.2.1 4 = .ok (.imul, 1) := by decide +kernel
theorem dc_Nu_bitsOfFives_5 : decode m_Nu_bitsOfFives.2.1 5 = .ok (.bipush 10, 2) := by decide +kernel
theorem dc_Nu_bitsOfFives_7 : decode m_Nu_bitsOfFives.2.1 7 = .ok (.ishr, 1) := by decide +kernel
theorem dc_Nu_bitsOfFives_8 : decode m_Nu_bitsOfFives.2.1 8 = .ok (.iconst 1, 1) := by decide +kernel
theorem dc_Nu_bitsOfFives_9 : decode m_Nu_bitsOfFives.2.1 9 = .ok (.iadd, 1) := by decide +kernel
theorem dc_Nu_bitsOfFives_10 : decode m_Nu_bitsOfFives.2.1 10 = .ok (.ireturn, 1) := by decide +kernel
theorem b_Nu_bitsOfFives_0 {E : En_t} {d : Nat} {σ : S_t} {Q : Option Value → S_t → Prop} {x0 : Int32}
    (h : Q (some (.int (((x0 * (2378 : Int32)) >>> ((10 : Int32) &&& 31)) + (1 : Int32)))) σ) :
    JE E d m_Nu_bitsOfFives 0 [(0, .int x0)] [] σ Q := by
  refine J_iload_n dc_Nu_bitsOfFives_0 (Eq.refl 1) 0 rfl ?_
  refine J_sipush (v := (2378 : Int32)) dc_Nu_bitsOfFives_1 (Eq.refl 4) rfl ?_
  refine J_imul dc_Nu_bitsOfFives_4 (Eq.refl 5) ?_
  refine J_bipush (v := (10 : Int32)) dc_Nu_bitsOfFives_5 (Eq.refl 7) rfl ?_
  refine J_ishr dc_Nu_bitsOfFives_7 (Eq.refl 8) ?_
  refine J_iconst (v := (1 : Int32)) dc_Nu_bitsOfFives_8 (Eq.refl 9) rfl ?_
  refine J_iadd dc_Nu_bitsOfFives_9 (Eq.refl 10) ?_
  exact J_iret dc_Nu_bitsOfFives_10 rfl h
theorem dc_Nu_nearest_0 : decode m_Nu_nearest.2.1 0 = .ok (.aload_n 0, 1) := by decide +kernel
theorem dc_Nu_nearest_1 : decode m_Nu_nearest.2.1 1 = .ok (.getfield 18, 3) := by decide +kernel
theorem dc_Nu_nearest_4 : decode m_Nu_nearest.2.1 4 = .ok (.invokevirtual 89, 3) := by decide +kernel
theorem dc_Nu_nearest_7 : decode m_Nu_nearest.2.1 7 = .ok (.iconst 1, 1) := by decide +kernel
theorem dc_Nu_nearest_8 : decode m_Nu_nearest.2.1 8 = .ok (.isub, 1) := by decide +kernel
theorem dc_Nu_nearest_9 : decode m_Nu_nearest.2.1 9 = .ok (.iload_n 1, 1) := by decide +kernel
theorem dc_Nu_nearest_10 : decode m_Nu_nearest.2.1 10 = .ok (.iadd, 1) := by decide +kernel
theorem dc_Nu_nearest_11 : decode m_Nu_nearest.2.1 11 = .ok (.istore_n 2, 1) := by decide +kernel
theorem dc_Nu_nearest_12 : decode m_Nu_nearest.2.1 12 = .ok (.iload_n 2, 1) := by decide +kernel
theorem dc_Nu_nearest_13 : decode m_Nu_nearest.2.1 13 = .ok (.sipush 1023, 3) := by decide +kernel
theorem dc_Nu_nearest_16 : decode m_Nu_nearest.2.1 16 = .ok (.if_icmp .le 7, 3) := by decide +kernel
theorem dc_Nu_nearest_19 : decode m_Nu_nearest.2.1 19 = .ok (.ldc2_w 76, 3) := by decide +kernel
theorem dc_Nu_nearest_22 : decode m_Nu_nearest.2.1 22 = .ok (.lreturn, 1) := by decide +kernel
theorem dc_Nu_nearest_23 : decode m_Nu_nearest.2.1 23 = .ok (.iload_n 2, 1) := by decide +kernel
theorem dc_Nu_nearest_24 : decode m_Nu_nearest.2.1 24 = .ok (.bipush 52, 2) := by decide +kernel
theorem dc_Nu_nearest_26 : decode m_Nu_nearest.2.1 26 = .ok (.isub, 1) := by decide +kernel
theorem dc_Nu_nearest_27 : decode m_Nu_nearest.2.1 27 = .ok (.sipush (-1074), 3) := by decide +kernel
theorem dc_Nu_nearest_30 : decode m_Nu_nearest.2.1 30 = .ok (.invokestatic 92, 3) := by decide +kernel
theorem dc_Nu_nearest_33 : decode m_Nu_nearest.2.1 33 = .ok (.istore_n 3, 1) := by decide +kernel
theorem dc_Nu_nearest_34 : decode m_Nu_nearest.2.1 34 = .ok (.iload_n 3, 1) := by decide +kernel
theorem dc_Nu_nearest_35 : decode m_Nu_nearest.2.1 35 = .ok (.iload_n 1, 1) := by decide +kernel
theorem dc_Nu_nearest_36 : decode m_Nu_nearest.2.1 36 = .ok (.isub, 1) := by decide +kernel
theorem dc_Nu_nearest_37 : decode m_Nu_nearest.2.1 37 = .ok (.istore 4, 2) := by decide +kernel
theorem dc_Nu_nearest_39 : decode m_Nu_nearest.2.1 39 = .ok (.aload_n 0, 1) := by decide +kernel
theorem dc_Nu_nearest_40 : decode m_Nu_nearest.2.1 40 = .ok (.getfield 18, 3) := by decide +kernel
theorem dc_Nu_nearest_43 : decode m_Nu_nearest.2.1 43 = .ok (.iconst 1, 1) := by decide +kernel
theorem dc_Nu_nearest_44 : decode m_Nu_nearest.2.1 44 = .ok (.iload 4, 2) := by decide +kernel
theorem dc_Nu_nearest_46 : decode m_Nu_nearest.2.1 46 = .ok (.isub, 1) := by decide +kernel
theorem dc_Nu_nearest_47 : decode m_Nu_nearest.2.1 47 = .ok (.invokevirtual 95, 3) := by decide +kernel
theorem dc_Nu_nearest_50 : decode m_Nu_nearest.2.1 50 = .ok (.aload_n 0, 1) := by decide +kernel
theorem dc_Nu_nearest_51 : decode m_Nu_nearest.2.1 51 = .ok (.getfield 18, 3) := by decide +kernel
theorem dc_Nu_nearest_54 : decode m_Nu_nearest.2.1 54 = .ok (.iload 4, 2) := by decide +kernel
theorem dc_Nu_nearest_56 : decode m_Nu_nearest.2.1 56 = .ok (.iconst 1, 1) := by decide +kernel
theorem dc_Nu_nearest_57 : decode m_Nu_nearest.2.1 57 = .ok (.isub, 1) := by decide +kernel
theorem dc_Nu_nearest_58 : decode m_Nu_nearest.2.1 58 = .ok (.invokevirtual 119, 3) := by decide +kernel
theorem dc_Nu_nearest_61 : decode m_Nu_nearest.2.1 61 = .ok (.aload_n 0, 1) := by decide +kernel
theorem dc_Nu_nearest_62 : decode m_Nu_nearest.2.1 62 = .ok (.getfield 18, 3) := by decide +kernel
theorem dc_Nu_nearest_65 : decode m_Nu_nearest.2.1 65 = .ok (.invokevirtual 122, 3) := by decide +kernel
theorem dc_Nu_nearest_68 : decode m_Nu_nearest.2.1 68 = .ok (.lstore 5, 2) := by decide +kernel
theorem dc_Nu_nearest_70 : decode m_Nu_nearest.2.1 70 = .ok (.lload 5, 2) := by decide +kernel
theorem dc_Nu_nearest_72 : decode m_Nu_nearest.2.1 72 = .ok (.iconst 1, 1) := by decide +kernel
theorem dc_Nu_nearest_73 : decode m_Nu_nearest.2.1 73 = .ok (.lushr, 1) := by decide +kernel
theorem dc_Nu_nearest_74 : decode m_Nu_nearest.2.1 74 = .ok (.lstore 7, 2) := by decide +kernel
theorem dc_Nu_nearest_76 : decode m_Nu_nearest.2.1 76 = .ok (.lload 5, 2) := by decide +kernel
theorem dc_Nu_nearest_78 : decode m_Nu_nearest.2.1 78 = .ok (.lconst 1, 1) := by decide +kernel
theorem dc_Nu_nearest_79 : decode m_Nu_nearest.2.1 79 = .ok (.land, 1) := by decide +kernel
theorem dc_Nu_nearest_80 : decode m_Nu_nearest.2.1 80 = .ok (.lconst 0, 1) := by decide +kernel
theorem dc_Nu_nearest_81 : decode m_Nu_nearest.2.1 81 = .ok (.lcmp, 1) := by decide +kernel
theorem dc_Nu_nearest_82 : decode m_Nu_nearest.2.1 82 = .ok (.ifCond .eq 7, 3) := by decide +kernel
theorem dc_Nu_nearest_85 : decode m_Nu_nearest.2.1 85 = .ok (.iconst 1, 1) := by decide +kernel
theorem dc_Nu_nearest_86 : decode m_Nu_nearest.2.1 86 = .ok (.goto 4, 3) := by decide +kernel
theorem dc_Nu_nearest_89 : decode m_Nu_nearest.2.1 89 = .ok (.iconst 0, 1) := by decide +kernel
theorem dc_Nu_nearest_90 : decode m_Nu_nearest.2.1 90 = .ok (.istore 9, 2) := by decide +kernel
theorem dc_Nu_nearest_92 : decode m_Nu_nearest.2.1 92 = .ok (.iload 9, 2) := by decide +kernel
theorem dc_Nu_nearest_94 : decode m_Nu_nearest.2.1 94 = .ok (.ifCond .eq 28, 3) := by decide +kernel
theorem dc_Nu_nearest_97 : decode m_Nu_nearest.2.1 97 = .ok (.aload_n 0, 1) := by decide +kernel
theorem dc_Nu_nearest_98 : decode m_Nu_nearest.2.1 98 = .ok (.getfield 18, 3) := by decide +kernel
theorem dc_Nu_nearest_101 : decode m_Nu_nearest.2.1 101 = .ok (.getfield 116, 3) := by decide +kernel
theorem dc_Nu_nearest_104 : decode m_Nu_nearest.2.1 104 = .ok (.ifCond .ne 12, 3) := by decide +kernel
theorem dc_Nu_nearest_107 : decode m_Nu_nearest.2.1 107 = .ok (.lload 7, 2) := by decide +kernel
theorem dc_Nu_nearest_109 : decode m_Nu_nearest.2.1 109 = .ok (.lconst 1, 1) := by decide +kernel
theorem dc_Nu_nearest_110 : decode m_Nu_nearest.2.1 110 = .ok (.land, 1) := by decide +kernel
theorem dc_Nu_nearest_111 : decode m_Nu_nearest.2.1 111 = .ok (.lconst 0, 1) := by decide +kernel
theorem dc_Nu_nearest_112 : decode m_Nu_nearest.2.1 112 = .ok (.lcmp, 1) := by decide +kernel
theorem dc_Nu_nearest_113 : decode m_Nu_nearest.2.1 113 = .ok (.ifCond .eq 9, 3) := by decide +kernel
theorem dc_Nu_nearest_116 : decode m_Nu_nearest.2.1 116 = .ok (.lload 7, 2) := by decide +kernel
theorem dc_Nu_nearest_118 : decode m_Nu_nearest.2.1 118 = .ok (.lconst 1, 1) := by decide +kernel
theorem dc_Nu_nearest_119 : decode m_Nu_nearest.2.1 119 = .ok (.ladd, 1) := by decide +kernel
theorem dc_Nu_nearest_120 : decode m_Nu_nearest.2.1 120 = .ok (.lstore 7, 2) := by decide +kernel
theorem dc_Nu_nearest_122 : decode m_Nu_nearest.2.1 122 = .ok (.iload_n 3, 1) := by decide +kernel
theorem dc_Nu_nearest_123 : decode m_Nu_nearest.2.1 123 = .ok (.sipush (-1074), 3) := by decide +kernel
theorem dc_Nu_nearest_126 : decode m_Nu_nearest.2.1 126 = .ok (.isub, 1) := by decide +kernel
theorem dc_Nu_nearest_127 : decode m_Nu_nearest.2.1 127 = .ok (.i2l, 1) := by decide +kernel
theorem dc_Nu_nearest_128 : decode m_Nu_nearest.2.1 128 = .ok (.bipush 52, 2) := by decide +kernel
theorem dc_Nu_nearest_130 : decode m_Nu_nearest.2.1 130 = .ok (.lshl, 1) := by decide +kernel
theorem dc_Nu_nearest_131 : decode m_Nu_nearest.2.1 131 = .ok (.lload 7, 2) := by decide +kernel
theorem dc_Nu_nearest_133 : decode m_Nu_nearest.2.1 133 = .ok (.ladd, 1) := by decide +kernel
theorem dc_Nu_nearest_134 : decode m_Nu_nearest.2.1 134 = .ok (.lreturn, 1) := by decide +kernel
theorem b_Nu_nearest_0 {E : En_t} {d : Nat} {σ : S_t} {Q : Option Value → S_t → Prop} {x1 : Int32}
    (h : CI E d m_Bi_bitLength [pv E 57] σ (fun r2 σ1 => (((r2 - (1 : Int32)) + x1) ≤ (1023 : Int32) → ∀ r3, r3 = mxI (((r2 - (1 : Int32)) + x1) - (52 : Int32)) (-1074 : Int32) → (CV E d m_Bi_shiftLeft [pv E 57, .int ((1 : Int32) - (r3 - x1))] σ1 (fun σ4 => CV E d m_Bi_shiftRight [pv E 57, .int ((r3 - x1) - (1 : Int32))] σ4 (fun σ5 => CL E d m_Bi_low [pv E 57] σ5 (fun r7 σ6 => ((lg_cmp (r7 &&& (1 : Int64)) (0 : Int64)) = 0 → JE E (d + 1) m_Nu_nearest 90 [(0, pv E 55), (3, .int r3), (7, .long ((r7.toUInt64 >>> ((1 : Int32).toInt64.toUInt64 &&& Int64.toUInt64 63)).toInt64))] [.int (0 : Int32)] σ6 Q) ∧ (¬ (lg_cmp (r7 &&& (1 : Int64)) (0 : Int64)) = 0 → JE E (d + 1) m_Nu_nearest 90 [(0, pv E 55), (3, .int r3), (7, .long ((r7.toUInt64 >>> ((1 : Int32).toInt64.toUInt64 &&& Int64.toUInt64 63)).toInt64))] [.int (1 : Int32)] σ6 Q)))))) ∧ (¬ ((r2 - (1 : Int32)) + x1) ≤ (1023 : Int32) → Q (some (.long (9218868437227405312 : Int64))) σ1))) :
    JE E (d + 1) m_Nu_nearest 0 [(0, pv E 55), (1, .int x1)] [] σ Q := by
  refine J_aload_n dc_Nu_nearest_0 (Eq.refl 1) 0 rfl ?_
  refine J_getF (y := 57) dc_Nu_nearest_1 (Eq.refl 4) fl_Nu_18 (Nat.le_of_ble_eq_true rfl) rfl (Or.inr rfl) rfl ?_
  refine J_callVI (As := []) (st := []) dc_Nu_nearest_4 (Eq.refl 7) lk_Nu_89 mi_Bi_bitLength rfl (Nat.le_of_ble_eq_true rfl) rfl rfl (Nat.le_of_ble_eq_true rfl) rfl (Nat.le_of_ble_eq_true rfl) (CI.mono h (fun r2 σ1 h => ?_))
  refine J_iconst (v := (1 : Int32)) dc_Nu_nearest_7 (Eq.refl 8) rfl ?_
  refine J_isub dc_Nu_nearest_8 (Eq.refl 9) ?_
  refine J_iload_n dc_Nu_nearest_9 (Eq.refl 10) 1 rfl ?_
  refine J_iadd dc_Nu_nearest_10 (Eq.refl 11) ?_
  refine J_istore_n (L' := [(2, .int ((r2 - (1 : Int32)) + x1)), (0, pv E 55), (1, .int x1)]) dc_Nu_nearest_11 (Eq.refl 12) (Nat.le_of_ble_eq_true rfl) rfl ?_
  refine J_iload_n dc_Nu_nearest_12 (Eq.refl 13) 0 rfl ?_
  refine J_sipush (v := (1023 : Int32)) dc_Nu_nearest_13 (Eq.refl 16) rfl ?_
  refine J_icmp_le dc_Nu_nearest_16 (Eq.refl 19) rfl (fun hc => ?_) (fun hc => ?_)
  · have h := h.1 hc
    refine J_iload_n dc_Nu_nearest_23 (Eq.refl 24) 0 rfl ?_
    refine J_bipush (v := (52 : Int32)) dc_Nu_nearest_24 (Eq.refl 26) rfl ?_
    refine J_isub dc_Nu_nearest_26 (Eq.refl 27) ?_
    refine J_sipush (v := (-1074 : Int32)) dc_Nu_nearest_27 (Eq.refl 30) rfl ?_
    refine J_mmax dc_Nu_nearest_30 (Eq.refl 33) lk_Nu_92 (Nat.le_of_ble_eq_true rfl) (fun r3 er3 => ?_)
    have h := h r3 er3
    refine J_istore_n (L' := [(3, .int r3), (2, .int ((r2 - (1 : Int32)) + x1)), (0, pv E 55), (1, .int x1)]) dc_Nu_nearest_33 (Eq.refl 34) (Nat.le_of_ble_eq_true rfl) rfl ?_
    refine J_iload_n dc_Nu_nearest_34 (Eq.refl 35) 0 rfl ?_
    refine J_iload_n dc_Nu_nearest_35 (Eq.refl 36) 3 rfl ?_
    refine J_isub dc_Nu_nearest_36 (Eq.refl 37) ?_
    refine J_istore (L' := [(4, .int (r3 - x1)), (3, .int r3), (2, .int ((r2 - (1 : Int32)) + x1)), (0, pv E 55), (1, .int x1)]) dc_Nu_nearest_37 (Eq.refl 39) (Nat.le_of_ble_eq_true rfl) rfl ?_
    refine J_aload_n dc_Nu_nearest_39 (Eq.refl 40) 3 rfl ?_
    refine J_getF (y := 57) dc_Nu_nearest_40 (Eq.refl 43) fl_Nu_18 (Nat.le_of_ble_eq_true rfl) rfl (Or.inr rfl) rfl ?_
    refine J_iconst (v := (1 : Int32)) dc_Nu_nearest_43 (Eq.refl 44) rfl ?_
    refine J_iload dc_Nu_nearest_44 (Eq.refl 46) 0 rfl ?_
    refine J_isub dc_Nu_nearest_46 (Eq.refl 47) ?_
    refine J_callVV (As := [.int ((1 : Int32) - (r3 - x1))]) (st := []) dc_Nu_nearest_47 (Eq.refl 50) lk_Nu_95 mi_Bi_shiftLeft rfl (Nat.le_of_ble_eq_true rfl) rfl rfl (Nat.le_of_ble_eq_true rfl) rfl (Nat.le_of_ble_eq_true rfl) (CV.mono h (fun σ4 h => ?_))
    refine J_aload_n dc_Nu_nearest_50 (Eq.refl 51) 3 rfl ?_
    refine J_getF (y := 57) dc_Nu_nearest_51 (Eq.refl 54) fl_Nu_18 (Nat.le_of_ble_eq_true rfl) rfl (Or.inr rfl) rfl ?_
    refine J_iload dc_Nu_nearest_54 (Eq.refl 56) 0 rfl ?_
    refine J_iconst (v := (1 : Int32)) dc_Nu_nearest_56 (Eq.refl 57) rfl ?_
    refine J_isub dc_Nu_nearest_57 (Eq.refl 58) ?_
    refine J_callVV (As := [.int ((r3 - x1) - (1 : Int32))]) (st := []) dc_Nu_nearest_58 (Eq.refl 61) lk_Nu_119 mi_Bi_shiftRight rfl (Nat.le_of_ble_eq_true rfl) rfl rfl (Nat.le_of_ble_eq_true rfl) rfl (Nat.le_of_ble_eq_true rfl) (CV.mono h (fun σ5 h => ?_))
    refine J_aload_n dc_Nu_nearest_61 (Eq.refl 62) 3 rfl ?_
    refine J_getF (y := 57) dc_Nu_nearest_62 (Eq.refl 65) fl_Nu_18 (Nat.le_of_ble_eq_true rfl) rfl (Or.inr rfl) rfl ?_
    refine J_callVL (As := []) (st := []) dc_Nu_nearest_65 (Eq.refl 68) lk_Nu_122 mi_Bi_low rfl (Nat.le_of_ble_eq_true rfl) rfl rfl (Nat.le_of_ble_eq_true rfl) rfl (Nat.le_of_ble_eq_true rfl) (CL.mono h (fun r7 σ6 h => ?_))
    refine J_lstore (L' := [(5, .long r7), (4, .int (r3 - x1)), (3, .int r3), (2, .int ((r2 - (1 : Int32)) + x1)), (0, pv E 55), (1, .int x1)]) dc_Nu_nearest_68 (Eq.refl 70) (Nat.le_of_ble_eq_true rfl) rfl ?_
    refine J_lload dc_Nu_nearest_70 (Eq.refl 72) 0 rfl ?_
    refine J_iconst (v := (1 : Int32)) dc_Nu_nearest_72 (Eq.refl 73) rfl ?_
    refine J_lushr dc_Nu_nearest_73 (Eq.refl 74) ?_
    refine J_lstore (L' := [(7, .long ((r7.toUInt64 >>> ((1 : Int32).toInt64.toUInt64 &&& Int64.toUInt64 63)).toInt64)), (5, .long r7), (4, .int (r3 - x1)), (3, .int r3), (2, .int ((r2 - (1 : Int32)) + x1)), (0, pv E 55), (1, .int x1)]) dc_Nu_nearest_74 (Eq.refl 76) (Nat.le_of_ble_eq_true rfl) rfl ?_
    refine J_lload dc_Nu_nearest_76 (Eq.refl 78) 1 rfl ?_
    refine J_lconst (v := (1 : Int64)) dc_Nu_nearest_78 (Eq.refl 79) rfl ?_
    refine J_land dc_Nu_nearest_79 (Eq.refl 80) ?_
    refine J_lconst (v := (0 : Int64)) dc_Nu_nearest_80 (Eq.refl 81) rfl ?_
    refine J_lcmp dc_Nu_nearest_81 (Eq.refl 82) ?_
    refine J_if_eq dc_Nu_nearest_82 (Eq.refl 85) rfl (fun hc => ?_) (fun hc => ?_)
    · have h := h.1 hc
      refine J_iconst (v := (0 : Int32)) dc_Nu_nearest_89 (Eq.refl 90) rfl ?_
      refine J_sub [5, 3, 0] rfl ?_
      exact h
    · have h := h.2 hc
      refine J_iconst (v := (1 : Int32)) dc_Nu_nearest_85 (Eq.refl 86) rfl ?_
      refine J_goto dc_Nu_nearest_86 rfl ?_
      refine J_sub [5, 3, 0] rfl ?_
      exact h
  · have h := h.2 hc
    refine J_ldc2 dc_Nu_nearest_19 (Eq.refl 22) kc_Nu_76 ?_
    exact J_lret dc_Nu_nearest_22 rfl h
theorem b_Nu_nearest_90 {E : En_t} {d : Nat} {σ : S_t} {Q : Option Value → S_t → Prop} {x3 : Int32} {x7 : Int64} {s0 : Int32}
    (h : (s0 = 0 → JE E (d + 1) m_Nu_nearest 122 [(3, .int x3), (7, .long x7)] [] σ Q) ∧ (¬ s0 = 0 → (¬ (gI σ 57 2) = 0 → JE E (d + 1) m_Nu_nearest 116 [(3, .int x3), (7, .long x7)] [] σ Q) ∧ ((gI σ 57 2) = 0 → ((lg_cmp (x7 &&& (1 : Int64)) (0 : Int64)) = 0 → JE E (d + 1) m_Nu_nearest 122 [(3, .int x3), (7, .long x7)] [] σ Q) ∧ (¬ (lg_cmp (x7 &&& (1 : Int64)) (0 : Int64)) = 0 → JE E (d + 1) m_Nu_nearest 116 [(3, .int x3), (7, .long x7)] [] σ Q)))) :
    JE E (d + 1) m_Nu_nearest 90 [(0, pv E 55), (3, .int x3), (7, .long x7)] [.int s0] σ Q := by
  refine J_istore (L' := [(9, .int s0), (0, pv E 55), (3, .int x3), (7, .long x7)]) dc_Nu_nearest_90 (Eq.refl 92) (Nat.le_of_ble_eq_true rfl) rfl ?_
  refine J_iload dc_Nu_nearest_92 (Eq.refl 94) 0 rfl ?_
  refine J_if_eq dc_Nu_nearest_94 (Eq.refl 97) rfl (fun hc => ?_) (fun hc => ?_)
  · have h := h.1 hc
    refine J_sub [2, 3] rfl ?_
    exact h
  · have h := h.2 hc
    refine J_aload_n dc_Nu_nearest_97 (Eq.refl 98) 1 rfl ?_
    refine J_getF (y := 57) dc_Nu_nearest_98 (Eq.refl 101) fl_Nu_18 (Nat.le_of_ble_eq_true rfl) rfl (Or.inr rfl) rfl ?_
    refine J_getI dc_Nu_nearest_101 (Eq.refl 104) fl_Nu_116 (Nat.le_of_ble_eq_true rfl) rfl (Or.inr rfl) ?_
    refine J_if_ne dc_Nu_nearest_104 (Eq.refl 107) rfl (fun hc => ?_) (fun hc => ?_)
    · have h := h.1 hc
      refine J_sub [2, 3] rfl ?_
      exact h
    · have h := h.2 hc
      refine J_lload dc_Nu_nearest_107 (Eq.refl 109) 3 rfl ?_
      refine J_lconst (v := (1 : Int64)) dc_Nu_nearest_109 (Eq.refl 110) rfl ?_
      refine J_land dc_Nu_nearest_110 (Eq.refl 111) ?_
      refine J_lconst (v := (0 : Int64)) dc_Nu_nearest_111 (Eq.refl 112) rfl ?_
      refine J_lcmp dc_Nu_nearest_112 (Eq.refl 113) ?_
      refine J_if_eq dc_Nu_nearest_113 (Eq.refl 116) rfl (fun hc => ?_) (fun hc => ?_)
      · have h := h.1 hc
        refine J_sub [2, 3] rfl ?_
        exact h
      · have h := h.2 hc
        refine J_sub [2, 3] rfl ?_
        exact h
theorem b_Nu_nearest_116 {E : En_t} {d : Nat} {σ : S_t} {Q : Option Value → S_t → Prop} {x3 : Int32} {x7 : Int64}
    (h : JE E (d + 1) m_Nu_nearest 122 [(3, .int x3), (7, .long (x7 + (1 : Int64)))] [] σ Q) :
    JE E (d + 1) m_Nu_nearest 116 [(3, .int x3), (7, .long x7)] [] σ Q := by
  refine J_lload dc_Nu_nearest_116 (Eq.refl 118) 1 rfl ?_
  refine J_lconst (v := (1 : Int64)) dc_Nu_nearest_118 (Eq.refl 119) rfl ?_
  refine J_ladd dc_Nu_nearest_119 (Eq.refl 120) ?_
  refine J_lstore (L' := [(7, .long (x7 + (1 : Int64))), (3, .int x3)]) dc_Nu_nearest_120 (Eq.refl 122) (Nat.le_of_ble_eq_true rfl) rfl ?_
  refine J_sub [1, 0] rfl ?_
  exact h
theorem b_Nu_nearest_122 {E : En_t} {d : Nat} {σ : S_t} {Q : Option Value → S_t → Prop} {x3 : Int32} {x7 : Int64}
    (h : Q (some (.long ((((x3 - (-1074 : Int32)).toInt64) <<< ((52 : Int32).toInt64 &&& 63)) + x7))) σ) :
    JE E (d + 1) m_Nu_nearest 122 [(3, .int x3), (7, .long x7)] [] σ Q := by
  refine J_iload_n dc_Nu_nearest_122 (Eq.refl 123) 0 rfl ?_
  refine J_sipush (v := (-1074 : Int32)) dc_Nu_nearest_123 (Eq.refl 126) rfl ?_
  refine J_isub dc_Nu_nearest_126 (Eq.refl 127) ?_
  refine J_i2l dc_Nu_nearest_127 (Eq.refl 128) ?_
  refine J_bipush (v := (52 : Int32)) dc_Nu_nearest_128 (Eq.refl 130) rfl ?_
  refine J_lshl dc_Nu_nearest_130 (Eq.refl 131) ?_
  refine J_lload dc_Nu_nearest_131 (Eq.refl 133) 1 rfl ?_
  refine J_ladd dc_Nu_nearest_133 (Eq.refl 134) ?_
  exact J_lret dc_Nu_nearest_134 rfl h
