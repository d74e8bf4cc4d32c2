/-! about -/
def cntD (σ : S_t) : Nat → Nat
  | 0 => 0
  | n + 1 => cntD σ n + (if gI σ 8 n = 0 then 0 else 1)
theorem cntD_le (σ : S_t) : ∀ n, cntD σ n ≤ n
  | 0 => Nat.le_refl _
  | n + 1 => by
    have := cntD_le σ n
    show cntD σ n + (if gI σ 8 n = 0 then 0 else 1) ≤ n + 1
    split <;> omega
theorem c_countC {E : En_t} {d : Nat} {σ : S_t} (hN : ShN σ) : CI E (d + 2) m_Cp_countDocuments [pv E 49] σ (fun r σ' => r = nI (cntD σ 8) ∧ σ' = σ) := by
  refine CE.of (L := [(0, pv E 49)]) rfl (Nat.le_of_ble_eq_true rfl) rfl (b_Cp_countDocuments_0 ?_)
  have loop : ∀ (m i : Nat), i + m = 8 → JE E (d + 2) m_Cp_countDocuments 4 [(0, pv E 49), (1, .int (nI (cntD σ i))), (2, .int (nI i))] [] σ (fun q σ' => ∃ r, q = some (.int r) ∧ r = nI (cntD σ 8) ∧ σ' = σ) := by
    intro m
    induction m with
    | zero =>
      intro i hi
      have : i = 8 := by omega
      subst this
      exact b_Cp_countDocuments_4 ⟨fun _ => ⟨_, rfl, rfl, rfl⟩, fun q => absurd (Int32.le_refl _) q⟩
    | succ m ih =>
      intro i hi
      refine b_Cp_countDocuments_4 ⟨fun q => absurd q (nI_ge (b := 8) (by omega) (by decide)), fun _ => (c_hasDoc (d := d) hN).mono (fun r σ1 hq => ?_)⟩
      obtain ⟨hs, hq⟩ := hq
      rw [hs]
      have hd : isD σ (nI i) ↔ ¬ gI σ 8 i = 0 := ⟨fun ⟨j, hj, e, h⟩ => by
        have : i = j := (nI_eq (by omega) (by omega)).mp e
        subst this
        exact h, fun h => ⟨i, by omega, rfl, h⟩⟩
      have e1 : cntD σ (i + 1) = cntD σ i + (if gI σ 8 i = 0 then 0 else 1) := rfl
      rcases hq with ⟨rfl, h⟩ | ⟨rfl, h⟩
      · refine ⟨fun _ => b_Cp_countDocuments_21 ?_, fun q => absurd rfl q⟩
        rw [nI_1]
        have := ih (i + 1) (by omega)
        rw [e1, if_pos (Classical.not_not.mp (fun z => h (hd.mpr z))), Nat.add_zero] at this
        exact this
      · refine ⟨fun q => absurd q (by decide), fun _ => b_Cp_countDocuments_21 ?_⟩
        rw [nI_1, nI_1]
        have := ih (i + 1) (by omega)
        rw [e1, if_neg (hd.mp h)] at this
        exact this
  exact loop 8 0 rfl
theorem op_about {E : En_t} {Sh : S_t → Prop} (hN : ∀ σ, Sh σ → ShN σ) : Op_18 E 40 (Sim Sh) (Sim Sh) := by
  intro a0 σ hI
  have hI0 := hI
  obtain ⟨tp, o, t1, t2, t3, t4, o1, o2, o3, pl, hs⟩ := hI
  have hM : ∀ r, (a0 = 0 → r = nI tp.length) → (a0 = 1 → r = nI (min o.length 12000)) → (a0 = 2 → r = nI (cntD σ 8)) → (¬ a0 = 0 → ¬ a0 = 1 → ¬ a0 = 2 → r = -1) → CI E 40 m_Mo_about [pv E 0, .int a0] σ (fun r2 σ2 => r = r2 ∧ Sim Sh σ2) := by
    intro r h0 h1 h2 h3
    refine CE.of (L := [(0, pv E 0), (1, .int a0)]) rfl (Nat.le_of_ble_eq_true rfl) rfl (b_Mo_about_0 ⟨fun g => ⟨_, rfl, (h0 g).trans t1.1.symm, hI0⟩, fun g => ⟨_, rfl, (h1 g).trans o1.1.symm, hI0⟩, fun g => ?_, fun g1 g2 g3 => ⟨_, rfl, h3 g1 g2 g3, hI0⟩⟩)
    have loop : ∀ (m i : Nat), i + m = 8 → JE E 40 m_Mo_about 42 [(0, pv E 0), (2, .int (nI (cntD σ i))), (3, .int (nI i))] [] σ (fun q σ' => ∃ r2, q = some (.int r2) ∧ r = r2 ∧ Sim Sh σ') := by
      intro m
      induction m with
      | zero =>
        intro i hi
        have : i = 8 := by omega
        subst this
        exact b_Mo_about_42 ⟨fun _ => ⟨_, rfl, h2 g, hI0⟩, fun q => absurd (Int32.le_refl _) q⟩
      | succ m ih =>
        intro i hi
        refine b_Mo_about_42 ⟨fun q => absurd q (nI_ge (b := 8) (by omega) (by decide)), fun _ => ⟨vin (by omega) (by decide), ?_⟩⟩
        rw [nI_clamp (by omega)]
        have e1 : cntD σ (i + 1) = cntD σ i + (if gI σ 8 i = 0 then 0 else 1) := rfl
        have := ih (i + 1) (by omega)
        rw [e1] at this
        refine ⟨fun q => b_Mo_about_63 ?_, fun q => b_Mo_about_63 ?_⟩
        · rw [if_pos q] at this
          rw [nI_1, show nI (cntD σ i) + (0 : Int32) = nI (cntD σ i + 0) from nI_add _ 0]
          exact this
        · rw [if_neg q] at this
          rw [nI_1, nI_1]
          exact this
    exact loop 8 0 rfl
  refine CE.of (L := [(0, pv E 49), (1, .int a0)]) rfl (Nat.le_of_ble_eq_true rfl) rfl (b_Cp_about_0 (d := 39) ⟨fun g => ⟨_, rfl, hM _ (fun _ => t2.1) (fun z => ?_) (fun z => ?_) (fun z => absurd g z)⟩, fun g => (c_kept (d := 38) o2).mono (fun r σ1 hq => ?_), fun g => (c_countC (d := 37) (hN σ hs)).mono (fun r σ1 hq => ?_), fun g1 g2 g3 => ⟨_, rfl, hM _ (fun z => absurd z g1) (fun z => absurd z g2) (fun z => absurd z g3) (fun _ _ _ => rfl)⟩⟩)
  · rw [g] at z; exact absurd z (by decide)
  · rw [g] at z; exact absurd z (by decide)
  · rw [hq.1, hq.2]
    exact ⟨_, rfl, hM _ (fun z => by rw [g] at z; exact absurd z (by decide)) (fun _ => rfl) (fun z => by rw [g] at z; exact absurd z (by decide)) (fun _ z => absurd g z)⟩
  · rw [hq.1, hq.2]
    exact ⟨_, rfl, hM _ (fun z => by rw [g] at z; exact absurd z (by decide)) (fun z => by rw [g] at z; exact absurd z (by decide)) (fun _ => rfl) (fun _ _ z => absurd g z)⟩
/-! calls on an empty tape -/
def EmTp (σ : S_t) : Prop := gI σ 0 1 = 0 ∧ gI σ 51 1 = 0
theorem e_here {E : En_t} {d : Nat} {σ : S_t} (h : gI σ 51 1 = 0) (h2 : gI σ 51 2 = 0) : CI E d m_Te_here [pv E 51] σ (fun r σ' => r = -1 ∧ σ' = σ) := by
  refine CE.of (L := [(0, pv E 51)]) rfl (Nat.le_of_ble_eq_true rfl) rfl (b_Te_here_0 ?_)
  rw [h, h2]
  exact ⟨fun q => absurd q (by decide), fun _ => ⟨fun _ => ⟨_, rfl, rfl, rfl⟩, fun q => absurd (Int32.le_refl _) q⟩⟩
theorem e_pass {E : En_t} {d : Nat} {σ : S_t} {x : Int32} (h : gI σ 51 1 = 0) (h2 : gI σ 51 2 = 0) : CI E d m_Te_pass [pv E 51, .int x] σ (fun r σ' => r = 0 ∧ σ' = σ) := by
  refine CE.of (L := [(0, pv E 51), (1, .int x)]) rfl (Nat.le_of_ble_eq_true rfl) rfl (b_Te_pass_0 ?_)
  rw [h, h2]
  exact ⟨fun q => absurd q (by decide), fun _ => ⟨fun _ => b_Te_pass_39 (b_Te_pass_40 ⟨fun _ => ⟨rfl, _, rfl, rfl, rfl⟩, fun q => absurd rfl q⟩), fun q => absurd (Int32.le_refl _) q⟩⟩
theorem e_hereM {E : En_t} {d : Nat} {σ : S_t} (h2 : gI σ 0 9 = 0) : CI E d m_Mo_here [pv E 0, .int 0] σ (fun r σ' => r = -1 ∧ σ' = σ) := by
  refine CE.of (L := [(0, pv E 0), (1, .int 0)]) rfl (Nat.le_of_ble_eq_true rfl) rfl (b_Mo_here_0 ?_)
  rw [h2]
  exact ⟨fun _ => ⟨_, rfl, rfl, rfl⟩, fun q => absurd (Int32.le_refl _) q⟩
theorem e_dig {E : En_t} {d : Nat} {σ : S_t} : CI E d m_Mo_isDigit [.int (-1)] σ (fun r σ' => r = 0 ∧ σ' = σ) :=
  CE.of (L := [(0, .int (-1))]) rfl (Nat.le_of_ble_eq_true rfl) rfl (b_Mo_isDigit_0 ⟨fun _ => ⟨_, rfl, rfl, rfl⟩, fun q => absurd (by decide) q⟩)
theorem em_numeral {E : En_t} {I : S_t → Prop} (h : ∀ σ, I σ → EmTp σ) : Op_3 E 40 I (fun _ => True) := by
  intro σ hI
  obtain ⟨hm, hc⟩ := h σ hI
  have g1 : ∀ {τ : S_t}, Fs (fun p k => p = 55 ∨ (p = 51 ∧ k = 2)) σ τ → gI τ 51 1 = 0 := fun F => by rw [F.1 51 1 (by omega)]; exact hc
  refine CE.of (L := [(0, pv E 49)]) rfl (Nat.le_of_ble_eq_true rfl) rfl (b_Cp_numeral_0 (d := 39) ?_)
  refine CE.of (L := [(0, pv E 55), (1, pv E 51)]) rfl (Nat.le_of_ble_eq_true rfl) rfl (b_Nu_scan_0 (d := 38) ?_)
  refine (e_pass (by rw [gI_sI_n (Or.inl (by decide)), gI_sI_n (Or.inl (by decide)), gI_sI_n (Or.inl (by decide)), gI_sI_n (Or.inr (by decide))]; exact hc) (by rw [gI_sI_n (Or.inl (by decide)), gI_sI_n (Or.inl (by decide)), gI_sI_n (Or.inl (by decide)), gI_sI_s])).mono (fun r σ1 hq => ?_)
  rw [hq.1, hq.2]
  refine ⟨Or.inl rfl, ?_⟩
  refine (e_pass (by rw [gI_sI_n (Or.inl (by decide)), gI_sI_n (Or.inl (by decide)), gI_sI_n (Or.inl (by decide)), gI_sI_n (Or.inl (by decide)), gI_sI_n (Or.inr (by decide))]; exact hc) (by rw [gI_sI_n (Or.inl (by decide)), gI_sI_n (Or.inl (by decide)), gI_sI_n (Or.inl (by decide)), gI_sI_n (Or.inl (by decide)), gI_sI_s])).mono (fun r σ2 hq => ?_)
  rw [hq.1, hq.2]
  refine ⟨fun q => absurd rfl q, fun _ => ?_⟩
  have a1 : gI (sI (sI (sI (sI (sI σ 51 2 0) 55 2 0) 55 3 0) 55 4 0) 55 5 0) 51 1 = 0 := by rw [gI_sI_n (Or.inl (by decide)), gI_sI_n (Or.inl (by decide)), gI_sI_n (Or.inl (by decide)), gI_sI_n (Or.inl (by decide)), gI_sI_n (Or.inr (by decide))]; exact hc
  have a2 : gI (sI (sI (sI (sI (sI σ 51 2 0) 55 2 0) 55 3 0) 55 4 0) 55 5 0) 51 2 = 0 := by rw [gI_sI_n (Or.inl (by decide)), gI_sI_n (Or.inl (by decide)), gI_sI_n (Or.inl (by decide)), gI_sI_n (Or.inl (by decide)), gI_sI_s]
  have a9 : gI (sI (sI (sI (sI (sI σ 51 2 0) 55 2 0) 55 3 0) 55 4 0) 55 5 0) 0 1 = 0 := by rw [gI_sI_n (Or.inl (by decide)), gI_sI_n (Or.inl (by decide)), gI_sI_n (Or.inl (by decide)), gI_sI_n (Or.inl (by decide)), gI_sI_n (Or.inl (by decide))]; exact hm
  generalize sI (sI (sI (sI (sI σ 51 2 0) 55 2 0) 55 3 0) 55 4 0) 55 5 0 = τ at *
  refine CE.of (L := [(0, pv E 55), (1, pv E 51), (2, .int 1)]) rfl (Nat.le_of_ble_eq_true rfl) rfl (b_Nu_scanDigits_0 (d := 37) ?_)
  rw [a2]
  refine b_Nu_scanDigits_8 ⟨fun q => absurd q (by decide), fun _ => (e_here a1 a2).mono (fun r σ3 hq => ?_)⟩
  rw [hq.1, hq.2]
  refine CE.of (L := [(0, .int (-1))]) rfl (Nat.le_of_ble_eq_true rfl) rfl (b_Nu_isDigit_0 ⟨fun _ => ⟨_, rfl, fun _ => ?_, fun q => absurd rfl q⟩, fun q => absurd (by decide) q⟩)
  refine b_Nu_scanDigits_54 ⟨fun _ => ⟨_, rfl, fun q => absurd rfl q, fun _ => ?_⟩, fun q => absurd (by rw [a2]; exact Int32.le_refl _) q⟩
  refine ⟨_, rfl, fun _ => ?_, fun q => absurd rfl q⟩
  refine b_Cp_numeral_43 (b_Cp_numeral_44 ?_)
  refine CE.of (L := [(0, pv E 51)]) rfl (Nat.le_of_ble_eq_true rfl) rfl (b_Te_clear_0 ⟨rfl, fun _ => ⟨_, rfl, ?_⟩, fun q => absurd rfl q⟩)
  have b1 : gI (sI (sI τ 51 1 0) 51 2 0) 0 1 = 0 := by rw [gI_sI_n (Or.inl (by decide)), gI_sI_n (Or.inl (by decide))]; exact a9
  generalize sI (sI τ 51 1 0) 51 2 0 = ρ at *
  refine CE.of (L := [(0, pv E 0)]) rfl (Nat.le_of_ble_eq_true rfl) rfl (b_Mo_numeral_0 (d := 39) ?_)
  rw [gI_sI_n (Or.inr (by decide)), b1]
  refine CE.of (L := [(0, pv E 0), (1, .int 0)]) rfl (Nat.le_of_ble_eq_true rfl) rfl (b_Mo_takeNumeral_0 (d := 38) ((e_hereM (by rw [gI_sI_n (Or.inr (by decide)), gI_sI_s])).mono (fun r σ4 hq => ?_)))
  rw [hq.1, hq.2]
  refine ⟨fun _ => b_Mo_takeNumeral_15 ⟨fun _ => b_Mo_takeNumeral_30 ((e_hereM (by rw [gI_sI_n (Or.inr (by decide)), gI_sI_n (Or.inr (by decide)), gI_sI_n (Or.inr (by decide)), gI_sI_s])).mono (fun r σ5 hq => ?_)), fun q => absurd rfl q⟩, fun q => absurd q (by decide)⟩
  rw [hq.1, hq.2]
  refine e_dig.mono (fun r σ6 hq => ?_)
  rw [hq.1]
  exact ⟨fun q => absurd rfl q, fun _ => ⟨_, rfl, fun _ => ⟨_, rfl, rfl, trivial⟩, fun q => absurd rfl q⟩⟩
