/-! is there such a value -/
def hasV (σ : S_t) (x y : Int32) : Prop := ∃ i j, i < 8 ∧ x = nI i ∧ y = nI j ∧ j < 2 ^ 31 ∧ ¬ gI σ 8 i = 0 ∧ nI j < gI σ 9 i
theorem c_hasC {E : En_t} {d : Nat} {x y : Int32} {σ : S_t} (hN : ShN σ) : CI E (d + 1) m_Cp_hasValue [pv E 49, .int x, .int y] σ (fun r σ' => σ' = σ ∧ ((r = 0 ∧ ¬ hasV σ x y) ∨ (r = 1 ∧ hasV σ x y))) := by
  refine CE.of (L := [(0, pv E 49), (1, .int x), (2, .int y)]) rfl (Nat.le_of_ble_eq_true rfl) rfl (b_Cp_hasValue_0 (c_isShC.mono (fun r σ1 hq => ?_)))
  obtain ⟨rfl, hq⟩ := hq
  rcases hq with ⟨rfl, h⟩ | ⟨rfl, i, hi, rfl⟩
  · exact ⟨fun _ => ⟨_, rfl, rfl, Or.inl ⟨rfl, fun ⟨i, j, hi, e, _⟩ => x_sh hi e h⟩⟩, fun q => absurd rfl q⟩
  · refine ⟨fun q => absurd q (by decide), fun _ => ⟨fun g => ⟨_, rfl, rfl, Or.inl ⟨rfl, fun ⟨i2, j, _, _, e, hj, _⟩ => ?_⟩⟩, fun g => ⟨vin hi (by decide), ?_⟩⟩⟩
    · rw [e] at g; exact nI_pos hj g
    · obtain ⟨t, c, h1, h2, h3, h4, h5, h6, h7⟩ := hN i hi
      obtain ⟨j, hj, rfl⟩ := nI_of g
      rw [nI_clamp (by omega)]
      refine ⟨t, h1, h2, ?_⟩
      rw [h4]
      have cj : nI c ≤ nI j ↔ c ≤ j := nI_leI (by omega) hj
      rw [cj]
      refine ⟨fun q => ⟨_, rfl, rfl, Or.inl ⟨rfl, fun ⟨i2, j2, hi2, e1, e2, hj2, n8, n9⟩ => ?_⟩⟩, fun q => ⟨_, rfl, rfl, Or.inr ⟨rfl, i, j, hi, rfl, rfl, hj, ?_, ?_⟩⟩⟩
      · have ei : i = i2 := (nI_eq (by omega) (by omega)).mp e1
        have ej : j = j2 := (nI_eq hj hj2).mp e2
        subst ei; subst ej
        have hc : c ≠ 0 := fun z => n8 (h6.mpr z)
        rw [h7 hc] at n9
        have := (nI_ltI hj (by omega)).mp n9
        omega
      · intro z
        have := h6.mp z
        omega
      · rw [h7 (by omega)]; exact nI_lt (by omega) (by omega)
theorem c_hasM {E : En_t} {d : Nat} {x y : Int32} {σ : S_t} : CI E (d + 1) m_Mo_has [pv E 0, .int x, .int y] σ (fun r σ' => σ' = σ ∧ ((r = 0 ∧ ¬ hasV σ x y) ∨ (r = 1 ∧ hasV σ x y))) := by
  refine CE.of (L := [(0, pv E 0), (1, .int x), (2, .int y)]) rfl (Nat.le_of_ble_eq_true rfl) rfl (b_Mo_has_0 (c_isShM.mono (fun r σ1 hq => ?_)))
  obtain ⟨rfl, hq⟩ := hq
  rcases hq with ⟨rfl, h⟩ | ⟨rfl, i, hi, rfl⟩
  · exact ⟨fun _ => ⟨_, rfl, rfl, Or.inl ⟨rfl, fun ⟨i, j, hi, e, _⟩ => x_sh hi e h⟩⟩, fun q => absurd rfl q⟩
  · have hno : ∀ {P : Prop}, (P → hasV σ1 (nI i) y → False) → P → ¬ hasV σ1 (nI i) y := fun h p z => h p z
    have ei : ∀ i2, i2 < 8 → nI i = nI i2 → i = i2 := fun i2 h2 e => (nI_eq (by omega) (by omega)).mp e
    rw [nI_clamp (by omega)]
    refine ⟨fun q => absurd q (by decide), fun _ => ⟨vin (by omega) (by decide), fun g => ⟨_, rfl, rfl, Or.inl ⟨rfl, fun ⟨i2, j, h2, e, _, _, n8, _⟩ => ?_⟩⟩, fun g8 => ⟨fun g => ⟨_, rfl, rfl, Or.inl ⟨rfl, fun ⟨i2, j, _, _, e, hj, _⟩ => ?_⟩⟩, fun g => ⟨vin (by omega) (by decide), fun q => ⟨_, rfl, rfl, Or.inl ⟨rfl, fun ⟨i2, j, h2, e, e2, hj, n8, n9⟩ => ?_⟩⟩, fun q => ?_⟩⟩⟩⟩
    · have := ei i2 h2 e
      subst this
      exact n8 g
    · rw [e] at g; exact nI_pos hj g
    · have := ei i2 h2 e
      subst this
      rw [e2] at q
      exact (fa_of_lt n9).2.1 q
    · obtain ⟨j, hj, rfl⟩ := nI_of g
      exact ⟨_, rfl, rfl, Or.inr ⟨rfl, i, j, hi, rfl, rfl, hj, g8, fa_of_nle q⟩⟩
/-- no shelf holds a document -/
def EmSh (σ : S_t) : Prop := ShN σ ∧ ∀ i, i < 8 → gI σ 8 i = 0
theorem em_noV {σ : S_t} (h : EmSh σ) (x y : Int32) : ¬ hasV σ x y := fun ⟨i, j, hi, _, _, _, n8, _⟩ => n8 (h.2 i hi)
theorem em_noD {σ : S_t} (h : EmSh σ) (x : Int32) : ¬ isD σ x := fun ⟨i, hi, _, n8⟩ => n8 (h.2 i hi)
theorem em_C {E : En_t} {d : Nat} {x y : Int32} {σ : S_t} (h : EmSh σ) : CI E (d + 1) m_Cp_hasValue [pv E 49, .int x, .int y] σ (fun r σ' => r = 0 ∧ σ' = σ) :=
  (c_hasC h.1).mono (fun r σ1 hq => ⟨hq.2.elim (fun z => z.1) (fun z => absurd z.2 (em_noV h x y)), hq.1⟩)
theorem em_M {E : En_t} {d : Nat} {x y : Int32} {σ : S_t} (h : EmSh σ) : CI E (d + 1) m_Mo_has [pv E 0, .int x, .int y] σ (fun r σ' => r = 0 ∧ σ' = σ) :=
  c_hasM.mono (fun r σ1 hq => ⟨hq.2.elim (fun z => z.1) (fun z => absurd z.2 (em_noV h x y)), hq.1⟩)
theorem em_D {E : En_t} {d : Nat} {x : Int32} {σ : S_t} (h : EmSh σ) : CI E (d + 1) m_Cp_hasDocument [pv E 49, .int x] σ (fun r σ' => r = 0 ∧ σ' = σ) :=
  (c_hasDoc h.1).mono (fun r σ1 hq => ⟨hq.2.elim (fun z => z.1) (fun z => absurd z.2 (em_noD h x)), hq.1⟩)
theorem em_form {E : En_t} {I : S_t → Prop} (h : ∀ σ, I σ → EmSh σ) : Op_9 E 40 I I := by
  intro a0 a1 σ hI
  have hE := h σ hI
  refine CE.of (L := [(0, pv E 49), (1, .int a0), (2, .int a1)]) rfl (Nat.le_of_ble_eq_true rfl) rfl (b_Cp_form_0 ((em_C hE).mono (fun r σ1 hq => ?_)))
  rw [hq.1, hq.2]
  refine ⟨fun z => absurd rfl z, fun _ => ⟨_, rfl, ?_⟩⟩
  refine CE.of (L := [(0, pv E 0), (1, .int a0), (2, .int a1)]) rfl (Nat.le_of_ble_eq_true rfl) rfl (b_Mo_form_0 ((em_M hE).mono (fun r σ1 hq => ?_)))
  rw [hq.1, hq.2]
  exact ⟨fun z => absurd rfl z, fun _ => ⟨_, rfl, rfl, hI⟩⟩
theorem em_value {E : En_t} {I : S_t → Prop} (h : ∀ σ, I σ → EmSh σ) : Op_10 E 40 I I := by
  intro a0 a1 a2 σ hI
  have hE := h σ hI
  refine CE.of (L := [(0, pv E 49), (1, .int a0), (2, .int a1), (3, .int a2)]) rfl (Nat.le_of_ble_eq_true rfl) rfl (b_Cp_value_0 ((em_C hE).mono (fun r σ1 hq => ?_)))
  rw [hq.1, hq.2]
  refine ⟨fun z => absurd rfl z, fun _ => ⟨_, rfl, ?_⟩⟩
  refine CE.of (L := [(0, pv E 0), (1, .int a0), (2, .int a1), (3, .int a2)]) rfl (Nat.le_of_ble_eq_true rfl) rfl (b_Mo_value_0 ((em_M hE).mono (fun r σ1 hq => ?_)))
  rw [hq.1, hq.2]
  exact ⟨fun z => absurd rfl z, fun _ => ⟨_, rfl, rfl, hI⟩⟩
theorem em_bits {E : En_t} {I : S_t → Prop} (h : ∀ σ, I σ → EmSh σ) : Op_11 E 40 I I := by
  intro a0 a1 σ hI
  have hE := h σ hI
  refine CE.of (L := [(0, pv E 49), (1, .int a0), (2, .int a1)]) rfl (Nat.le_of_ble_eq_true rfl) rfl (b_Cp_bits_0 ((em_C hE).mono (fun r σ1 hq => ?_)))
  rw [hq.1, hq.2]
  refine ⟨fun _ => ⟨_, rfl, ?_⟩, fun z => absurd rfl z⟩
  refine CE.of (L := [(0, pv E 0), (1, .int a0), (2, .int a1)]) rfl (Nat.le_of_ble_eq_true rfl) rfl (b_Mo_bits_0 ((em_M hE).mono (fun r σ1 hq => ?_)))
  rw [hq.1, hq.2]
  exact ⟨fun _ => ⟨_, rfl, rfl, hI⟩, fun z => absurd rfl z⟩
theorem em_character {E : En_t} {I : S_t → Prop} (h : ∀ σ, I σ → EmSh σ) : Op_12 E 40 I I := by
  intro a0 a1 a2 a3 σ hI
  have hE := h σ hI
  refine CE.of (L := [(0, pv E 49), (1, .int a0), (2, .int a1), (3, .int a2), (4, .int a3)]) rfl (Nat.le_of_ble_eq_true rfl) rfl (b_Cp_character_0 ((em_C hE).mono (fun r σ1 hq => ?_)))
  rw [hq.1, hq.2]
  refine ⟨fun z => absurd rfl z, fun _ => ⟨_, rfl, ?_⟩⟩
  refine CE.of (L := [(0, pv E 0), (1, .int a0), (2, .int a1), (3, .int a2), (4, .int a3)]) rfl (Nat.le_of_ble_eq_true rfl) rfl (b_Mo_character_0 ((em_M hE).mono (fun r σ1 hq => ?_)))
  rw [hq.1, hq.2]
  exact ⟨fun z => absurd rfl z, fun _ => ⟨_, rfl, rfl, hI⟩⟩
theorem em_same {E : En_t} {I : S_t → Prop} (h : ∀ σ, I σ → EmSh σ) : Op_14 E 40 I I := by
  intro a0 a1 a2 a3 σ hI
  have hE := h σ hI
  refine CE.of (L := [(0, pv E 49), (1, .int a0), (2, .int a1), (3, .int a2), (4, .int a3)]) rfl (Nat.le_of_ble_eq_true rfl) rfl (b_Cp_same_0 ((em_C hE).mono (fun r σ1 hq => ?_)))
  rw [hq.1, hq.2]
  refine ⟨fun _ => ⟨_, rfl, ?_⟩, fun z => absurd rfl z⟩
  refine CE.of (L := [(0, pv E 0), (1, .int a0), (2, .int a1), (3, .int a2), (4, .int a3)]) rfl (Nat.le_of_ble_eq_true rfl) rfl (b_Mo_same_0 ((em_M hE).mono (fun r σ1 hq => ?_)))
  rw [hq.1, hq.2]
  exact ⟨fun _ => b_Mo_same_19 ⟨_, rfl, rfl, hI⟩, fun z => absurd rfl z⟩
theorem em_merge {E : En_t} {I : S_t → Prop} (h : ∀ σ, I σ → EmSh σ) : Op_15 E 40 I I := by
  intro a0 a1 a2 σ hI
  have hE := h σ hI
  refine CE.of (L := [(0, pv E 49), (1, .int a0), (2, .int a1), (3, .int a2)]) rfl (Nat.le_of_ble_eq_true rfl) rfl (b_Cp_merge_0 ((em_D hE).mono (fun r σ1 hq => ?_)))
  rw [hq.1, hq.2]
  refine ⟨fun _ => ⟨_, rfl, ?_⟩, fun z => absurd rfl z⟩
  refine CE.of (L := [(0, pv E 0), (1, .int a0), (2, .int a1), (3, .int a2)]) rfl (Nat.le_of_ble_eq_true rfl) rfl (b_Mo_merge_0 ((em_M hE).mono (fun r σ1 hq => ?_)))
  rw [hq.1, hq.2]
  exact ⟨fun _ => ⟨_, rfl, rfl, hI⟩, fun z => absurd rfl z⟩
theorem em_patch {E : En_t} {I : S_t → Prop} (h : ∀ σ, I σ → EmSh σ) : Op_16 E 40 I I := by
  intro a0 a1 a2 σ hI
  have hE := h σ hI
  refine CE.of (L := [(0, pv E 49), (1, .int a0), (2, .int a1), (3, .int a2)]) rfl (Nat.le_of_ble_eq_true rfl) rfl (b_Cp_patch_0 ((em_D hE).mono (fun r σ1 hq => ?_)))
  rw [hq.1, hq.2]
  refine ⟨fun _ => ⟨_, rfl, ?_⟩, fun z => absurd rfl z⟩
  refine CE.of (L := [(0, pv E 0), (1, .int a0), (2, .int a1), (3, .int a2)]) rfl (Nat.le_of_ble_eq_true rfl) rfl (b_Mo_patch_0 ((em_M hE).mono (fun r σ1 hq => ?_)))
  rw [hq.1, hq.2]
  exact ⟨fun _ => ⟨_, rfl, rfl, hI⟩, fun z => absurd rfl z⟩
theorem em_part {E : En_t} {I : S_t → Prop} (h : ∀ σ, I σ → EmSh σ) : Op_17 E 40 I I := by
  intro a0 a1 a2 σ hI
  have hE := h σ hI
  refine CE.of (L := [(0, pv E 49), (1, .int a0), (2, .int a1), (3, .int a2)]) rfl (Nat.le_of_ble_eq_true rfl) rfl (b_Cp_part_0 ((em_C hE).mono (fun r σ1 hq => ?_)))
  rw [hq.1, hq.2]
  refine ⟨fun _ => ⟨_, rfl, ?_⟩, fun z => absurd rfl z⟩
  refine CE.of (L := [(0, pv E 0), (1, .int a0), (2, .int a1), (3, .int a2)]) rfl (Nat.le_of_ble_eq_true rfl) rfl (b_Mo_part_0 ((em_M hE).mono (fun r σ1 hq => ?_)))
  rw [hq.1, hq.2]
  exact ⟨fun _ => ⟨_, rfl, rfl, hI⟩, fun z => absurd rfl z⟩
