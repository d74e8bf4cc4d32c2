theorem k11 {t : Nat} (h : kindP t = 11) : 72 ≤ t := by
  have h2 : ∀ t, t < 192 → kindP t = 11 → 72 ≤ t := by decide +kernel
  exact h2 t (kindP_lt h (by decide)) h
theorem ShN_fr {σ σ' : S_t} (h : ∀ p k, ShD p k → gI σ' p k = gI σ p k) (h2 : σ'.2 = σ.2) (hN : ShN σ) : ShN σ' := by
  intro i hi
  obtain ⟨t, c, a1, a2, a3, a4, a5, a6, a7⟩ := hN i hi
  have e8 : gI σ' 8 i = gI σ 8 i := h 8 i (Or.inl ⟨by decide, by decide⟩)
  have e9 : gI σ' 9 i = gI σ 9 i := h 9 i (Or.inl ⟨by decide, by decide⟩)
  have et : gI σ' t 13 = gI σ t 13 := h t 13 (Or.inr (Or.inr (Or.inr (k11 a2))))
  have er : gR σ' 50 i = gR σ 50 i := by unfold gR; rw [h2]
  rw [e8, e9]
  exact ⟨t, c, er.trans a1, a2, a3, et.trans a4, a5, a6, a7⟩
theorem EmSh_fr : ShFr EmSh := fun σ σ' h h2 hE => ⟨ShN_fr h h2 hE.1, fun i hi => (h 8 i (Or.inl ⟨by decide, by decide⟩)).trans (hE.2 i hi)⟩
theorem em_point {E : En_t} {I : S_t → Prop} (h : ∀ σ, I σ → EmTp σ ∧ EmSh σ) : Op_13 E 40 I (fun _ => True) := by
  intro a0 σ hI
  obtain ⟨⟨hm, hc⟩, hE⟩ := h σ hI
  refine CE.of (L := [(0, pv E 49), (1, .int a0)]) rfl (Nat.le_of_ble_eq_true rfl) rfl (b_Cp_point_0 (d := 39) ?_)
  refine CE.of (L := [(0, pv E 69), (1, pv E 51)]) rfl (Nat.le_of_ble_eq_true rfl) rfl (b_Po_decode_0 (d := 38) ?_)
  have a1 : gI (sI (sI σ 51 2 0) 69 1 0) 51 1 = 0 := by rw [gI_sI_n (Or.inl (by decide)), gI_sI_n (Or.inr (by decide))]; exact hc
  have a2 : gI (sI (sI σ 51 2 0) 69 1 0) 51 2 = 0 := by rw [gI_sI_n (Or.inl (by decide)), gI_sI_s]
  have a3 : gI (sI (sI σ 51 2 0) 69 1 0) 0 1 = 0 := by rw [gI_sI_n (Or.inl (by decide)), gI_sI_n (Or.inl (by decide))]; exact hm
  have aE : EmSh (sI (sI σ 51 2 0) 69 1 0) := EmSh_fr σ _ (fun p k hp => by
    rw [gI_sI_n (Or.inl (by unfold ShD at hp; omega)), gI_sI_n (Or.inl (by unfold ShD at hp; omega))]) rfl hE
  generalize sI (sI σ 51 2 0) 69 1 0 = τ at *
  rw [a1]
  refine ⟨fun _ => b_Po_decode_28 (b_Po_decode_30 ⟨fun q => absurd q (by decide), fun _ => ⟨fun _ => ⟨_, rfl, ?_⟩, fun q => absurd (by rw [a1, a2]; exact Int32.le_refl _) q⟩⟩), fun q => absurd (Int32.le_refl _) q⟩
  refine CE.of (L := [(0, pv E 51)]) rfl (Nat.le_of_ble_eq_true rfl) rfl (b_Te_clear_0 ⟨rfl, fun q => absurd q (by decide), fun _ => ?_⟩)
  have b3 : gI (sI (sI τ 51 1 0) 51 2 0) 0 1 = 0 := by rw [gI_sI_n (Or.inl (by decide)), gI_sI_n (Or.inl (by decide))]; exact a3
  have bE : EmSh (sI (sI τ 51 1 0) 51 2 0) := EmSh_fr τ _ (fun p k hp => by
    rw [gI_sI_n (Or.inl (by unfold ShD at hp; omega)), gI_sI_n (Or.inl (by unfold ShD at hp; omega))]) rfl aE
  generalize sI (sI τ 51 1 0) 51 2 0 = ρ at *
  refine (em_D (d := 38) bE).mono (fun r σ1 hq => ?_)
  rw [hq.1, hq.2]
  refine ⟨fun q => absurd rfl q, fun _ => ⟨_, rfl, ?_⟩⟩
  refine CE.of (L := [(0, pv E 0), (1, .int a0)]) rfl (Nat.le_of_ble_eq_true rfl) rfl (b_Mo_point_0 (d := 39) ?_)
  rw [b3]
  refine CE.of (L := [(0, pv E 0), (1, .int 0)]) rfl (Nat.le_of_ble_eq_true rfl) rfl (b_Mo_readPointer_0 (d := 38) (b_Mo_readPointer_15 ⟨fun _ => ⟨_, rfl, fun q => absurd q (by decide), fun _ => ?_⟩, fun q => absurd (by rw [gI_sI_s]; exact Int32.le_refl _) q⟩))
  refine c_isShM.mono (fun r σ2 hq => ?_)
  obtain ⟨hs, hq⟩ := hq
  rw [hs]
  rcases hq with ⟨rfl, _⟩ | ⟨rfl, i, hi, rfl⟩
  · exact ⟨fun _ => ⟨_, rfl, rfl, trivial⟩, fun q => absurd rfl q⟩
  · refine ⟨fun q => absurd q (by decide), fun _ => ⟨vin (by omega) (by decide), fun q => absurd ?_ q, fun _ => ⟨_, rfl, rfl, trivial⟩⟩⟩
    rw [nI_clamp (by omega), gI_sI_n (Or.inl (by decide)), gI_sI_n (Or.inl (by decide)), gI_sI_n (Or.inl (by decide)), gI_sI_n (Or.inl (by decide))]
    exact bE.2 i hi
theorem e_skip {E : En_t} {d : Nat} {σ : S_t} (h : gI σ 51 1 = 0) (h2 : gI σ 51 2 = 0) : CV E (d + 1) m_Te_skipBlanks [pv E 51] σ (fun σ' => σ' = σ) := by
  refine CE.of (L := [(0, pv E 51)]) rfl (Nat.le_of_ble_eq_true rfl) rfl (b_Te_skipBlanks_0 ?_)
  rw [h, h2]
  exact ⟨fun q => absurd q (by decide), fun _ => ⟨fun _ => ⟨rfl, rfl⟩, fun q => absurd (Int32.le_refl _) q⟩⟩
theorem e_readNext {E : En_t} {d : Nat} {σ : S_t} (h7 : gI σ 63 7 = 0) : CV E (d + 2) m_Re_readNext [pv E 63, .int (-1)] σ (fun σ' => σ' = sI (sI σ 63 13 1) 63 14 (gI σ 51 2)) := by
  refine CE.of (L := [(0, pv E 63), (1, .int (-1))]) rfl (Nat.le_of_ble_eq_true rfl) rfl (b_Re_readNext_0 ⟨fun _ => b_Re_readNext_14 ⟨fun _ => b_Re_readNext_35 ⟨fun _ => b_Re_readNext_50 ?_, fun q => absurd h7 q⟩, fun q => absurd q (by decide)⟩, fun q => absurd q (by decide)⟩)
  refine CE.of (L := [(0, .int (-1))]) rfl (Nat.le_of_ble_eq_true rfl) rfl (b_Re_kindBegunBy_0 ⟨fun q => absurd q (by decide), fun q => absurd q (by decide), fun q => absurd q (by decide), fun q => absurd q (by decide), fun q => absurd q (by decide), fun q => absurd q (by decide), fun _ _ _ _ _ _ => ⟨fun q => absurd q (by decide), fun _ => ⟨fun _ => ⟨_, rfl, ?_⟩, fun q => absurd (by decide) q⟩⟩⟩)
  refine CE.of (L := [(0, pv E 63), (1, .int (-1))]) rfl (Nat.le_of_ble_eq_true rfl) rfl (b_Re_readValue_0 (d := d) ⟨fun q => absurd rfl q, fun _ => ?_⟩)
  refine CE.of (L := [(0, pv E 63), (1, .int 1), (2, .int (gI σ 51 2))]) rfl (Nat.le_of_ble_eq_true rfl) rfl (b_Re_blame_0 ⟨rfl, rfl, rfl, rfl⟩)
/-- the class's read of nothing -/
theorem e_read {E : En_t} {d t : Nat} {σ : S_t} (hk : kindP t = 11) (h : gI σ 51 1 = 0) : CI E (d + 5) m_Re_read [pv E 63, pv E t] σ (fun r σ' => r = 1 ∧ gI σ' 0 1 = gI σ 0 1) := by
  refine CE.of (L := [(0, pv E 63), (1, pv E t)]) rfl (Nat.le_of_ble_eq_true rfl) rfl (b_Re_read_0 hk ?_)
  refine CE.of (L := [(0, pv E 63)]) rfl (Nat.le_of_ble_eq_true rfl) rfl (b_Re_begin_0 (d := d + 3) ?_)
  refine CE.of (L := [(0, pv E 180)]) rfl (Nat.le_of_ble_eq_true rfl) rfl (b_Tr_clear_0 rfl ⟨rfl, fun σ2 hσ2 => ⟨rfl, ?_⟩⟩)
  have a1 : gI (sI σ2 63 14 (-1)) 51 1 = 0 := by
    subst hσ2
    rw [gI_sI_n (Or.inl (by decide)), gI_sI_n (Or.inl (by decide)), gI_sI_n (Or.inl (by decide)), gI_sI_n (Or.inl (by decide)), gI_sI_n (Or.inl (by decide)), gI_sI_n (Or.inl (by decide)), gI_sI_n (Or.inl (by decide)), gI_sI_n (Or.inl (by decide)), gI_sI_n (Or.inl (by decide)), gI_sI_n (Or.inl (by decide)), gI_sI_n (Or.inl (by decide)), gI_sI_n (Or.inl (by decide)), gI_sI_n (Or.inr (by decide))]
    exact h
  have a2 : gI (sI σ2 63 14 (-1)) 51 2 = 0 := by
    subst hσ2
    rw [gI_sI_n (Or.inl (by decide)), gI_sI_n (Or.inl (by decide)), gI_sI_n (Or.inl (by decide)), gI_sI_n (Or.inl (by decide)), gI_sI_n (Or.inl (by decide)), gI_sI_n (Or.inl (by decide)), gI_sI_n (Or.inl (by decide)), gI_sI_n (Or.inl (by decide)), gI_sI_n (Or.inl (by decide)), gI_sI_n (Or.inl (by decide)), gI_sI_n (Or.inl (by decide)), gI_sI_n (Or.inl (by decide)), gI_sI_s]
  have a7 : gI (sI σ2 63 14 (-1)) 63 7 = 0 := by
    subst hσ2
    rw [gI_sI_n (Or.inr (by decide)), gI_sI_n (Or.inr (by decide)), gI_sI_n (Or.inr (by decide)), gI_sI_n (Or.inr (by decide)), gI_sI_n (Or.inr (by decide)), gI_sI_n (Or.inr (by decide)), gI_sI_n (Or.inr (by decide)), gI_sI_s]
  have a13 : gI (sI σ2 63 14 (-1)) 63 13 = 0 := by
    subst hσ2
    rw [gI_sI_n (Or.inr (by decide)), gI_sI_s]
  have a0 : gI (sI σ2 63 14 (-1)) 0 1 = gI σ 0 1 := by
    subst hσ2
    rw [gI_sI_n (Or.inl (by decide)), gI_sI_n (Or.inl (by decide)), gI_sI_n (Or.inl (by decide)), gI_sI_n (Or.inl (by decide)), gI_sI_n (Or.inl (by decide)), gI_sI_n (Or.inl (by decide)), gI_sI_n (Or.inl (by decide)), gI_sI_n (Or.inl (by decide)), gI_sI_n (Or.inl (by decide)), gI_sI_n (Or.inl (by decide)), gI_sI_n (Or.inl (by decide)), gI_sI_n (Or.inl (by decide)), gI_sI_n (Or.inl (by decide))]
  clear hσ2
  generalize sI σ2 63 14 (-1) = τ at *
  refine b_Re_read_6 hk ⟨fun q => absurd q (by decide), fun _ => ⟨fun q => absurd q (by rw [a7]; decide), fun _ => ⟨fun q => absurd a13 q, fun _ => ⟨fun _ => ?_, fun q => absurd q (by rw [a7]; decide)⟩⟩⟩⟩
  refine (e_skip (d := d + 3) a1 a2).mono (fun σ3 hq => ?_)
  rw [hq]
  refine (e_here (d := d + 4) a1 a2).mono (fun r σ4 hq => ?_)
  rw [hq.1, hq.2]
  refine (e_readNext (d := d + 2) a7).mono (fun σ5 hq => ?_)
  have c1 : gI σ5 51 1 = 0 := by rw [hq, gI_sI_n (Or.inl (by decide)), gI_sI_n (Or.inl (by decide))]; exact a1
  have c2 : gI σ5 51 2 = 0 := by rw [hq, gI_sI_n (Or.inl (by decide)), gI_sI_n (Or.inl (by decide))]; exact a2
  have c7 : gI σ5 63 7 = 0 := by rw [hq, gI_sI_n (Or.inr (by decide)), gI_sI_n (Or.inr (by decide))]; exact a7
  have c13 : gI σ5 63 13 = 1 := by rw [hq, gI_sI_n (Or.inr (by decide)), gI_sI_s]
  have c0 : gI σ5 0 1 = gI σ 0 1 := by rw [hq, gI_sI_n (Or.inl (by decide)), gI_sI_n (Or.inl (by decide))]; exact a0
  refine b_Re_read_72 hk (b_Re_read_6 hk ⟨fun q => absurd q (by decide), fun _ => ⟨fun q => absurd q (by rw [c7]; decide), fun _ => ⟨fun _ => b_Re_read_78 hk ?_, fun q => absurd q (by rw [c13]; decide)⟩⟩⟩)
  refine (e_skip (d := d + 3) c1 c2).mono (fun σ6 hq6 => ?_)
  rw [hq6]
  refine ⟨fun _ => b_Re_read_130 hk ⟨fun _ => ⟨_, rfl, c13, c0⟩, fun q => absurd q (by rw [c13]; decide)⟩, fun q => absurd q (by rw [c13]; decide)⟩
theorem e_blanks {E : En_t} {d : Nat} {σ : S_t} (h2 : gI σ 0 9 = 0) : CV E (d + 1) m_Mo_blanks [pv E 0, .int 0] σ (fun σ' => σ' = σ) := by
  refine CE.of (L := [(0, pv E 0), (1, .int 0)]) rfl (Nat.le_of_ble_eq_true rfl) rfl (b_Mo_blanks_0 ((e_hereM h2).mono (fun r σ1 hq => ?_)))
  rw [hq.1, hq.2]
  refine ⟨fun q => absurd q (by decide), fun _ => (e_hereM h2).mono (fun r σ1 hq => ?_)⟩
  rw [hq.1, hq.2]
  refine ⟨fun q => absurd q (by decide), fun _ => (e_hereM h2).mono (fun r σ1 hq => ?_)⟩
  rw [hq.1, hq.2]
  refine ⟨fun q => absurd q (by decide), fun _ => (e_hereM h2).mono (fun r σ1 hq => ?_)⟩
  rw [hq.1, hq.2]
  exact ⟨fun _ => ⟨rfl, rfl⟩, fun q => absurd q (by decide)⟩
theorem e_kindAt {E : En_t} {d : Nat} {σ : S_t} : CI E (d + 1) m_Mo_kindAt [.int (-1)] σ (fun r σ' => r = -1 ∧ σ' = σ) := by
  refine CE.of (L := [(0, .int (-1))]) rfl (Nat.le_of_ble_eq_true rfl) rfl (b_Mo_kindAt_0 ⟨fun _ => ⟨fun _ => ⟨fun _ => ⟨fun _ => ⟨fun _ => ⟨fun _ => ⟨fun q => absurd q (by decide), fun _ => e_dig.mono (fun r σ1 hq => ?_)⟩, fun q => absurd q (by decide)⟩, fun q => absurd q (by decide)⟩, fun q => absurd q (by decide)⟩, fun q => absurd q (by decide)⟩, fun q => absurd q (by decide)⟩, fun q => absurd q (by decide)⟩)
  rw [hq.1, hq.2]
  exact ⟨fun _ => ⟨_, rfl, rfl, rfl⟩, fun q => absurd rfl q⟩
theorem e_readAll {E : En_t} {d : Nat} {σ : S_t} : CI E (d + 2) m_Mo_readAll [pv E 0, .int 0] σ (fun r σ' => r = 0 ∧ gI σ' 0 41 = 1) := by
  refine CE.of (L := [(0, pv E 0), (1, .int 0)]) rfl (Nat.le_of_ble_eq_true rfl) rfl (b_Mo_readAll_0 (d := d + 1) ?_)
  have a9 : gI (sI (sI (sI (sI (sI σ 0 43 0) 0 44 0) 0 41 0) 0 42 (-1)) 0 9 0) 0 9 = 0 := gI_sI_s _ _ _ _
  have a41 : gI (sI (sI (sI (sI (sI σ 0 43 0) 0 44 0) 0 41 0) 0 42 (-1)) 0 9 0) 0 41 = 0 := by rw [gI_sI_n (Or.inr (by decide)), gI_sI_n (Or.inr (by decide)), gI_sI_s]
  generalize sI (sI (sI (sI (sI σ 0 43 0) 0 44 0) 0 41 0) 0 42 (-1)) 0 9 0 = τ at *
  refine b_Mo_readAll_41 ⟨fun q => absurd q (by decide), fun _ => (e_blanks (d := d) a9).mono (fun σ1 hq => ?_)⟩
  rw [hq]
  refine (e_hereM a9).mono (fun r σ2 hq => ?_)
  rw [hq.1, hq.2]
  refine ⟨fun _ => b_Mo_readAll_92 ⟨fun _ => b_Mo_readAll_115 ⟨fun _ => ⟨fun q => absurd rfl q, fun _ => (e_kindAt (d := d)).mono (fun r σ3 hq => ?_)⟩, fun q => absurd q (by decide)⟩, fun q => absurd q (by decide)⟩, fun q => absurd q (by decide)⟩
  rw [hq.1, hq.2]
  refine ⟨fun q => absurd q (by decide), fun _ => ?_⟩
  refine CE.of (L := [(0, pv E 0), (1, .int 1), (2, .int (gI τ 0 9))]) rfl (Nat.le_of_ble_eq_true rfl) rfl (b_Mo_wrong_0 ⟨fun q => absurd a41 q, fun _ => ⟨_, rfl, rfl, _, rfl, rfl, ?_⟩⟩)
  rw [gI_sI_n (Or.inr (by decide)), gI_sI_s]
theorem em_document {E : En_t} {I : S_t → Prop} (h : ∀ σ, I σ → EmTp σ ∧ ∃ t, gR σ 49 9 = some t ∧ kindP t = 11) : Op_7 E 40 I (fun _ => True) := by
  intro a0 σ hI
  obtain ⟨⟨hm, hc⟩, t, ht, hk⟩ := h σ hI
  refine CE.of (L := [(0, pv E 49), (1, .int a0)]) rfl (Nat.le_of_ble_eq_true rfl) rfl (b_Cp_document_0 (d := 39) (c_isShC.mono (fun r σ1 hq => ?_)))
  obtain ⟨hs, hq⟩ := hq
  rw [hs]
  rcases hq with ⟨rfl, hx⟩ | ⟨rfl, i, hi, rfl⟩
  · refine ⟨fun q => absurd rfl q, fun _ => ⟨_, rfl, ?_⟩⟩
    refine CE.of (L := [(0, pv E 0), (1, .int a0)]) rfl (Nat.le_of_ble_eq_true rfl) rfl (b_Mo_document_0 (d := 39) (c_isShM.mono (fun r σ2 hq => ?_)))
    rcases hq.2 with ⟨rfl, _⟩ | ⟨_, i, hi, e⟩
    · exact ⟨fun q => absurd rfl q, fun _ => ⟨_, rfl, rfl, trivial⟩⟩
    · exact absurd hx (x_sh hi e)
  · refine ⟨fun _ => ⟨t, ht, hk, (e_read (d := 34) hk hc).mono (fun r σ2 hq => ?_)⟩, fun q => absurd q (by decide)⟩
    obtain ⟨rfl, h0⟩ := hq
    refine ⟨fun _ => b_Cp_document_37 ?_, fun q => absurd q (by decide)⟩
    refine CE.of (L := [(0, pv E 51)]) rfl (Nat.le_of_ble_eq_true rfl) rfl (b_Te_clear_0 ⟨rfl, fun _ => ⟨_, rfl, ?_⟩, fun q => absurd q (by decide)⟩)
    have b1 : gI (sI (sI (sI σ2 49 10 (gI σ2 63 14)) 51 1 0) 51 2 0) 0 1 = 0 := by rw [gI_sI_n (Or.inl (by decide)), gI_sI_n (Or.inl (by decide)), gI_sI_n (Or.inl (by decide)), h0]; exact hm
    generalize sI (sI (sI σ2 49 10 (gI σ2 63 14)) 51 1 0) 51 2 0 = ρ at *
    refine CE.of (L := [(0, pv E 0), (1, .int (nI i))]) rfl (Nat.le_of_ble_eq_true rfl) rfl (b_Mo_document_0 (d := 39) (c_isShM.mono (fun r σ3 hq => ?_)))
    obtain ⟨hs3, hq⟩ := hq
    rw [hs3]
    rcases hq with ⟨rfl, hx⟩ | ⟨rfl, _⟩
    · exact absurd hx (x_sh hi rfl)
    · rw [b1]
      refine ⟨fun _ => (e_readAll (d := 37)).mono (fun r σ4 hq => ?_), fun q => absurd q (by decide)⟩
      rw [hq.1]
      exact ⟨fun q => absurd rfl q, fun _ => ⟨_, rfl, hq.2.symm, trivial⟩⟩
