theorem op_part {E : En_t} : Op_17 E 40 (Sim Shv) (Sim Shv) := by
  intro a0 a1 a2 σ hI
  have hSh := Sim_Shv hI
  have hN := Shv_N hSh
  have none : (¬ hasV σ a0 a1 ∨ ¬ ∃ i, i < 8 ∧ a2 = nI i) → CI E 40 m_Mo_part [pv E 0, .int a0, .int a1, .int a2] σ (fun r2 σ2 => (-1 : Int32) = r2 ∧ Sim Shv σ2) := by
    intro h
    refine CE.of (L := [(0, pv E 0), (1, .int a0), (2, .int a1), (3, .int a2)]) rfl (Nat.le_of_ble_eq_true rfl) rfl (b_Mo_part_0 (d := 39) ((c_hasM (d := 38)).mono (fun r σ2 hq => ?_)))
    obtain ⟨rfl, hq⟩ := hq
    rcases hq with ⟨rfl, z⟩ | ⟨rfl, z⟩
    · exact ⟨fun _ => ⟨_, rfl, rfl, hI⟩, fun q => absurd rfl q⟩
    · refine ⟨fun q => absurd q (by decide), fun _ => c_isShM.mono (fun r σ3 hq => ?_)⟩
      obtain ⟨rfl, hq⟩ := hq
      rcases hq with ⟨rfl, y⟩ | ⟨rfl, y⟩
      · exact ⟨fun q => absurd rfl q, fun _ => ⟨_, rfl, rfl, hI⟩⟩
      · exact absurd y (h.resolve_left (fun x => x z))
  refine CE.of (L := [(0, pv E 49), (1, .int a0), (2, .int a1), (3, .int a2)]) rfl (Nat.le_of_ble_eq_true rfl) rfl (b_Cp_part_0 (d := 39) ((c_hasC (d := 38) hN).mono (fun r σ1 hq => ?_)))
  obtain ⟨rfl, hq⟩ := hq
  rcases hq with ⟨rfl, hn⟩ | ⟨rfl, hy⟩
  · exact ⟨fun _ => ⟨_, rfl, none (Or.inl hn)⟩, fun q => absurd rfl q⟩
  refine ⟨fun q => absurd q (by decide), fun _ => c_isShC.mono (fun r σ2 hq => ?_)⟩
  obtain ⟨rfl, hq⟩ := hq
  rcases hq with ⟨rfl, hn⟩ | ⟨rfl, to, hto, rfl⟩
  · exact ⟨fun q => absurd rfl q, fun _ => ⟨_, rfl, none (Or.inr (fun ⟨i, h1, h2⟩ => x_sh h1 h2 hn))⟩⟩
  obtain ⟨i, k, t, D, hi, rfl, rfl, hk, hR, hkd, _, hW, hM, hT⟩ := Shv_val hSh hy
  obtain ⟨hw, π, hP, hS⟩ := id hSh
  have ht : t = tr (π i) := by have := hP.2.2.1 i hi; rw [hR] at this; cases this; rfl
  subst ht
  have p8 := hP.1 8 (by omega)
  have pi := hP.1 i (by omega)
  have pto := hP.1 to (by omega)
  have hne : π 8 ≠ π i := fun z => by have := hP.2.1 8 i (by omega) (by omega) z; omega
  have k8 := kind_tr (π 8) (by omega)
  obtain ⟨ap1, ap2⟩ := tr_apart hne
  have h500 := hW.1.2.2.2.2.1
  have h4000 := hW.1.2.2.2.2.2
  have hcl : (nI i).toNatClampNeg = i := nI_clamp (by omega)
  have hct : (nI to).toNatClampNeg = to := nI_clamp (by omega)
  have mod : ∀ (v : Int32) (τ : S_t), Fg (TPl (tr (π 8))) (if (cpS (some []) D k 0 Option.none).isSome then swp σ2 (π to) (π 8) to else σ2) τ → ((cpS (some []) D k 0 Option.none = Option.none ∧ v = -1) ∨ ∃ F, cpS (some []) D k 0 Option.none = some F ∧ v = nI F.length ∧ WfR F ∧ TrD τ (tr (π 8)) F) → CI E 40 m_Mo_part [pv E 0, .int (nI i), .int (nI k), .int (nI to)] τ (fun r2 σ2 => v = r2 ∧ Sim Shv σ2) := by
    intro v τ hF hv
    have gi : ∀ p q, ¬ TPl (tr (π 8)) p q → gI τ p q = gI σ2 p q ∧ gL τ p q = gL σ2 p q := fun p q z => by
      have h1 := hF.1 p q z
      have h2 := hF.2.1 p q z
      split at h1 <;> split at h2
      all_goals exact ⟨h1, h2⟩
    have hy' : hasV τ (nI i) (nI k) := by
      obtain ⟨i', j', e1, e2, e3, e4, e5, e6⟩ := hy
      exact ⟨i', j', e1, e2, e3, e4, by rw [(gi 8 i' (by unfold TPl tr; omega)).1]; exact e5, by rw [(gi 9 i' (by unfold TPl tr; omega)).1]; exact e6⟩
    have hM' : MoR τ i D := MoR_fr (fun p q hm => gi p q (by unfold MoC at hm; unfold TPl tr; omega)) h500 h4000 hM
    refine CE.of (L := [(0, pv E 0), (1, .int (nI i)), (2, .int (nI k)), (3, .int (nI to))]) rfl (Nat.le_of_ble_eq_true rfl) rfl (b_Mo_part_0 (d := 39) ((c_hasM (d := 38)).mono (fun r σ3 hq => ?_)))
    obtain ⟨rfl, hq⟩ := hq
    rcases hq with ⟨rfl, z⟩ | ⟨rfl, z⟩
    · exact absurd hy' z
    refine ⟨fun q => absurd q (by decide), fun _ => c_isShM.mono (fun r σ4 hq => ?_)⟩
    obtain ⟨rfl, hq⟩ := hq
    rcases hq with ⟨_, h⟩ | ⟨rfl, _⟩
    · exact absurd h (x_sh hto rfl)
    refine ⟨fun _ => c_begin.mono (fun σ5 hq => ?_), fun q => absurd q (by decide)⟩
    obtain ⟨F5, B5⟩ := hq
    have hM5 : MoR σ5 i D := MoR_fr (fun p q hm => by
      have : ¬ MMk p q := by unfold MMk MoC; unfold MoC at hm; omega
      exact ⟨F5.1 p q this, F5.2.1 p q this⟩) h500 h4000 hM'
    refine (c_copy (d := 35) (nm := Option.none) hi B5 hW.1 hM5 hk (Nat.zero_le _) ⟨-1, Or.inl ⟨rfl, by decide, rfl⟩, fun _ => ?_, fun _ => rfl⟩ (fun _ => rfl) (fun q => absurd rfl q)).mono (fun σ6 hq => ?_)
    · rintro ⟨p, _, h, _⟩; exact absurd h (Nat.not_lt_zero p)
    obtain ⟨F6, B6⟩ := hq
    have F56 := F5.tr F6
    rcases hv with ⟨e, rfl⟩ | ⟨G, e, rfl, wG, tG⟩
    · rw [e] at B6 hF
      have h39 : gI σ6 0 39 = 1 := B6
      refine ⟨fun q => absurd q (by rw [h39]; decide), fun _ => ⟨_, rfl, rfl, ?_⟩⟩
      have hF' : Fg (fun p q => TPl (tr (π 8)) p q ∨ MMk p q) σ2 σ6 := (Fg.mono hF (fun _ _ z => Or.inl z)).tr (F56.mono (fun _ _ z => Or.inr z))
      refine Sim_of hI (M := fun p q => TPl (tr (π 8)) p q ∨ MMk p q) ?_ hF'.1 (Shv_keep hw hP hS (M := fun p q => TPl (tr (π 8)) p q ∨ MMk p q) ?_ hF')
      · intro p q z; unfold TPl MMk MoC tr at z; omega
      · intro p q z _
        rcases z with z | z | z | z
        · exact Or.inr (Or.inr z)
        · exact Or.inr (Or.inl z)
        · rename_i y; unfold ShD at y; omega
        · rename_i y; unfold ShD at y; omega
    · rw [e] at B6 hF
      obtain ⟨b1, b2, b3, b4⟩ : gI σ6 0 39 = 0 ∧ MoR σ6 8 G ∧ OpA σ6 G ∧ WfR G := B6
      refine ⟨fun _ => (c_shelve hto b4 b2).mono (fun σ7 hq => ?_), fun q => absurd b1 q⟩
      obtain ⟨F7, M7, e7⟩ := hq
      refine ⟨vin (show to < 9 by omega) (by decide), _, rfl, ?_, ?_⟩
      · rw [hct]; exact M7.1.symm
      have hG : 0 < G.length := by
        have := (cpN_CpI (show cpN (some []) D k 0 Option.none (siz (dT D) D.length k) = some G from e)).1
        have := (siz_spec (f := dT D) (n := D.length) hk).1
        omega
      have hF' : Fg (fun p q => TPl (tr (π 8)) p q ∨ MMk p q ∨ MSv to p q) (swp σ2 (π to) (π 8) to) σ7 := ((Fg.mono hF (fun _ _ z => Or.inl z)).tr (F56.mono (fun _ _ z => Or.inr (Or.inl z)))).tr (F7.mono (fun _ _ z => Or.inr (Or.inr z)))
      refine Sim_of hI (M := fun p q => TPl (tr (π 8)) p q ∨ MMk p q ∨ MSv to p q) ?_ hF'.1 (Shv_put hw hP hS hto (M := fun p q => TPl (tr (π 8)) p q ∨ MMk p q ∨ MSv to p q) ?_ hF' ⟨wG, hG⟩ M7 e7 ?_)
      · intro p q z; unfold TPl MMk MSv MoC tr at z; omega
      · intro p q z y
        rcases z with z | (z | z | z) | z
        · exact Or.inr (Or.inr z)
        · exact Or.inr (Or.inl z)
        · unfold ShD at y; omega
        · unfold ShD at y; omega
        · exact Or.inl ⟨to, rfl, z⟩
      · exact TrD_fr (fun p q h1 h2 => by
          have n1 : ¬ MMk p q := by unfold MMk MoC; unfold tr at h1; omega
          have n2 : ¬ MSv to p q := by unfold MSv MoC; unfold tr at h1; omega
          exact ⟨(F7.1 p q n2).trans (F56.1 p q n1), (F7.2.1 p q n2).trans (F56.2.1 p q n1)⟩) tG
  refine ⟨fun _ => ⟨_, hP.2.2.2, k8, ?_⟩, fun q => absurd q (by decide)⟩
  refine CE.of (L := [(0, pv E (tr (π 8)))]) rfl (Nat.le_of_ble_eq_true rfl) rfl (b_Tr_clear_0 k8 ⟨rfl, ?_⟩)
  have F1 : Fg (TPl (tr (π 8))) σ2 (sI (sI (sI (sI σ2 (tr (π 8)) 13 (0 : Int32)) (tr (π 8)) 11 (0 : Int32)) (tr (π 8)) 12 (0 : Int32)) (tr (π 8)) 14 (0 : Int32)) := (((Fg.rf.si ⟨by omega, by omega⟩).si ⟨by omega, by omega⟩).si ⟨by omega, by omega⟩).si ⟨by omega, by omega⟩
  have T1 : TrR (sI (sI (sI (sI σ2 (tr (π 8)) 13 (0 : Int32)) (tr (π 8)) 11 (0 : Int32)) (tr (π 8)) 12 (0 : Int32)) (tr (π 8)) 14 (0 : Int32)) (tr (π 8)) [] := TrR_nil (by simp [gI_sI]) (by simp [gI_sI]) (by simp [gI_sI]) (by simp [gI_sI])
  generalize sI (sI (sI (sI σ2 (tr (π 8)) 13 (0 : Int32)) (tr (π 8)) 11 (0 : Int32)) (tr (π 8)) 12 (0 : Int32)) (tr (π 8)) 14 (0 : Int32) = σ3 at F1 T1 ⊢
  refine ⟨tr (π 8), by rw [gR_2 F1.2.2]; exact hP.2.2.2, k8, vin hi (by decide), tr (π i), by rw [gR_2 F1.2.2, hcl]; exact hR, hkd, ?_⟩
  have hT3 : TrD σ3 (tr (π i)) D := TrD_fr (fun p q h1 h2 => ⟨F1.1 p q (fun z => ap2 p q z ⟨h1, h2⟩), F1.2.1 p q (fun z => ap2 p q z ⟨h1, h2⟩)⟩) hT
  refine (c_addWhole (d := 35) (e := 0) (nm := Option.none) (by omega) (by omega) hne WfR_nil T1 hW.1 hT3 hk (Or.inl ⟨rfl, by decide, rfl⟩) (Nat.zero_le _) (fun ⟨p, _, h, _⟩ => absurd h (Nat.not_lt_zero p)) (fun _ => rfl)).mono (fun σ4 hq => ?_)
  obtain ⟨F4, B4⟩ := hq
  have F14 := F1.tr F4
  refine (c_bring (d := 38) (a := π to) (b := π 8) pto p8 hto (by rw [gR_2 F14.2.2]; exact hP.2.2.1 to hto) (by rw [gR_2 F14.2.2]; exact hP.2.2.2) B4).mono (fun r σ5 hq => ⟨_, rfl, ?_⟩)
  rcases hq with ⟨e, rfl, rfl⟩ | ⟨G, e, rfl, wG, F5, T5⟩
  · exact mod _ _ (by rw [e]; exact F14) (Or.inl ⟨e, rfl⟩)
  · exact mod _ _ (by rw [e]; exact (Fg_swp F14).tr F5) (Or.inr ⟨G, e, rfl, wG, T5⟩)
