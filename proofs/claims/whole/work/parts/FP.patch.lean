theorem op_patch {E : En_t} : Op_16 E 40 (Sim Shv) (Sim Shv) := by
  intro a0 a1 a2 σ hI0
  have hSh := Sim_Shv hI0
  have hN := Shv_N hSh
  have none : (¬ isD σ a0 ∨ ¬ isD σ a1 ∨ ¬ ∃ i, i < 8 ∧ a2 = nI i) → CI E 40 m_Mo_patch [pv E 0, .int a0, .int a1, .int a2] σ (fun r2 σ2 => (-1 : Int32) = r2 ∧ Sim Shv σ2) := by
    intro h
    refine CE.of (L := [(0, pv E 0), (1, .int a0), (2, .int a1), (3, .int a2)]) rfl (Nat.le_of_ble_eq_true rfl) rfl (b_Mo_patch_0 (d := 39) ((c_hasM (d := 38)).mono (fun r σ2 hq => ?_)))
    obtain ⟨rfl, hq⟩ := hq
    rcases hq with ⟨rfl, z⟩ | ⟨rfl, z⟩
    · exact ⟨fun _ => ⟨_, rfl, rfl, hI0⟩, fun q => absurd rfl q⟩
    refine ⟨fun q => absurd q (by decide), fun _ => (c_hasM (d := 38)).mono (fun r σ3 hq => ?_)⟩
    obtain ⟨rfl, hq⟩ := hq
    rcases hq with ⟨rfl, y⟩ | ⟨rfl, y⟩
    · exact ⟨fun _ => ⟨_, rfl, rfl, hI0⟩, fun q => absurd rfl q⟩
    refine ⟨fun q => absurd q (by decide), fun _ => c_isShM.mono (fun r σ4 hq => ?_)⟩
    obtain ⟨rfl, hq⟩ := hq
    rcases hq with ⟨rfl, x⟩ | ⟨rfl, x⟩
    · exact ⟨fun q => absurd rfl q, fun _ => ⟨_, rfl, rfl, hI0⟩⟩
    · rcases h with h | h | h
      · exact absurd ((hasV_0 hSh).mp z) h
      · exact absurd ((hasV_0 hSh).mp y) h
      · exact absurd x h
  refine CE.of (L := [(0, pv E 49), (1, .int a0), (2, .int a1), (3, .int a2)]) rfl (Nat.le_of_ble_eq_true rfl) rfl (b_Cp_patch_0 (d := 39) ((c_hasDoc (d := 38) hN).mono (fun r σ1 hq => ?_)))
  obtain ⟨rfl, hq⟩ := hq
  rcases hq with ⟨rfl, hn⟩ | ⟨rfl, hy⟩
  · exact ⟨fun _ => ⟨_, rfl, none (Or.inl hn)⟩, fun q => absurd rfl q⟩
  refine ⟨fun q => absurd q (by decide), fun _ => (c_hasDoc (d := 38) hN).mono (fun r σ2 hq => ?_)⟩
  obtain ⟨rfl, hq⟩ := hq
  rcases hq with ⟨rfl, hn⟩ | ⟨rfl, hy2⟩
  · exact ⟨fun _ => ⟨_, rfl, none (Or.inr (Or.inl hn))⟩, fun q => absurd rfl q⟩
  refine ⟨fun q => absurd q (by decide), fun _ => c_isShC.mono (fun r σ3 hq => ?_)⟩
  obtain ⟨rfl, hq⟩ := hq
  rcases hq with ⟨rfl, hn⟩ | ⟨rfl, to, hto, rfl⟩
  · exact ⟨fun q => absurd rfl q, fun _ => ⟨_, rfl, none (Or.inr (Or.inr (fun ⟨i, h1, h2⟩ => x_sh h1 h2 hn)))⟩⟩
  obtain ⟨s, t, L, hs, rfl, hR, hkd, _, wL, mL, tL⟩ := Shv_doc hSh hy
  obtain ⟨s', t', R, hs', rfl, hR', hkd', _, wR, mR, tR⟩ := Shv_doc hSh hy2
  obtain ⟨hw, π, hP0, hS0⟩ := id hSh
  have ht : t = tr (π s) := by have := hP0.2.2.1 s hs; rw [hR] at this; cases this; rfl
  subst ht
  have ht : t' = tr (π s') := by have := hP0.2.2.1 s' hs'; rw [hR'] at this; cases this; rfl
  subst ht
  obtain ⟨sm, hsm⟩ : ∃ sm : Nat → Nat → Bool, ∀ i j, sm i j = true ↔ sameS L i R j := ⟨fun i j => @decide _ (Classical.propDecidable (sameS L i R j)), fun i j => @decide_eq_true_iff _ (Classical.propDecidable _)⟩
  have p8 := hP0.1 8 (by omega)
  have ps := hP0.1 s (by omega)
  have ps' := hP0.1 s' (by omega)
  have pto := hP0.1 to (by omega)
  have ne1 : π 8 ≠ π s := fun z => by have := hP0.2.1 8 s (by omega) (by omega) z; omega
  have ne2 : π 8 ≠ π s' := fun z => by have := hP0.2.1 8 s' (by omega) (by omega) z; omega
  have k8 := kind_tr (π 8) (by omega)
  have m5 := wL.1.2.2.2.2
  have n5 := wR.1.2.2.2.2
  have hcs : (nI s).toNatClampNeg = s := nI_clamp (by omega)
  have hcs' : (nI s').toNatClampNeg = s' := nI_clamp (by omega)
  have l0 := wL.1.1.1 wL.2
  have w0 := wR.1.1.1 wR.2
  have dn0 := wR.1.2.2.2.1 wR.2
  have hIm : Sim Shv (w71 σ3 (π s) (π s') (π 8)) := Sim_71 hI0
  have hPm : Pm (w71 σ3 (π s) (π s') (π 8)) π := Pm_71 hP0
  have hSm : ∀ i, i < 8 → ShO (w71 σ3 (π s) (π s') (π 8)) i (tr (π i)) := fun i hi => ShO_fr (σ := σ3) rfl (fun _ _ _ => ⟨rfl, rfl⟩) (fun _ _ _ _ => ⟨rfl, rfl⟩) (hS0 i hi)
  have hwm : Wrd (w71 σ3 (π s) (π s') (π 8)) := hw
  have mod : ∀ (v : Int32) (τ : S_t), Fg (fun p k => TPl (tr (π 8)) p k ∨ p = 71) (if (woven true L R sm).2 = true then w71 σ3 (π s) (π s') (π 8) else if (woven true L R sm).1.isSome then swp (w71 σ3 (π s) (π s') (π 8)) (π to) (π 8) to else w71 σ3 (π s) (π s') (π 8)) τ → (((woven true L R sm).2 = true ∧ v = -2) ∨ ((woven true L R sm).2 = false ∧ (((woven true L R sm).1 = Option.none ∧ v = -1) ∨ ∃ F, (woven true L R sm).1 = some F ∧ v = nI F.length ∧ WfD F ∧ TrD τ (tr (π 8)) F))) → CI E 40 m_Mo_patch [pv E 0, .int (nI s), .int (nI s'), .int (nI to)] τ (fun r2 σ2 => v = r2 ∧ Sim Shv σ2) := by
    intro v τ hF hv
    have gi : ∀ p q, ¬ (TPl (tr (π 8)) p q ∨ p = 71) → gI τ p q = gI σ3 p q ∧ gL τ p q = gL σ3 p q := fun p q z => by
      have h1 := hF.1 p q z
      have h2 := hF.2.1 p q z
      (repeat' split at h1) <;> (repeat' split at h2)
      all_goals exact ⟨h1, h2⟩
    have hasT : ∀ x, isD σ3 x → hasV τ x 0 := fun x hx => by
      obtain ⟨i', j', e1, e2, e3, e4, e5, e6⟩ := (hasV_0 hSh).mpr hx
      exact ⟨i', j', e1, e2, e3, e4, by rw [(gi 8 i' (by unfold TPl tr; omega)).1]; exact e5, by rw [(gi 9 i' (by unfold TPl tr; omega)).1]; exact e6⟩
    have hC : MdC τ L R s s' := ⟨⟨hs, hs'⟩, wL.1, wR.1, MoR_fr (fun p q hm => gi p q (by unfold MoC at hm; unfold TPl tr; omega)) m5.1 m5.2 mL, MoR_fr (fun p q hm => gi p q (by unfold MoC at hm; unfold TPl tr; omega)) n5.1 n5.2 mR⟩
    have at429 : ∀ τ', MdI τ τ' (woven true L R sm).1 → JE E 40 m_Mo_patch 429 [(0, pv E 0), (3, .int (nI to)), (4, .int (bo (woven true L R sm).2))] [] τ' (fun q σ' => ∃ r2, q = some (.int r2) ∧ v = r2 ∧ Sim Shv σ') := by
      intro τ' hD
      rcases hv with ⟨hb, rfl⟩ | ⟨hb, hv⟩
      · refine b_Mo_patch_429 (d := 39) ⟨fun q => ?_, fun _ => ⟨_, rfl, rfl, ?_⟩⟩
        · rw [hb] at q; exact absurd q (by decide)
        · rw [hb] at hF
          have hF' : Fg (MEn (tr (π 8)) Option.none) (w71 σ3 (π s) (π s') (π 8)) τ' := (Fg.mono hF (fun p k z => z.elim (fun y => Or.inl y) (fun y => Or.inr (Or.inl y)))).tr (hD.1.mono (fun _ _ z => Or.inr (Or.inr (Or.inl z))))
          exact Sim_of hIm MEn_free hF'.1 (Shv_keep hwm hPm hSm MEn_W hF')
      · rw [hb] at hF
        exact b_Mo_patch_429 (d := 39) ⟨fun _ => end_put hIm hwm hPm hSm hto hF hv hD, fun q => absurd (by rw [hb]; rfl) q⟩
    refine CE.of (L := [(0, pv E 0), (1, .int (nI s)), (2, .int (nI s')), (3, .int (nI to))]) rfl (Nat.le_of_ble_eq_true rfl) rfl (b_Mo_patch_0 (d := 39) ((c_hasM (d := 38)).mono (fun r σ4 hq => ?_)))
    obtain ⟨rfl, hq⟩ := hq
    rcases hq with ⟨rfl, z⟩ | ⟨rfl, z⟩
    · exact absurd (hasT _ hy) z
    refine ⟨fun q => absurd q (by decide), fun _ => (c_hasM (d := 38)).mono (fun r σ5 hq => ?_)⟩
    obtain ⟨rfl, hq⟩ := hq
    rcases hq with ⟨rfl, z⟩ | ⟨rfl, z⟩
    · exact absurd (hasT _ hy2) z
    refine ⟨fun q => absurd q (by decide), fun _ => c_isShM.mono (fun r σ6 hq => ?_)⟩
    obtain ⟨rfl, hq⟩ := hq
    rcases hq with ⟨_, h⟩ | ⟨rfl, _⟩
    · exact absurd h (x_sh hto rfl)
    refine ⟨fun _ => c_begin.mono (fun σ7 hq => ?_), fun q => absurd q (by decide)⟩
    have hI7 : MdI σ6 σ7 (some []) := ⟨hq.1.mono (fun _ _ z => Or.inl z), hq.2⟩
    obtain ⟨_, _, _, mL7, mR7⟩ := MdC_at hC hI7.1
    have ow0 : OwS (some []) 0 Option.none := ⟨-1, Or.inl ⟨rfl, by decide, rfl⟩, fun _ => (fun ⟨p, _, h, _⟩ => absurd h (Nat.not_lt_zero p)), fun _ => rfl⟩
    have hl : ∀ i, some 0 = some i → i < L.length ∧ dT L i = 0 := fun i hi => by cases hi; exact ⟨wL.2, l0⟩
    have at52 : (dK R 0 ≠ 6 ∨ (true = true ∧ obO L (some 0) = false)) → JE E 40 m_Mo_patch 52 [(0, pv E 0), (2, .int (nI s')), (3, .int (nI to))] [] σ7 (fun q σ' => ∃ r2, q = some (.int r2) ∧ v = r2 ∧ Sim Shv σ') := by
      intro hc
      have ew : woven true L R sm = (cpS (some []) R 0 0 (dN R 0), false || (true && nl R 0)) := if_pos hc
      refine b_Mo_patch_52 (d := 39) ((c_hasNullM (k := 0) hs' wR.1 mR7 wR.2 (Or.inr rfl)).mono (fun r σ8 hq8 => ?_))
      obtain ⟨rfl, rfl⟩ := hq8
      refine (c_copy (d := 35) (i := 0) (e := 0) (nm := Option.none) hs' hI7.2 wR.1 mR7 wR.2 (Nat.zero_le _) ow0 (fun _ => rfl) (fun z => absurd rfl z)).mono (fun σ9 hq9 => ?_)
      have := at429 σ9 ⟨hI7.1.tr (hq9.1.mono (fun _ _ z => Or.inl z)), by rw [ew, dn0]; exact hq9.2⟩
      rw [ew] at this
      exact this
    refine (m_isObject (l := some 0) hs' wR.1 mR7 (fun k hk => by cases hk; exact wR.2)).mono (fun r σ8 hq8 => ?_)
    obtain ⟨rfl, rfl⟩ := hq8
    refine ⟨fun q => at52 (Or.inl (of_decide_eq_false (bo_0.mp q))), fun q => (m_isObject (l := some 0) hs wL.1 mL7 (fun k hk => by cases hk; exact wL.2)).mono (fun r σ9 hq9 => ?_)⟩
    obtain ⟨rfl, rfl⟩ := hq9
    refine ⟨fun q2 => ?_, fun q2 => at52 (Or.inr ⟨rfl, bo_0.mp q2⟩)⟩
    have h6 : dK R 0 = 6 := by
      rcases Classical.em (dK R 0 = 6) with z | z
      · exact z
      · exact absurd (bo_0.mpr (decide_eq_false z)) q
    have ew : woven true L R sm = wlk true L R sm 998 (adR (some []) (likR R 0 0 (dN R 0)), false) (lA L (some 0)) (lE L (some 0)) (0 + 1) (0 + siz (dT R) R.length 0) (0 + 1) := if_neg (by rintro (w | w); exact w h6; exact q2 (bo_0.mpr w.2))
    refine (m_named (d := 36) (K := 6) (e := 0) (k := 0) (nm := Option.none) hs' hI7.2 wR.1 mR7 wR.2 (Or.inr rfl) ow0 (by decide) (fun _ => by decide) (fun _ => rfl) (fun z => absurd rfl z)).mono (fun σ9 hq9 => ?_)
    have hI9 : MdI σ6 σ9 (adR (some []) (likR R 0 0 (dN R 0))) := ⟨hI7.1.tr (hq9.1.mono (fun _ _ z => Or.inl z)), by rw [likR_obj wR.1 wR.2 h6, dn0]; exact hq9.2⟩
    refine (m_openPair (d := 38) (e := 0) (r := 0) (l := some 0) (MdC_at hC hI9.1) (by decide) hl wR.2 w0 h6).mono (fun σ10 hq10 => ?_)
    have hI10 := MdI_pl hI9 hq10.1
    obtain ⟨x, hx⟩ := OwQ_ad (S := some []) (r := likR R 0 0 (dN R 0)) (e := 0) h6 rfl
    have z1 : lE L (some 0) - lA L (some 0) ≤ siz (dT L) L.length 0 - 1 := (Rg_l wL.1 hl).2
    have z2 := (siz_spec (f := dT L) (n := L.length) wL.2).2.1
    have z3 := (siz_spec (f := dT R) (n := R.length) wR.2).2.1
    refine Lq_all (d := 35) (sm := sm) (x3 := nI to) hC hsm 998 (adR (some []) (likR R 0 0 (dN R 0)), false) _ _ _ _ 0 x σ10 (by decide) hI10 (Rg_l wL.1 hl).1 (Rg_open wR.1 wR.2 w0 h6).1 hx hq10.2 (by omega) (fun τ3 i3 q47 q48 _ => ?_)
    have v0 : vp_in (nI 0) 40 := vin (by decide) (by decide)
    have fin := at429 τ3 (by rw [ew]; exact i3)
    rw [ew] at fin
    exact b_Mo_patch_93 (d := 39) ⟨fun z => absurd z (by decide), fun _ => ⟨v0, fun z => absurd q47 z, fun _ => ⟨v0, fun z => absurd q48 z, fun _ => b_Mo_patch_93 (d := 39) ⟨fun _ => fin, fun z => absurd (by decide) z⟩⟩⟩⟩
  refine ⟨fun _ => ⟨vin hs (by decide), tr (π s), by rw [hcs]; exact hR, hkd, vin hs' (by decide), tr (π s'), by rw [hcs']; exact hR', hkd', tr (π 8), hP0.2.2.2, k8, ?_⟩, fun q => absurd q (by decide)⟩
  refine (c_weMake (d := 37) (P := true) (sm := sm) (by decide) ps ps' p8 ne1 ne2 wL wR tL tR (fun i j _ _ => hsm i j)).mono (fun σ4 hq => ?_)
  obtain ⟨F4, N4, B4⟩ := hq
  rw [N4]
  refine ⟨fun q => ?_, fun q => ⟨_, rfl, ?_⟩⟩
  · have hb := bo_0.mp q
    refine (c_bring (d := 38) (a := π to) (b := π 8) pto p8 hto (by rw [gR_2 F4.2.2]; exact hPm.2.2.1 to hto) (by rw [gR_2 F4.2.2]; exact hPm.2.2.2) B4).mono (fun r σ5 hq => ⟨_, rfl, ?_⟩)
    rcases hq with ⟨e, rfl, rfl⟩ | ⟨G, e, rfl, wG, F5, T5⟩
    · exact mod _ _ (by rw [hb, e]; exact F4) (Or.inr ⟨hb, Or.inl ⟨e, rfl⟩⟩)
    · exact mod _ _ (by rw [hb, e]; exact (Fg_swp F4).tr (F5.mono (fun _ _ z => Or.inl z))) (Or.inr ⟨hb, Or.inr ⟨G, e, rfl, ⟨wG, wv_pos wR.2 (ExS_wlk 998) e⟩, T5⟩⟩)
  · have hb : (woven true L R sm).2 = true := by
      cases z : (woven true L R sm).2 with
      | false => rw [z] at q; exact absurd rfl q
      | true => rfl
    exact mod _ _ (by rw [hb]; exact F4) (Or.inl ⟨hb, rfl⟩)
