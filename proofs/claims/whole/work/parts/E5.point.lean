/-! point -/
theorem mL_tot (T : List (List Nat)) : (mL T).length = T.length + T.flatten.length := by
  induction T with
  | nil => rfl
  | cons t T ih => rw [mL_cons, List.length_cons, List.length_append, List.length_map, ih, List.length_cons, List.flatten_cons, List.length_append]; omega
theorem off_at {A B : List (List Nat)} {t : List Nat} : off (A ++ t :: B) A.length = A.flatten.length ∧ (A ++ t :: B).getD A.length [] = t := by
  constructor
  · unfold off; rw [List.take_append_of_le_length (Nat.le_refl _), List.take_length]
  · rw [List.getD_eq_getElem?_getD, List.getElem?_append_right (Nat.le_refl _), Nat.sub_self]; rfl
theorem gA_mid (X t Y : List Nat) {j : Nat} (hj : j < t.length) : gA (X ++ (t ++ Y)) (X.length + j) = gA t j := by
  unfold gA
  rw [List.getD_eq_getElem?_getD, List.getElem?_append_right (by omega), show X.length + j - X.length = j by omega, List.getElem?_append_left hj, List.getD_eq_getElem?_getD]
theorem oI_neg {k : Option Nat} (h : ∀ j, k = some j → j < 2 ^ 31) : oI k < 0 ↔ k = none := by
  cases k with
  | none => exact ⟨fun _ => rfl, fun _ => by decide⟩
  | some k => exact ⟨fun q => absurd q (nI_pos (h k rfl)), fun q => by cases q⟩
def MPt : Nat → Nat → Prop := fun p k => MPo p k ∨ CPo p k ∨ (p = 51 ∧ k = 1) ∨ (p = 0 ∧ k = 1)
theorem MPt_free : FreeC MPt := fun p k h => by unfold MPt MPo CPo at h; unfold ShD; omega
theorem op_point {E : En_t} : Op_13 E 40 (Sim Shv) (Sim Shv) := by
  intro a0 σ hI
  obtain ⟨tp, o, t1, t2, t3, t4, o1, o2, o3, pl, hs⟩ := id hI
  -- what both answer
  let Ans : Int32 → Prop := fun v => (v = -2 ∧ (ptr tp = none ∨ ¬ isD σ a0)) ∨ ∃ T i t D r, ptr tp = some T ∧ i < 8 ∧ a0 = nI i ∧ ¬ gI σ 8 i = 0 ∧ WfD D ∧ MoR σ i D ∧ TrD σ t D ∧ FndR D (some 0) T r ∧ v = oI r ∧ (mL T).length ≤ 2000
  have ref : ∀ (v : Int32) (τ : S_t), Fg MPt σ τ → (∀ p k, (p = 0 ∨ p = 1) → gI τ p k = gI σ p k) → TpC τ [] → Ans v → CI E 40 m_Mo_point [pv E 0, .int a0] τ (fun r2 σ2 => v = r2 ∧ Sim Shv σ2) := by
    intro v τ hF h01 hC hA
    have hT1 : TcM (sI τ 0 1 (0 : Int32)) tp := fun k hk => by rw [gI_sI_n (Or.inl (by decide)), h01 1 k (Or.inr rfl)]; exact t1.2 k hk
    have hF1 : Fg MPt σ (sI τ 0 1 (0 : Int32)) := hF.si (Or.inr (Or.inr (Or.inr ⟨rfl, rfl⟩)))
    have h1 : gI (sI τ 0 1 (0 : Int32)) 0 1 = 0 := gI_sI_s _ _ _ _
    have hC1 : TpC (sI τ 0 1 (0 : Int32)) [] := TpC_fg (P := fun p k => p = 0 ∧ k = 1) (Fg.rf.si ⟨rfl, rfl⟩) (by omega) (fun k => by omega) hC
    refine CE.of (L := [(0, pv E 0), (1, .int a0)]) rfl (Nat.le_of_ble_eq_true rfl) rfl (b_Mo_point_0 (d := 39) ?_)
    rw [h01 0 1 (Or.inl rfl), t1.1]
    generalize sI τ 0 1 (0 : Int32) = ρ at hT1 hF1 h1 hC1 ⊢
    refine (c_readPointer (d := 37) hT1 t4 t3).mono (fun r σ1 hq => ?_)
    obtain ⟨F1, hq⟩ := hq
    have hF2 : Fg MPt σ σ1 := hF1.tr (F1.mono (fun _ _ z => Or.inl z))
    have sim : Sim Shv σ1 := Sim_tape (tp := []) Shv_fr MPt_free hF2 hI ⟨by rw [F1.1 0 1 (by unfold MPo; omega), h1]; rfl, fun k hk => absurd hk (Nat.not_lt_zero k)⟩ (TpC_fg F1 (by unfold MPo; omega) (fun k => by unfold MPo; omega) hC1) (Nat.zero_le _) Bt_nil
    have e8 : ∀ i, gI σ1 8 i = gI σ 8 i := fun i => hF2.1 8 i (by unfold MPt MPo CPo; omega)
    rcases hq with ⟨rfl, hn⟩ | ⟨rfl, T, hp, hP⟩
    · refine ⟨fun _ => ⟨_, rfl, ?_, sim⟩, fun q => absurd rfl q⟩
      rcases hA with ⟨e, _⟩ | ⟨T, i, t, D, r, q, _⟩
      · exact e
      · rw [hn] at q; cases q
    · refine ⟨fun q => absurd q (by decide), fun _ => c_isShM.mono (fun r σ2 hq => ?_)⟩
      obtain ⟨rfl, hq⟩ := hq
      rcases hq with ⟨rfl, h⟩ | ⟨rfl, i, hi, rfl⟩
      · refine ⟨fun _ => ⟨_, rfl, ?_, sim⟩, fun q => absurd rfl q⟩
        rcases hA with ⟨e, _⟩ | ⟨T', i, t, D, r, _, hi, e, _⟩
        · exact e
        · exact absurd h (x_sh hi e)
      · refine ⟨fun q => absurd q (by decide), fun _ => ⟨vin (by omega) (by decide), ?_⟩⟩
        rw [nI_clamp (by omega), e8]
        refine ⟨fun h8 => ?_, fun h8 => ⟨_, rfl, ?_, sim⟩⟩
        · rcases hA with ⟨_, z | z⟩ | ⟨T', i', t, D, r, hp', hi', e, _, hW, hM, hT, hFn, rfl, hl⟩
          · rw [hp] at z; cases z
          · exact absurd ⟨i, hi, rfl, h8⟩ z
          · rw [hp] at hp'
            cases hp'
            have : i = i' := (nI_eq (by omega) (by omega)).mp e
            subst this
            have hM1 : MoR σ2 i D := MoR_fr (fun p k hm => by
              have : ¬ MPt p k := by unfold MoC at hm; unfold MPt MPo CPo; omega
              exact ⟨hF2.1 p k this, hF2.2.1 p k this⟩) hW.1.2.2.2.2.1 hW.1.2.2.2.2.2 hM
            have tot := mL_tot T
            have hlt := ptr_ltr t4 hp
            have loop : ∀ (B A : List (List Nat)) (k : Option Nat), T = A ++ B → (∀ j, k = some j → j < D.length) → FndR D k B r → JE E 40 m_Mo_point 42 [(0, pv E 0), (1, .int (nI i)), (3, .int (oI k)), (4, .int (nI A.length))] [] σ2 (fun q σ' => ∃ r2, q = some (.int r2) ∧ oI r = r2 ∧ Sim Shv σ') := by
              intro B
              have h500 := hW.1.2.2.2.2.1
              induction B with
              | nil =>
                intro A k hAB hk hFk
                rw [List.append_nil] at hAB
                subst hAB
                refine b_Mo_point_42 (d := 39) ?_
                rw [hP.2.1]
                have : r = k := by cases k <;> exact hFk
                subst this
                exact ⟨fun _ => ⟨_, rfl, rfl, sim⟩, fun q => absurd (Int32.le_refl _) q⟩
              | cons t' B ih =>
                intro A k hAB hk hFk
                have hlen : T.length = A.length + (B.length + 1) := by rw [hAB, List.length_append]; rfl
                refine b_Mo_point_42 (d := 39) ?_
                rw [hP.2.1, oI_neg (fun j e => by have := hk j e; omega)]
                refine ⟨fun q => absurd q (nI_ge (by omega) (by omega)), fun _ => ⟨fun z => ?_, fun z => ?_⟩⟩
                · subst z
                  exact ⟨_, rfl, by rw [show r = none from hFk], sim⟩
                · cases k with
                  | none => exact absurd rfl z
                  | some k =>
                    obtain ⟨r', hr', hFr⟩ := hFk
                    have hkD := hk k rfl
                    obtain ⟨u1, u2⟩ := off_at (A := A) (B := B) (t := t')
                    rw [← hAB] at u1 u2
                    have hfl : T.flatten = A.flatten ++ (t' ++ B.flatten) := by rw [hAB, List.flatten_append, List.flatten_cons]
                    have hfll : T.flatten.length = A.flatten.length + (t'.length + B.flatten.length) := by rw [hfl, List.length_append, List.length_append]
                    refine (c_partOf (d := 37) (i := A.length) hi hW.1 hM1 hkD hP (by omega) (by omega) (by rw [u1, u2]; omega) (by
                      rw [u1, u2]
                      intro j hj
                      rw [hP.1.2 _ (by omega), hfl, gA_mid _ _ _ hj]) (by rw [u2]; exact hlt t' (by rw [hAB]; simp))).mono (fun r2 σ3 hq => ?_)
                    obtain ⟨rfl, o2, ho2, rfl⟩ := hq
                    rw [u2] at ho2
                    have := PtR_uniq hW.1.1 hkD ho2 hr'
                    subst this
                    rw [nI_1]
                    have := ih (A ++ [t']) o2 (by rw [hAB, List.append_assoc]; rfl) (fun j e => by subst e; exact PtR_lt hkD ho2) hFr
                    rw [lenT] at this
                    exact this
            exact loop T [] (some 0) rfl (fun j e => by cases e; exact hW.2) hFn
        · rcases hA with ⟨e, _⟩ | ⟨T', i', t, D, r, _, hi', e, h8', _⟩
          · exact e
          · have : i = i' := (nI_eq (by omega) (by omega)).mp e
            subst this
            exact absurd h8 h8'
  refine CE.of (L := [(0, pv E 49), (1, .int a0)]) rfl (Nat.le_of_ble_eq_true rfl) rfl (b_Cp_point_0 (d := 39) ((c_decode (d := 36) t2 t4 t3).mono (fun r σ1 hq => c_clearT.mono (fun σ2 hq2 => ?_))))
  obtain ⟨F1, hq⟩ := hq
  obtain ⟨F2, C2⟩ := hq2
  have hF2 : Fg MPt σ σ2 := (F1.mono (fun _ _ z => Or.inr (Or.inl z))).tr (F2.mono (fun p k z => by unfold MPo CPo; omega))
  have h01 : ∀ p k, (p = 0 ∨ p = 1) → gI σ2 p k = gI σ p k := fun p k hp => by rw [F2.1 p k (by omega), F1.1 p k (by unfold CPo; omega)]
  rcases hq with ⟨rfl, hn⟩ | ⟨rfl, T, hp, hM, hl⟩
  · exact ⟨fun _ => ⟨_, rfl, ref _ σ2 hF2 h01 C2 (Or.inl ⟨rfl, Or.inl hn⟩)⟩, fun q => absurd rfl q⟩
  · have hS2 : Shv σ2 := Shv_fr σ σ2 (fun p k hp => ⟨hF2.1 p k (fun q => (MPt_free p k q).1 hp), hF2.2.1 p k (fun q => (MPt_free p k q).1 hp)⟩) hF2.2.2 hs
    have e8 : ∀ i, gI σ2 8 i = gI σ 8 i := fun i => hF2.1 8 i (by unfold MPt MPo CPo; omega)
    have hD2 : isD σ2 a0 ↔ isD σ a0 := ⟨fun ⟨i, h1, h2, h3⟩ => ⟨i, h1, h2, by rw [← e8]; exact h3⟩, fun ⟨i, h1, h2, h3⟩ => ⟨i, h1, h2, by rw [e8]; exact h3⟩⟩
    refine ⟨fun q => absurd q (by decide), fun _ => (c_hasDoc (d := 38) (Shv_N hS2)).mono (fun r σ3 hq => ?_)⟩
    obtain ⟨rfl, hq⟩ := hq
    rcases hq with ⟨rfl, hn⟩ | ⟨rfl, hy⟩
    · exact ⟨fun q => absurd rfl q, fun _ => ⟨_, rfl, ref _ σ3 hF2 h01 C2 (Or.inl ⟨rfl, Or.inr (fun z => hn (hD2.mpr z))⟩)⟩⟩
    · obtain ⟨i, t, D, hi, rfl, hR, hkd, ⟨j, hj, rfl⟩, hW, hMo, hTr⟩ := Shv_doc hS2 hy
      have hM2 : MkC σ3 (mL T) := ⟨by rw [F2.1 69 1 (by omega)]; exact hM.1, fun k hk => by rw [F2.1 70 k (by omega)]; exact hM.2 k hk⟩
      refine ⟨fun _ => ⟨vin hi (by decide), tr j, by rw [nI_clamp (by omega)]; exact hR, hkd, (c_find (d := 35) hkd hTr hW hM2 hl (ptr_ltr t4 hp)).mono (fun r σ4 hq => ?_)⟩, fun q => absurd q (by decide)⟩
      obtain ⟨rfl, o', ho, rfl⟩ := hq
      obtain ⟨i', hi', e', h8'⟩ := hD2.mp hy
      have : i = i' := (nI_eq (by omega) (by omega)).mp e'
      subst this
      refine ⟨_, rfl, ref _ σ4 hF2 h01 C2 (Or.inr ⟨T, i, tr j, D, o', hp, hi, rfl, h8', hW, ?_, ?_, ho, rfl, hl⟩)⟩
      · exact MoR_fr (fun p k hm => by
          have : ¬ MPt p k := by unfold MoC at hm; unfold MPt MPo CPo; omega
          exact ⟨(hF2.1 p k this).symm, (hF2.2.1 p k this).symm⟩) hW.1.2.2.2.2.1 hW.1.2.2.2.2.2 hMo
      · exact TrD_fr (fun p k a b => by
          have : ¬ MPt p k := by unfold tr at a; unfold MPt MPo CPo; omega
          exact ⟨(hF2.1 p k this).symm, (hF2.2.1 p k this).symm⟩) hTr
