theorem dK_n (D : List Row) (r : Row) : dK (D ++ [r]) D.length = r.1 := by unfold dK; rw [dR_eq]
theorem dT_n (D : List Row) (r : Row) : dT (D ++ [r]) D.length = r.2.1 := by unfold dT; rw [dR_eq]
theorem dN_n (D : List Row) (r : Row) : dN (D ++ [r]) D.length = r.2.2.1 := by unfold dN; rw [dR_eq]
theorem nam_n (D : List Row) (r : Row) : nam (D ++ [r]) D.length = r.2.2.1.getD [] := by unfold nam; rw [dN_n]
theorem dX_n (D : List Row) (r : Row) : dX (D ++ [r]) D.length = r.2.2.2.1 := by unfold dX; rw [dR_eq]
theorem dB_n (D : List Row) (r : Row) : dB (D ++ [r]) D.length = r.2.2.2.2 := by unfold dB; rw [dR_eq]
theorem c_addNamed {E : En_t} {d j j' k K e : Nat} {x : Int32} {D F : List Row} {σ : S_t} {nm : Option (List Nat)} (hj : j < 10) (hj' : j' < 10) (hne : j ≠ j') (hW : WfR D) (hT : TrR σ (tr j) D) (hWF : WfR F) (hTF : TrR σ (tr j') F) (hk : k < F.length) (hO : OwR D x e) (hfit : RowFit (K, e, nm, [], 0)) (hnm1 : OwN D x → nm = some (nam F k)) (hnm2 : ¬ OwN D x → nm = none) : CI E (d + 2) m_Tr_addNamed [pv E (tr j), .int (nI K), pv E (tr j'), .int (nI k), .int x] σ (fun r σ' => Fg (TPl (tr j)) σ σ' ∧ AdP σ' (tr j) D (K, e, nm, [], 0) r) := by
  have ht := kind_tr j hj
  have ht' := kind_tr j' hj'
  obtain ⟨ap1, ap2⟩ := tr_apart hne
  have hcF := cc_bts F
  have hcD := cc_bts D
  have w6 := hW.2.2.2.2
  have wF6 := hWF.2.2.2.2
  have hls := (hWF.2.1 k hk).2.2.2.2.2.2.1
  have hn0 : (nm.map (fun _ => ([] : List Nat))).getD [] = [] := by cases nm <;> rfl
  have hnone : nm.map (fun _ => ([] : List Nat)) = none ↔ nm = none := by cases nm <;> simp
  have hnN : nm = none ↔ ¬ OwN D x := ⟨fun q z => (by have := hnm1 z; rw [q] at this; cases this), hnm2⟩
  have f0 : RowFit (K, e, nm.map (fun _ => ([] : List Nat)), [], 0) := by
    obtain ⟨a, b, c, dd, ee, ff, gg, hh⟩ := hfit
    exact ⟨a, b, c, dd, ee, ff, by show Ltrs ((nm.map (fun _ => ([] : List Nat))).getD []); rw [hn0]; exact Ltrs_nil, hh⟩
  have b0 : rBt (K, e, nm.map (fun _ => ([] : List Nat)), [], 0) = 0 := by unfold rBt; show bls ((nm.map (fun _ => ([] : List Nat))).getD []) + bls [] = 0; rw [hn0]; rfl
  have c0 : rCc (K, e, nm.map (fun _ => ([] : List Nat)), [], 0) = 0 := by unfold rCc; show ((nm.map (fun _ => ([] : List Nat))).getD []).length + 0 = 0; rw [hn0]; rfl
  refine CE.of (L := [(0, pv E (tr j)), (1, .int (nI K)), (2, pv E (tr j')), (3, .int (nI k)), (4, .int x)]) rfl (Nat.le_of_ble_eq_true rfl) rfl (b_Tr_addNamed_0 ht ht' ((c_add (d := d + 1) (nm := nm.map (fun _ => ([] : List Nat))) hj hT hW.1 w6.1 hO hn0).mono (fun r2 σ1 hq => ?_)))
  obtain ⟨F1, hq⟩ := hq
  rcases hq with ⟨g, rfl, h14⟩ | ⟨g, rfl, T1⟩
  · exact ⟨fun _ => ⟨_, rfl, F1, Or.inl ⟨adR_no (Or.inl g), h14, Or.inl rfl⟩⟩, fun q => absurd rfl q⟩
  · have hW1 : WfR (D ++ [(K, e, nm.map (fun _ => ([] : List Nat)), [], 0)]) := WfR_push hW hO f0 (by show nm.map (fun _ => ([] : List Nat)) = none ↔ _; rw [hnone, hnN]) g (by rw [b0]; omega)
    refine ⟨fun q => absurd q.symm (nI_neg1 (by omega)), fun _ => (c_isNamed ht T1 hW1 (by rw [lenR]; omega)).mono (fun r4 σ2 hq => ?_)⟩
    obtain ⟨rfl, hq⟩ := hq
    have eN : dN (D ++ [(K, e, nm.map (fun _ => ([] : List Nat)), [], 0)]) D.length = nm.map (fun _ => ([] : List Nat)) := by unfold dN; rw [dR_eq]
    rw [eN] at hq
    rcases hq with ⟨rfl, hz⟩ | ⟨rfl, hz⟩
    · have hnn := hnone.mp hz
      subst hnn
      have c0' : rBt (K, e, none, [], 0) = 0 := rfl
      exact ⟨fun _ => ⟨_, rfl, F1, Or.inr ⟨adR_yes g (by rw [c0']; omega), rfl, g, T1, hW1⟩⟩, fun q => absurd rfl q⟩
    · obtain ⟨s, rfl⟩ : ∃ s, nm = some s := by
        cases nm with
        | none => exact absurd rfl hz
        | some s => exact ⟨s, rfl⟩
      have hOw : OwN D x := Classical.not_not.mp (fun z => by have := hnm2 z; cases this)
      have hsF : s = nam F k := by have := hnm1 hOw; cases this; rfl
      have TF1 : TrR σ2 (tr j') F := TrR_fr (fun p k a b => ⟨F1.1 p k (fun z => ap2 p k z ⟨a, b⟩), F1.2.1 p k (fun z => ap2 p k z ⟨a, b⟩)⟩) hTF
      obtain ⟨sa, s8, s9, s10⟩ := (TF1.2.2.2.2 k hk).2.2.2.2.2.2.2.1
      have s7 := (TF1.2.2.2.2 k hk).2.2.2.2.2.2.1
      rw [← hsF] at s7 s9 s10
      rw [← hsF] at hls
      refine ⟨fun q => absurd q (by decide), fun _ => ⟨vin g (by decide), vin (by omega) (by decide), vin (by omega) (by decide), ?_⟩⟩
      have e11 : gI σ2 (tr j) 11 = nI (cc D) := by rw [T1.1, cc_app, c0, Nat.add_zero]
      have e12 : gI σ2 (tr j) 12 = nI (bts D) := by rw [T1.2.1, bts_app, b0, Nat.add_zero]
      rw [nI_clamp (show D.length < 2 ^ 31 by omega), nI_clamp (show k < 2 ^ 31 by omega), e11, gI_sI_n (Or.inl (by unfold tr; omega)), s8, gI_sI_n (Or.inl (by unfold tr; omega)), s7]
      have F3 : Fg (TPl (tr j)) σ (sI σ2 (tr j + 8) D.length (nI (cc D))) := F1.si ⟨by omega, by omega⟩
      have C3 : TCt (sI σ2 (tr j + 8) D.length (nI (cc D))) (tr j) (cc D) (bts D) := ⟨by rw [gI_sI_n (Or.inl (by omega))]; exact e11, by rw [gI_sI_n (Or.inl (by omega))]; exact e12, by rw [gI_sI_n (Or.inl (by omega))]; exact T1.2.2.2.1, hcD, w6.2⟩
      refine (c_addChs (C := cc D) (B := bts D) (s := s) ht ht' ap1 hls C3 (fun i hi => by rw [gI_sI_n (Or.inl (by have := ap1 11 (by omega); unfold tr; omega))]; exact s10 i hi) (by rw [gI_sI_n (Or.inl (by unfold tr; omega))]; exact TF1.1) s9 (by omega)).mono (fun σ5 hq => ?_)
      obtain ⟨F5, hq⟩ := hq
      have F5' : Fg (TPl (tr j)) σ σ5 := F3.tr (F5.mono (fun _ _ z => TL_TP z))
      have hbs : rBt (K, e, some s, [], 0) = bls s := by unfold rBt; show bls s + 0 = _; rw [Nat.add_zero]
      have hcs : rCc (K, e, some s, [], 0) = s.length := by unfold rCc; show s.length + 0 = _; rw [Nat.add_zero]
      refine ⟨vin g (by decide), vin g (by decide), _, rfl, F5'.si ⟨by omega, by omega⟩, ?_⟩
      rcases hq with ⟨hb, h14⟩ | ⟨hb, T5, S5, L5⟩
      · exact Or.inl ⟨adR_no (Or.inr (by rw [hbs]; exact hb)), by rw [gI_sI_n (Or.inl (by omega))]; exact h14, Or.inr ⟨rfl, g⟩⟩
      · refine Or.inr ⟨adR_yes g (by rw [hbs]; exact hb), rfl, g, ?_, WfR_push hW hO hfit (by show some s = none ↔ _; rw [hnN]) g (by rw [hbs]; exact hb)⟩
        have n8 : gI σ5 (tr j + 8) D.length = nI (cc D) := by rw [F5.1 _ _ (by unfold TLc; omega), gI_sI_s]
        have e9 : gI σ5 (tr j) 11 - gI σ5 (tr j + 8) D.length = nI s.length := by rw [T5.1, n8, fs_sub]
        rw [e9]
        have old : ∀ i kk, i ≤ 10 → i ≠ 0 → (i ≠ 8 ∨ kk ≠ D.length) → gI σ5 (tr j + i) kk = gI σ2 (tr j + i) kk := fun i kk h1 h2 h3 => by
          rw [F5.1 _ _ (by unfold TLc; omega), gI_sI_n]
          rcases h3 with h3 | h3
          · exact Or.inl (by omega)
          · exact Or.inr h3
        have oldL : ∀ i kk, i ≤ 10 → i ≠ 0 → gL σ5 (tr j + i) kk = gL σ2 (tr j + i) kk := fun i kk h1 h2 => F5.2.1 _ _ (by unfold TLc; omega)
        refine TrR_last T1 rfl (by rw [c0]; omega) ?_ ?_ ?_ ?_ (fun kk hkk => ⟨fun i h1 h2 => ?_, oldL 7 kk (by omega) (by omega)⟩) (fun i hi => ?_) ?_
        · rw [gI_sI_n (Or.inl (by omega)), hcs]; exact T5.1
        · rw [gI_sI_n (Or.inl (by omega)), hbs]; exact T5.2.1
        · rw [gI_sI_n (Or.inl (by omega)), F5.1 _ _ (by unfold TLc; omega), gI_sI_n (Or.inl (by omega))]
        · rw [gI_sI_n (Or.inl (by omega))]; exact T5.2.2.1
        · rw [gI_sI_n (Or.inr (by omega))]; exact old i kk h2 (by omega) (Or.inr (by omega))
        · rw [cc_app, c0, Nat.add_zero] at hi
          rw [gI_sI_n (Or.inl (by omega)), L5 i hi, gI_sI_n (Or.inl (by omega))]
        · obtain ⟨r1, r2, r3, r4, r5, r6, r7, r8, ⟨b, r11, r12, r13⟩⟩ := T1.2.2.2.2 D.length (by rw [lenR]; omega)
          have eT := dT_last (D := D) (r := (K, e, Option.map (fun _ => ([] : List Nat)) (some s), [], 0)) (r' := (K, e, some s, [], 0)) rfl
          rw [dK_n] at r1 r2
          rw [dX_n, lenR] at r2
          rw [dB_n] at r6
          rw [dX_n, cc_app, c0, Nat.add_zero] at r12
          unfold TrRow
          rw [dK_n, dX_n, dB_n, nam_n, eT, lenR]
          refine ⟨?_, ?_, ?_, ?_, ?_, ?_, gI_sI_s _ _ _ _, ⟨cc D, ?_, ?_, fun i hi => ?_⟩, ⟨b, ?_, ?_, fun i hi => ?_⟩⟩
          · rw [gI_sI_n (Or.inl (by omega)), old 1 _ (by omega) (by omega) (Or.inl (by omega))]; exact r1
          · rw [gI_sI_n (Or.inl (by omega)), old 2 _ (by omega) (by omega) (Or.inl (by omega))]; exact r2
          · rw [gI_sI_n (Or.inl (by omega)), old 3 _ (by omega) (by omega) (Or.inl (by omega))]; exact r3
          · rw [gI_sI_n (Or.inl (by omega)), old 4 _ (by omega) (by omega) (Or.inl (by omega))]; exact r4
          · rw [gI_sI_n (Or.inl (by omega)), old 6 _ (by omega) (by omega) (Or.inl (by omega))]; exact r5
          · exact (oldL 7 _ (by omega) (by omega)).trans r6
          · rw [gI_sI_n (Or.inl (by omega))]; exact n8
          · rw [cc_app, hcs]; exact Nat.le_refl _
          · rw [gI_sI_n (Or.inl (by omega))]; exact S5 i hi
          · rw [gI_sI_n (Or.inl (by omega)), old 10 _ (by omega) (by omega) (Or.inl (by omega))]; exact r11
          · have : b + 0 ≤ cc D := r12
            rw [cc_app]
            show b + 0 ≤ _
            omega
          · exact absurd hi (Nat.not_lt_zero i)
/-- letters when it is too much already -/
theorem c_addChs1 {E : En_t} {d t t' a n cc' : Nat} {σ : S_t} (ht : kindP t = 11) (ht' : kindP t' = 11) (hcc : gI σ t' 11 = nI cc') (hal : a + n ≤ cc') (hcc4 : cc' ≤ 4000) (h : gI σ t 14 = 1) : CV E (d + 1) m_Tr_addCharacters [pv E t, pv E t', .int (nI a), .int (nI n)] σ (fun σ' => Fg (TLc t) σ σ' ∧ gI σ' t 14 = 1) := by
  have m14 : TLc t t 14 := Or.inl ⟨rfl, Or.inr (Or.inr rfl)⟩
  have full : ∀ (m j : Nat) (τ : S_t), j + m = n → Fg (TLc t) σ τ → gI τ t 14 = 1 → JE E (d + 1) m_Tr_addCharacters 15 [(0, pv E t), (1, pv E t'), (4, .int (nI (a + n))), (5, .int (nI (a + j)))] [] τ (fun q σ' => q = none ∧ Fg (TLc t) σ σ' ∧ gI σ' t 14 = 1) := by
    intro m
    induction m with
    | zero =>
      intro j τ hj hF h14
      have : j = n := by omega
      subst this
      exact b_Tr_addCharacters_15 ht ht' ⟨fun _ => ⟨rfl, hF, h14⟩, fun q => absurd (Int32.le_refl _) q⟩
    | succ m ih =>
      intro j τ hj hF h14
      refine b_Tr_addCharacters_15 ht ht' ⟨fun q => absurd q (nI_ge (by omega) (by omega)), fun _ => ⟨vin (by omega) (by decide), (c_addCh1 ht (by rw [h14]; decide)).mono (fun σ1 hq => ?_)⟩⟩
      rw [hq, nI_1]
      exact ih (j + 1) _ (by omega) (hF.si m14) (gI_sI_s _ _ _ _)
  refine CE.of (L := [(0, pv E t), (1, pv E t'), (2, .int (nI a)), (3, .int (nI n))]) rfl (Nat.le_of_ble_eq_true rfl) rfl (b_Tr_addCharacters_0 ht ht' (fun r1 e1 => ?_))
  rw [nI_add, hcc, mn_n (by omega) (by omega), show min (a + n) cc' = a + n by omega] at e1
  rw [e1]
  exact full n 0 σ (by omega) Fg.rf h
/-- the row that the value at k of F becomes -/
def likR (F : List Row) (k e : Nat) (nm : Option (List Nat)) : Row := (dK F k, e, nm, dX F k, dB F k)
theorem c_addLike {E : En_t} {d j j' k e : Nat} {x : Int32} {D F : List Row} {σ : S_t} {nm : Option (List Nat)} (hj : j < 10) (hj' : j' < 10) (hne : j ≠ j') (hW : WfR D) (hT : TrR σ (tr j) D) (hWF : WfR F) (hTF : TrR σ (tr j') F) (hk : k < F.length) (hO : OwR D x e) (he : e ≤ 30) (he2 : 5 ≤ dK F k → e ≤ 29) (hnm1 : OwN D x → nm = some (nam F k)) (hnm2 : ¬ OwN D x → nm = none) : CI E (d + 3) m_Tr_addLike [pv E (tr j), pv E (tr j'), .int (nI k), .int x] σ (fun r σ' => Fg (TPl (tr j)) σ σ' ∧ AdP σ' (tr j) D (likR F k e nm) r) := by
  have ht := kind_tr j hj
  have ht' := kind_tr j' hj'
  obtain ⟨ap1, ap2⟩ := tr_apart hne
  have hcF := cc_bts F
  have hcD := cc_bts D
  have w6 := hW.2.2.2.2
  have wF6 := hWF.2.2.2.2
  have hok := hWF.2.1 k hk
  have k6 := hok.1
  have hlsX := hok.2.2.2.2.2.2.2
  have hnN : nm = none ↔ ¬ OwN D x := ⟨fun q z => (by have := hnm1 z; rw [q] at this; cases this), hnm2⟩
  have hlsN : Ltrs (nm.getD []) := by
    by_cases z : OwN D x
    · rw [hnm1 z]; exact hok.2.2.2.2.2.2.1
    · rw [hnm2 z]; exact Ltrs_nil
  have fit1 : RowFit (dK F k, e, nm, [], 0) := ⟨hok.1, he, he2, fun _ => rfl, fun _ => rfl, fun _ => ⟨Nat.zero_lt_succ _, by show 0 % 2 ^ 63 < 9218868437227405312; decide⟩, hlsN, Ltrs_nil⟩
  have fit : RowFit (likR F k e nm) := ⟨hok.1, he, he2, hok.2.2.2.1, hok.2.2.2.2.1, hok.2.2.2.2.2.1, hlsN, hlsX⟩
  have hb1 : rBt (dK F k, e, nm, [], 0) = bls (nm.getD []) := by unfold rBt; show bls (nm.getD []) + 0 = _; rw [Nat.add_zero]
  have hb2 : rBt (likR F k e nm) = bls (nm.getD []) + bls (dX F k) := rfl
  have hc1 : rCc (dK F k, e, nm, [], 0) = (nm.getD []).length := by unfold rCc; show (nm.getD []).length + 0 = _; rw [Nat.add_zero]
  have hc2 : rCc (likR F k e nm) = (nm.getD []).length + (dX F k).length := rfl
  have hd4 : nI (dK F k) = (4 : Int32) ↔ dK F k = 4 := nI_eq (b := 4) (by omega) (by decide)
  refine CE.of (L := [(0, pv E (tr j)), (1, pv E (tr j')), (2, .int (nI k)), (3, .int x)]) rfl (Nat.le_of_ble_eq_true rfl) rfl (b_Tr_addLike_0 ht ht' ⟨vin (by omega) (by decide), ?_⟩)
  rw [nI_clamp (show k < 2 ^ 31 by omega), (hTF.2.2.2.2 k hk).1]
  refine (c_addNamed hj hj' hne hW hT hWF hTF hk hO fit1 hnm1 hnm2).mono (fun r2 σ1 hq => ?_)
  obtain ⟨F1, hq⟩ := hq
  have TF1 : TrR σ1 (tr j') F := TrR_fr (fun p k a b => ⟨F1.1 p k (fun z => ap2 p k z ⟨a, b⟩), F1.2.1 p k (fun z => ap2 p k z ⟨a, b⟩)⟩) hTF
  obtain ⟨q1, q2, q3, q4, q5, q6, q7, q8, ⟨sb, q9, q10, q11⟩⟩ := TF1.2.2.2.2 k hk
  have P : ∀ {i kk : Nat}, i ≤ 11 → TPl (tr j) (tr j + i) kk := fun h => ⟨by omega, by omega⟩
  have apx : ∀ a b : Nat, a ≤ 11 → b ≤ 11 → tr j' + a ≠ tr j + b := fun a b h1 h2 => by unfold tr; omega
  have no : (adR (some D) (dK F k, e, nm, [], 0) = none) → adR (some D) (likR F k e nm) = none := fun h => by
    refine adR_no ?_
    rcases Classical.em (D.length = 500 ∨ 4000 < bts D + rBt (dK F k, e, nm, [], 0)) with z | z
    · rcases z with z | z
      · exact Or.inl z
      · exact Or.inr (by rw [hb1] at z; rw [hb2]; omega)
    · have : adR (some D) (dK F k, e, nm, [], 0) = some (D ++ [(dK F k, e, nm, [], 0)]) := if_neg z
      rw [this] at h; cases h
  rcases hq with ⟨hno, h14, hres⟩ | ⟨hyes, rfl, g, T1, hW1⟩
  · rcases hres with rfl | ⟨rfl, g⟩
    · exact ⟨fun q => absurd rfl q, fun _ => ⟨_, rfl, F1, Or.inl ⟨no hno, h14, Or.inl rfl⟩⟩⟩
    · rw [nI_clamp (show D.length < 2 ^ 31 by omega), gI_sL, q1, hd4]
      refine ⟨fun _ => ⟨vin (by omega) (by decide), vin g (by decide), vin (by omega) (by decide), fun z => ⟨_, rfl, F1.sl (P (by omega)), Or.inl ⟨no hno, h14, Or.inr ⟨rfl, g⟩⟩⟩, fun z => ⟨vin g (by decide), fun σ3 e3 => ⟨vin (by omega) (by decide), vin (by omega) (by decide), ?_⟩⟩⟩, fun q => absurd q.symm (nI_neg1 (by omega))⟩
      have F3 : Fg (TPl (tr j)) σ σ3 := by rw [e3]; exact (F1.sl (P (by omega))).si (P (by omega))
      have g3 : ∀ a kk, a ≤ 11 → gI σ3 (tr j' + a) kk = gI σ1 (tr j' + a) kk := fun a kk h => by rw [e3, gI_sI_n (Or.inl (apx a 10 h (by omega))), gI_sL]
      rw [g3 10 k (by omega), g3 2 k (by omega), q9, q2, if_pos z]
      have h143 : gI σ3 (tr j) 14 = 1 := by rw [e3, gI_sI_n (Or.inl (by omega)), gI_sL]; exact h14
      refine (c_addChs1 (cc' := cc F) ht ht' (by have := g3 0 11 (by omega); rw [Nat.add_zero] at this; rw [this]; exact TF1.1) q10 (by omega) h143).mono (fun σ4 hq4 => ⟨vin g (by decide), vin g (by decide), _, rfl, (F3.tr (hq4.1.mono (fun _ _ z => TL_TP z))).si (P (by omega)), Or.inl ⟨no hno, ?_, Or.inr ⟨rfl, g⟩⟩⟩)
      rw [gI_sI_n (Or.inl (by omega))]; exact hq4.2
  · rw [nI_clamp (show D.length < 2 ^ 31 by omega), gI_sL, q1, hd4, q6]
    have hr1 : bts D + bls (nm.getD []) ≤ 4000 := by
      have := hW1.2.2.2.2.2
      rw [bts_app, hb1] at this
      exact this
    have eT := dT_last (D := D) (r := (dK F k, e, nm, [], 0)) (r' := likR F k e nm) rfl
    obtain ⟨r1, r2, r3, r4, r5, r6, r7, ⟨na, r8, r9, r10⟩, ⟨tb', r11, r12, r13⟩⟩ := T1.2.2.2.2 D.length (by rw [lenR]; omega)
    rw [dK_n] at r1 r2
    rw [dX_n, lenR] at r2
    rw [nam_n] at r7 r9 r10
    rw [dX_n] at r12
    have hp0 : prt (dT (D ++ [(dK F k, e, nm, [], 0)])) (D.length + 1) D.length = 0 := by
      have := (push_shape (r := (dK F k, e, nm, [], 0)) hW.1 hO).2.2.2.2
      rw [lenR] at this; exact this
    refine ⟨fun _ => ⟨vin (by omega) (by decide), vin g (by decide), vin (by omega) (by decide), fun z => ⟨_, rfl, F1.sl (P (by omega)), Or.inr ?_⟩, fun z => ⟨vin g (by decide), fun σ3 e3 => ⟨vin (by omega) (by decide), vin (by omega) (by decide), ?_⟩⟩⟩, fun q => absurd q.symm (nI_neg1 (by omega))⟩
    · -- no string
      have hX : dX F k = [] := hok.2.2.2.1 z
      have hb2' : bts D + rBt (likR F k e nm) ≤ 4000 := by rw [hb2, hX]; show bts D + (bls (nm.getD []) + 0) ≤ 4000; omega
      refine ⟨adR_yes g hb2', rfl, g, ?_, WfR_push hW hO fit hnN g hb2'⟩
      refine TrR_last T1 rfl (by rw [hc1, hc2]; omega) ?_ ?_ rfl T1.2.2.2.1 (fun kk hkk => ⟨fun i _ _ => rfl, ?_⟩) (fun i _ => rfl) ?_
      · rw [gI_sL, T1.1, cc_app, hc1, hc2, hX]; rfl
      · rw [gI_sL, T1.2.1, bts_app, hb1, hb2, hX]; rfl
      · rw [gL_sL_n (Or.inr (by omega))]
      · unfold TrRow
        rw [dK_n, dX_n, dB_n, nam_n, eT, lenR]
        refine ⟨r1, ?_, r3, r4, r5, gL_sL_s _ _ _ _, r7, ⟨na, r8, ?_, r10⟩, ⟨tb', r11, ?_, ?_⟩⟩
        · show gI σ1 (tr j + 2) D.length = nI (if dK F k = 4 then (dX F k).length else _)
          rw [if_neg z, r2]
          show nI (if dK F k = 4 then 0 else _) = _
          rw [if_neg z]
        · rw [cc_app] at r9 ⊢; rw [hc1] at r9; rw [hc2]; show na + (nm.getD []).length ≤ _; have : na + (nm.getD []).length ≤ cc D + (nm.getD []).length := r9; omega
        · show tb' + (dX F k).length ≤ _
          rw [hX, cc_app, hc2, hX]
          rw [cc_app, hc1] at r12
          exact r12
        · show StrA _ tb' (dX F k)
          rw [hX]; exact fun i hi => absurd hi (Nat.not_lt_zero i)
    · -- a string
      have F3 : Fg (TPl (tr j)) σ σ3 := by rw [e3]; exact (F1.sl (P (by omega))).si (P (by omega))
      have g3 : ∀ a kk, a ≤ 11 → gI σ3 (tr j' + a) kk = gI σ1 (tr j' + a) kk := fun a kk h => by rw [e3, gI_sI_n (Or.inl (apx a 10 h (by omega))), gI_sL]
      have e11 : gI σ1 (tr j) 11 = nI (cc D + (nm.getD []).length) := by rw [T1.1, cc_app, hc1]
      have e12 : gI σ1 (tr j) 12 = nI (bts D + bls (nm.getD [])) := by rw [T1.2.1, bts_app, hb1]
      rw [gI_sL, e11] at e3
      have m3 : ∀ a kk, a ≠ 10 → gI σ3 (tr j + a) kk = gI σ1 (tr j + a) kk := fun a kk h => by rw [e3, gI_sI_n (Or.inl (by omega)), gI_sL]
      have m30 : ∀ kk, gI σ3 (tr j) kk = gI σ1 (tr j) kk := fun kk => by have := m3 0 kk (by omega); rw [Nat.add_zero] at this; exact this
      rw [g3 10 k (by omega), g3 2 k (by omega), q9, q2, if_pos z]
      have hnl := bls_len (nm.getD [])
      have C3 : TCt σ3 (tr j) (cc D + (nm.getD []).length) (bts D + bls (nm.getD [])) := ⟨by rw [m30]; exact e11, by rw [m30]; exact e12, by rw [m30]; exact T1.2.2.2.1, by omega, hr1⟩
      refine (c_addChs (cc' := cc F) ht ht' ap1 hlsX C3 (fun i hi => by rw [g3 11 _ (by omega)]; exact q11 i hi) (by have := g3 0 11 (by omega); rw [Nat.add_zero] at this; rw [this]; exact TF1.1) q10 (by omega)).mono (fun σ4 hq => ?_)
      obtain ⟨F4, hq⟩ := hq
      refine ⟨vin g (by decide), vin g (by decide), _, rfl, (F3.tr (F4.mono (fun _ _ z => TL_TP z))).si (P (by omega)), ?_⟩
      rcases hq with ⟨hb, h14⟩ | ⟨hb, T4, S4, L4⟩
      · exact Or.inl ⟨adR_no (Or.inr (by rw [hb2]; omega)), by rw [gI_sI_n (Or.inl (by omega))]; exact h14, Or.inr ⟨rfl, g⟩⟩
      · have hb2' : bts D + rBt (likR F k e nm) ≤ 4000 := by rw [hb2]; omega
        refine Or.inr ⟨adR_yes g hb2', rfl, g, ?_, WfR_push hW hO fit hnN g hb2'⟩
        have n10 : gI σ4 (tr j + 10) D.length = nI (cc D + (nm.getD []).length) := by rw [F4.1 _ _ (by unfold TLc; omega), e3, gI_sI_s]
        have e2 : gI σ4 (tr j) 11 - gI σ4 (tr j + 10) D.length = nI (dX F k).length := by rw [T4.1, n10, fs_sub]
        rw [e2]
        have old : ∀ i kk, i ≤ 10 → i ≠ 0 → (i ≠ 10 ∨ kk ≠ D.length) → gI σ4 (tr j + i) kk = gI σ1 (tr j + i) kk := fun i kk h1 h2 h3 => by
          rw [F4.1 _ _ (by unfold TLc; omega), e3, gI_sI_n, gI_sL]
          rcases h3 with h3 | h3
          · exact Or.inl (by omega)
          · exact Or.inr h3
        have oldL : ∀ kk, gL σ4 (tr j + 7) kk = if kk = D.length then lN (dB F k) else gL σ1 (tr j + 7) kk := fun kk => by
          rw [F4.2.1 _ _ (by unfold TLc; omega), e3, gL_sI, gL_sL]
          simp
        refine TrR_last T1 rfl (by rw [hc1, hc2]; omega) ?_ ?_ ?_ ?_ (fun kk hkk => ⟨fun i h1 h2 => ?_, ?_⟩) (fun i hi => ?_) ?_
        · rw [gI_sI_n (Or.inl (by omega)), T4.1, hc2]; congr 1; omega
        · rw [gI_sI_n (Or.inl (by omega)), T4.2.1, hb2]; congr 1; omega
        · rw [gI_sI_n (Or.inl (by omega)), F4.1 _ _ (by unfold TLc; omega)]; exact m30 13
        · rw [gI_sI_n (Or.inl (by omega))]; exact T4.2.2.1
        · rw [gI_sI_n (Or.inr (by omega))]; exact old i kk h2 (by omega) (Or.inr (by omega))
        · rw [gL_sI, oldL, if_neg (by omega)]
        · rw [cc_app, hc1] at hi
          rw [gI_sI_n (Or.inl (by omega)), L4 i hi]; exact m3 11 i (by omega)
        · unfold TrRow
          rw [dK_n, dX_n, dB_n, nam_n, eT, lenR]
          refine ⟨?_, ?_, ?_, ?_, ?_, ?_, ?_, ⟨na, ?_, ?_, fun i hi => ?_⟩, ⟨cc D + (nm.getD []).length, ?_, ?_, fun i hi => ?_⟩⟩
          · rw [gI_sI_n (Or.inl (by omega)), old 1 _ (by omega) (by omega) (Or.inl (by omega))]; exact r1
          · show gI _ (tr j + 2) D.length = nI (if dK F k = 4 then (dX F k).length else _)
            rw [gI_sI_s, if_pos z]
          · rw [gI_sI_n (Or.inl (by omega)), old 3 _ (by omega) (by omega) (Or.inl (by omega))]; exact r3
          · rw [gI_sI_n (Or.inl (by omega)), old 4 _ (by omega) (by omega) (Or.inl (by omega))]; exact r4
          · rw [gI_sI_n (Or.inl (by omega)), old 6 _ (by omega) (by omega) (Or.inl (by omega))]; exact r5
          · rw [gL_sI, oldL, if_pos rfl]; rfl
          · rw [gI_sI_n (Or.inl (by omega)), old 9 _ (by omega) (by omega) (Or.inl (by omega))]; exact r7
          · rw [gI_sI_n (Or.inl (by omega)), old 8 _ (by omega) (by omega) (Or.inl (by omega))]; exact r8
          · rw [cc_app] at r9 ⊢; rw [hc1] at r9; rw [hc2]; have : na + (nm.getD []).length ≤ cc D + (nm.getD []).length := r9; show na + (nm.getD []).length ≤ _; omega
          · have r9' : na + (nm.getD []).length ≤ cc D + (nm.getD []).length := by
              have := r9
              rw [cc_app, hc1] at this
              exact this
            have hi' : i < (nm.getD []).length := hi
            rw [gI_sI_n (Or.inl (by omega)), L4 _ (by omega), m3 11 _ (by omega)]
            exact r10 i hi
          · rw [gI_sI_n (Or.inl (by omega))]; exact n10
          · rw [cc_app, hc2]; show _ + (dX F k).length ≤ _; omega
          · rw [gI_sI_n (Or.inl (by omega))]; exact S4 i hi
