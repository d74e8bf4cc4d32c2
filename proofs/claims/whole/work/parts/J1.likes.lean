/-! a row like one of a tree of which only that row is known -/
def SrO (σ : S_t) (t k K : Nat) (nmF tx : List Nat) (B cc' : Nat) : Prop := k < 500 ∧ cc' ≤ 4000 ∧ gI σ t 11 = nI cc' ∧ gI σ (t + 1) k = nI K ∧ gL σ (t + 7) k = lN B ∧ gI σ (t + 9) k = nI nmF.length ∧ (∃ a, gI σ (t + 8) k = nI a ∧ a + nmF.length ≤ cc' ∧ StrA (gI σ (t + 11)) a nmF) ∧ (K = 4 → gI σ (t + 2) k = nI tx.length ∧ ∃ a, gI σ (t + 10) k = nI a ∧ a + tx.length ≤ cc' ∧ StrA (gI σ (t + 11)) a tx)
theorem SrO_fr {σ σ' : S_t} {t k K B cc' : Nat} {nmF tx : List Nat} (h : ∀ p k, t ≤ p → p ≤ t + 11 → gI σ' p k = gI σ p k ∧ gL σ' p k = gL σ p k) (hS : SrO σ t k K nmF tx B cc') : SrO σ' t k K nmF tx B cc' := by
  obtain ⟨h1, h2, h3, h4, h5, h6, ⟨a, h7, h8, h9⟩, h10⟩ := hS
  have c : ∀ j, j ≤ 11 → ∀ k, gI σ' (t + j) k = gI σ (t + j) k := fun j hj k => (h _ k (by omega) (by omega)).1
  refine ⟨h1, h2, by rw [(h t 11 (by omega) (by omega)).1]; exact h3, by rw [c 1 (by omega)]; exact h4, by rw [(h (t + 7) k (by omega) (by omega)).2]; exact h5, by rw [c 9 (by omega)]; exact h6, ⟨a, by rw [c 8 (by omega)]; exact h7, h8, StrA_congr (fun i _ => c 11 (by omega) _) h9⟩, fun z => ?_⟩
  obtain ⟨g1, b, g2, g3, g4⟩ := h10 z
  exact ⟨by rw [c 2 (by omega)]; exact g1, b, by rw [c 10 (by omega)]; exact g2, g3, StrA_congr (fun i _ => c 11 (by omega) _) g4⟩
theorem c_addNamedS {E : En_t} {d j j' k K K' e B' cc' : Nat} {x : Int32} {D : List Row} {nmF tx' : List Nat} {σ : S_t} {nm : Option (List Nat)} (hj : j < 10) (hj' : j' < 10) (hne : j ≠ j') (hW : WfR D) (hT : TrR σ (tr j) D) (hTF : SrO σ (tr j') k K' nmF tx' B' cc') (hls : Ltrs nmF) (hO : OwR D x e) (hfit : RowFit (K, e, nm, [], 0)) (hnm1 : OwN D x → nm = some nmF) (hnm2 : ¬ OwN D x → nm = none) : CI E (d + 2) m_Tr_addNamed [pv E (tr j), .int (nI K), pv E (tr j'), .int (nI k), .int x] σ (fun r σ' => Fg (TPl (tr j)) σ σ' ∧ AdP σ' (tr j) D (K, e, nm, [], 0) r) := by
  have ht := kind_tr j hj
  have ht' := kind_tr j' hj'
  obtain ⟨ap1, ap2⟩ := tr_apart hne
  have hcD := cc_bts D
  have w6 := hW.2.2.2.2
  have hk5 := hTF.1
  have hc4 := hTF.2.1
  have hn0 : (nm.map (fun _ => ([] : List Nat))).getD [] = [] := by cases nm <;> rfl
  have hnone : nm.map (fun _ => ([] : List Nat)) = none ↔ nm = none := by cases nm <;> simp
  have hnN : nm = none ↔ ¬ OwN D x := ⟨fun q z => (by have := hnm1 z; rw [q] at this; cases this), hnm2⟩
  have f0 : RowFit (K, e, nm.map (fun _ => ([] : List Nat)), [], 0) := by
    obtain ⟨a, b, c, dd, ee, ff, gg, hh⟩ := hfit
    exact ⟨a, b, c, dd, ee, ff, by show Ltrs ((nm.map (fun _ => ([] : List Nat))).getD []); rw [hn0]; exact Ltrs_nil, hh⟩
  have b0 : rBt (K, e, nm.map (fun _ => ([] : List Nat)), [], 0) = 0 := by unfold rBt; show bls ((nm.map (fun _ => ([] : List Nat))).getD []) + bls [] = 0; rw [hn0]; rfl
  have c0 : rCc (K, e, nm.map (fun _ => ([] : List Nat)), [], 0) = 0 := by unfold rCc; show ((nm.map (fun _ => ([] : List Nat))).getD []).length + 0 = 0; rw [hn0]; rfl
  refine CE.of (L := [(0, pv E (tr j)), (1, .int (nI K)), (2, pv E (tr j')), (3, .int (nI k)), (4, .int x)]) rfl (Nat.le_of_ble_eq_true rfl) rfl (b_Tr_addNamed_0 ht ht' ((c_add (d := d + 1) (nm := nm.map (fun _ => ([] : List Nat))) hj hT hW.1 w6.1 hO hn0).mono (fun r2 σ1 hq => ?_)))
  obtain ⟨F1, hq⟩ := hq
  rcases hq with ⟨g, rfl, h14⟩ | ⟨g, rfl, T1⟩
  · exact ⟨fun _ => ⟨_, rfl, F1, Or.inl ⟨adR_no (Or.inl g), h14, Or.inl rfl⟩⟩, fun q => absurd rfl q⟩
  · have hW1 : WfR (D ++ [(K, e, nm.map (fun _ => ([] : List Nat)), [], 0)]) := WfR_push hW hO f0 (by show nm.map (fun _ => ([] : List Nat)) = none ↔ _; rw [hnone, hnN]) g (by rw [b0]; omega)
    refine ⟨fun q => absurd q.symm (nI_neg1 (by omega)), fun _ => (c_isNamed ht T1 hW1 (by rw [lenR]; omega)).mono (fun r4 σ2 hq => ?_)⟩
    obtain ⟨rfl, hq⟩ := hq
    have eN : dN (D ++ [(K, e, nm.map (fun _ => ([] : List Nat)), [], 0)]) D.length = nm.map (fun _ => ([] : List Nat)) := by unfold dN; rw [dR_eq]
    rw [eN] at hq
    rcases hq with ⟨rfl, hz⟩ | ⟨rfl, hz⟩
    · have hnn := hnone.mp hz
      subst hnn
      have c0' : rBt (K, e, none, [], 0) = 0 := rfl
      exact ⟨fun _ => ⟨_, rfl, F1, Or.inr ⟨adR_yes g (by rw [c0']; omega), rfl, g, T1, hW1⟩⟩, fun q => absurd rfl q⟩
    · obtain ⟨s, rfl⟩ : ∃ s, nm = some s := by
        cases nm with
        | none => exact absurd rfl hz
        | some s => exact ⟨s, rfl⟩
      have hOw : OwN D x := Classical.not_not.mp (fun z => by have := hnm2 z; cases this)
      have hsF : s = nmF := by have := hnm1 hOw; cases this; rfl
      have TF1 : SrO σ2 (tr j') k K' nmF tx' B' cc' := SrO_fr (fun p k a b => ⟨F1.1 p k (fun z => ap2 p k z ⟨a, b⟩), F1.2.1 p k (fun z => ap2 p k z ⟨a, b⟩)⟩) hTF
      obtain ⟨sa, s8, s9, s10⟩ := TF1.2.2.2.2.2.2.1
      have s7 := TF1.2.2.2.2.2.1
      rw [← hsF] at s7 s9 s10
      rw [← hsF] at hls
      refine ⟨fun q => absurd q (by decide), fun _ => ⟨vin g (by decide), vin (by omega) (by decide), vin (by omega) (by decide), ?_⟩⟩
      have e11 : gI σ2 (tr j) 11 = nI (cc D) := by rw [T1.1, cc_app, c0, Nat.add_zero]
      have e12 : gI σ2 (tr j) 12 = nI (bts D) := by rw [T1.2.1, bts_app, b0, Nat.add_zero]
      rw [nI_clamp (show D.length < 2 ^ 31 by omega), nI_clamp (show k < 2 ^ 31 by omega), e11, gI_sI_n (Or.inl (by unfold tr; omega)), s8, gI_sI_n (Or.inl (by unfold tr; omega)), s7]
      have F3 : Fg (TPl (tr j)) σ (sI σ2 (tr j + 8) D.length (nI (cc D))) := F1.si ⟨by omega, by omega⟩
      have C3 : TCt (sI σ2 (tr j + 8) D.length (nI (cc D))) (tr j) (cc D) (bts D) := ⟨by rw [gI_sI_n (Or.inl (by omega))]; exact e11, by rw [gI_sI_n (Or.inl (by omega))]; exact e12, by rw [gI_sI_n (Or.inl (by omega))]; exact T1.2.2.2.1, hcD, w6.2⟩
      refine (c_addChs (C := cc D) (B := bts D) (s := s) ht ht' ap1 hls C3 (fun i hi => by rw [gI_sI_n (Or.inl (by have := ap1 11 (by omega); unfold tr; omega))]; exact s10 i hi) (by rw [gI_sI_n (Or.inl (by unfold tr; omega))]; exact TF1.2.2.1) s9 (by omega)).mono (fun σ5 hq => ?_)
      obtain ⟨F5, hq⟩ := hq
      have F5' : Fg (TPl (tr j)) σ σ5 := F3.tr (F5.mono (fun _ _ z => TL_TP z))
      have hbs : rBt (K, e, some s, [], 0) = bls s := by unfold rBt; show bls s + 0 = _; rw [Nat.add_zero]
      have hcs : rCc (K, e, some s, [], 0) = s.length := by unfold rCc; show s.length + 0 = _; rw [Nat.add_zero]
      refine ⟨vin g (by decide), vin g (by decide), _, rfl, F5'.si ⟨by omega, by omega⟩, ?_⟩
      rcases hq with ⟨hb, h14⟩ | ⟨hb, T5, S5, L5⟩
      · exact Or.inl ⟨adR_no (Or.inr (by rw [hbs]; exact hb)), by rw [gI_sI_n (Or.inl (by omega))]; exact h14, Or.inr ⟨rfl, g⟩⟩
      · refine Or.inr ⟨adR_yes g (by rw [hbs]; exact hb), rfl, g, ?_, WfR_push hW hO hfit (by show some s = none ↔ _; rw [hnN]) g (by rw [hbs]; exact hb)⟩
        have n8 : gI σ5 (tr j + 8) D.length = nI (cc D) := by rw [F5.1 _ _ (by unfold TLc; omega), gI_sI_s]
        have e9 : gI σ5 (tr j) 11 - gI σ5 (tr j + 8) D.length = nI s.length := by rw [T5.1, n8, fs_sub]
        rw [e9]
        have old : ∀ i kk, i ≤ 10 → i ≠ 0 → (i ≠ 8 ∨ kk ≠ D.length) → gI σ5 (tr j + i) kk = gI σ2 (tr j + i) kk := fun i kk h1 h2 h3 => by
          rw [F5.1 _ _ (by unfold TLc; omega), gI_sI_n]
          rcases h3 with h3 | h3
          · exact Or.inl (by omega)
          · exact Or.inr h3
        have oldL : ∀ i kk, i ≤ 10 → i ≠ 0 → gL σ5 (tr j + i) kk = gL σ2 (tr j + i) kk := fun i kk h1 h2 => F5.2.1 _ _ (by unfold TLc; omega)
        refine TrR_last T1 rfl (by rw [c0]; omega) ?_ ?_ ?_ ?_ (fun kk hkk => ⟨fun i h1 h2 => ?_, oldL 7 kk (by omega) (by omega)⟩) (fun i hi => ?_) ?_
        · rw [gI_sI_n (Or.inl (by omega)), hcs]; exact T5.1
        · rw [gI_sI_n (Or.inl (by omega)), hbs]; exact T5.2.1
        · rw [gI_sI_n (Or.inl (by omega)), F5.1 _ _ (by unfold TLc; omega), gI_sI_n (Or.inl (by omega))]
        · rw [gI_sI_n (Or.inl (by omega))]; exact T5.2.2.1
        · rw [gI_sI_n (Or.inr (by omega))]; exact old i kk h2 (by omega) (Or.inr (by omega))
        · rw [cc_app, c0, Nat.add_zero] at hi
          rw [gI_sI_n (Or.inl (by omega)), L5 i hi, gI_sI_n (Or.inl (by omega))]
        · obtain ⟨r1, r2, r3, r4, r5, r6, r7, r8, ⟨b, r11, r12, r13⟩⟩ := T1.2.2.2.2 D.length (by rw [lenR]; omega)
          have eT := dT_last (D := D) (r := (K, e, Option.map (fun _ => ([] : List Nat)) (some s), [], 0)) (r' := (K, e, some s, [], 0)) rfl
          rw [dK_n] at r1 r2
          rw [dX_n, lenR] at r2
          rw [dB_n] at r6
          rw [dX_n, cc_app, c0, Nat.add_zero] at r12
          unfold TrRow
          rw [dK_n, dX_n, dB_n, nam_n, eT, lenR]
          refine ⟨?_, ?_, ?_, ?_, ?_, ?_, gI_sI_s _ _ _ _, ⟨cc D, ?_, ?_, fun i hi => ?_⟩, ⟨b, ?_, ?_, fun i hi => ?_⟩⟩
          · rw [gI_sI_n (Or.inl (by omega)), old 1 _ (by omega) (by omega) (Or.inl (by omega))]; exact r1
          · rw [gI_sI_n (Or.inl (by omega)), old 2 _ (by omega) (by omega) (Or.inl (by omega))]; exact r2
          · rw [gI_sI_n (Or.inl (by omega)), old 3 _ (by omega) (by omega) (Or.inl (by omega))]; exact r3
          · rw [gI_sI_n (Or.inl (by omega)), old 4 _ (by omega) (by omega) (Or.inl (by omega))]; exact r4
          · rw [gI_sI_n (Or.inl (by omega)), old 6 _ (by omega) (by omega) (Or.inl (by omega))]; exact r5
          · exact (oldL 7 _ (by omega) (by omega)).trans r6
          · rw [gI_sI_n (Or.inl (by omega))]; exact n8
          · rw [cc_app, hcs]; exact Nat.le_refl _
          · rw [gI_sI_n (Or.inl (by omega))]; exact S5 i hi
          · rw [gI_sI_n (Or.inl (by omega)), old 10 _ (by omega) (by omega) (Or.inl (by omega))]; exact r11
          · have : b + 0 ≤ cc D := r12
            rw [cc_app]
            show b + 0 ≤ _
            omega
          · exact absurd hi (Nat.not_lt_zero i)
theorem c_addLikeS {E : En_t} {d j j' k K e B cc' : Nat} {x : Int32} {D : List Row} {nmF tx : List Nat} {σ : S_t} {nm : Option (List Nat)} (hj : j < 10) (hj' : j' < 10) (hne : j ≠ j') (hW : WfR D) (hT : TrR σ (tr j) D) (hTF : SrO σ (tr j') k K nmF tx B cc') (hls : Ltrs nmF) (hO : OwR D x e) (fit : RowFit (K, e, nm, tx, B)) (hnm1 : OwN D x → nm = some nmF) (hnm2 : ¬ OwN D x → nm = none) : CI E (d + 3) m_Tr_addLike [pv E (tr j), pv E (tr j'), .int (nI k), .int x] σ (fun r σ' => Fg (TPl (tr j)) σ σ' ∧ AdP σ' (tr j) D ((K, e, nm, tx, B)) r) := by
  have ht := kind_tr j hj
  have ht' := kind_tr j' hj'
  obtain ⟨ap1, ap2⟩ := tr_apart hne
  have hcD := cc_bts D
  have w6 := hW.2.2.2.2
  have hk5 := hTF.1
  have hc4 := hTF.2.1
  have k6 : K ≤ 6 := fit.1
  have he : e ≤ 30 := fit.2.1
  have he2 : 5 ≤ K → e ≤ 29 := fit.2.2.1
  have hlsX : Ltrs tx := fit.2.2.2.2.2.2.2
  have hnN : nm = none ↔ ¬ OwN D x := ⟨fun q z => (by have := hnm1 z; rw [q] at this; cases this), hnm2⟩
  have hlsN : Ltrs (nm.getD []) := by
    by_cases z : OwN D x
    · rw [hnm1 z]; exact hls
    · rw [hnm2 z]; exact Ltrs_nil
  have fit1 : RowFit (K, e, nm, [], 0) := ⟨k6, he, he2, fun _ => rfl, fun _ => rfl, fun _ => ⟨Nat.zero_lt_succ _, by show 0 % 2 ^ 63 < 9218868437227405312; decide⟩, hlsN, Ltrs_nil⟩
  have hb1 : rBt (K, e, nm, [], 0) = bls (nm.getD []) := by unfold rBt; show bls (nm.getD []) + 0 = _; rw [Nat.add_zero]
  have hb2 : rBt ((K, e, nm, tx, B)) = bls (nm.getD []) + bls (tx) := rfl
  have hc1 : rCc (K, e, nm, [], 0) = (nm.getD []).length := by unfold rCc; show (nm.getD []).length + 0 = _; rw [Nat.add_zero]
  have hc2 : rCc ((K, e, nm, tx, B)) = (nm.getD []).length + (tx).length := rfl
  have hd4 : nI (K) = (4 : Int32) ↔ K = 4 := nI_eq (b := 4) (by omega) (by decide)
  refine CE.of (L := [(0, pv E (tr j)), (1, pv E (tr j')), (2, .int (nI k)), (3, .int x)]) rfl (Nat.le_of_ble_eq_true rfl) rfl (b_Tr_addLike_0 ht ht' ⟨vin (by omega) (by decide), ?_⟩)
  rw [nI_clamp (show k < 2 ^ 31 by omega), hTF.2.2.2.1]
  refine (c_addNamedS hj hj' hne hW hT hTF hls hO fit1 hnm1 hnm2).mono (fun r2 σ1 hq => ?_)
  obtain ⟨F1, hq⟩ := hq
  have TF1 : SrO σ1 (tr j') k K nmF tx B cc' := SrO_fr (fun p k a b => ⟨F1.1 p k (fun z => ap2 p k z ⟨a, b⟩), F1.2.1 p k (fun z => ap2 p k z ⟨a, b⟩)⟩) hTF
  have q1 := TF1.2.2.2.1
  have q6 := TF1.2.2.2.2.1
  have P : ∀ {i kk : Nat}, i ≤ 11 → TPl (tr j) (tr j + i) kk := fun h => ⟨by omega, by omega⟩
  have apx : ∀ a b : Nat, a ≤ 11 → b ≤ 11 → tr j' + a ≠ tr j + b := fun a b h1 h2 => by unfold tr; omega
  have no : (adR (some D) (K, e, nm, [], 0) = none) → adR (some D) ((K, e, nm, tx, B)) = none := fun h => by
    refine adR_no ?_
    rcases Classical.em (D.length = 500 ∨ 4000 < bts D + rBt (K, e, nm, [], 0)) with z | z
    · rcases z with z | z
      · exact Or.inl z
      · exact Or.inr (by rw [hb1] at z; rw [hb2]; omega)
    · have : adR (some D) (K, e, nm, [], 0) = some (D ++ [(K, e, nm, [], 0)]) := if_neg z
      rw [this] at h; cases h
  rcases hq with ⟨hno, h14, hres⟩ | ⟨hyes, rfl, g, T1, hW1⟩
  · rcases hres with rfl | ⟨rfl, g⟩
    · exact ⟨fun q => absurd rfl q, fun _ => ⟨_, rfl, F1, Or.inl ⟨no hno, h14, Or.inl rfl⟩⟩⟩
    · rw [nI_clamp (show D.length < 2 ^ 31 by omega), gI_sL, q1, hd4]
      refine ⟨fun _ => ⟨vin (by omega) (by decide), vin g (by decide), vin (by omega) (by decide), fun z => ⟨_, rfl, F1.sl (P (by omega)), Or.inl ⟨no hno, h14, Or.inr ⟨rfl, g⟩⟩⟩, fun z => ⟨vin g (by decide), fun σ3 e3 => ⟨vin (by omega) (by decide), vin (by omega) (by decide), ?_⟩⟩⟩, fun q => absurd q.symm (nI_neg1 (by omega))⟩
      obtain ⟨q2, sb, q9, q10, q11⟩ := TF1.2.2.2.2.2.2.2 z
      have F3 : Fg (TPl (tr j)) σ σ3 := by rw [e3]; exact (F1.sl (P (by omega))).si (P (by omega))
      have g3 : ∀ a kk, a ≤ 11 → gI σ3 (tr j' + a) kk = gI σ1 (tr j' + a) kk := fun a kk h => by rw [e3, gI_sI_n (Or.inl (apx a 10 h (by omega))), gI_sL]
      rw [g3 10 k (by omega), g3 2 k (by omega), q9, q2]
      have h143 : gI σ3 (tr j) 14 = 1 := by rw [e3, gI_sI_n (Or.inl (by omega)), gI_sL]; exact h14
      refine (c_addChs1 (cc' := cc') ht ht' (by have := g3 0 11 (by omega); rw [Nat.add_zero] at this; rw [this]; exact TF1.2.2.1) q10 (by omega) h143).mono (fun σ4 hq4 => ⟨vin g (by decide), vin g (by decide), _, rfl, (F3.tr (hq4.1.mono (fun _ _ z => TL_TP z))).si (P (by omega)), Or.inl ⟨no hno, ?_, Or.inr ⟨rfl, g⟩⟩⟩)
      rw [gI_sI_n (Or.inl (by omega))]; exact hq4.2
  · rw [nI_clamp (show D.length < 2 ^ 31 by omega), gI_sL, q1, hd4, q6]
    have hr1 : bts D + bls (nm.getD []) ≤ 4000 := by
      have := hW1.2.2.2.2.2
      rw [bts_app, hb1] at this
      exact this
    have eT := dT_last (D := D) (r := (K, e, nm, [], 0)) (r' := (K, e, nm, tx, B)) rfl
    obtain ⟨r1, r2, r3, r4, r5, r6, r7, ⟨na, r8, r9, r10⟩, ⟨tb', r11, r12, r13⟩⟩ := T1.2.2.2.2 D.length (by rw [lenR]; omega)
    rw [dK_n] at r1 r2
    rw [dX_n, lenR] at r2
    rw [nam_n] at r7 r9 r10
    rw [dX_n] at r12
    have hp0 : prt (dT (D ++ [(K, e, nm, [], 0)])) (D.length + 1) D.length = 0 := by
      have := (push_shape (r := (K, e, nm, [], 0)) hW.1 hO).2.2.2.2
      rw [lenR] at this; exact this
    refine ⟨fun _ => ⟨vin (by omega) (by decide), vin g (by decide), vin (by omega) (by decide), fun z => ⟨_, rfl, F1.sl (P (by omega)), Or.inr ?_⟩, fun z => ⟨vin g (by decide), fun σ3 e3 => ⟨vin (by omega) (by decide), vin (by omega) (by decide), ?_⟩⟩⟩, fun q => absurd q.symm (nI_neg1 (by omega))⟩
    · -- no string
      have hX : tx = [] := fit.2.2.2.1 z
      have hb2' : bts D + rBt ((K, e, nm, tx, B)) ≤ 4000 := by rw [hb2, hX]; show bts D + (bls (nm.getD []) + 0) ≤ 4000; omega
      refine ⟨adR_yes g hb2', rfl, g, ?_, WfR_push hW hO fit hnN g hb2'⟩
      refine TrR_last T1 rfl (by rw [hc1, hc2]; omega) ?_ ?_ rfl T1.2.2.2.1 (fun kk hkk => ⟨fun i _ _ => rfl, ?_⟩) (fun i _ => rfl) ?_
      · rw [gI_sL, T1.1, cc_app, hc1, hc2, hX]; rfl
      · rw [gI_sL, T1.2.1, bts_app, hb1, hb2, hX]; rfl
      · rw [gL_sL_n (Or.inr (by omega))]
      · unfold TrRow
        rw [dK_n, dX_n, dB_n, nam_n, eT, lenR]
        refine ⟨r1, ?_, r3, r4, r5, gL_sL_s _ _ _ _, r7, ⟨na, r8, ?_, r10⟩, ⟨tb', r11, ?_, ?_⟩⟩
        · show gI σ1 (tr j + 2) D.length = nI (if K = 4 then (tx).length else _)
          rw [if_neg z, r2]
          show nI (if K = 4 then 0 else _) = _
          rw [if_neg z]
        · rw [cc_app] at r9 ⊢; rw [hc1] at r9; rw [hc2]; show na + (nm.getD []).length ≤ _; have : na + (nm.getD []).length ≤ cc D + (nm.getD []).length := r9; omega
        · show tb' + (tx).length ≤ _
          rw [cc_app, hc2, hX]
          rw [cc_app, hc1] at r12
          exact r12
        · show StrA _ tb' (tx)
          rw [hX]; exact fun i hi => absurd hi (Nat.not_lt_zero i)
    · -- a string
      obtain ⟨q2, sb, q9, q10, q11⟩ := TF1.2.2.2.2.2.2.2 z
      have F3 : Fg (TPl (tr j)) σ σ3 := by rw [e3]; exact (F1.sl (P (by omega))).si (P (by omega))
      have g3 : ∀ a kk, a ≤ 11 → gI σ3 (tr j' + a) kk = gI σ1 (tr j' + a) kk := fun a kk h => by rw [e3, gI_sI_n (Or.inl (apx a 10 h (by omega))), gI_sL]
      have e11 : gI σ1 (tr j) 11 = nI (cc D + (nm.getD []).length) := by rw [T1.1, cc_app, hc1]
      have e12 : gI σ1 (tr j) 12 = nI (bts D + bls (nm.getD [])) := by rw [T1.2.1, bts_app, hb1]
      rw [gI_sL, e11] at e3
      have m3 : ∀ a kk, a ≠ 10 → gI σ3 (tr j + a) kk = gI σ1 (tr j + a) kk := fun a kk h => by rw [e3, gI_sI_n (Or.inl (by omega)), gI_sL]
      have m30 : ∀ kk, gI σ3 (tr j) kk = gI σ1 (tr j) kk := fun kk => by have := m3 0 kk (by omega); rw [Nat.add_zero] at this; exact this
      rw [g3 10 k (by omega), g3 2 k (by omega), q9, q2]
      have hnl := bls_len (nm.getD [])
      have C3 : TCt σ3 (tr j) (cc D + (nm.getD []).length) (bts D + bls (nm.getD [])) := ⟨by rw [m30]; exact e11, by rw [m30]; exact e12, by rw [m30]; exact T1.2.2.2.1, by omega, hr1⟩
      refine (c_addChs (cc' := cc') ht ht' ap1 hlsX C3 (fun i hi => by rw [g3 11 _ (by omega)]; exact q11 i hi) (by have := g3 0 11 (by omega); rw [Nat.add_zero] at this; rw [this]; exact TF1.2.2.1) q10 (by omega)).mono (fun σ4 hq => ?_)
      obtain ⟨F4, hq⟩ := hq
      refine ⟨vin g (by decide), vin g (by decide), _, rfl, (F3.tr (F4.mono (fun _ _ z => TL_TP z))).si (P (by omega)), ?_⟩
      rcases hq with ⟨hb, h14⟩ | ⟨hb, T4, S4, L4⟩
      · exact Or.inl ⟨adR_no (Or.inr (by rw [hb2]; omega)), by rw [gI_sI_n (Or.inl (by omega))]; exact h14, Or.inr ⟨rfl, g⟩⟩
      · have hb2' : bts D + rBt ((K, e, nm, tx, B)) ≤ 4000 := by rw [hb2]; omega
        refine Or.inr ⟨adR_yes g hb2', rfl, g, ?_, WfR_push hW hO fit hnN g hb2'⟩
        have n10 : gI σ4 (tr j + 10) D.length = nI (cc D + (nm.getD []).length) := by rw [F4.1 _ _ (by unfold TLc; omega), e3, gI_sI_s]
        have e2 : gI σ4 (tr j) 11 - gI σ4 (tr j + 10) D.length = nI (tx).length := by rw [T4.1, n10, fs_sub]
        rw [e2]
        have old : ∀ i kk, i ≤ 10 → i ≠ 0 → (i ≠ 10 ∨ kk ≠ D.length) → gI σ4 (tr j + i) kk = gI σ1 (tr j + i) kk := fun i kk h1 h2 h3 => by
          rw [F4.1 _ _ (by unfold TLc; omega), e3, gI_sI_n, gI_sL]
          rcases h3 with h3 | h3
          · exact Or.inl (by omega)
          · exact Or.inr h3
        have oldL : ∀ kk, gL σ4 (tr j + 7) kk = if kk = D.length then lN (B) else gL σ1 (tr j + 7) kk := fun kk => by
          rw [F4.2.1 _ _ (by unfold TLc; omega), e3, gL_sI, gL_sL]
          simp
        refine TrR_last T1 rfl (by rw [hc1, hc2]; omega) ?_ ?_ ?_ ?_ (fun kk hkk => ⟨fun i h1 h2 => ?_, ?_⟩) (fun i hi => ?_) ?_
        · rw [gI_sI_n (Or.inl (by omega)), T4.1, hc2]; congr 1; omega
        · rw [gI_sI_n (Or.inl (by omega)), T4.2.1, hb2]; congr 1; omega
        · rw [gI_sI_n (Or.inl (by omega)), F4.1 _ _ (by unfold TLc; omega)]; exact m30 13
        · rw [gI_sI_n (Or.inl (by omega))]; exact T4.2.2.1
        · rw [gI_sI_n (Or.inr (by omega))]; exact old i kk h2 (by omega) (Or.inr (by omega))
        · rw [gL_sI, oldL, if_neg (by omega)]
        · rw [cc_app, hc1] at hi
          rw [gI_sI_n (Or.inl (by omega)), L4 i hi]; exact m3 11 i (by omega)
        · unfold TrRow
          rw [dK_n, dX_n, dB_n, nam_n, eT, lenR]
          refine ⟨?_, ?_, ?_, ?_, ?_, ?_, ?_, ⟨na, ?_, ?_, fun i hi => ?_⟩, ⟨cc D + (nm.getD []).length, ?_, ?_, fun i hi => ?_⟩⟩
          · rw [gI_sI_n (Or.inl (by omega)), old 1 _ (by omega) (by omega) (Or.inl (by omega))]; exact r1
          · show gI _ (tr j + 2) D.length = nI (if K = 4 then (tx).length else _)
            rw [gI_sI_s, if_pos z]
          · rw [gI_sI_n (Or.inl (by omega)), old 3 _ (by omega) (by omega) (Or.inl (by omega))]; exact r3
          · rw [gI_sI_n (Or.inl (by omega)), old 4 _ (by omega) (by omega) (Or.inl (by omega))]; exact r4
          · rw [gI_sI_n (Or.inl (by omega)), old 6 _ (by omega) (by omega) (Or.inl (by omega))]; exact r5
          · rw [gL_sI, oldL, if_pos rfl]
          · rw [gI_sI_n (Or.inl (by omega)), old 9 _ (by omega) (by omega) (Or.inl (by omega))]; exact r7
          · rw [gI_sI_n (Or.inl (by omega)), old 8 _ (by omega) (by omega) (Or.inl (by omega))]; exact r8
          · rw [cc_app] at r9 ⊢; rw [hc1] at r9; rw [hc2]; have : na + (nm.getD []).length ≤ cc D + (nm.getD []).length := r9; show na + (nm.getD []).length ≤ _; omega
          · have r9' : na + (nm.getD []).length ≤ cc D + (nm.getD []).length := by
              have := r9
              rw [cc_app, hc1] at this
              exact this
            have hi' : i < (nm.getD []).length := hi
            rw [gI_sI_n (Or.inl (by omega)), L4 _ (by omega), m3 11 _ (by omega)]
            exact r10 i hi
          · rw [gI_sI_n (Or.inl (by omega))]; exact n10
          · rw [cc_app, hc2]; show _ + (tx).length ≤ _; omega
          · rw [gI_sI_n (Or.inl (by omega))]; exact S4 i hi
