/-! one row, as makeRead makes it -/
def MKr : Nat → Nat → Prop := fun p k => MMk p k ∨ (3 ≤ p ∧ p ≤ 7) ∨ (p = 0 ∧ (k = 6 ∨ k = 7 ∨ (13 ≤ k ∧ k ≤ 18))) ∨ p = 42
theorem MV_r {p k : Nat} (h : MV p k) : (3 ≤ p ∧ p ≤ 7) ∨ (p = 0 ∧ (k = 6 ∨ k = 7 ∨ (13 ≤ k ∧ k ≤ 18))) := by unfold MV MS MK MR MT MP MN at h; omega
theorem mk_row {E : En_t} {d u : Nat} {R : Nds} {L : List Nat} {D : List Row} {x : Int32} {σ : S_t} {Q : Option Value → S_t → Prop} (hO : RsO R L) (hu : u < R.1) (hL : bls L ≤ 2000) (hB : MoB σ (some D)) (hR : RlM σ L) (hrow : MRw σ R u) (hOw : OwR D x (rT R u)) (hN : OwN D x ↔ isO R (rU R u) = true) (hn : D.length < 500) (hb : bts D + rBt (rwO R u) ≤ 2000) (hfit : RowFit (rwO R u)) (K : ∀ τ', Fg MKr σ τ' → MoB τ' (some (D ++ [rwO R u])) → JE E (d + 7) m_Mo_makeRead 269 [(0, pv E 0), (1, .int (nI u)), (2, .int (nI (rT R u)))] [] τ' Q) : JE E (d + 7) m_Mo_makeRead 14 [(0, pv E 0), (1, .int (nI u)), (2, .int (nI (rT R u))), (3, .int (0 : Int32))] [] σ Q := by
  have h5 := hO.1
  have hLl := bls_len L
  have hNd := hO.2.1 u hu
  have s1 := hNd.2.2.2.2.2.2.2.2.2.2.1
  have s2 := hNd.2.2.2.2.2.2.2.2.2.2.2
  obtain ⟨r29, r30, r34, r35, r36, r38⟩ := hrow
  have cu : (nI u).toNatClampNeg = u := nI_clamp (by omega)
  have vu : vp_in (nI u) 500 := vin (by omega) (by decide)
  have K6 := hNd.1
  have hls : Ltrs ((rNo R u).getD []) := hfit.2.2.2.2.2.2.1
  have hlsX : Ltrs (rTx R u) := hNd.2.2.2.2.2.2.2.1
  have hb2 : rBt (rwO R u) = bls ((rNo R u).getD []) + bls (rTx R u) := rfl
  have hc2 : rCc (rwO R u) = ((rNo R u).getD []).length + (rTx R u).length := rfl
  have hb1 : rBt (rK R u, rT R u, rNo R u, [], 0) = bls ((rNo R u).getD []) := by unfold rBt; show bls ((rNo R u).getD []) + 0 = _; rw [Nat.add_zero]
  have hc1 : rCc (rK R u, rT R u, rNo R u, [], 0) = ((rNo R u).getD []).length := by unfold rCc; show ((rNo R u).getD []).length + 0 = _; rw [Nat.add_zero]
  have hnN : rNo R u = none ↔ ¬ OwN D x := by
    rw [hN]
    unfold rNo
    by_cases z : isO R (rU R u) = true
    · rw [if_pos z]; exact ⟨fun y => (by cases y), fun y => absurd z y⟩
    · rw [if_neg z]; exact ⟨fun _ => z, fun _ => rfl⟩
  have hnl := bls_len ((rNo R u).getD [])
  have hnlX := bls_len (rTx R u)
  have x35 : gI σ 35 u = if rNo R u = none then -1 else nI ((rNo R u).getD []).length := by
    rw [r35]
    unfold rNo
    by_cases z : isO R (rU R u) = true
    · rw [if_pos z, if_pos z]; rfl
    · rw [if_neg z, if_neg z]; rfl
  have mq : ∀ {p n : Nat}, 13 ≤ p → p ≤ 25 → n < 500 → MMk p (4000 + n) := fun h1 h2 h3 => Or.inl (Or.inr (Or.inl ⟨h1, h2, by omega, by omega⟩))
  have iq : vp_in (nI (4000 + D.length)) 4500 := vin (by omega) (by decide)
  have hW2 : WfR (D ++ [rwO R u]) := WfR_push hB.2.2.2 hOw hfit hnN hn (by omega)
  have n500 := hB.2.2.2.2.2.2.2
  have hcD := cc_bts D
  -- behind the name
  have fin14 : ∀ (τ : S_t) (x3 : Int32), Fg (fun p k => p = 42) σ τ → gI σ 35 u ≤ x3 → StrA (gI τ 42) 0 ((rNo R u).getD []) → JE E (d + 7) m_Mo_makeRead 14 [(0, pv E 0), (1, .int (nI u)), (2, .int (nI (rT R u))), (3, .int x3)] [] τ Q := by
    intro τ x3 hF hle hst
    have BT : MoB τ (some D) := MoB_fr (fun p k hm => by
      have : p ≠ 42 := by unfold MMk MoC at hm; omega
      exact ⟨hF.1 p k this, hF.2.1 p k this⟩) hB
    obtain ⟨pm, hP⟩ := (MoR_iff.mp BT.2.1).2
    refine b_Mo_makeRead_14 (d := d + 6) ?_
    rw [cu, hF.1 35 u (by omega), hF.1 29 u (by omega), r29]
    refine ⟨vu, fun _ => ⟨vu, vu, (c_makeNamed (d := d + 3) (nm := rNo R u) BT hOw hNd.2.1 x35 hst hls hn (by omega)).mono (fun σ1 hq => ?_)⟩, fun q => absurd hle q⟩
    obtain ⟨F1, _, h390, A1, O1, e12, eP, e27, e24⟩ := hq
    have FT1 : Fg MKr σ σ1 := (hF.mono (fun p k z => Or.inr (Or.inr (Or.inr z)))).tr (F1.mono (fun p k z => Or.inl z))
    have src : ∀ p k, 29 ≤ p → p ≤ 41 → gI σ1 p k = gI σ p k ∧ gL σ1 p k = gL σ p k := fun p k a b => ⟨by rw [F1.1 p k (by unfold MMk MoC; omega), hF.1 p k (by omega)], by rw [F1.2.1 p k (by unfold MMk MoC; omega), hF.2.1 p k (by omega)]⟩
    have e9 : gI σ1 9 8 = nI (D.length + 1) := by rw [A1.1, lenR]
    have e10 : gI σ1 10 8 = nI (cc D + ((rNo R u).getD []).length) := by rw [A1.2.1, cc_app, hc1]
    have e11 : gI σ1 11 8 = nI (bts D + bls ((rNo R u).getD [])) := by rw [A1.2.2.1, bts_app, hb1]
    have eT := dT_last (D := D) (r := (rK R u, rT R u, rNo R u, [], 0)) (r' := rwO R u) rfl
    obtain ⟨t1, t2, t3, t4, t5, t6, t7, t8, ⟨ta, t9, t9', t9''⟩, t10, ⟨tc, t11, t11', t11''⟩⟩ := A1.2.2.2 D.length (by rw [lenR]; omega)
    rw [dK_n] at t1
    rw [dN_n, nam_n] at t8
    rw [nam_n] at t9' t9''
    rw [dX_n] at t10 t11'
    rw [lenR] at t4 t5
    have k29 : gI σ1 29 u = nI (rK R u) := by rw [(src 29 u (by omega) (by omega)).1]; exact r29
    rw [cl8, e9, ix4, show nI (4000 + (D.length + 1)) - (1 : Int32) = nI (4000 + D.length) from nI_m1 (4000 + D.length), nI_clamp (show 4000 + D.length < 2 ^ 31 by omega), k29, show nI (rK R u) = (4 : Int32) ↔ rK R u = 4 from nI_eq (b := 4) (by omega) (by decide), show nI (rK R u) = (3 : Int32) ↔ rK R u = 3 from nI_eq (b := 3) (by omega) (by decide), e10]
    refine ⟨in8, vu, fun n4 => ⟨vu, fun n3 => ?_, fun y3 => ⟨vu, iq, vu, fun v2 ev2 => ?_⟩⟩, fun y4 => ⟨in8, iq, vu, fun v6 ev6 => ⟨iq, fun σ7 e7 => ?_⟩⟩⟩
    · -- neither
      have er : rwO R u = (rK R u, rT R u, rNo R u, [], 0) := by
        show (rK R u, rT R u, rNo R u, rTx R u, rBi R u) = _
        rw [hNd.2.2.2.1 n4, hNd.2.2.2.2.1 n3]
      refine K σ1 FT1 ?_
      rw [er] at hW2 ⊢
      refine ⟨h390, MoR_iff.mpr ⟨A1, pm, MoP_push hP (by rw [e12]; exact hP.1) (Nat.le_refl _) (by have := hP.2.1; omega) eP (fun i _ => e27 _) ⟨fun _ => e24, fun w => ?_⟩⟩, O1, hW2⟩
      rw [dK_n] at w
      exact absurd w n3
    · -- a number
      have hX : rTx R u = [] := hNd.2.2.2.1 n4
      have k38 : gL σ1 38 u = lN (rBi R u) := by rw [(src 38 u (by omega) (by omega)).2]; exact r38 y3
      rw [k38] at ev2 ⊢
      rw [gL_sL_n (Or.inl (by decide)), k38] at ev2
      subst ev2
      obtain ⟨b1, b2⟩ := hNd.2.2.2.2.2.1 y3
      have hpm := hP.2.1
      refine (c_spellL (d := d) b1 b2).mono (fun σ3 hq => ⟨in8, iq, ?_⟩)
      obtain ⟨F3, m, m1, m2, m3⟩ := hq
      have F3' : Fg (fun p k => (3 ≤ p ∧ p ≤ 7) ∨ (p = 0 ∧ (k = 6 ∨ k = 7 ∨ (13 ≤ k ∧ k ≤ 18)))) (sL σ1 25 (4000 + D.length) (lN (rBi R u))) σ3 := F3.fg.mono (fun p k z => MV_r z)
      have n3 : ∀ p kk, 9 ≤ p → gI σ3 p kk = gI σ1 p kk := fun p kk h => by rw [F3'.1 p kk (by omega), gI_sL]
      have n3z : gI σ3 0 39 = gI σ1 0 39 := by rw [F3'.1 0 39 (by omega), gI_sL]
      have l3 : ∀ p kk, 9 ≤ p → gL σ3 p kk = if p = 25 ∧ kk = 4000 + D.length then lN (rBi R u) else gL σ1 p kk := fun p kk h => by rw [F3'.2.1 p kk (by omega), gL_sL]
      have FT3 : Fg MKr σ σ3 := (FT1.sl (Or.inl (mq (by omega) (by omega) hn))).tr (F3'.mono (fun p k z => by unfold MKr; omega))
      rw [n3 12 8 (by omega), e12, hP.1]
      intro v4 ev4
      rw [gI_sI_n (Or.inl (by decide)), m2.1] at ev4
      subst ev4
      refine ⟨iq, fun σ5 e5 => ?_⟩
      have g5 : ∀ p kk, gI σ5 p kk = if p = 24 ∧ kk = 4000 + D.length then nI m.length else if p = 23 ∧ kk = 4000 + D.length then nI pm else gI σ3 p kk := fun p kk => by rw [e5]; simp only [gI_sI]
      have g5L : ∀ p kk, gL σ5 p kk = gL σ3 p kk := fun p kk => by rw [e5]; rfl
      have FT5 : Fg MKr σ σ5 := by rw [e5]; exact (FT3.si (Or.inl (mq (by omega) (by omega) hn))).si (Or.inl (mq (by omega) (by omega) hn))
      clear e5
      have p18 : gI σ5 0 18 = nI m.length := by rw [g5, if_neg (by omega), if_neg (by omega)]; exact m2.1
      have p7 : ∀ j, j < m.length → gI σ5 7 j = nI (gA m j) := fun j hj => by rw [g5, if_neg (by omega), if_neg (by omega)]; exact m2.2 j hj
      have p12 : gI σ5 12 8 = nI pm := by rw [g5, if_neg (by omega), if_neg (by omega), n3 12 8 (by omega), e12]; exact hP.1
      have c5 : ∀ p kk, 9 ≤ p → p ≠ 23 → p ≠ 24 → gI σ5 p kk = gI σ1 p kk := fun p kk h h1 h2 => by rw [g5, if_neg (fun z => h2 z.1), if_neg (fun z => h1 z.1), n3 p kk h]
      have c5' : ∀ p kk, 9 ≤ p → kk ≠ 4000 + D.length → gI σ5 p kk = gI σ1 p kk := fun p kk h h1 => by rw [g5, if_neg (fun z => h1 z.2), if_neg (fun z => h1 z.2), n3 p kk h]
      have n23 : gI σ5 23 (4000 + D.length) = nI pm := by rw [g5, if_neg (by omega), if_pos ⟨rfl, rfl⟩]
      have n24 : gI σ5 24 (4000 + D.length) = nI m.length := by rw [g5, if_pos ⟨rfl, rfl⟩]
      have z39 : gI σ5 0 39 = 0 := by rw [g5, if_neg (by omega), if_neg (by omega), n3z]; exact h390
      have loop : ∀ (w j : Nat) (τ : S_t), j + w = m.length → Fs (fun p kk => p = 27 ∧ 104000 + pm ≤ kk ∧ kk < 117000) σ5 τ → (∀ i, i < j → gI τ 27 (104000 + (pm + i)) = nI (gA m i)) → JE E (d + 7) m_Mo_makeRead 214 [(0, pv E 0), (1, .int (nI u)), (2, .int (nI (rT R u))), (4, .int (nI j))] [] τ Q := by
        intro w
        induction w with
        | zero =>
          intro j τ hj hF h27
          have : j = m.length := by omega
          subst this
          have ct : ∀ p kk, p ≠ 27 → gI τ p kk = gI σ5 p kk := fun p kk h => hF.1 p kk (by omega)
          refine b_Mo_makeRead_214 (d := d + 6) ?_
          rw [ct 0 18 (by decide), p18, cl8, ct 12 8 (by decide), p12, nI_add]
          refine ⟨fun _ => ⟨in8, in8, ?_⟩, fun q => absurd (Int32.le_refl _) q⟩
          have FT : Fg MKr σ τ := FT5.tr (hF.fg.mono (fun p kk z => Or.inl (Or.inl (Or.inr (Or.inr (Or.inr ⟨z.1, by omega, by omega⟩))))))
          have cf : ∀ p kk, 9 ≤ p → p ≠ 27 → p ≠ 12 → p ≠ 23 → p ≠ 24 → gI (sI τ 12 8 (nI (pm + m.length))) p kk = gI σ1 p kk := fun p kk h h1 h2 h3 h4 => by rw [gI_sI_n (Or.inl h2), ct p kk h1, c5 p kk h h3 h4]
          have cf' : ∀ p kk, 9 ≤ p → p ≠ 27 → p ≠ 12 → kk ≠ 4000 + D.length → gI (sI τ 12 8 (nI (pm + m.length))) p kk = gI σ1 p kk := fun p kk h h1 h2 h3 => by rw [gI_sI_n (Or.inl h2), ct p kk h1, c5' p kk h h3]
          have cfL : ∀ p kk, 9 ≤ p → gL (sI τ 12 8 (nI (pm + m.length))) p kk = if p = 25 ∧ kk = 4000 + D.length then lN (rBi R u) else gL σ1 p kk := fun p kk h => by
            rw [gL_sI, ← l3 p kk h, ← g5L]
            show τ.2.1 p kk = σ5.2.1 p kk
            rw [hF.2]
          have f27 : ∀ i, i < pm → gI (sI τ 12 8 (nI (pm + m.length))) 27 (104000 + i) = gI σ1 27 (104000 + i) := fun i hi => by rw [gI_sI_n (Or.inl (by decide)), hF.1 27 _ (by omega), c5 27 _ (by decide) (by decide) (by decide)]
          refine K _ (FT.si (Or.inl (Or.inl (Or.inl ⟨by omega, by omega, rfl⟩)))) ⟨?_, MoR_iff.mpr ⟨?_, pm + m.length, ?_⟩, ?_, hW2⟩
          · rw [gI_sI_n (Or.inl (by decide)), ct 0 39 (by decide)]; exact z39
          · refine MoA_last A1 rfl (by rw [hc1, hc2]; omega) (cf 9 8 (by decide) (by decide) (by decide) (by decide) (by decide)) ?_ ?_ (fun kk hkk => ⟨fun p h1 h2 => cf p _ (by omega) (by omega) (by omega) (by omega) (by omega), ?_⟩) (fun i _ => ?_) ?_
            · rw [cf 10 8 (by decide) (by decide) (by decide) (by decide) (by decide), e10, hc2, hX]; rfl
            · rw [cf 11 8 (by decide) (by decide) (by decide) (by decide) (by decide), e11, hb2, hX]; rfl
            · rw [cfL _ _ (by decide), if_neg (by omega)]
            · exact cf 26 _ (by decide) (by decide) (by decide) (by decide) (by decide)
            · unfold MoRowA
              rw [dK_n, dX_n, dB_n, dN_n, nam_n, eT, lenR]
              refine ⟨?_, ?_, ?_, ?_, ?_, ?_, ?_, ?_, ⟨ta, ?_, ?_, fun i hi => ?_⟩, ?_, ⟨tc, ?_, ?_, fun i hi => ?_⟩⟩
              · rw [cf 13 _ (by decide) (by decide) (by decide) (by decide) (by decide)]; exact t1
              · rw [cf 14 _ (by decide) (by decide) (by decide) (by decide) (by decide)]; exact t2
              · rw [cf 15 _ (by decide) (by decide) (by decide) (by decide) (by decide)]; exact t3
              · rw [cf 16 _ (by decide) (by decide) (by decide) (by decide) (by decide)]; exact t4
              · rw [cf 17 _ (by decide) (by decide) (by decide) (by decide) (by decide)]; exact t5
              · rw [cf 18 _ (by decide) (by decide) (by decide) (by decide) (by decide)]; exact t6
              · rw [cfL _ _ (by decide), if_pos ⟨rfl, rfl⟩]; rfl
              · rw [cf 20 _ (by decide) (by decide) (by decide) (by decide) (by decide)]; exact t8
              · rw [cf 19 _ (by decide) (by decide) (by decide) (by decide) (by decide)]; exact t9
              · rw [cc_app] at t9' ⊢; rw [hc1] at t9'; rw [hc2]; have : ta + ((rNo R u).getD []).length ≤ cc D + ((rNo R u).getD []).length := t9'; show ta + ((rNo R u).getD []).length ≤ _; omega
              · show gI _ 26 _ = _
                rw [cf 26 _ (by decide) (by decide) (by decide) (by decide) (by decide)]; exact t9'' i hi
              · rw [cf 22 _ (by decide) (by decide) (by decide) (by decide) (by decide), t10]; show nI 0 = nI (rTx R u).length; rw [hX]; rfl
              · rw [cf 21 _ (by decide) (by decide) (by decide) (by decide) (by decide)]; exact t11
              · rw [cc_app] at t11' ⊢; rw [hc1] at t11'; rw [hc2]; show tc + (rTx R u).length ≤ _; rw [hX]; have : tc + 0 ≤ cc D + ((rNo R u).getD []).length := t11'; show tc + 0 ≤ cc D + (((rNo R u).getD []).length + 0); omega
              · have : i < (rTx R u).length := hi
                rw [hX] at this
                exact absurd this (Nat.not_lt_zero i)
          · refine MoP_push hP (gI_sI_s _ _ _ _) (by omega) (by omega) (fun kk hkk => ⟨?_, ?_⟩) (fun i hi => (f27 i hi).trans (e27 _)) ⟨fun w => absurd (by rw [dK_n]; exact y3) w, fun _ => ⟨pm, m, by rw [dB_n]; exact m1, m3, ?_, ?_, Nat.le_refl _, fun i hi => ?_⟩⟩
            · rw [cf' 23 _ (by decide) (by decide) (by decide) (by omega)]; exact (eP kk hkk).1
            · rw [cf' 24 _ (by decide) (by decide) (by decide) (by omega)]; exact (eP kk hkk).2
            · rw [gI_sI_n (Or.inl (by decide)), ct 23 _ (by decide)]; exact n23
            · rw [gI_sI_n (Or.inl (by decide)), ct 24 _ (by decide)]; exact n24
            · show gI _ 27 (104000 + (pm + i)) = _
              rw [gI_sI_n (Or.inl (by decide))]; exact h27 i hi
          · exact OpA_last (r := (rK R u, rT R u, rNo R u, [], 0)) rfl (fun e' => cf 28 e' (by decide) (by decide) (by decide) (by decide) (by decide)) O1
        | succ w ih =>
          intro j τ hj hF h27
          have ct : ∀ p kk, p ≠ 27 → gI τ p kk = gI σ5 p kk := fun p kk h => hF.1 p kk (by omega)
          refine b_Mo_makeRead_214 (d := d + 6) ?_
          have x2 : (104000 : Int32) + nI pm + nI j = nI (104000 + (pm + j)) := by rw [show (104000 : Int32) + nI pm = nI (104000 + pm) from nI_add 104000 pm, nI_add]; congr 1; omega
          rw [ct 0 18 (by decide), p18, cl8, ct 12 8 (by decide), p12, x2, nI_clamp (show 104000 + (pm + j) < 2 ^ 31 by omega), nI_clamp (show j < 2 ^ 31 by omega), ct 7 j (by decide), p7 j (by omega), nI_1]
          refine ⟨fun q => absurd q (nI_ge (by omega) (by omega)), fun _ => ⟨in8, vin (by omega) (by decide), vin (by omega) (by decide), ?_⟩⟩
          refine ih (j + 1) _ (by omega) (hF.si ⟨rfl, by omega, by omega⟩) (fun i hi => ?_)
          by_cases v : i = j
          · subst v; exact gI_sI_s _ _ _ _
          · rw [gI_sI_n (Or.inr (by omega))]; exact h27 i (by omega)
      exact loop m.length 0 σ5 (by omega) Fs.rf (fun i hi => absurd hi (Nat.not_lt_zero i))
    · -- a string
      have k37 : gI σ1 37 u = nI (rTx R u).length := by rw [(src 37 u (by omega) (by omega)).1]; exact (r36 y4).2
      have k36 : gI σ1 36 u = nI (rTa R u) := by rw [(src 36 u (by omega) (by omega)).1]; exact (r36 y4).1
      rw [gI_sI_n (Or.inl (by decide)), k37] at ev6
      subst ev6
      have gi : ∀ p kk, gI σ7 p kk = if p = 22 ∧ kk = 4000 + D.length then nI (rTx R u).length else if p = 21 ∧ kk = 4000 + D.length then nI (cc D + ((rNo R u).getD []).length) else gI σ1 p kk := fun p kk => by rw [e7]; simp only [gI_sI]
      have gl3 : ∀ p kk, gL σ7 p kk = gL σ1 p kk := fun p kk => by rw [e7]; rfl
      have F7 : Fg MKr σ σ7 := by rw [e7]; exact (FT1.si (Or.inl (mq (by omega) (by omega) hn))).si (Or.inl (mq (by omega) (by omega) hn))
      clear e7
      have g3 : ∀ p kk, kk ≠ 4000 + D.length → gI σ7 p kk = gI σ1 p kk := fun p kk h => by rw [gi, if_neg (fun z => h z.2), if_neg (fun z => h z.2)]
      have g3p : ∀ p kk, p ≠ 21 → p ≠ 22 → gI σ7 p kk = gI σ1 p kk := fun p kk h1 h2 => by rw [gi, if_neg (fun z => h2 z.1), if_neg (fun z => h1 z.1)]
      have L3 : LyM σ7 (cc D + ((rNo R u).getD []).length) (bts D + bls ((rNo R u).getD [])) := ⟨by rw [g3p 10 8 (by decide) (by decide)]; exact e10, by rw [g3p 11 8 (by decide) (by decide)]; exact e11, by rw [g3p 0 39 (by decide) (by decide)]; exact h390, by omega, by omega⟩
      have hR1 : RlM σ1 L := ⟨by rw [F1.1 0 44 (by unfold MMk MoC; omega), hF.1 0 44 (by omega)]; exact hR.1, fun k hk => by rw [(src 39 k (by omega) (by omega)).1]; exact hR.2 k hk⟩
      have loop : ∀ (w j : Nat) (τ : S_t), j + w = (rTx R u).length → Fg MLy σ7 τ → LyM τ (cc D + ((rNo R u).getD []).length + j) (bts D + bls ((rNo R u).getD []) + bls ((rTx R u).take j)) → (∀ i, i < j → gI τ 26 (32000 + (cc D + ((rNo R u).getD []).length + i)) = nI (gA (rTx R u) i)) → (∀ i, i < cc D + ((rNo R u).getD []).length → gI τ 26 (32000 + i) = gI σ1 26 (32000 + i)) → JE E (d + 7) m_Mo_makeRead 118 [(0, pv E 0), (1, .int (nI u)), (2, .int (nI (rT R u))), (4, .int (nI j))] [] τ Q := by
        intro w
        induction w with
        | zero =>
          intro j τ hj hF2 hL2 hS hlow
          have : j = (rTx R u).length := by omega
          subst this
          rw [List.take_length] at hL2
          refine b_Mo_makeRead_118 (d := d + 6) ?_
          rw [cu, hF2.1 37 u (by unfold MLy; omega), g3p 37 u (by decide) (by decide), k37]
          refine ⟨vu, fun _ => ?_, fun q => absurd (Int32.le_refl _) q⟩
          have ct : ∀ p kk, (p ≠ 10 ∧ p ≠ 11 ∧ p ≠ 26 ∧ p ≠ 0) → gI τ p kk = gI σ7 p kk := fun p kk h => hF2.1 p kk (by unfold MLy; omega)
          have cp : ∀ p kk, (p ≠ 10 ∧ p ≠ 11 ∧ p ≠ 26 ∧ p ≠ 0) → p ≠ 21 → p ≠ 22 → gI τ p kk = gI σ1 p kk := fun p kk h h1 h2 => by rw [ct p kk h, g3p p kk h1 h2]
          have cL : ∀ kk, gL τ 25 kk = gL σ1 25 kk := fun kk => by rw [hF2.2.1 25 kk (by unfold MLy; omega), gl3]
          refine K τ (F7.tr (hF2.mono (fun _ _ z => Or.inl (ML_MM z)))) ⟨hL2.2.2.1, MoR_iff.mpr ⟨?_, pm, ?_⟩, OpA_last (r := (rK R u, rT R u, rNo R u, [], 0)) rfl (fun e' => cp 28 e' (by decide) (by decide) (by decide)) O1, hW2⟩
          · refine MoA_last A1 rfl (by rw [hc1, hc2]; omega) (cp 9 8 (by decide) (by decide) (by decide)) ?_ ?_ (fun kk hkk => ⟨fun p h1 h2 => ?_, cL _⟩) (fun i hi => ?_) ?_
            · rw [hL2.1, hc2]; congr 1; omega
            · rw [hL2.2.1, hb2]; congr 1; omega
            · rw [ct p _ (by omega), g3 p _ (by omega)]
            · rw [cc_app, hc1] at hi; exact hlow i hi
            · unfold MoRowA
              rw [dK_n, dX_n, dB_n, dN_n, nam_n, eT, lenR]
              refine ⟨?_, ?_, ?_, ?_, ?_, ?_, ?_, ?_, ⟨ta, ?_, ?_, fun i hi => ?_⟩, ?_, ⟨cc D + ((rNo R u).getD []).length, ?_, ?_, fun i hi => ?_⟩⟩
              · rw [cp 13 _ (by decide) (by decide) (by decide)]; exact t1
              · rw [cp 14 _ (by decide) (by decide) (by decide)]; exact t2
              · rw [cp 15 _ (by decide) (by decide) (by decide)]; exact t3
              · rw [cp 16 _ (by decide) (by decide) (by decide)]; exact t4
              · rw [cp 17 _ (by decide) (by decide) (by decide)]; exact t5
              · rw [cp 18 _ (by decide) (by decide) (by decide)]; exact t6
              · rw [cL, t7, dB_n]
                show lN 0 = lN (rBi R u)
                rw [hNd.2.2.2.2.1 (by omega)]
              · rw [cp 20 _ (by decide) (by decide) (by decide)]; exact t8
              · rw [cp 19 _ (by decide) (by decide) (by decide)]; exact t9
              · rw [cc_app] at t9' ⊢; rw [hc1] at t9'; rw [hc2]; have : ta + ((rNo R u).getD []).length ≤ cc D + ((rNo R u).getD []).length := t9'; show ta + ((rNo R u).getD []).length ≤ _; omega
              · have t9a : ta + ((rNo R u).getD []).length ≤ cc D + ((rNo R u).getD []).length := by
                  have := t9'
                  rw [cc_app, hc1] at this
                  exact this
                have hi' : i < ((rNo R u).getD []).length := hi
                show gI τ 26 (32000 + (ta + i)) = _
                rw [hlow (ta + i) (by omega)]
                exact t9'' i hi
              · rw [ct 22 _ (by decide), gi, if_pos ⟨rfl, rfl⟩]; rfl
              · rw [ct 21 _ (by decide), gi, if_neg (by omega), if_pos ⟨rfl, rfl⟩]
              · rw [cc_app, hc2]; show _ + (rTx R u).length ≤ _; omega
              · exact hS i hi
          · refine MoP_push hP (by rw [cp 12 8 (by decide) (by decide) (by decide), e12]; exact hP.1) (Nat.le_refl _) (by have := hP.2.1; omega) (fun kk hkk => ⟨?_, ?_⟩) (fun i _ => ?_) ⟨fun _ => ?_, fun w => ?_⟩
            · rw [cp 23 _ (by decide) (by decide) (by decide)]; exact (eP kk hkk).1
            · rw [cp 24 _ (by decide) (by decide) (by decide)]; exact (eP kk hkk).2
            · rw [cp 27 _ (by decide) (by decide) (by decide)]; exact e27 _
            · rw [cp 24 _ (by decide) (by decide) (by decide)]; exact e24
            · rw [dK_n] at w
              exact absurd (show rK R u = 3 from w) (by omega)
        | succ w ih =>
          intro j τ hj hF2 hL2 hS hlow
          have hjs : j < (rTx R u).length := by omega
          have hl := hlsX j hjs
          have htk := bls_take_succ hjs
          have htl := bls_take_le (rTx R u) (j + 1)
          refine b_Mo_makeRead_118 (d := d + 6) ?_
          have v39 : gI τ 39 (rTa R u + j) = nI (gA (rTx R u) j) := by
            rw [hF2.1 39 _ (by unfold MLy; omega), g3p 39 _ (by decide) (by decide)]
            exact RlM_str hR1 s2 j hjs
          rw [cu, hF2.1 37 u (by unfold MLy; omega), g3p 37 u (by decide) (by decide), k37, hF2.1 36 u (by unfold MLy; omega), g3p 36 u (by decide) (by decide), k36, nI_add, nI_clamp (show rTa R u + j < 2 ^ 31 by have := s2.1; omega), v39, nI_1]
          refine ⟨vu, fun q => absurd q (nI_ge hjs (by omega)), fun _ => ⟨vu, vin (by have := s2.1; omega) (by decide), ?_⟩⟩
          refine (c_lay (d := d + 5) (by unfold Ltr at hl; omega) hL2).mono (fun σ9 hq => ?_)
          rcases hq with ⟨hq, _⟩ | ⟨_, F9, L9, S9, lo9⟩
          · omega
          · refine ih (j + 1) σ9 (by omega) (hF2.tr F9) (by rw [htk]; exact ⟨by rw [L9.1]; rfl, by rw [L9.2.1]; congr 1; omega, L9.2.2.1, by have := L9.2.2.2.1; omega, by have := L9.2.2.2.2; omega⟩) (fun i hi => ?_) (fun i hi => ?_)
            · by_cases v : i = j
              · subst v; exact S9
              · rw [lo9 _ (by omega)]; exact hS i (by omega)
            · rw [lo9 _ (by omega)]; exact hlow i hi
      exact loop (rTx R u).length 0 σ7 (by omega) Fg.rf L3 (fun i hi => absurd hi (Nat.not_lt_zero i)) (fun i _ => g3p 26 _ (by decide) (by decide))
  -- the name's letters
  by_cases z : isO R (rU R u) = true
  · have eN : rNo R u = some (rNm R u) := if_pos z
    have e35 : gI σ 35 u = nI (rNm R u).length := by rw [r35, if_pos z]
    have eG : (rNo R u).getD [] = rNm R u := by rw [eN]; rfl
    have loop : ∀ (w j : Nat) (τ : S_t), j + w = (rNm R u).length → Fg (fun p k => p = 42) σ τ → (∀ i, i < j → gI τ 42 i = nI (gA (rNm R u) i)) → JE E (d + 7) m_Mo_makeRead 14 [(0, pv E 0), (1, .int (nI u)), (2, .int (nI (rT R u))), (3, .int (nI j))] [] τ Q := by
      intro w
      induction w with
      | zero =>
        intro j τ hj hF h42
        refine fin14 τ (nI j) hF (by rw [e35, show j = (rNm R u).length by omega]; exact Int32.le_refl _) (fun i hi => ?_)
        rw [eG] at hi ⊢
        rw [Nat.zero_add]
        exact h42 i (by omega)
      | succ w ih =>
        intro j τ hj hF h42
        have hjs : j < (rNm R u).length := by omega
        have hSl := s1.1
        refine b_Mo_makeRead_14 (d := d + 6) ?_
        have v39 : gI τ 39 (rNa R u + j) = nI (gA (rNm R u) j) := by rw [hF.1 39 _ (by omega)]; exact RlM_str hR s1 j hjs
        rw [cu, hF.1 35 u (by omega), e35, hF.1 34 u (by omega), r34, nI_add, nI_clamp (show rNa R u + j < 2 ^ 31 by omega), v39, nI_clamp (show j < 2 ^ 31 by omega), nI_1]
        refine ⟨vu, fun q => absurd q (nI_ge hjs (by omega)), fun _ => ⟨vu, vin (by omega) (by decide), vin (by omega) (by decide), ?_⟩⟩
        refine ih (j + 1) _ (by omega) (hF.si rfl) (fun i hi => ?_)
        by_cases v : i = j
        · subst v; exact gI_sI_s _ _ _ _
        · rw [gI_sI_n (Or.inr v)]; exact h42 i (by omega)
    exact loop (rNm R u).length 0 σ (by omega) Fg.rf (fun i hi => absurd hi (Nat.not_lt_zero i))
  · have eG : (rNo R u).getD [] = [] := by
      have : rNo R u = none := if_neg z
      rw [this]; rfl
    refine fin14 σ 0 Fg.rf (by rw [r35, if_neg z]; decide) (fun i hi => ?_)
    rw [eG] at hi
    exact absurd hi (Nat.not_lt_zero i)
