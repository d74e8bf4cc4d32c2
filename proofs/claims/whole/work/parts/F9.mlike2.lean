theorem MM_src {s p k : Nat} (hs : s < 8) (h : MoC s p k) : ¬ MMk p k := by unfold MoC at h; unfold MMk MoC; omega
theorem MoR_src {σ σ' : S_t} {s : Nat} {F : List Row} (hs : s < 8) (hW : WfR F) (hF : Fg MMk σ σ') (h : MoR σ s F) : MoR σ' s F :=
  MoR_fr (fun p k hm => ⟨hF.1 p k (MM_src hs hm), hF.2.1 p k (MM_src hs hm)⟩) hW.2.2.2.2.1 hW.2.2.2.2.2 h
theorem MoP_push {σ σ' : S_t} {D : List Row} {r : Row} {pm pm' : Nat} (h : MoP σ 8 pm D) (h12 : gI σ' 12 8 = nI pm') (hle : pm ≤ pm') (hpm : pm' ≤ 26 * (D.length + 1)) (hold : ∀ k, k < D.length → gI σ' 23 (4000 + k) = gI σ 23 (4000 + k) ∧ gI σ' 24 (4000 + k) = gI σ 24 (4000 + k)) (h27 : ∀ i, i < pm → gI σ' 27 (104000 + i) = gI σ 27 (104000 + i)) (hrow : MoRowP σ' 8 pm' (D ++ [r]) D.length) : MoP σ' 8 pm' (D ++ [r]) := by
  refine ⟨h12, by rw [lenR]; exact hpm, fun k hk => ?_⟩
  rw [lenR] at hk
  by_cases q : k = D.length
  · subst q; exact hrow
  · have hk : k < D.length := by omega
    obtain ⟨p1, p2⟩ := h.2.2 k hk
    have eK : dK (D ++ [r]) k = dK D k := by unfold dK; rw [dR_lt hk]
    have eB : dB (D ++ [r]) k = dB D k := by unfold dB; rw [dR_lt hk]
    unfold MoRowP
    rw [eK, eB]
    refine ⟨fun z => by rw [(hold k hk).2]; exact p1 z, fun z => ?_⟩
    obtain ⟨a, m, q1, q2, q3, q4, q5, q6⟩ := p2 z
    exact ⟨a, m, q1, q2, by rw [(hold k hk).1]; exact q3, by rw [(hold k hk).2]; exact q4, by omega, StrA_congr (fun i hi => h27 _ (by omega)) q6⟩
theorem c_makeLike {E : En_t} {d s k e : Nat} {D F : List Row} {nm : Option (List Nat)} {x x4 x5 : Int32} {σ : S_t} (hs : s < 8) (hB : MoB σ (some D)) (hWF : WfR F) (hMF : MoR σ s F) (hk : k < F.length) (hO : OwR D x e) (he : e ≤ 30) (he2 : 5 ≤ dK F k → e ≤ 29) (hnm : nm = none ∨ nm = some (nam F k)) (hnN : nm = none ↔ ¬ OwN D x) (h5 : x5 = if nm = none then -1 else nI (nam F k).length) (h4 : x4 = gI σ 19 (500 * s + k)) : CV E (d + 3) m_Mo_makeLike [pv E 0, .int (nI s), .int (nI k), .int (nI e), .int x4, .int x5, .int (nI (dK F k))] σ (fun σ' => Fg MMk σ σ' ∧ MoB σ' (adR (some D) (likR F k e nm))) := by
  obtain ⟨h39, hMR, hOp, hW⟩ := hB
  obtain ⟨hA, pm, hP⟩ := MoR_iff.mp hMR
  have n5 := hW.2.2.2.2
  have nF5 := hWF.2.2.2.2
  have hcF := cc_bts F
  have hcD := cc_bts D
  have hok := hWF.2.1 k hk
  have k6 := hok.1
  have hlsX := hok.2.2.2.2.2.2.2
  obtain ⟨_, _, _, _, _, _, m6⟩ := id hMF
  obtain ⟨na, r9, r9', r9''⟩ := (m6 k hk).2.2.2.2.2.2.2.2.1
  have hlsN : Ltrs (nm.getD []) := by
    rcases hnm with z | z
    · rw [z]; exact Ltrs_nil
    · rw [z]; exact hok.2.2.2.2.2.2.1
  have hlenN : (nm.getD []).length ≤ (nam F k).length := by
    rcases hnm with z | z
    · rw [z]; exact Nat.zero_le _
    · rw [z]; exact Nat.le_refl _
  have hstN : StrA (gI σ 26) (4000 * s + na) (nm.getD []) := by
    rcases hnm with z | z
    · rw [z]; exact fun i hi => absurd hi (Nat.not_lt_zero i)
    · rw [z]; intro i hi; rw [show 4000 * s + na + i = 4000 * s + (na + i) by omega]; exact r9'' i hi
  have h5' : x5 = if nm = none then -1 else nI (nm.getD []).length := by
    rw [h5]
    rcases hnm with z | z
    · rw [if_pos z, if_pos z]
    · rw [z]; rfl
  have fit : RowFit (likR F k e nm) := ⟨hok.1, he, he2, hok.2.2.2.1, hok.2.2.2.2.1, hok.2.2.2.2.2.1, hlsN, hlsX⟩
  have hb1 : rBt (dK F k, e, nm, [], 0) = bls (nm.getD []) := by unfold rBt; show bls (nm.getD []) + 0 = _; rw [Nat.add_zero]
  have hb2 : rBt (likR F k e nm) = bls (nm.getD []) + bls (dX F k) := rfl
  have hc1 : rCc (dK F k, e, nm, [], 0) = (nm.getD []).length := by unfold rCc; show (nm.getD []).length + 0 = _; rw [Nat.add_zero]
  have hc2 : rCc (likR F k e nm) = (nm.getD []).length + (dX F k).length := rfl
  have mq : ∀ {p n : Nat}, 13 ≤ p → p ≤ 25 → n < 500 → MMk p (4000 + n) := fun h1 h2 h3 => Or.inl (Or.inr (Or.inl ⟨h1, h2, by omega, by omega⟩))
  refine CE.of (L := [(0, pv E 0), (1, .int (nI s)), (2, .int (nI k)), (3, .int (nI e)), (4, .int x4), (5, .int x5), (6, .int (nI (dK F k)))]) rfl (Nat.le_of_ble_eq_true rfl) rfl (b_Mo_makeLike_0 ((c_make (a := 4000 * s + na) hW hA hOp h39 hO he h5' (fun _ => by rw [h4, r9, ix4000]) (by omega) hstN hlsN).mono (fun σ1 hq => ?_)))
  obtain ⟨F1, hq⟩ := hq
  rcases hq with ⟨hno, h1⟩ | ⟨hyes, hn, h390, A1, O1, e12, eP, e27, e24⟩
  · refine ⟨fun q => absurd q (by rw [h1]; decide), fun _ => ⟨rfl, F1, ?_⟩⟩
    have : adR (some D) (likR F k e nm) = none := by
      refine adR_no ?_
      rcases Classical.em (D.length = 500 ∨ 4000 < bts D + rBt (dK F k, e, nm, [], 0)) with z | z
      · rcases z with z | z
        · exact Or.inl z
        · exact Or.inr (by rw [hb1] at z; rw [hb2]; omega)
      · have y : adR (some D) (dK F k, e, nm, [], 0) = some (D ++ [(dK F k, e, nm, [], 0)]) := if_neg z
        rw [y] at hno; cases hno
    rw [this]; exact h1
  · have hbn : bts D + bls (nm.getD []) ≤ 4000 := by have := (adR_some hyes).2.2; rw [hb1] at this; exact this
    have MF1 := MoR_src hs hWF F1 hMF
    obtain ⟨_, _, _, pmF, hpmF, _, m6'⟩ := id MF1
    obtain ⟨q1, q2, q3, q4, q5, q6, q7, q8, q9, q10, ⟨tb', q11, q12, q13⟩, q14, q15⟩ := m6' k hk
    have e10 : gI σ1 10 8 = nI (cc D + (nm.getD []).length) := by rw [A1.2.1, cc_app, hc1]
    have e11 : gI σ1 11 8 = nI (bts D + bls (nm.getD [])) := by rw [A1.2.2.1, bts_app, hb1]
    have e9 : gI σ1 9 8 = nI (D.length + 1) := by rw [A1.1, lenR]
    have eT := dT_last (D := D) (r := (dK F k, e, nm, [], 0)) (r' := likR F k e nm) rfl
    obtain ⟨t1, t2, t3, t4, t5, t6, t7, t8, ⟨ta, t9, t9', t9''⟩, t10, ⟨tc, t11, t11', t11''⟩⟩ := A1.2.2.2 D.length (by rw [lenR]; omega)
    rw [dK_n] at t1
    rw [dN_n, nam_n] at t8
    rw [nam_n] at t9' t9''
    rw [dX_n] at t10 t11'
    rw [lenR] at t4 t5
    rw [cl8, e9, ix4, show nI (4000 + (D.length + 1)) - (1 : Int32) = nI (4000 + D.length) from nI_m1 (4000 + D.length), ix500, nI_clamp (show 4000 + D.length < 2 ^ 31 by omega), nI_clamp (show 500 * s + k < 2 ^ 31 by omega), show nI (dK F k) = (4 : Int32) ↔ dK F k = 4 from nI_eq (b := 4) (by omega) (by decide), e10]
    have iq : vp_in (nI (4000 + D.length)) 4500 := vin (by omega) (by decide)
    have iF : vp_in (nI (500 * s + k)) 4500 := vin (by omega) (by decide)
    refine ⟨fun _ => ⟨in8, fun z => ?_, fun z => ⟨in8, iq, iF, fun v2 e2 => ⟨iq, fun σ3 e3 => ?_⟩⟩⟩, fun q => absurd h390 q⟩
    · -- no string
      have hX : dX F k = [] := hok.2.2.2.1 z
      have hb2' : bts D + rBt (likR F k e nm) ≤ 4000 := by rw [hb2, hX]; show bts D + (bls (nm.getD []) + 0) ≤ 4000; omega
      have hW2 := WfR_push hW hO fit hnN hn hb2'
      refine b_Mo_makeLike_128 ?_
      rw [show nI (dK F k) = (3 : Int32) ↔ dK F k = 3 from nI_eq (b := 3) (by omega) (by decide)]
      refine ⟨fun y => ⟨rfl, F1, ?_⟩, fun y => ⟨fun _ => ?_, fun q => absurd h390 q⟩⟩
      · have hBz : dB F k = 0 := hok.2.2.2.2.1 y
        have er : likR F k e nm = (dK F k, e, nm, [], 0) := by unfold likR; rw [hX, hBz]
        rw [er] at hW2 ⊢
        rw [hyes]
        refine ⟨h390, MoR_iff.mpr ⟨A1, pm, MoP_push hP (by rw [e12]; exact hP.1) (Nat.le_refl _) (by have := hP.2.1; omega) eP (fun i _ => e27 _) ⟨fun _ => e24, fun w => ?_⟩⟩, O1, hW2⟩
        rw [dK_n] at w
        exact absurd w y
      · -- a number
        obtain ⟨pa, m, p1, p2, p3, p4, p5, p6⟩ := q15 y
        rw [adR_yes hn hb2', nI_clamp (show 4000 + D.length < 2 ^ 31 by omega), nI_clamp (show 500 * s + k < 2 ^ 31 by omega), q7, cl8, gI_sL, e12, hP.1]
        have hpm := hP.2.1
        refine ⟨iF, iq, in8, iq, fun σ2 e2 => ⟨iF, iq, ?_⟩⟩
        have c2 : ∀ p kk, (p ≠ 23 ∨ kk ≠ 4000 + D.length) → gI σ2 p kk = gI σ1 p kk := fun p kk h => by rw [e2, gI_sI_n h, gI_sL]
        have n23 : gI σ2 23 (4000 + D.length) = nI pm := by rw [e2, gI_sI_s]
        have c2L : ∀ p kk, gL σ2 p kk = if p = 25 ∧ kk = 4000 + D.length then lN (dB F k) else gL σ1 p kk := fun p kk => by rw [e2, gL_sI, gL_sL]
        have F2 : Fg MMk σ σ2 := by rw [e2]; exact (F1.sl (mq (by omega) (by omega) hn)).si (mq (by omega) (by omega) hn)
        rw [c2 24 _ (Or.inl (by decide)), p4]
        have F3 : Fg MMk σ (sI σ2 24 (4000 + D.length) (nI m.length)) := F2.si (mq (by omega) (by omega) hn)
        have c3 : ∀ p kk, p ≠ 23 → p ≠ 24 → gI (sI σ2 24 (4000 + D.length) (nI m.length)) p kk = gI σ1 p kk := fun p kk h1 h2 => by rw [gI_sI_n (Or.inl h2), c2 p kk (Or.inl h1)]
        have c3' : ∀ p kk, kk ≠ 4000 + D.length → gI (sI σ2 24 (4000 + D.length) (nI m.length)) p kk = gI σ1 p kk := fun p kk h1 => by rw [gI_sI_n (Or.inr h1), c2 p kk (Or.inr h1)]
        have n24 : gI (sI σ2 24 (4000 + D.length) (nI m.length)) 24 (4000 + D.length) = nI m.length := gI_sI_s _ _ _ _
        have n23' : gI (sI σ2 24 (4000 + D.length) (nI m.length)) 23 (4000 + D.length) = nI pm := by rw [gI_sI_n (Or.inl (by decide))]; exact n23
        have c3L : ∀ p kk, gL (sI σ2 24 (4000 + D.length) (nI m.length)) p kk = if p = 25 ∧ kk = 4000 + D.length then lN (dB F k) else gL σ1 p kk := fun p kk => c2L p kk
        generalize sI σ2 24 (4000 + D.length) (nI m.length) = ρ at F3 c3 c3' n24 n23' c3L ⊢
        clear c2 c2L n23 F2 e2
        have loop : ∀ (w j : Nat) (τ : S_t), j + w = m.length → Fs (fun p kk => p = 27 ∧ 104000 + pm ≤ kk ∧ kk < 117000) ρ τ → (∀ i, i < j → gI τ 27 (104000 + (pm + i)) = nI (gA m i)) → JE E (d + 3) m_Mo_makeLike 187 [(0, pv E 0), (1, .int (nI s)), (8, .int (nI (500 * s + k))), (9, .int (nI j))] [] τ (fun q σ' => q = none ∧ (Fg MMk σ σ' ∧ MoB σ' (some (D ++ [likR F k e nm])))) := by
          intro w
          have isrc : 500 * s + k ≠ 4000 + D.length := by omega
          induction w with
          | zero =>
            intro j τ hj hF h27
            have : j = m.length := by omega
            subst this
            have ct : ∀ p kk, p ≠ 27 → gI τ p kk = gI ρ p kk := fun p kk h => hF.1 p kk (by omega)
            refine b_Mo_makeLike_187 ?_
            rw [nI_clamp (show 500 * s + k < 2 ^ 31 by omega), ct 24 _ (by decide), c3' 24 _ isrc, p4]
            refine ⟨iF, fun _ => ⟨in8, iF, in8, ?_⟩, fun q => absurd (Int32.le_refl _) q⟩
            rw [cl8, ct 12 _ (by decide), c3 12 8 (by decide) (by decide), e12, hP.1, nI_add]
            have FT : Fg MMk σ τ := F3.tr (hF.fg.mono (fun p kk z => Or.inl (Or.inr (Or.inr (Or.inr ⟨z.1, by omega, by omega⟩)))))
            have cf : ∀ p kk, p ≠ 27 → p ≠ 12 → p ≠ 23 → p ≠ 24 → gI (sI τ 12 8 (nI (pm + m.length))) p kk = gI σ1 p kk := fun p kk h1 h2 h3 h4 => by rw [gI_sI_n (Or.inl h2), ct p kk h1, c3 p kk h3 h4]
            have cf' : ∀ p kk, p ≠ 27 → p ≠ 12 → kk ≠ 4000 + D.length → gI (sI τ 12 8 (nI (pm + m.length))) p kk = gI σ1 p kk := fun p kk h1 h2 h3 => by rw [gI_sI_n (Or.inl h2), ct p kk h1, c3' p kk h3]
            have cfL : ∀ p kk, gL (sI τ 12 8 (nI (pm + m.length))) p kk = if p = 25 ∧ kk = 4000 + D.length then lN (dB F k) else gL σ1 p kk := fun p kk => by
              rw [gL_sI, ← c3L]
              show τ.2.1 p kk = ρ.2.1 p kk
              rw [hF.2]
            have f27 : ∀ i, i < pm → gI (sI τ 12 8 (nI (pm + m.length))) 27 (104000 + i) = gI σ 27 (104000 + i) := fun i hi => by rw [gI_sI_n (Or.inl (by decide)), hF.1 27 _ (by omega), c3 27 _ (by decide) (by decide), e27]
            refine ⟨rfl, FT.si (Or.inl (Or.inl ⟨by omega, by omega, rfl⟩)), ?_, MoR_iff.mpr ⟨?_, pm + m.length, ?_⟩, ?_, hW2⟩
            · rw [cf 0 39 (by decide) (by decide) (by decide) (by decide)]; exact h390
            · refine MoA_last A1 rfl (by rw [hc1, hc2]; omega) (cf 9 8 (by decide) (by decide) (by decide) (by decide)) ?_ ?_ (fun kk hkk => ⟨fun p h1 h2 => cf p _ (by omega) (by omega) (by omega) (by omega), ?_⟩) (fun i _ => ?_) ?_
              · rw [cf 10 8 (by decide) (by decide) (by decide) (by decide), e10, hc2, hX]; rfl
              · rw [cf 11 8 (by decide) (by decide) (by decide) (by decide), e11, hb2, hX]; rfl
              · rw [cfL, if_neg (by omega)]
              · exact cf 26 _ (by decide) (by decide) (by decide) (by decide)
              · unfold MoRowA
                rw [dK_n, dX_n, dB_n, dN_n, nam_n, eT, lenR]
                refine ⟨?_, ?_, ?_, ?_, ?_, ?_, ?_, ?_, ⟨ta, ?_, ?_, fun i hi => ?_⟩, ?_, ⟨tc, ?_, ?_, fun i hi => ?_⟩⟩
                · rw [cf 13 _ (by decide) (by decide) (by decide) (by decide)]; exact t1
                · rw [cf 14 _ (by decide) (by decide) (by decide) (by decide)]; exact t2
                · rw [cf 15 _ (by decide) (by decide) (by decide) (by decide)]; exact t3
                · rw [cf 16 _ (by decide) (by decide) (by decide) (by decide)]; exact t4
                · rw [cf 17 _ (by decide) (by decide) (by decide) (by decide)]; exact t5
                · rw [cf 18 _ (by decide) (by decide) (by decide) (by decide)]; exact t6
                · rw [cfL, if_pos ⟨rfl, rfl⟩]; rfl
                · rw [cf 20 _ (by decide) (by decide) (by decide) (by decide)]; exact t8
                · rw [cf 19 _ (by decide) (by decide) (by decide) (by decide)]; exact t9
                · rw [cc_app] at t9' ⊢; rw [hc1] at t9'; rw [hc2]; have : ta + (nm.getD []).length ≤ cc D + (nm.getD []).length := t9'; show ta + (nm.getD []).length ≤ _; omega
                · show gI _ 26 _ = _
                  rw [cf 26 _ (by decide) (by decide) (by decide) (by decide)]; exact t9'' i hi
                · rw [cf 22 _ (by decide) (by decide) (by decide) (by decide), t10]; show nI 0 = nI (dX F k).length; rw [hX]; rfl
                · rw [cf 21 _ (by decide) (by decide) (by decide) (by decide)]; exact t11
                · rw [cc_app] at t11' ⊢; rw [hc1] at t11'; rw [hc2]; show tc + (dX F k).length ≤ _; rw [hX]; have : tc + 0 ≤ cc D + (nm.getD []).length := t11'; show tc + 0 ≤ cc D + ((nm.getD []).length + 0); omega
                · have : i < (dX F k).length := hi
                  rw [hX] at this
                  exact absurd this (Nat.not_lt_zero i)
            · refine MoP_push hP (gI_sI_s _ _ _ _) (by omega) (by omega) (fun kk hkk => ⟨?_, ?_⟩) f27 ⟨fun w => absurd (by rw [dK_n]; exact y) w, fun _ => ⟨pm, m, by rw [dB_n]; exact p1, p2, ?_, ?_, Nat.le_refl _, fun i hi => ?_⟩⟩
              · rw [cf' 23 _ (by decide) (by decide) (by omega)]; exact (eP kk hkk).1
              · rw [cf' 24 _ (by decide) (by decide) (by omega)]; exact (eP kk hkk).2
              · rw [gI_sI_n (Or.inl (by decide)), ct 23 _ (by decide)]; exact n23'
              · rw [gI_sI_n (Or.inl (by decide)), ct 24 _ (by decide)]; exact n24
              · show gI _ 27 (104000 + (pm + i)) = _
                rw [gI_sI_n (Or.inl (by decide))]; exact h27 i hi
            · exact OpA_last (r := (dK F k, e, nm, [], 0)) rfl (fun e' => cf 28 e' (by decide) (by decide) (by decide) (by decide)) O1
          | succ w ih =>
            intro j τ hj hF h27
            have ct : ∀ p kk, p ≠ 27 → gI τ p kk = gI ρ p kk := fun p kk h => hF.1 p kk (by omega)
            refine b_Mo_makeLike_187 ?_
            rw [nI_clamp (show 500 * s + k < 2 ^ 31 by omega), ct 24 _ (by decide), c3' 24 _ isrc, p4, ct 23 _ (by decide), c3' 23 _ isrc, p3, cl8, ct 12 _ (by decide), c3 12 8 (by decide) (by decide), e12, hP.1]
            have x1 : (13000 : Int32) * nI s + nI pa + nI j = nI (13000 * s + (pa + j)) := by rw [show (13000 : Int32) * nI s = nI (13000 * s) from pk_mul 13000 s, nI_add, nI_add]; congr 1; omega
            have x2 : (104000 : Int32) + nI pm + nI j = nI (104000 + (pm + j)) := by rw [show (104000 : Int32) + nI pm = nI (104000 + pm) from nI_add 104000 pm, nI_add]; congr 1; omega
            rw [x1, x2, nI_clamp (show 13000 * s + (pa + j) < 2 ^ 31 by omega), nI_clamp (show 104000 + (pm + j) < 2 ^ 31 by omega), nI_1]
            refine ⟨iF, fun q => absurd q (nI_ge (by omega) (by omega)), fun _ => ⟨in8, iF, vin (by omega) (by decide), vin (by omega) (by decide), fun σ4 e4 => ?_⟩⟩
            have src : gI τ 27 (13000 * s + (pa + j)) = nI (gA m j) := by rw [hF.1 27 _ (by omega), c3 27 _ (by decide) (by decide)]; exact p6 j (by omega)
            rw [src] at e4
            refine ih (j + 1) σ4 (by omega) (by rw [e4]; exact hF.si ⟨rfl, by omega, by omega⟩) (fun i hi => ?_)
            rw [e4]
            by_cases v : i = j
            · subst v; exact gI_sI_s _ _ _ _
            · rw [gI_sI_n (Or.inr (by omega))]; exact h27 i (by omega)
        exact loop m.length 0 ρ (by omega) Fs.rf (fun i hi => absurd hi (Nat.not_lt_zero i))
    · -- a string
      rw [gI_sI_n (Or.inl (by decide)), q10] at e2
      rw [e2] at e3
      have gi : ∀ p kk, gI σ3 p kk = if p = 22 ∧ kk = 4000 + D.length then nI (dX F k).length else if p = 21 ∧ kk = 4000 + D.length then nI (cc D + (nm.getD []).length) else gI σ1 p kk := fun p kk => by rw [e3]; simp only [gI_sI]
      have gl3 : ∀ p kk, gL σ3 p kk = gL σ1 p kk := fun p kk => by rw [e3]; rfl
      have F3 : Fg MMk σ σ3 := by rw [e3]; exact (F1.si (mq (by omega) (by omega) hn)).si (mq (by omega) (by omega) hn)
      clear e3
      have isrc : 500 * s + k ≠ 4000 + D.length := by omega
      have g3 : ∀ p kk, kk ≠ 4000 + D.length → gI σ3 p kk = gI σ1 p kk := fun p kk h => by rw [gi, if_neg (fun z => h z.2), if_neg (fun z => h z.2)]
      have g3p : ∀ p kk, p ≠ 21 → p ≠ 22 → gI σ3 p kk = gI σ1 p kk := fun p kk h1 h2 => by rw [gi, if_neg (fun z => h2 z.1), if_neg (fun z => h1 z.1)]
      have hnl := bls_len (nm.getD [])
      have L3 : LyM σ3 (cc D + (nm.getD []).length) (bts D + bls (nm.getD [])) := ⟨by rw [g3p 10 8 (by decide) (by decide)]; exact e10, by rw [g3p 11 8 (by decide) (by decide)]; exact e11, by rw [g3p 0 39 (by decide) (by decide)]; exact h390, by omega, hbn⟩
      let Q : Option Value → S_t → Prop := fun q σ' => q = none ∧ (Fg MMk σ σ' ∧ MoB σ' (adR (some D) (likR F k e nm)))
      have src : ∀ {τ : S_t} {j : Nat}, Fg MLy σ3 τ → j < (dX F k).length → gI τ 22 (500 * s + k) = nI (dX F k).length ∧ gI τ 21 (500 * s + k) = nI tb' ∧ gI τ 26 (4000 * s + (tb' + j)) = nI (gA (dX F k) j) := fun {τ j} hF hj => ⟨by rw [hF.1 22 _ (by unfold MLy; omega), g3 22 _ isrc]; exact q10, by rw [hF.1 21 _ (by unfold MLy; omega), g3 21 _ isrc]; exact q11, by rw [hF.1 26 _ (by unfold MLy; omega), g3p 26 _ (by decide) (by decide)]; exact q13 j hj⟩
      have x26 : ∀ j, (4000 : Int32) * nI s + nI tb' + nI j = nI (4000 * s + (tb' + j)) := fun j => by rw [ix4000, nI_add]; congr 1; omega
      have e22 : ∀ {τ : S_t}, Fg MLy σ3 τ → gI τ 22 (500 * s + k) = nI (dX F k).length := fun {τ} hF => by rw [hF.1 22 _ (by unfold MLy; omega), g3 22 _ isrc]; exact q10
      have full : 4000 < bts D + rBt (likR F k e nm) → ∀ (w j : Nat) (τ : S_t), j + w = (dX F k).length → Fg MLy σ3 τ → gI τ 0 39 = 1 → JE E (d + 3) m_Mo_makeLike 85 [(0, pv E 0), (1, .int (nI s)), (6, .int (nI (dK F k))), (7, .int (nI (4000 + D.length))), (8, .int (nI (500 * s + k))), (9, .int (nI j))] [] τ Q := by
        intro h4' w
        induction w with
        | zero =>
          intro j τ hj hF h1
          have : j = (dX F k).length := by omega
          subst this
          refine b_Mo_makeLike_85 ?_
          rw [nI_clamp (show 500 * s + k < 2 ^ 31 by omega), e22 hF]
          refine ⟨iF, fun _ => b_Mo_makeLike_128 ⟨fun _ => ⟨rfl, F3.tr (hF.mono (fun _ _ z => ML_MM z)), by rw [adR_no (Or.inr h4')]; exact h1⟩, fun y => absurd y (by rw [z]; decide)⟩, fun q => absurd (Int32.le_refl _) q⟩
        | succ w ih =>
          intro j τ hj hF h1
          have hjs : j < (dX F k).length := by omega
          have hl := hlsX j hjs
          obtain ⟨u1, u2, u3⟩ := src hF hjs
          refine b_Mo_makeLike_85 ?_
          rw [nI_clamp (show 500 * s + k < 2 ^ 31 by omega), u1, u2, x26, nI_clamp (show 4000 * s + (tb' + j) < 2 ^ 31 by omega), u3, nI_1]
          exact ⟨iF, fun q => absurd q (nI_ge hjs (by omega)), fun _ => ⟨iF, vin (by omega) (by decide), (c_lay1 (by unfold Ltr at hl; omega) h1).mono (fun σ5 hq => ih (j + 1) σ5 (by omega) (hF.tr hq.1) hq.2)⟩⟩
      have loop : ∀ (w j : Nat) (τ : S_t), j + w = (dX F k).length → Fg MLy σ3 τ → LyM τ (cc D + (nm.getD []).length + j) (bts D + bls (nm.getD []) + bls ((dX F k).take j)) → (∀ i, i < j → gI τ 26 (32000 + (cc D + (nm.getD []).length + i)) = nI (gA (dX F k) i)) → (∀ i, i < cc D + (nm.getD []).length → gI τ 26 (32000 + i) = gI σ1 26 (32000 + i)) → JE E (d + 3) m_Mo_makeLike 85 [(0, pv E 0), (1, .int (nI s)), (6, .int (nI (dK F k))), (7, .int (nI (4000 + D.length))), (8, .int (nI (500 * s + k))), (9, .int (nI j))] [] τ Q := by
        intro w
        induction w with
        | zero =>
          intro j τ hj hF hL hS hlow
          have : j = (dX F k).length := by omega
          subst this
          rw [List.take_length] at hL
          refine b_Mo_makeLike_85 ?_
          rw [nI_clamp (show 500 * s + k < 2 ^ 31 by omega), e22 hF]
          refine ⟨iF, fun _ => b_Mo_makeLike_128 ⟨fun _ => ⟨rfl, F3.tr (hF.mono (fun _ _ z => ML_MM z)), ?_⟩, fun y => absurd y (by rw [z]; decide)⟩, fun q => absurd (Int32.le_refl _) q⟩
          have hb2' : bts D + rBt (likR F k e nm) ≤ 4000 := by have := hL.2.2.2.2; rw [hb2]; omega
          have hW2 := WfR_push hW hO fit hnN hn hb2'
          rw [adR_yes hn hb2']
          have ct : ∀ p kk, (p ≠ 10 ∧ p ≠ 11 ∧ p ≠ 26 ∧ p ≠ 0) → gI τ p kk = gI σ3 p kk := fun p kk h => hF.1 p kk (by unfold MLy; omega)
          have cp : ∀ p kk, (p ≠ 10 ∧ p ≠ 11 ∧ p ≠ 26 ∧ p ≠ 0) → p ≠ 21 → p ≠ 22 → gI τ p kk = gI σ1 p kk := fun p kk h h1 h2 => by rw [ct p kk h, g3p p kk h1 h2]
          have cL : ∀ kk, gL τ 25 kk = gL σ1 25 kk := fun kk => by rw [hF.2.1 25 kk (by unfold MLy; omega), gl3]
          refine ⟨hL.2.2.1, MoR_iff.mpr ⟨?_, pm, ?_⟩, OpA_last (r := (dK F k, e, nm, [], 0)) rfl (fun e' => cp 28 e' (by decide) (by decide) (by decide)) O1, hW2⟩
          · refine MoA_last A1 rfl (by rw [hc1, hc2]; omega) (cp 9 8 (by decide) (by decide) (by decide)) ?_ ?_ (fun kk hkk => ⟨fun p h1 h2 => ?_, cL _⟩) (fun i hi => ?_) ?_
            · rw [hL.1, hc2]; congr 1; omega
            · rw [hL.2.1, hb2]; congr 1; omega
            · rw [ct p _ (by omega), g3 p _ (by omega)]
            · rw [cc_app, hc1] at hi; exact hlow i hi
            · unfold MoRowA
              rw [dK_n, dX_n, dB_n, dN_n, nam_n, eT, lenR]
              refine ⟨?_, ?_, ?_, ?_, ?_, ?_, ?_, ?_, ⟨ta, ?_, ?_, fun i hi => ?_⟩, ?_, ⟨cc D + (nm.getD []).length, ?_, ?_, fun i hi => ?_⟩⟩
              · rw [cp 13 _ (by decide) (by decide) (by decide)]; exact t1
              · rw [cp 14 _ (by decide) (by decide) (by decide)]; exact t2
              · rw [cp 15 _ (by decide) (by decide) (by decide)]; exact t3
              · rw [cp 16 _ (by decide) (by decide) (by decide)]; exact t4
              · rw [cp 17 _ (by decide) (by decide) (by decide)]; exact t5
              · rw [cp 18 _ (by decide) (by decide) (by decide)]; exact t6
              · rw [cL, t7, dB_n]
                show lN 0 = lN (dB F k)
                rw [hok.2.2.2.2.1 (by omega)]
              · rw [cp 20 _ (by decide) (by decide) (by decide)]; exact t8
              · rw [cp 19 _ (by decide) (by decide) (by decide)]; exact t9
              · rw [cc_app] at t9' ⊢; rw [hc1] at t9'; rw [hc2]; have : ta + (nm.getD []).length ≤ cc D + (nm.getD []).length := t9'; show ta + (nm.getD []).length ≤ _; omega
              · have t9a : ta + (nm.getD []).length ≤ cc D + (nm.getD []).length := by
                  have := t9'
                  rw [cc_app, hc1] at this
                  exact this
                have hi' : i < (nm.getD []).length := hi
                show gI τ 26 (32000 + (ta + i)) = _
                rw [hlow _ (by omega)]; exact t9'' i hi
              · rw [ct 22 _ (by decide), gi, if_pos ⟨rfl, rfl⟩]; rfl
              · rw [ct 21 _ (by decide), gi, if_neg (fun y => absurd y.1 (by decide)), if_pos ⟨rfl, rfl⟩]
              · rw [cc_app, hc2]; show _ + (dX F k).length ≤ _; omega
              · show gI τ 26 (32000 + (cc D + (nm.getD []).length + i)) = _
                exact hS i hi
          · refine MoP_push hP (by rw [cp 12 8 (by decide) (by decide) (by decide), e12]; exact hP.1) (Nat.le_refl _) (by have := hP.2.1; omega) (fun kk hkk => ⟨?_, ?_⟩) (fun i _ => by rw [cp 27 _ (by decide) (by decide) (by decide)]; exact e27 _) ⟨fun _ => ?_, fun w' => ?_⟩
            · rw [cp 23 _ (by decide) (by decide) (by decide)]; exact (eP kk hkk).1
            · rw [cp 24 _ (by decide) (by decide) (by decide)]; exact (eP kk hkk).2
            · rw [cp 24 _ (by decide) (by decide) (by decide)]; exact e24
            · rw [dK_n] at w'
              have : dK F k = 3 := w'
              omega
        | succ w ih =>
          intro j τ hj hF hL hS hlow
          have hjs : j < (dX F k).length := by omega
          have hl := hlsX j hjs
          have hbt := bls_take_succ hjs
          have hbl := bls_take_le (dX F k) (j + 1)
          obtain ⟨u1, u2, u3⟩ := src hF hjs
          refine b_Mo_makeLike_85 ?_
          rw [nI_clamp (show 500 * s + k < 2 ^ 31 by omega), u1, u2, x26, nI_clamp (show 4000 * s + (tb' + j) < 2 ^ 31 by omega), u3, nI_1]
          refine ⟨iF, fun q => absurd q (nI_ge hjs (by omega)), fun _ => ⟨iF, vin (by omega) (by decide), (c_lay (by unfold Ltr at hl; omega) hL).mono (fun σ5 hq => ?_)⟩⟩
          rcases hq with ⟨g, rfl⟩ | ⟨g, F5, L5, n5', o5⟩
          · exact full (by rw [hb2]; omega) w (j + 1) _ (by omega) (hF.si (Or.inr (Or.inr ⟨rfl, rfl⟩))) (gI_sI_s _ _ _ _)
          · refine ih (j + 1) σ5 (by omega) (hF.tr F5) (by rw [show bts D + bls (nm.getD []) + bls ((dX F k).take (j + 1)) = bts D + bls (nm.getD []) + bls ((dX F k).take j) + bl (gA (dX F k) j) by omega]; exact L5) (fun i hi => ?_) (fun i hi => ?_)
            · by_cases y : i = j
              · subst y; exact n5'
              · rw [o5 _ (by omega)]; exact hS i (by omega)
            · rw [o5 _ (by omega)]; exact hlow i hi
      exact loop (dX F k).length 0 σ3 (by omega) Fg.rf L3 (fun i hi => absurd hi (Nat.not_lt_zero i)) (fun i _ => g3p 26 _ (by decide) (by decide))
