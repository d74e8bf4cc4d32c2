/-- a level of the model's patching -/
def LqP (E : En_t) (σ : S_t) (L R : List Row) (sm : Nat → Nat → Bool) (s s' d : Nat) (x3 : Int32) (Q : Option Value → S_t → Prop) (n : Nat) : Prop := ∀ (st : Wst) (a ea b eb e : Nat) (x : Int32) (τ : S_t), e ≤ 29 → MdI σ τ st.1 → Rg L a ea (e + 1) → Rg R b eb (e + 1) → OwQ st.1 x (e + 1) → MdS τ L R e a ea b eb → (ea - a) + (eb - b) ≤ n → (∀ τ', MdI σ τ' (wlk true L R sm n st a ea b eb (e + 1)).1 → gI τ' 47 e = 0 → gI τ' 48 e = 0 → (∀ p k, 45 ≤ p → p ≤ 48 → k < e → gI τ' p k = gI τ p k) → JE E (d + 5) m_Mo_patch 93 [(0, pv E 0), (1, .int (nI s)), (2, .int (nI s')), (3, .int x3), (4, .int (bo (wlk true L R sm n st a ea b eb (e + 1)).2)), (5, .int (nI e))] [] τ' Q) → JE E (d + 5) m_Mo_patch 93 [(0, pv E 0), (1, .int (nI s)), (2, .int (nI s')), (3, .int x3), (4, .int (bo st.2)), (5, .int (nI e))] [] τ Q
theorem Lq_all {E : En_t} {σ : S_t} {L R : List Row} {sm : Nat → Nat → Bool} {s s' d : Nat} {x3 : Int32} {Q : Option Value → S_t → Prop} (hC : MdC σ L R s s') (hsm : ∀ i j, sm i j = true ↔ sameS L i R j) : ∀ n, LqP E σ L R sm s s' d x3 Q n := by
  intro n
  induction n with
  | zero =>
    intro st a ea b eb e x τ he hI gL gR hO hS hn kk
    obtain ⟨⟨hs, hs'⟩, wL, wR, mL, mR⟩ := MdC_at hC hI.1
    obtain ⟨z1, z2⟩ := MdS_0 wL wR gL gR hS
    have g1 := gL.1
    have g2 := gR.1
    exact kk τ hI (z1.mpr (by omega)) (z2.mpr (by omega)) (fun _ _ _ _ _ => rfl)
  | succ n ih =>
    intro st a ea b eb e x τ he hI gL gR hO hS hn kk
    have hCt := MdC_at hC hI.1
    obtain ⟨⟨hs, hs'⟩, wL, wR, mL, mR⟩ := id hCt
    obtain ⟨z1, z2⟩ := MdS_0 wL wR gL gR hS
    have g1 := gL.1
    have g2 := gR.1
    have g3 := gL.2.1
    have g4 := gR.2.1
    have n5 := wR.2.2.2.2.1
    have m5 := wL.2.2.2.2.1
    have ce : (nI e).toNatClampNeg = e := nI_clamp (by omega)
    have ve : vp_in (nI e) 40 := vin (by omega) (by decide)
    have kk' : ∀ τ', MdI σ τ' (wkS true L R sm (wlk true L R sm n) st a ea b eb (e + 1)).1 → gI τ' 47 e = 0 → gI τ' 48 e = 0 → (∀ p k, 45 ≤ p → p ≤ 48 → k < e → gI τ' p k = gI τ p k) → JE E (d + 5) m_Mo_patch 93 [(0, pv E 0), (1, .int (nI s)), (2, .int (nI s')), (3, .int x3), (4, .int (bo (wkS true L R sm (wlk true L R sm n) st a ea b eb (e + 1)).2)), (5, .int (nI e))] [] τ' Q := kk
    by_cases hend : ea ≤ a ∧ eb ≤ b
    · have eq : wkS true L R sm (wlk true L R sm n) st a ea b eb (e + 1) = st := if_pos hend
      rw [eq] at kk'
      exact kk' τ hI (z1.mpr hend.1) (z2.mpr hend.2) (fun _ _ _ _ _ => rfl)
    -- once the parts are taken
    have at230 : ∀ (lx ly : Option Nat) (a' b' : Nat) (τ1 : S_t), Cs L R a ea b eb lx ly a' b' → Fg (PlC e) τ τ1 → MdS τ1 L R e a' ea b' eb → JE E (d + 5) m_Mo_patch 230 [(0, pv E 0), (1, .int (nI s)), (2, .int (nI s')), (3, .int x3), (4, .int (bo st.2)), (5, .int (nI e)), (7, .int (oI lx)), (8, .int (oI ly))] [] τ1 Q := by
      intro lx ly a' b' τ1 hCs hF1 hS1
      obtain ⟨k1, k2, k3, k4, k5⟩ := Cs_wk (P := true) (sm := sm) (f := wlk true L R sm n) (st := st) wL wR gL gR hend hCs
      have hI1 := MdI_pl hI hF1
      obtain ⟨_, _, _, mL1, mR1⟩ := MdC_at hC hI1.1
      have pl1 : ∀ p k, 45 ≤ p → p ≤ 48 → k < e → gI τ1 p k = gI τ p k := fun p k h1 h2 h3 => hF1.1 p k (fun z => by have := z.2; omega)
      -- the level goes on
      have goOn : ∀ (st' : Wst) (τ2 : S_t), MdI σ τ2 st'.1 → ExS (e + 1) st.1 st'.1 → (∀ p k, 45 ≤ p → p ≤ 48 → k ≤ e → gI τ2 p k = gI τ1 p k) → wkS true L R sm (wlk true L R sm n) st a ea b eb (e + 1) = wlk true L R sm n st' a' ea b' eb (e + 1) → JE E (d + 5) m_Mo_patch 93 [(0, pv E 0), (1, .int (nI s)), (2, .int (nI s')), (3, .int x3), (4, .int (bo st'.2)), (5, .int (nI e))] [] τ2 Q := by
        intro st' τ2 hI2 hx pl2 eq
        rw [eq] at kk'
        refine ih st' a' ea b' eb e x τ2 he hI2 k1 k2 (OwQ_ext hO hx) ?_ (by omega) (fun τ3 i3 q47 q48 pl3 => kk' τ3 i3 q47 q48 (fun p k h1 h2 h3 => ((pl3 p k h1 h2 h3).trans (pl2 p k h1 h2 (by omega))).trans (pl1 p k h1 h2 h3)))
        unfold MdS
        rw [pl2 47 e (by decide) (by decide) (Nat.le_refl _), pl2 48 e (by decide) (by decide) (Nat.le_refl _), pl2 45 e (by decide) (by decide) (Nat.le_refl _), pl2 46 e (by decide) (by decide) (Nat.le_refl _)]
        exact hS1
      have mk : ∀ {τ2 : S_t}, Fg MMk τ1 τ2 → ∀ p k, 45 ≤ p → p ≤ 48 → gI τ2 p k = gI τ1 p k := fun hF p k h1 h2 => hF.1 p k (by unfold MMk MoC; omega)
      cases ly with
      | none =>
        obtain ⟨rfl, a1, a3, a4, eq⟩ := k4 rfl
        have a30 := (wL.2.1 a a1).2.1
        have hst : stLf true L st a (e + 1) = (adR st.1 (0, e + 1, dN L a, [], 0), st.2) := if_pos rfl
        refine b_Mo_patch_230 ⟨fun q => absurd q (by decide), fun _ => ?_⟩
        rw [nI_1]
        refine (m_named (d := d + 1) (K := 0) (e := e + 1) (nm := dN L a) hs hI1.2 wL mL1 a1 (Or.inl rfl) (OwQ_S hO (by rw [a4]; exact fun z => by cases z)) (by omega) (fun z => absurd z (by decide)) (fun z => absurd z (by decide)) (fun _ => ⟨a4, a4⟩)).mono (fun σ6 hq => b_Mo_patch_426 (goOn (adR st.1 (0, e + 1, dN L a, [], 0), st.2) σ6 ⟨hI1.1.tr (hq.1.mono (fun _ _ z => Or.inl z)), hq.2⟩ (ExS_ad (Nat.le_refl _)) (fun p k h1 h2 _ => mk hq.1 p k h1 h2) (by rw [eq, hst])))
      | some y =>
        obtain ⟨b1, b0, b3, b4, hl, hfu, eq⟩ := k5 y rfl
        have ok := wR.2.1 y b1
        have y6 := ok.1
        have y30 := ok.2.1
        have y29 := ok.2.2.1
        have ny : dN R y ≠ none := by rw [b4]; exact fun z => by cases z
        have ys := (siz_spec (f := dT R) (n := R.length) b1).1
        obtain ⟨_, _, _, pmR, _, _, rowsR⟩ := id mR1
        have yrow := (rowsR y b1).1
        have one : ∀ {c : Bool}, ¬ bo c = 0 → c = true := fun {c} q => by
          cases c with
          | false => exact absurd rfl q
          | true => rfl
        -- a copy of the right
        have cpy : (dK R y ≠ 6 ∨ (true = true ∧ obO L lx = false)) → wnt true R sm lx y = true → CV E (d + 4) m_Mo_copy [pv E 0, .int (nI s'), .int (nI y), .int (nI (e + 1)), .int (1 : Int32)] τ1 (fun σ6 => ∀ v, v = bo (st.2 || nl R y) → JE E (d + 5) m_Mo_patch 93 [(0, pv E 0), (1, .int (nI s)), (2, .int (nI s')), (3, .int x3), (4, .int v), (5, .int (nI e))] [] σ6 Q) := by
          intro hc hwn
          have hst : stRt true L R sm (wlk true L R sm n) st lx y (e + 1) = (cpS st.1 R y (e + 1) (dN R y), st.2 || (true && nl R y)) := by
            unfold stRt
            rw [if_pos hwn]
            unfold wvv
            rw [if_pos hc]
          refine (c_copy (d := d) hs' hI1.2 wR mR1 b1 (by omega) (OwQ_S hO ny) (fun z => absurd z (by decide)) (fun _ => rfl)).mono (fun σ6 hq v hv => ?_)
          rw [hv]
          exact goOn (cpS st.1 R y (e + 1) (dN R y), st.2 || (true && nl R y)) σ6 ⟨hI1.1.tr (hq.1.mono (fun _ _ z => Or.inl z)), hq.2⟩ ExS_cp (fun p k h1 h2 _ => mk hq.1 p k h1 h2) (by rw [eq, hst])
        have at412 : (dK R y ≠ 6 ∨ (true = true ∧ obO L lx = false)) → wnt true R sm lx y = true → ∀ v, v = bo (st.2 || nl R y) → JE E (d + 5) m_Mo_patch 412 [(0, pv E 0), (1, .int (nI s)), (2, .int (nI s')), (3, .int x3), (5, .int (nI e)), (8, .int (nI y))] [.int v] τ1 Q := by
          intro hc hwn v hv
          refine b_Mo_patch_412 ?_
          rw [nI_1]
          exact (cpy hc hwn).mono (fun σ6 hq => b_Mo_patch_426 (hq v hv))
        have at376 : (dK R y ≠ 6 ∨ (true = true ∧ obO L lx = false)) → wnt true R sm lx y = true → JE E (d + 5) m_Mo_patch 376 [(0, pv E 0), (1, .int (nI s)), (2, .int (nI s')), (3, .int x3), (4, .int (bo st.2)), (5, .int (nI e)), (8, .int (nI y))] [] τ1 Q := by
          intro hc hwn
          have f := at412 hc hwn
          refine b_Mo_patch_376 ?_
          rw [ix500, nI_clamp (show 500 * s' + y < 2 ^ 31 by omega), yrow]
          refine ⟨fun q => b_Mo_patch_407 (f 1 ?_), fun q => ⟨vin (by omega) (by decide), fun q2 => b_Mo_patch_407 (f 1 ?_), fun q2 => (c_hasNullM hs' wR mR1 b1 (Or.inl (fun z => q2 (by rw [z]; rfl)))).mono (fun v σ2 hq => ?_)⟩⟩
          · rw [one q]; rfl
          · have y0 : dK R y = 0 := (nI_is0 _ (by omega)).mp q2
            have : nl R y = true := by
              unfold nl
              obtain ⟨m, hm⟩ : ∃ m, siz (dT R) R.length y = m + 1 := ⟨siz (dT R) R.length y - 1, by omega⟩
              rw [hm]
              exact nlW_yes (by omega) y0 b0
            rw [this, Bool.or_true]; rfl
          · obtain ⟨rfl, rfl⟩ := hq
            refine ⟨fun z => f 0 ?_, fun z => b_Mo_patch_407 (f 1 ?_)⟩
            · rw [bo_0.mp q, bo_0.mp z]; rfl
            · rw [one z, Bool.or_true]; rfl
        have at297 : dK R y = 6 → (lx = none ∨ obO L lx = true) → wnt true R sm lx y = true → JE E (d + 5) m_Mo_patch 297 [(0, pv E 0), (1, .int (nI s)), (2, .int (nI s')), (3, .int x3), (4, .int (bo st.2)), (5, .int (nI e)), (7, .int (oI lx)), (8, .int (nI y))] [] τ1 Q := by
          intro h6 hlx hwn
          have e28 := y29 (by omega)
          cases lx with
          | none =>
            have f : ∀ v, v = bo (st.2 || nl R y) → JE E (d + 5) m_Mo_patch 322 [(0, pv E 0), (1, .int (nI s)), (2, .int (nI s')), (3, .int x3), (5, .int (nI e)), (7, .int (oI none)), (8, .int (nI y))] [.int v] τ1 Q := by
              intro v hv
              refine b_Mo_patch_322 ⟨fun z => absurd z (by decide), fun _ => ?_⟩
              rw [nI_1]
              exact (cpy (Or.inr ⟨rfl, rfl⟩) hwn).mono (fun σ6 hq => hq v hv)
            refine b_Mo_patch_297 ⟨fun q => b_Mo_patch_317 (f 1 ?_), fun q => ⟨fun z => absurd z (by decide), fun _ => (c_hasNullM hs' wR mR1 b1 (Or.inl (by omega))).mono (fun v σ2 hq => ?_)⟩⟩
            · rw [one q]; rfl
            · obtain ⟨rfl, rfl⟩ := hq
              refine ⟨fun z => b_Mo_patch_321 (f 0 ?_), fun z => b_Mo_patch_317 (f 1 ?_)⟩
              · rw [bo_0.mp q, bo_0.mp z]; rfl
              · rw [one z, Bool.or_true]; rfl
          | some i =>
            have ho : obO L (some i) = true := hlx.resolve_left (fun z => by cases z)
            obtain ⟨hi, _⟩ := hl i rfl
            have i0 : (0 : Int32) ≤ oI (some i) := nI_le (a := 0) (Nat.zero_le i) (by omega)
            have hst : stRt true L R sm (wlk true L R sm n) st (some i) y (e + 1) = wlk true L R sm n (adR st.1 (likR R y (e + 1) (dN R y)), st.2) (lA L (some i)) (lE L (some i)) (y + 1) (y + siz (dT R) R.length y) (e + 1 + 1) := by
              unfold stRt
              rw [if_pos hwn]
              unfold wvv
              rw [if_neg (by rintro (w | w); exact w h6; rw [ho] at w; exact absurd w.2 (by decide))]
            have f : JE E (d + 5) m_Mo_patch 322 [(0, pv E 0), (1, .int (nI s)), (2, .int (nI s')), (3, .int x3), (5, .int (nI e)), (7, .int (oI (some i))), (8, .int (nI y))] [.int (bo st.2)] τ1 Q := by
              refine b_Mo_patch_322 ⟨fun _ => ?_, fun z => absurd i0 z⟩
              rw [nI_1]
              refine (m_named (d := d + 1) (K := 6) (e := e + 1) (nm := dN R y) hs' hI1.2 wR mR1 b1 (Or.inr rfl) (OwQ_S hO ny) (by omega) (fun _ => by omega) (fun z => absurd z (by decide)) (fun _ => ⟨b4, b4⟩)).mono (fun σ4 hq => ?_)
              have hI4 : MdI σ σ4 (adR st.1 (likR R y (e + 1) (dN R y))) := ⟨hI1.1.tr (hq.1.mono (fun _ _ z => Or.inl z)), by rw [likR_obj wR b1 h6]; exact hq.2⟩
              refine (m_openPair (d := d + 3) (MdC_at hC hI4.1) (by omega) hl b1 b3 h6).mono (fun σ5 hq5 => b_Mo_patch_426 ?_)
              have hI5 := MdI_pl hI4 hq5.1
              obtain ⟨v, hv⟩ := OwQ_ad (S := st.1) (r := likR R y (e + 1) (dN R y)) (e := e + 1) h6 rfl
              refine ih (adR st.1 (likR R y (e + 1) (dN R y)), st.2) _ _ _ _ (e + 1) v σ5 (by omega) hI5 (Rg_l wL hl).1 (Rg_open wR b1 b3 h6).1 hv hq5.2 (by omega) (fun τ3 i3 q47 q48 pl3 => ?_)
              have ce1 : (nI (e + 1)).toNatClampNeg = e + 1 := nI_clamp (by omega)
              have ve1 : vp_in (nI (e + 1)) 40 := vin (by omega) (by decide)
              refine b_Mo_patch_93 ⟨fun z => absurd z (nI_nn (by omega)), fun _ => ⟨ve1, fun z => absurd (by rw [ce1]; exact q47) z, fun _ => ⟨ve1, fun z => absurd (by rw [ce1]; exact q48) z, fun _ => ?_⟩⟩⟩
              rw [nI_dec]
              refine goOn _ τ3 i3 ?_ (fun p k h1 h2 h3 => ((pl3 p k h1 h2 (by omega)).trans (hq5.1.1 p k (fun z => by have := z.2; omega))).trans (mk hq.1 p k h1 h2)) (by rw [eq, hst])
              have := ExS_R (P := true) (L := L) (R := R) (sm := sm) (st := st) (l := some i) (b := y) (e := e + 1) (ExS_wlk (P := true) (L := L) (R := R) (sm := sm) n)
              rw [hst] at this
              exact this
            refine b_Mo_patch_297 ⟨fun q => b_Mo_patch_317 ?_, fun q => ⟨fun _ => b_Mo_patch_321 ?_, fun z => absurd i0 z⟩⟩
            · rw [one q] at f; exact f
            · rw [bo_0.mp q] at f; exact f
        have at272 : wnt true R sm lx y = true → JE E (d + 5) m_Mo_patch 272 [(0, pv E 0), (1, .int (nI s)), (2, .int (nI s')), (3, .int x3), (4, .int (bo st.2)), (5, .int (nI e)), (7, .int (oI lx)), (8, .int (nI y))] [] τ1 Q := by
          intro hwn
          refine b_Mo_patch_272 ((m_isObject hs' wR mR1 (l := some y) (fun k hk => by cases hk; exact b1)).mono (fun v σ1 hq => ?_))
          obtain ⟨rfl, rfl⟩ := hq
          refine ⟨fun q => at376 (Or.inl (of_decide_eq_false (bo_0.mp q))) hwn, fun q => ?_⟩
          have h6 : dK R y = 6 := of_decide_eq_true (one q)
          refine ⟨fun q2 => at297 h6 ?_ hwn, fun q2 => (m_isObject hs wL mL1 (l := lx) (fun k hk => (hl k hk).1)).mono (fun v σ2 hq => ?_)⟩
          · cases lx with
            | none => exact Or.inl rfl
            | some i => exact absurd q2 (nI_nn (by have := (hl i rfl).1; omega))
          · obtain ⟨rfl, rfl⟩ := hq
            exact ⟨fun z => at376 (Or.inr ⟨rfl, bo_0.mp z⟩) hwn, fun z => at297 h6 (Or.inr (one z)) hwn⟩
        refine b_Mo_patch_230 ⟨fun _ => ⟨fun q => at272 ?_, fun q => ?_⟩, fun q => absurd (nI_le (a := 0) (Nat.zero_le y) (by omega)) q⟩
        · cases lx with
          | none => rfl
          | some i => exact absurd q (nI_nn (by have := (hl i rfl).1; omega))
        · cases lx with
          | none => exact absurd (by decide) q
          | some i =>
            have hi := (hl i rfl).1
            refine (c_isSameM (d := d + 1) (by omega) (by omega) wL wR mL1 mR1 hi b1).mono (fun v σ2 hq => ?_)
            obtain ⟨rfl, hq⟩ := hq
            rcases hq with ⟨rfl, z⟩ | ⟨rfl, z⟩
            · refine ⟨fun _ => at272 ?_, fun q => absurd rfl q⟩
              show (!(sm i y)) = true
              cases hN : sm i y with
              | false => rfl
              | true => exact absurd ((hsm i y).mp hN) z
            · refine ⟨fun q => absurd q (by decide), fun _ => ?_⟩
              have hst : stRt true L R sm (wlk true L R sm n) st (some i) y (e + 1) = st := if_neg (by show ¬ (!(sm i y)) = true; rw [(hsm i y).mpr z]; decide)
              exact goOn st σ2 hI1 ExS.rf (fun _ _ _ _ _ => rfl) (by rw [eq, hst])
    have at124 : JE E (d + 5) m_Mo_patch 124 [(0, pv E 0), (1, .int (nI s)), (2, .int (nI s')), (3, .int x3), (4, .int (bo st.2)), (5, .int (nI e))] [] τ Q := by
      refine b_Mo_patch_124 ((m_firstOf (d := d + 1) hCt (by omega) gL gR hS hend).mono (fun w σ1 hq => ?_))
      obtain ⟨hw, rfl⟩ := hq
      rw [ce]
      rcases hw with ⟨w0, ha, hc⟩ | ⟨w0, hb, hn', hc⟩ | ⟨w0, ha, hb, hn', hc⟩
      · have wn : ¬ 0 < w := fun z => Int32.lt_irrefl (Int32.lt_trans w0 z)
        obtain ⟨a1, _⟩ := Rg_in wL gL ha
        refine ⟨fun z => absurd z wn, fun _ => ⟨ve, b_Mo_patch_150 ⟨fun _ => b_Mo_patch_168 ?_, fun z => absurd w0 z⟩⟩⟩
        rw [hS.2.2.1 ha]
        refine ⟨fun z => absurd z (nI_nn (by omega)), fun _ => (m_nextOf hs wL mL a1).mono (fun v σ2 hq => ⟨ve, ve, ve, b_Mo_patch_200 ⟨fun _ => ?_, fun z => absurd (by decide) z⟩⟩)⟩
        obtain ⟨rfl, rfl⟩ := hq
        rw [ce]
        exact at230 (some a) none _ _ _ (Or.inl ⟨rfl, rfl, rfl, rfl, ha, hc⟩) (PlC_2 (by decide) (by decide)) (MdS_L wL gL ha hS)
      · have wn : ¬ w < 0 := fun z => Int32.lt_irrefl (Int32.lt_trans w0 z)
        obtain ⟨b1, _⟩ := Rg_in wR gR hb
        refine ⟨fun _ => b_Mo_patch_150 ⟨fun z => absurd z wn, fun _ => ⟨ve, b_Mo_patch_168 ⟨fun _ => b_Mo_patch_200 ?_, fun z => absurd (by decide) z⟩⟩⟩, fun z => absurd w0 z⟩
        rw [ce, hS.2.2.2 hb]
        refine ⟨fun z => absurd z (nI_nn (by omega)), fun _ => (m_nextOf hs' wR mR b1).mono (fun v σ2 hq => ⟨ve, ve, ve, ?_⟩)⟩
        obtain ⟨rfl, rfl⟩ := hq
        exact at230 none (some b) _ _ _ (Or.inr (Or.inl ⟨rfl, rfl, rfl, rfl, hb, hn', hc⟩)) (PlC_2 (by decide) (by decide)) (MdS_R wR gR hb hS)
      · subst w0
        obtain ⟨a1, _⟩ := Rg_in wL gL ha
        obtain ⟨b1, _⟩ := Rg_in wR gR hb
        refine ⟨fun z => absurd z (by decide), fun _ => ⟨ve, b_Mo_patch_150 ⟨fun z => absurd z (by decide), fun _ => ⟨ve, b_Mo_patch_168 ?_⟩⟩⟩⟩
        rw [ce, hS.2.2.1 ha, hS.2.2.2 hb]
        refine ⟨fun z => absurd z (nI_nn (by omega)), fun _ => (m_nextOf hs wL mL a1).mono (fun v σ2 hq => ⟨ve, ve, ve, b_Mo_patch_200 ⟨fun z => absurd z (nI_nn (by omega)), fun _ => ?_⟩⟩)⟩
        obtain ⟨rfl, rfl⟩ := hq
        rw [ce]
        have hS2 := MdS_L wL gL ha hS
        have F2 := PlC_2 (τ := σ2) (e := e) (p := 45) (q := 47) (v := nI (a + siz (dT L) L.length a)) (w := gI (sI σ2 45 e (nI (a + siz (dT L) L.length a))) 47 e - 1) (by decide) (by decide)
        generalize sI (sI σ2 45 e (nI (a + siz (dT L) L.length a))) 47 e (gI (sI σ2 45 e (nI (a + siz (dT L) L.length a))) 47 e - 1) = τ2 at hS2 F2 ⊢
        obtain ⟨_, _, _, _, mR2⟩ := MdC_at hC (MdI_pl hI F2).1
        refine (m_nextOf hs' wR mR2 b1).mono (fun v σ3 hq => ⟨ve, ve, ve, ?_⟩)
        obtain ⟨rfl, rfl⟩ := hq
        exact at230 (some a) (some b) _ _ _ (Or.inr (Or.inr ⟨rfl, rfl, rfl, rfl, ha, hb, hn', hc⟩)) (F2.tr (PlC_2 (by decide) (by decide))) (MdS_R wR gR hb hS2)
    refine b_Mo_patch_93 ⟨fun z => absurd z (nI_nn (by omega)), fun _ => ⟨ve, fun _ => at124, fun q => ⟨ve, fun _ => at124, fun q2 => ?_⟩⟩⟩
    rw [ce] at q q2
    exact absurd ⟨z1.mp q, z2.mp q2⟩ hend
