/-- a level of the model's merging -/
def LmP (E : En_t) (σ : S_t) (L R : List Row) (sm : Nat → Nat → Bool) (s s' d : Nat) (x3 : Int32) (Q : Option Value → S_t → Prop) (n : Nat) : Prop := ∀ (st : Wst) (a ea b eb e : Nat) (x : Int32) (τ : S_t), e ≤ 29 → MdI σ τ st.1 → Rg L a ea (e + 1) → Rg R b eb (e + 1) → OwQ st.1 x (e + 1) → MdS τ L R e a ea b eb → (ea - a) + (eb - b) ≤ n → (∀ τ', MdI σ τ' (wlk false L R sm n st a ea b eb (e + 1)).1 → gI τ' 47 e = 0 → gI τ' 48 e = 0 → (∀ p k, 45 ≤ p → p ≤ 48 → k < e → gI τ' p k = gI τ p k) → JE E (d + 5) m_Mo_merge 73 [(0, pv E 0), (1, .int (nI s)), (2, .int (nI s')), (3, .int x3), (4, .int (nI e))] [] τ' Q) → JE E (d + 5) m_Mo_merge 73 [(0, pv E 0), (1, .int (nI s)), (2, .int (nI s')), (3, .int x3), (4, .int (nI e))] [] τ Q
theorem Lm_all {E : En_t} {σ : S_t} {L R : List Row} {sm : Nat → Nat → Bool} {s s' d : Nat} {x3 : Int32} {Q : Option Value → S_t → Prop} (hC : MdC σ L R s s') : ∀ n, LmP E σ L R sm s s' d x3 Q n := by
  intro n
  induction n with
  | zero =>
    intro st a ea b eb e x τ he hI gL gR hO hS hn kk
    obtain ⟨⟨hs, hs'⟩, wL, wR, mL, mR⟩ := MdC_at hC hI.1
    obtain ⟨z1, z2⟩ := MdS_0 wL wR gL gR hS
    have g1 := gL.1
    have g2 := gR.1
    exact kk τ hI (z1.mpr (by omega)) (z2.mpr (by omega)) (fun _ _ _ _ _ => rfl)
  | succ n ih =>
    intro st a ea b eb e x τ he hI gL gR hO hS hn kk
    have hCt := MdC_at hC hI.1
    obtain ⟨⟨hs, hs'⟩, wL, wR, mL, mR⟩ := id hCt
    obtain ⟨z1, z2⟩ := MdS_0 wL wR gL gR hS
    have g1 := gL.1
    have g2 := gR.1
    have g3 := gL.2.1
    have g4 := gR.2.1
    have n5 := wR.2.2.2.2.1
    have m5 := wL.2.2.2.2.1
    have ce : (nI e).toNatClampNeg = e := nI_clamp (by omega)
    have ve : vp_in (nI e) 40 := vin (by omega) (by decide)
    have kk' : ∀ τ', MdI σ τ' (wkS false L R sm (wlk false L R sm n) st a ea b eb (e + 1)).1 → gI τ' 47 e = 0 → gI τ' 48 e = 0 → (∀ p k, 45 ≤ p → p ≤ 48 → k < e → gI τ' p k = gI τ p k) → JE E (d + 5) m_Mo_merge 73 [(0, pv E 0), (1, .int (nI s)), (2, .int (nI s')), (3, .int x3), (4, .int (nI e))] [] τ' Q := kk
    by_cases hend : ea ≤ a ∧ eb ≤ b
    · have eq : wkS false L R sm (wlk false L R sm n) st a ea b eb (e + 1) = st := if_pos hend
      rw [eq] at kk'
      exact kk' τ hI (z1.mpr hend.1) (z2.mpr hend.2) (fun _ _ _ _ _ => rfl)
    -- once the parts are taken
    have at210 : ∀ (lx ly : Option Nat) (a' b' : Nat) (τ1 : S_t), Cs L R a ea b eb lx ly a' b' → Fg (PlC e) τ τ1 → MdS τ1 L R e a' ea b' eb → JE E (d + 5) m_Mo_merge 210 [(0, pv E 0), (1, .int (nI s)), (2, .int (nI s')), (3, .int x3), (4, .int (nI e)), (6, .int (oI lx)), (7, .int (oI ly))] [] τ1 Q := by
      intro lx ly a' b' τ1 hCs hF1 hS1
      obtain ⟨k1, k2, k3, k4, k5⟩ := Cs_wk (P := false) (sm := sm) (f := wlk false L R sm n) (st := st) wL wR gL gR hend hCs
      have hI1 := MdI_pl hI hF1
      obtain ⟨_, _, _, mL1, mR1⟩ := MdC_at hC hI1.1
      have pl1 : ∀ p k, 45 ≤ p → p ≤ 48 → k < e → gI τ1 p k = gI τ p k := fun p k h1 h2 h3 => hF1.1 p k (fun z => by have := z.2; omega)
      -- the level goes on
      have goOn : ∀ (st' : Wst) (τ2 : S_t), MdI σ τ2 st'.1 → ExS (e + 1) st.1 st'.1 → (∀ p k, 45 ≤ p → p ≤ 48 → k ≤ e → gI τ2 p k = gI τ1 p k) → (wkS false L R sm (wlk false L R sm n) st a ea b eb (e + 1)).1 = (wlk false L R sm n st' a' ea b' eb (e + 1)).1 → JE E (d + 5) m_Mo_merge 73 [(0, pv E 0), (1, .int (nI s)), (2, .int (nI s')), (3, .int x3), (4, .int (nI e))] [] τ2 Q := by
        intro st' τ2 hI2 hx pl2 eq
        rw [eq] at kk'
        refine ih st' a' ea b' eb e x τ2 he hI2 k1 k2 (OwQ_ext hO hx) ?_ (by omega) (fun τ3 i3 q47 q48 pl3 => kk' τ3 i3 q47 q48 (fun p k h1 h2 h3 => ((pl3 p k h1 h2 h3).trans (pl2 p k h1 h2 (by omega))).trans (pl1 p k h1 h2 h3)))
        unfold MdS
        rw [pl2 47 e (by decide) (by decide) (Nat.le_refl _), pl2 48 e (by decide) (by decide) (Nat.le_refl _), pl2 45 e (by decide) (by decide) (Nat.le_refl _), pl2 46 e (by decide) (by decide) (Nat.le_refl _)]
        exact hS1
      have mk : ∀ {τ2 : S_t}, Fg MMk τ1 τ2 → ∀ p k, 45 ≤ p → p ≤ 48 → gI τ2 p k = gI τ1 p k := fun hF p k h1 h2 => hF.1 p k (by unfold MMk MoC; omega)
      cases ly with
      | none =>
        obtain ⟨rfl, a1, a3, a4, eq⟩ := k4 rfl
        have hst : stLf false L st a (e + 1) = (cpS st.1 L a (e + 1) (dN L a), st.2) := if_neg (by decide)
        refine b_Mo_merge_210 ⟨fun q => absurd q (by decide), fun _ => ?_⟩
        rw [nI_1]
        refine (c_copy (d := d) hs hI1.2 wL mL1 a1 (by omega) (OwQ_S hO (by rw [a4]; exact fun z => by cases z)) (fun z => absurd z (by decide)) (fun _ => rfl)).mono (fun σ6 hq => b_Mo_merge_300 (goOn (stLf false L st a (e + 1)) σ6 ?_ ExS_L (fun p k h1 h2 _ => mk hq.1 p k h1 h2) (by rw [eq])))
        rw [hst]
        exact ⟨hI1.1.tr (hq.1.mono (fun _ _ z => Or.inl z)), hq.2⟩
      | some y =>
        obtain ⟨b1, b0, b3, b4, hl, hfu, eq⟩ := k5 y rfl
        have ok := wR.2.1 y b1
        have y6 := ok.1
        have y30 := ok.2.1
        have y29 := ok.2.2.1
        have ny : dN R y ≠ none := by rw [b4]; exact fun z => by cases z
        refine b_Mo_merge_210 ⟨fun _ => (m_isObject hs' wR mR1 (l := some y) (fun k hk => by cases hk; exact b1)).mono (fun v σ1 hq => ?_), fun q => absurd (nI_le (a := 0) (Nat.zero_le y) (by omega)) q⟩
        obtain ⟨rfl, rfl⟩ := hq
        rw [show oI (some y) = nI y from rfl, ix500, nI_clamp (show 500 * s' + y < 2 ^ 31 by omega)]
        obtain ⟨_, _, _, pmR, _, _, rowsR⟩ := id mR1
        rw [(rowsR y b1).1, nI_1]
        refine ⟨fun q => ⟨vin (by omega) (by decide), fun q2 => b_Mo_merge_300 ?_, fun q2 => ?_⟩, fun q => ?_⟩
        · have y0 : dK R y = 0 := (nI_is0 _ (by omega)).mp q2
          have hst : stRt false L R sm (wlk false L R sm n) st lx y (e + 1) = st := if_neg (by unfold wnt; rw [if_neg (by decide), y0]; decide)
          exact goOn st σ1 hI1 ExS.rf (fun _ _ _ _ _ => rfl) (by rw [eq, hst])
        · have y0 : dK R y ≠ 0 := fun z => q2 (by rw [z]; rfl)
          have yn6 : dK R y ≠ 6 := of_decide_eq_false (bo_0.mp q)
          have hst : stRt false L R sm (wlk false L R sm n) st lx y (e + 1) = (cpS st.1 R y (e + 1) (dN R y), st.2 || (false && nl R y)) := by
            unfold stRt wnt wvv
            rw [if_neg (show ¬ false = true by decide), if_pos (decide_eq_true y0), if_pos (Or.inl yn6)]
          refine (c_copy (d := d) hs' hI1.2 wR mR1 b1 (by omega) (OwQ_S hO ny) (fun z => absurd z (by decide)) (fun _ => rfl)).mono (fun σ6 hq => b_Mo_merge_300 (goOn (cpS st.1 R y (e + 1) (dN R y), st.2 || (false && nl R y)) σ6 ⟨hI1.1.tr (hq.1.mono (fun _ _ z => Or.inl z)), hq.2⟩ ExS_cp (fun p k h1 h2 _ => mk hq.1 p k h1 h2) (by rw [eq, hst])))
        · have h6 : dK R y = 6 := by
            rcases Classical.em (dK R y = 6) with z | z
            · exact z
            · exact absurd (bo_0.mpr (decide_eq_false z)) q
          have e28 := y29 (by omega)
          have hst : stRt false L R sm (wlk false L R sm n) st lx y (e + 1) = wlk false L R sm n (adR st.1 (likR R y (e + 1) (dN R y)), st.2) (lA L lx) (lE L lx) (y + 1) (y + siz (dT R) R.length y) (e + 1 + 1) := by
            unfold stRt wnt wvv
            rw [if_neg (show ¬ false = true by decide), if_pos (decide_eq_true (show dK R y ≠ 0 by omega)), if_neg (by rintro (w | w); exact w h6; exact absurd w.1 (by decide))]
          refine (m_named (d := d + 1) (K := 6) (e := e + 1) (nm := dN R y) hs' hI1.2 wR mR1 b1 (Or.inr rfl) (OwQ_S hO ny) (by omega) (fun _ => by omega) (fun z => absurd z (by decide)) (fun _ => ⟨b4, b4⟩)).mono (fun σ4 hq => ?_)
          have hI4 : MdI σ σ4 (adR st.1 (likR R y (e + 1) (dN R y))) := ⟨hI1.1.tr (hq.1.mono (fun _ _ z => Or.inl z)), by rw [likR_obj wR b1 h6]; exact hq.2⟩
          refine (m_openPair (d := d + 3) (MdC_at hC hI4.1) (by omega) hl b1 b3 h6).mono (fun σ5 hq5 => b_Mo_merge_300 ?_)
          have hI5 := MdI_pl hI4 hq5.1
          obtain ⟨v, hv⟩ := OwQ_ad (S := st.1) (r := likR R y (e + 1) (dN R y)) (e := e + 1) h6 rfl
          refine ih (adR st.1 (likR R y (e + 1) (dN R y)), st.2) _ _ _ _ (e + 1) v σ5 (by omega) hI5 (Rg_l wL hl).1 (Rg_open wR b1 b3 h6).1 hv hq5.2 (by omega) (fun τ3 i3 q47 q48 pl3 => ?_)
          have ce1 : (nI (e + 1)).toNatClampNeg = e + 1 := nI_clamp (by omega)
          have ve1 : vp_in (nI (e + 1)) 40 := vin (by omega) (by decide)
          refine b_Mo_merge_73 ⟨fun z => absurd z (nI_nn (by omega)), fun _ => ⟨ve1, fun z => absurd (by rw [ce1]; exact q47) z, fun _ => ⟨ve1, fun z => absurd (by rw [ce1]; exact q48) z, fun _ => ?_⟩⟩⟩
          rw [nI_dec]
          refine goOn _ τ3 i3 ?_ (fun p k h1 h2 h3 => ((pl3 p k h1 h2 (by omega)).trans (hq5.1.1 p k (fun z => by have := z.2; omega))).trans (mk hq.1 p k h1 h2)) (by rw [eq, hst])
          have := ExS_R (P := false) (L := L) (R := R) (sm := sm) (st := st) (l := lx) (b := y) (e := e + 1) (ExS_wlk (P := false) (L := L) (R := R) (sm := sm) n)
          rw [hst] at this
          exact this
    have at104 : JE E (d + 5) m_Mo_merge 104 [(0, pv E 0), (1, .int (nI s)), (2, .int (nI s')), (3, .int x3), (4, .int (nI e))] [] τ Q := by
      refine b_Mo_merge_104 ((m_firstOf (d := d + 1) hCt (by omega) gL gR hS hend).mono (fun w σ1 hq => ?_))
      obtain ⟨hw, rfl⟩ := hq
      rw [ce]
      rcases hw with ⟨w0, ha, hc⟩ | ⟨w0, hb, hn', hc⟩ | ⟨w0, ha, hb, hn', hc⟩
      · have wn : ¬ 0 < w := fun z => Int32.lt_irrefl (Int32.lt_trans w0 z)
        obtain ⟨a1, _⟩ := Rg_in wL gL ha
        refine ⟨fun z => absurd z wn, fun _ => ⟨ve, b_Mo_merge_130 ⟨fun _ => b_Mo_merge_148 ?_, fun z => absurd w0 z⟩⟩⟩
        rw [hS.2.2.1 ha]
        refine ⟨fun z => absurd z (nI_nn (by omega)), fun _ => (m_nextOf hs wL mL a1).mono (fun v σ2 hq => ⟨ve, ve, ve, b_Mo_merge_180 ⟨fun _ => ?_, fun z => absurd (by decide) z⟩⟩)⟩
        obtain ⟨rfl, rfl⟩ := hq
        rw [ce]
        exact at210 (some a) none _ _ _ (Or.inl ⟨rfl, rfl, rfl, rfl, ha, hc⟩) (PlC_2 (by decide) (by decide)) (MdS_L wL gL ha hS)
      · have wn : ¬ w < 0 := fun z => Int32.lt_irrefl (Int32.lt_trans w0 z)
        obtain ⟨b1, _⟩ := Rg_in wR gR hb
        refine ⟨fun _ => b_Mo_merge_130 ⟨fun z => absurd z wn, fun _ => ⟨ve, b_Mo_merge_148 ⟨fun _ => b_Mo_merge_180 ?_, fun z => absurd (by decide) z⟩⟩⟩, fun z => absurd w0 z⟩
        rw [ce, hS.2.2.2 hb]
        refine ⟨fun z => absurd z (nI_nn (by omega)), fun _ => (m_nextOf hs' wR mR b1).mono (fun v σ2 hq => ⟨ve, ve, ve, ?_⟩)⟩
        obtain ⟨rfl, rfl⟩ := hq
        exact at210 none (some b) _ _ _ (Or.inr (Or.inl ⟨rfl, rfl, rfl, rfl, hb, hn', hc⟩)) (PlC_2 (by decide) (by decide)) (MdS_R wR gR hb hS)
      · subst w0
        obtain ⟨a1, _⟩ := Rg_in wL gL ha
        obtain ⟨b1, _⟩ := Rg_in wR gR hb
        refine ⟨fun z => absurd z (by decide), fun _ => ⟨ve, b_Mo_merge_130 ⟨fun z => absurd z (by decide), fun _ => ⟨ve, b_Mo_merge_148 ?_⟩⟩⟩⟩
        rw [ce, hS.2.2.1 ha, hS.2.2.2 hb]
        refine ⟨fun z => absurd z (nI_nn (by omega)), fun _ => (m_nextOf hs wL mL a1).mono (fun v σ2 hq => ⟨ve, ve, ve, b_Mo_merge_180 ⟨fun z => absurd z (nI_nn (by omega)), fun _ => ?_⟩⟩)⟩
        obtain ⟨rfl, rfl⟩ := hq
        rw [ce]
        have hS2 := MdS_L wL gL ha hS
        have F2 := PlC_2 (τ := σ2) (e := e) (p := 45) (q := 47) (v := nI (a + siz (dT L) L.length a)) (w := gI (sI σ2 45 e (nI (a + siz (dT L) L.length a))) 47 e - 1) (by decide) (by decide)
        generalize sI (sI σ2 45 e (nI (a + siz (dT L) L.length a))) 47 e (gI (sI σ2 45 e (nI (a + siz (dT L) L.length a))) 47 e - 1) = τ2 at hS2 F2 ⊢
        obtain ⟨_, _, _, _, mR2⟩ := MdC_at hC (MdI_pl hI F2).1
        refine (m_nextOf hs' wR mR2 b1).mono (fun v σ3 hq => ⟨ve, ve, ve, ?_⟩)
        obtain ⟨rfl, rfl⟩ := hq
        exact at210 (some a) (some b) _ _ _ (Or.inr (Or.inr ⟨rfl, rfl, rfl, rfl, ha, hb, hn', hc⟩)) (F2.tr (PlC_2 (by decide) (by decide))) (MdS_R wR gR hb hS2)
    refine b_Mo_merge_73 ⟨fun z => absurd z (nI_nn (by omega)), fun _ => ⟨ve, fun _ => at104, fun q => ⟨ve, fun _ => at104, fun q2 => ?_⟩⟩⟩
    rw [ce] at q q2
    exact absurd ⟨z1.mp q, z2.mp q2⟩ hend
