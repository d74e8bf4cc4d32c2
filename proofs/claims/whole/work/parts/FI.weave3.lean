theorem CmR_gt {s t : List Nat} {r : Int32} (h : CmR s t r) : 0 < r ↔ 0 < cmN s t := by
  obtain ⟨h1, h2⟩ := h
  have a1 := fa_lt r 0
  have a2 := fa_lt 0 r
  have a3 := fa_eq r 0
  rw [show (0 : Int32).toInt = 0 from rfl] at a1 a2 a3
  rw [a2]
  rw [a1] at h1
  rw [a3] at h2
  omega
theorem Lp_all {E : En_t} {σ : S_t} {P : Bool} {L R : List Row} {sm : Nat → Nat → Bool} {jl jr jm : Nat} (hC : WeC σ P L R jl jr jm) (hsm : ∀ i j, i < L.length → j < R.length → (sm i j = true ↔ sameS L i R j)) : ∀ n, LpP E σ P L R sm jm n := by
  intro n
  induction n with
  | zero =>
    intro d st a ea b eb e c x τ hd he hI gL gR hO hn hc
    have g1 := gL.1
    have g2 := gR.1
    have : ea = a := by omega
    subst this
    have : eb = b := by omega
    subst this
    exact b_We_weave_205 ⟨fun _ => ⟨rfl, hI⟩, fun _ => ⟨fun q => absurd q (Int32.lt_irrefl), fun _ => ⟨fun _ => ⟨rfl, hI⟩, fun q => absurd (Int32.le_refl _) q⟩⟩⟩
  | succ n ih =>
    have wv := Wv_of_Lp hC ih
    intro d st a ea b eb e c x τ hd he hI gL gR hO hn hc
    have g1 := gL.1
    have g2 := gR.1
    have g3 := gL.2.1
    have g4 := gR.2.1
    have hCt := WeC_at hC hI.1
    obtain ⟨⟨h1, h2, h3, h4, h5⟩, ⟨r0, r1, r2⟩, hP, wL, wR, tL, tR⟩ := id hCt
    have n5 := wR.2.2.2.2.1
    have m5 := wL.2.2.2.2.1
    obtain ⟨d, rfl⟩ : ∃ d', d = d' + 4 := ⟨d - 4, by omega⟩
    have kl := kind_tr jl (by omega)
    have kr := kind_tr jr (by omega)
    have km := kind_tr jm (by omega)
    show JE E (d + 4 + 1) m_We_weave 205 _ [] τ (fun q σ' => q = none ∧ WeI σ jm σ' (wkS P L R sm (wlk P L R sm n) st a ea b eb (e + 1)))
    by_cases hend : ea ≤ a ∧ eb ≤ b
    · have eq : wkS P L R sm (wlk P L R sm n) st a ea b eb (e + 1) = st := if_pos hend
      rw [eq]
      have : ea = a := by omega
      subst this
      have : eb = b := by omega
      subst this
      exact b_We_weave_205 ⟨fun _ => ⟨rfl, hI⟩, fun _ => ⟨fun q => absurd q (Int32.lt_irrefl), fun _ => ⟨fun _ => ⟨rfl, hI⟩, fun q => absurd (Int32.le_refl _) q⟩⟩⟩
    generalize hQ : (fun q σ' => q = none ∧ WeI σ jm σ' (wkS P L R sm (wlk P L R sm n) st a ea b eb (e + 1)) : Option Value → S_t → Prop) = Q
    -- after the step
    have lpn : ∀ (st' : Wst) (a' b' : Nat) (τ' : S_t), WeI σ jm τ' st' → OwQ st'.1 x (e + 1) → Rg L a' ea (e + 1) → Rg R b' eb (e + 1) → (ea - a') + (eb - b') + 1 ≤ (ea - a) + (eb - b) → wkS P L R sm (wlk P L R sm n) st a ea b eb (e + 1) = wlk P L R sm n st' a' ea b' eb (e + 1) → JE E (d + 4 + 1) m_We_weave 205 [(0, pv E 71), (4, .int (nI e)), (6, .int x), (7, .int (nI a')), (8, .int (nI ea)), (9, .int (nI b')), (10, .int (nI eb)), (11, .int (nI c + 1))] [] τ' Q := by
      intro st' a' b' τ' i1 i2 i3 i4 i5 eq
      rw [← hQ, eq, nI_1]
      exact ih (d + 4) st' a' ea b' eb e (c + 1) x τ' hd he i1 i3 i4 i2 (by omega) (by omega)
    have at264 : ∀ w : Int32, (w < 0 ∧ a < ea ∧ (eb ≤ b ∨ cmN (nam L a) (nam R b) < 0)) ∨ (0 < w ∧ b < eb ∧ ¬ (a < ea ∧ (eb ≤ b ∨ cmN (nam L a) (nam R b) < 0)) ∧ (ea ≤ a ∨ cmN (nam L a) (nam R b) ≠ 0)) ∨ (w = 0 ∧ a < ea ∧ b < eb ∧ ¬ (a < ea ∧ (eb ≤ b ∨ cmN (nam L a) (nam R b) < 0)) ∧ ¬ (ea ≤ a ∨ cmN (nam L a) (nam R b) ≠ 0)) → JE E (d + 4 + 1) m_We_weave 264 [(0, pv E 71), (4, .int (nI e)), (6, .int x), (7, .int (nI a)), (8, .int (nI ea)), (9, .int (nI b)), (10, .int (nI eb)), (11, .int (nI c))] [.int w] τ Q := by
      intro w hw
      have zle : ∀ {v : Int32}, v < 0 → ¬ 0 ≤ v := fun h z => absurd (Int32.lt_of_lt_of_le h z) (Int32.lt_irrefl)
      have zgt : ∀ {v : Int32}, 0 < v → 0 ≤ v := fun h => Int32.le_of_lt h
      have zne : ∀ {v : Int32}, 0 < v → ¬ v = 0 := fun h z => by rw [z] at h; exact Int32.lt_irrefl h
      have zng : ∀ {v : Int32}, v < 0 → ¬ 0 < v := fun h z => Int32.lt_irrefl (Int32.lt_trans h z)
      -- the parts of the right that come in
      have right : ∀ (l : Option Nat) (v : Int32), (0 ≤ v) → (v = 0 ↔ ∃ i, l = some i) → (∀ i, l = some i → i = a ∧ a < ea) → b < eb → (∀ σ', WeI σ jm σ' (stRt P L R sm (wlk P L R sm n) st l b (e + 1)) → JE E (d + 4 + 1) m_We_weave 364 [(0, pv E 71), (4, .int (nI e)), (6, .int x), (7, .int (nI a)), (8, .int (nI ea)), (9, .int (nI b)), (10, .int (nI eb)), (11, .int (nI c)), (12, .int v)] [] σ' Q) → JE E (d + 4 + 1) m_We_weave 298 [(0, pv E 71), (4, .int (nI e)), (6, .int x), (7, .int (nI a)), (8, .int (nI ea)), (9, .int (nI b)), (10, .int (nI eb)), (11, .int (nI c)), (12, .int v)] [] τ Q := by
        intro l v hv hvl hla hb kk
        obtain ⟨b1, b2, b3, b4, b5, b6, b7, b8⟩ := Rg_in wR gR hb
        have hl : ∀ i, l = some i → i < L.length ∧ dT L i = e + 1 := fun i hi => by
          obtain ⟨rfl, q⟩ := hla i hi
          obtain ⟨a1, a2, a3, _⟩ := Rg_in wL gL q
          exact ⟨a1, a3⟩
        have gl := (Rg_l wL hl).2
        have at333 : JE E (d + 4 + 1) m_We_weave 333 [(0, pv E 71), (4, .int (nI e)), (6, .int x), (7, .int (nI a)), (8, .int (nI ea)), (9, .int (nI b)), (10, .int (nI eb)), (11, .int (nI c)), (12, .int v)] [.int (oI l), pv E 71] τ Q := by
          refine b_We_weave_333 ((c_isWanted (d := d + 1) (sm := sm) hCt hsm (fun i hi => (hl i hi).1) b1).mono (fun v2 σ1 hq => ?_))
          obtain ⟨rfl, rfl⟩ := hq
          have at353 : wnt P R sm l b = true → JE E (d + 4 + 1) m_We_weave 353 [(0, pv E 71), (4, .int (nI e)), (6, .int x), (7, .int (nI a)), (8, .int (nI ea)), (9, .int (nI b)), (10, .int (nI eb)), (11, .int (nI c)), (12, .int v)] [.int (oI l), pv E 71] σ1 Q := by
            intro hwn
            refine b_We_weave_353 ?_
            rw [nI_1]
            refine (wv (d + 3) st l b (e + 1) x σ1 (by omega) hI b1 b3 hl (OwQ_G hO b4) ?_).mono (fun σ2 hq => kk σ2 ?_)
            · have : lE L l - lA L l ≤ ea - a := by
                revert gl
                cases l with
                | none => intro z; exact Nat.le_trans z (Nat.zero_le _)
                | some i =>
                  intro z
                  obtain ⟨rfl, q⟩ := hla i rfl
                  obtain ⟨a1, a2, a3, a4, a5, a6, _⟩ := Rg_in wL gL q
                  have z' : lE L (some i) - lA L (some i) ≤ siz (dT L) L.length i - 1 := z
                  omega
              omega
            · have : stRt P L R sm (wlk P L R sm n) st l b (e + 1) = wvv P L R (wlk P L R sm n) st l b (e + 1) := if_pos hwn
              rw [this]; exact hq
          refine ⟨fun z => kk σ1 ?_, fun z => ?_⟩
          · have : stRt P L R sm (wlk P L R sm n) st l b (e + 1) = st := if_neg (by rw [bo_0.mp z]; decide)
            rw [this]; exact hI
          · have hwn : wnt P R sm l b = true := by
              cases y : wnt P R sm l b with
              | false => rw [y] at z; exact absurd rfl z
              | true => rfl
            have h353 := at353 hwn
            refine ⟨fun y => ?_, fun y => ?_⟩
            · cases l with
              | none => exact h353
              | some i => exact absurd (hvl.mpr ⟨i, rfl⟩) y
            · obtain ⟨i, rfl⟩ := hvl.mp y
              obtain ⟨rfl, _⟩ := hla i rfl
              exact h353
        refine b_We_weave_298 ⟨fun _ => ⟨fun y => ?_, fun y => ?_⟩, fun y => absurd hv y⟩
        · cases l with
          | none => exact at333
          | some i => exact absurd (hvl.mpr ⟨i, rfl⟩) y
        · obtain ⟨i, rfl⟩ := hvl.mp y
          obtain ⟨rfl, _⟩ := hla i rfl
          exact at333
      rcases hw with ⟨w0, ha, hcm⟩ | ⟨w0, hb, hnA, hcm⟩ | ⟨w0, ha, hb, hnA, hcm⟩
      · -- a part of the left
        obtain ⟨a1, a2, a3, a4, a5, a6, a7, a8⟩ := Rg_in wL gL ha
        have eq : wkS P L R sm (wlk P L R sm n) st a ea b eb (e + 1) = wlk P L R sm n (stLf P L st a (e + 1)) (a + siz (dT L) L.length a) ea b eb (e + 1) := by
          unfold wkS; rw [if_neg hend, if_pos ⟨ha, hcm⟩]
        have at364 : ∀ σ', WeI σ jm σ' (stLf P L st a (e + 1)) → JE E (d + 4 + 1) m_We_weave 364 [(0, pv E 71), (4, .int (nI e)), (6, .int x), (7, .int (nI a)), (8, .int (nI ea)), (9, .int (nI b)), (10, .int (nI eb)), (11, .int (nI c)), (12, .int w)] [] σ' Q := by
          intro σ' hI'
          have hC' := WeC_at hC hI'.1
          refine b_We_weave_364 ⟨fun q => absurd q (zng w0), fun _ => ⟨_, hC'.2.1.1, kl, vin (by omega) (by decide), b_We_weave_387 ⟨fun _ => b_We_weave_412 ?_, fun q => absurd w0 q⟩⟩⟩
          rw [nI_clamp (by omega), hC'.2.2.2.2.2.1.2 a a1, nI_add]
          exact lpn (stLf P L st a (e + 1)) _ b σ' hI' (OwQ_ext hO ExS_L) a7 gR (by omega) eq
        refine b_We_weave_264 ⟨fun q => absurd q (zle w0), fun _ => ?_⟩
        rw [hP]
        refine ⟨fun z => b_We_weave_298 ⟨fun q => absurd q (zle w0), fun _ => ⟨_, r2, km, _, r0, kl, (w_whole (d := d) h3 h1 h4 hI wL tL a1 (by omega) (OwQ_G hO a4)).mono (fun σ3 hq => at364 σ3 ?_)⟩⟩, fun z => ⟨_, r2, km, _, r0, kl, (w_null (d := d + 2) h3 h1 h4 hI wL tL a1 a3.symm a4 (OwQ_G hO a4)).mono (fun v σ3 hq => at364 σ3 ?_)⟩⟩
        · have : stLf P L st a (e + 1) = (cpS st.1 L a (e + 1) (dN L a), st.2) := if_neg (by rw [bo_0.mp z]; decide)
          rw [this]; exact hq
        · have hP1 : P = true := by
            cases P with
            | false => exact absurd rfl z
            | true => rfl
          have : stLf P L st a (e + 1) = (adR st.1 (0, e + 1, dN L a, [], 0), st.2) := if_pos hP1
          rw [this]; exact hq
      · -- a part of the right alone
        obtain ⟨b1, b2, b3, b4, b5, b6, b7, b8⟩ := Rg_in wR gR hb
        have eq : wkS P L R sm (wlk P L R sm n) st a ea b eb (e + 1) = wlk P L R sm n (stRt P L R sm (wlk P L R sm n) st none b (e + 1)) a ea (b + siz (dT R) R.length b) eb (e + 1) := by
          unfold wkS; rw [if_neg hend, if_neg hnA, if_pos hcm]
        refine b_We_weave_264 ⟨fun _ => right none w (zgt w0) ⟨fun z => absurd z (zne w0), fun ⟨i, z⟩ => by cases z⟩ (fun i z => by cases z) hb (fun σ' hI' => ?_), fun q => absurd (zgt w0) q⟩
        have hC' := WeC_at hC hI'.1
        refine b_We_weave_364 ⟨fun _ => b_We_weave_387 ⟨fun q => absurd w0 (zng q), fun _ => ⟨_, hC'.2.1.2.1, kr, vin (by omega) (by decide), b_We_weave_412 ?_⟩⟩, fun q => absurd w0 q⟩
        rw [nI_clamp (by omega), hC'.2.2.2.2.2.2.2 b b1, nI_add]
        exact lpn _ a _ σ' hI' (OwQ_ext hO (ExS_R (ExS_wlk n))) gL b7 (by omega) eq
      · -- of both
        subst w0
        obtain ⟨a1, a2, a3, a4, a5, a6, a7, a8⟩ := Rg_in wL gL ha
        obtain ⟨b1, b2, b3, b4, b5, b6, b7, b8⟩ := Rg_in wR gR hb
        have eq : wkS P L R sm (wlk P L R sm n) st a ea b eb (e + 1) = wlk P L R sm n (stRt P L R sm (wlk P L R sm n) st (some a) b (e + 1)) (a + siz (dT L) L.length a) ea (b + siz (dT R) R.length b) eb (e + 1) := by
          unfold wkS; rw [if_neg hend, if_neg hnA, if_neg hcm]
        refine b_We_weave_264 ⟨fun _ => right (some a) 0 (by decide) ⟨fun _ => ⟨a, rfl⟩, fun _ => rfl⟩ (fun i z => by cases z; exact ⟨rfl, ha⟩) hb (fun σ' hI' => ?_), fun q => absurd (by decide) q⟩
        have hC' := WeC_at hC hI'.1
        refine b_We_weave_364 ⟨fun q => absurd q (by decide), fun _ => ⟨_, hC'.2.1.1, kl, vin (by omega) (by decide), b_We_weave_387 ⟨fun q => absurd q (by decide), fun _ => ⟨_, hC'.2.1.2.1, kr, vin (by omega) (by decide), b_We_weave_412 ?_⟩⟩⟩⟩
        rw [nI_clamp (by omega), nI_clamp (by omega), hC'.2.2.2.2.2.1.2 a a1, hC'.2.2.2.2.2.2.2 b b1, nI_add, nI_add]
        exact lpn _ _ _ σ' hI' (OwQ_ext hO (ExS_R (ExS_wlk n))) a7 b7 (by omega) eq
    have at227 : JE E (d + 4 + 1) m_We_weave 227 [(0, pv E 71), (4, .int (nI e)), (6, .int x), (7, .int (nI a)), (8, .int (nI ea)), (9, .int (nI b)), (10, .int (nI eb)), (11, .int (nI c))] [] τ Q := by
      refine b_We_weave_227 ⟨fun q => ?_, fun q => ?_⟩
      · have ha : a < ea := Nat.not_le.mp (fun z => absurd q (by rw [show ea = a by omega]; exact Int32.lt_irrefl))
        obtain ⟨a1, _⟩ := Rg_in wL gL ha
        refine ⟨fun q2 => ?_, fun q2 => at264 _ (Or.inl ⟨by decide, ha, Or.inl ?_⟩)⟩
        · have hb : b < eb := Nat.not_le.mp (fun z => absurd q2 (by rw [show eb = b by omega]; exact Int32.lt_irrefl))
          obtain ⟨b1, _⟩ := Rg_in wR gR hb
          refine ⟨_, r0, kl, _, r1, kr, (c_compareNames (d := d + 2) kl kr wL wR tL.1 tR.1 a1 b1).mono (fun v σ3 hq => ?_)⟩
          obtain ⟨hcm, rfl⟩ := hq
          have hgt := CmR_gt hcm
          apply at264
          rcases Int.lt_trichotomy (cmN (nam L a) (nam R b)) 0 with z | z | z
          · exact Or.inl ⟨hcm.1.mpr z, ha, Or.inr z⟩
          · refine Or.inr (Or.inr ⟨hcm.2.mpr z, ha, hb, ?_, ?_⟩)
            · rintro ⟨_, y | y⟩ <;> omega
            · rintro (y | y)
              · omega
              · exact y z
          · refine Or.inr (Or.inl ⟨hgt.mpr z, hb, ?_, Or.inr (by omega)⟩)
            rintro ⟨_, y | y⟩ <;> omega
        · exact Nat.not_lt.mp (fun z => q2 (nI_lt z (by omega)))
      · have ha : ea ≤ a := Nat.not_lt.mp (fun z => q (nI_lt z (by omega)))
        exact at264 _ (Or.inr (Or.inl ⟨by decide, by omega, fun z => by omega, Or.inl ha⟩))
    refine b_We_weave_205 ⟨fun q => absurd q (nI_ge (b := 1000) (by omega) (by omega)), fun _ => ⟨fun _ => at227, fun q => ⟨fun q2 => ?_, fun _ => at227⟩⟩⟩
    exfalso
    have e1 : ¬ a < ea := fun z => q (nI_lt z (by omega))
    have e2 : ¬ b < eb := fun z => absurd q2 (nI_ge z (by omega))
    exact hend ⟨by omega, by omega⟩
