/-! the weaver of the class -/
def MWe (jm : Nat) : Nat → Nat → Prop := fun p k => TPl (tr jm) p k ∨ (p = 71 ∧ k = 4)
def WeC (σ : S_t) (P : Bool) (L R : List Row) (jl jr jm : Nat) : Prop := (jl < 9 ∧ jr < 9 ∧ jm < 9 ∧ jm ≠ jl ∧ jm ≠ jr) ∧ (gR σ 71 0 = some (tr jl) ∧ gR σ 71 1 = some (tr jr) ∧ gR σ 71 2 = some (tr jm)) ∧ gI σ 71 3 = bo P ∧ WfR L ∧ WfR R ∧ TrD σ (tr jl) L ∧ TrD σ (tr jr) R
def WeI (σ : S_t) (jm : Nat) (τ : S_t) (st : Wst) : Prop := Fg (MWe jm) σ τ ∧ gI τ 71 4 = bo st.2 ∧ TrB τ (tr jm) st.1
theorem WeC_at {σ τ : S_t} {P : Bool} {L R : List Row} {jl jr jm : Nat} (h : WeC σ P L R jl jr jm) (hF : Fg (MWe jm) σ τ) : WeC τ P L R jl jr jm := by
  obtain ⟨a, b, c, d, e, f, g⟩ := h
  have key : ∀ j, jm ≠ j → ∀ p k, tr j ≤ p → p ≤ tr j + 11 → gI τ p k = gI σ p k ∧ gL τ p k = gL σ p k := fun j hj p k h1 h2 => by
    have : ¬ MWe jm p k := fun z => by
      rcases z with z | z
      · exact (tr_apart hj).2 p k z ⟨h1, h2⟩
      · unfold tr at h1; omega
    exact ⟨hF.1 p k this, hF.2.1 p k this⟩
  refine ⟨a, ?_, ?_, d, e, TrD_fr (key jl a.2.2.2.1) f, TrD_fr (key jr a.2.2.2.2) g⟩
  · rw [gR_2 hF.2.2, gR_2 hF.2.2, gR_2 hF.2.2]; exact b
  · rw [hF.1 71 3 (by unfold MWe TPl tr; omega)]; exact c
theorem TrB_fr {σ σ' : S_t} {t : Nat} {S : Option (List Row)} (h : ∀ p k, t ≤ p → p ≤ t + 11 → gI σ' p k = gI σ p k ∧ gL σ' p k = gL σ p k) (hB : TrB σ t S) : TrB σ' t S := by
  cases S with
  | none => show gI σ' t 14 = 1; rw [(h t 14 (Nat.le_refl _) (by omega)).1]; exact hB
  | some D => exact ⟨TrR_fr h hB.1, hB.2⟩
theorem WeI_set {σ τ : S_t} {jm : Nat} {st : Wst} {b : Bool} (h : WeI σ jm τ st) : WeI σ jm (sI τ 71 4 (bo b)) (st.1, b) :=
  ⟨h.1.si (Or.inr ⟨rfl, rfl⟩), gI_sI_s _ _ _ _, TrB_fr (fun p k h1 h2 => ⟨gI_sI_n (Or.inl (by unfold tr at h1; omega)), rfl⟩) h.2.2⟩
theorem WeI_none {σ τ : S_t} {jm : Nat} {b : Bool} (h : WeI σ jm τ (none, b)) : WeI σ jm (sI τ (tr jm) 14 1) (none, b) :=
  ⟨h.1.si (Or.inl ⟨Nat.le_refl _, by omega⟩), by rw [gI_sI_n (Or.inl (by unfold tr; omega))]; exact h.2.1, gI_sI_s _ _ _ _⟩
theorem WeI_fg {σ τ τ' : S_t} {jm : Nat} {st : Wst} {S' : Option (List Row)} (h : WeI σ jm τ st) (hF : Fg (TPl (tr jm)) τ τ') (hB : TrB τ' (tr jm) S') : WeI σ jm τ' (S', st.2) :=
  ⟨h.1.tr (hF.mono (fun _ _ z => Or.inl z)), by rw [hF.1 71 4 (by unfold TPl tr; omega)]; exact h.2.1, hB⟩
def OwG (S : Option (List Row)) (x : Int32) (e : Nat) (nm : Option (List Nat)) (n : List Nat) : Prop := ∀ D, S = some D → OwR D x e ∧ (OwN D x → nm = some n) ∧ (¬ OwN D x → nm = none)
theorem OwQ_G {S : Option (List Row)} {x : Int32} {e : Nat} {nm : Option (List Nat)} {n : List Nat} (h : OwQ S x e) (hn : nm = some n) : OwG S x e nm n := fun D hD => ⟨(h D hD).1, fun _ => hn, fun z => absurd (h D hD).2 z⟩
theorem cpS_none {F : List Row} {i e : Nat} {nm : Option (List Nat)} : cpS none F i e nm = none := cpN_none _
theorem w_whole {E : En_t} {d jm j i e : Nat} {x : Int32} {F : List Row} {nm : Option (List Nat)} {σ τ : S_t} {st : Wst} (hm : jm < 9) (hj : j < 9) (hne : jm ≠ j) (h : WeI σ jm τ st) (hW : WfR F) (hT : TrD τ (tr j) F) (hi : i < F.length) (he : e ≤ dT F i) (hO : OwG st.1 x e nm (nam F i)) : CV E (d + 4) m_Tr_addWhole [pv E (tr jm), pv E (tr j), .int (nI i), .int x] τ (fun σ' => WeI σ jm σ' (cpS st.1 F i e nm, st.2)) := by
  obtain ⟨S, b⟩ := st
  cases S with
  | none =>
    refine (c_addWhole1 (d := d + 1) (kind_tr jm (by omega)) (kind_tr j (by omega)) hW hT hi (by unfold tr; omega) h.2.2).mono (fun σ' hq => ?_)
    rw [hq]
    show WeI σ jm _ (cpS none F i e nm, b)
    rw [cpS_none]
    exact WeI_none h
  | some D =>
    obtain ⟨hR, hWD⟩ : TrR τ (tr jm) D ∧ WfR D := h.2.2
    obtain ⟨o1, o2, o3⟩ := hO D rfl
    exact (c_addWhole (by omega) (by omega) hne hWD hR hW hT hi o1 he o2 o3).mono (fun σ' hq => WeI_fg h hq.1 hq.2)
theorem w_like {E : En_t} {d jm j i e : Nat} {x : Int32} {F : List Row} {nm : Option (List Nat)} {σ τ : S_t} {st : Wst} (hm : jm < 9) (hj : j < 9) (hne : jm ≠ j) (h : WeI σ jm τ st) (hW : WfR F) (hT : TrD τ (tr j) F) (hi : i < F.length) (he : e = dT F i) (h6 : dK F i = 6) (hO : OwG st.1 x e nm (nam F i)) : CI E (d + 3) m_Tr_addLike [pv E (tr jm), pv E (tr j), .int (nI i), .int x] τ (fun v σ' => WeI σ jm σ' (adR st.1 (likR F i e nm), st.2) ∧ OwQ (adR st.1 (likR F i e nm)) v (e + 1)) := by
  have ok := hW.2.1 i hi
  have ok2 := ok.2.1
  have ok3 := ok.2.2.1
  have h5 := hW.2.2.2.2.1
  obtain ⟨S, b⟩ := st
  cases S with
  | none =>
    refine (c_addLike1 (d := d + 1) (kind_tr jm (by omega)) (kind_tr j (by omega)) (by omega) h.2.2).mono (fun v σ' hq => ?_)
    rw [hq.2]
    exact ⟨WeI_none h, fun D hD => by cases hD⟩
  | some D =>
    obtain ⟨hR, hWD⟩ : TrR τ (tr jm) D ∧ WfR D := h.2.2
    obtain ⟨o1, o2, o3⟩ := hO D rfl
    refine (c_addLike (by omega) (by omega) hne hWD hR hW hT.1 hi o1 (by omega) (fun z => by have := ok3 z; omega) o2 o3).mono (fun v σ' hq => ⟨WeI_fg h hq.1 (AdP_B hq.2), fun D' hD' => ?_⟩)
    rcases hq.2 with ⟨z, _, _⟩ | ⟨z, z2, _, _, _⟩
    · have : adR (some D) (likR F i e nm) = some D' := hD'
      rw [z] at this; cases this
    · have : adR (some D) (likR F i e nm) = some D' := hD'
      rw [z] at this; cases this
      rw [z2]
      exact OwQ_new h6 rfl
theorem w_null {E : En_t} {d jm j i e : Nat} {x : Int32} {F : List Row} {nm : Option (List Nat)} {σ τ : S_t} {st : Wst} (hm : jm < 9) (hj : j < 9) (hne : jm ≠ j) (h : WeI σ jm τ st) (hW : WfR F) (hT : TrD τ (tr j) F) (hi : i < F.length) (he : e = dT F i) (hnm : nm = some (nam F i)) (hO : OwG st.1 x e nm (nam F i)) : CI E (d + 2) m_Tr_addNamed [pv E (tr jm), .int (0 : Int32), pv E (tr j), .int (nI i), .int x] τ (fun v σ' => WeI σ jm σ' (adR st.1 (0, e, nm, [], 0), st.2)) := by
  have ok := hW.2.1 i hi
  have ok2 := ok.2.1
  obtain ⟨S, b⟩ := st
  cases S with
  | none =>
    refine (c_addNamed1 (d := d + 1) (kind_tr jm (by omega)) (kind_tr j (by omega)) h.2.2).mono (fun v σ' hq => ?_)
    rw [hq.2]
    exact WeI_none h
  | some D =>
    obtain ⟨hR, hWD⟩ : TrR τ (tr jm) D ∧ WfR D := h.2.2
    obtain ⟨o1, o2, o3⟩ := hO D rfl
    refine (c_addNamed (K := 0) (by omega) (by omega) hne hWD hR hW hT.1 hi o1 ⟨Nat.zero_le _, show e ≤ 30 by omega, fun z => absurd z (show ¬ 5 ≤ 0 by decide), fun _ => rfl, fun _ => rfl, fun z => absurd z (show ¬ 0 = 3 by decide), ?_, Ltrs_nil⟩ o2 o3).mono (fun v σ' hq => WeI_fg h hq.1 (AdP_B hq.2))
    rw [hnm]
    exact ok.2.2.2.2.2.2.1
theorem bo_0 {b : Bool} : bo b = 0 ↔ b = false := by cases b <;> decide
theorem c_isWanted {E : En_t} {d jl jr jm b : Nat} {P : Bool} {L R : List Row} {sm : Nat → Nat → Bool} {l : Option Nat} {τ : S_t} (hC : WeC τ P L R jl jr jm) (hsm : ∀ i j, i < L.length → j < R.length → (sm i j = true ↔ sameS L i R j)) (hl : ∀ i, l = some i → i < L.length) (hb : b < R.length) : CI E (d + 3) m_We_isWanted [pv E 71, .int (oI l), .int (nI b)] τ (fun v σ' => σ' = τ ∧ v = bo (wnt P R sm l b)) := by
  obtain ⟨⟨h1, h2, h3, h4, h5⟩, ⟨r0, r1, r2⟩, hP, wL, wR, tL, tR⟩ := hC
  have n5 := wR.2.2.2.2.1
  have m5 := wL.2.2.2.2.1
  have k6 := (wR.2.1 b hb).1
  refine CE.of (L := [(0, pv E 71), (1, .int (oI l)), (2, .int (nI b))]) rfl (Nat.le_of_ble_eq_true rfl) rfl (b_We_isWanted_0 (d := d + 2) ?_)
  rw [hP]
  cases P with
  | false =>
    refine ⟨fun _ => ⟨_, r1, kind_tr jr (by omega), vin (by omega) (by decide), ?_⟩, fun q => absurd rfl q⟩
    rw [nI_clamp (by omega), (tR.1.2.2.2.2 b hb).1]
    refine ⟨fun q => ⟨_, rfl, rfl, ?_⟩, fun q => ⟨_, rfl, rfl, ?_⟩⟩
    · have : dK R b = 0 := (nI_is0 _ (by omega)).mp q
      unfold wnt
      rw [if_neg (by decide), this]; rfl
    · have : dK R b ≠ 0 := fun z => q (by rw [z]; rfl)
      unfold wnt
      rw [if_neg (by decide), decide_eq_true this]; rfl
  | true =>
    refine ⟨fun q => absurd q (by decide), fun _ => ?_⟩
    cases l with
    | none => exact ⟨fun _ => b_We_isWanted_28 ⟨_, rfl, rfl, rfl⟩, fun q => absurd rfl q⟩
    | some i =>
      have hi := hl i rfl
      refine ⟨fun q => nI_neg1 (show i < 2 ^ 31 by omega) q.symm |>.elim, fun _ => ⟨_, r0, kind_tr jl (by omega), _, r1, kind_tr jr (by omega), (c_isAlike (d := d) (kind_tr jl (by omega)) (kind_tr jr (by omega)) wL wR tL tR hi hb).mono (fun v σ1 hq => ?_)⟩⟩
      obtain ⟨rfl, hq⟩ := hq
      rcases hq with ⟨rfl, z⟩ | ⟨rfl, z⟩
      · refine ⟨fun q => absurd rfl q, fun _ => b_We_isWanted_28 ⟨_, rfl, rfl, ?_⟩⟩
        have : sm i b = false := by
          cases q : sm i b with
          | false => rfl
          | true => exact absurd ((hsm i b hi hb).mp q) z
        show (1 : Int32) = bo (!(sm i b))
        rw [this]; rfl
      · refine ⟨fun _ => ⟨_, rfl, rfl, ?_⟩, fun q => absurd q (by decide)⟩
        show (0 : Int32) = bo (!(sm i b))
        rw [(hsm i b hi hb).mpr z]; rfl
