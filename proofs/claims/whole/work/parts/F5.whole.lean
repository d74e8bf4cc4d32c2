/-! addWhole -/
/-- row c of the value at i of F, once it is copied to depth e -/
def cpR (F : List Row) (i e : Nat) (nm : Option (List Nat)) (c : Nat) : Row := likR F (i + c) (e + (dT F (i + c) - dT F i)) (if c = 0 then nm else dN F (i + c))
def cpN (S : Option (List Row)) (F : List Row) (i e : Nat) (nm : Option (List Nat)) : Nat → Option (List Row)
  | 0 => S
  | c + 1 => adR (cpN S F i e nm c) (cpR F i e nm c)
def cpS (S : Option (List Row)) (F : List Row) (i e : Nat) (nm : Option (List Nat)) : Option (List Row) := cpN S F i e nm (siz (dT F) F.length i)
theorem cpN_none {F : List Row} {i e : Nat} {nm : Option (List Nat)} : ∀ c, cpN none F i e nm c = none
  | 0 => rfl
  | c + 1 => by show adR (cpN none F i e nm c) _ = none; rw [cpN_none c]; rfl
theorem cpN_stay {S : Option (List Row)} {F : List Row} {i e : Nat} {nm : Option (List Nat)} {a : Nat} (h : cpN S F i e nm a = none) : ∀ b, cpN S F i e nm (a + b) = none
  | 0 => h
  | b + 1 => by show adR (cpN S F i e nm (a + b)) _ = none; rw [cpN_stay h b]; rfl
theorem adR_some {D D' : List Row} {r : Row} (h : adR (some D) r = some D') : D' = D ++ [r] ∧ D.length ≠ 500 ∧ bts D + rBt r ≤ 4000 := by
  by_cases q : D.length = 500 ∨ 4000 < bts D + rBt r
  · rw [adR_no q] at h; cases h
  · have : adR (some D) r = some (D ++ [r]) := if_neg q
    rw [this] at h
    cases h
    exact ⟨rfl, fun z => q (Or.inl z), Nat.not_lt.mp (fun z => q (Or.inr z))⟩
/-- the rows of a tree, or too much -/
def TrB (σ : S_t) (t : Nat) (S : Option (List Row)) : Prop := match S with
  | none => gI σ t 14 = 1
  | some D => TrR σ t D ∧ WfR D
theorem AdP_B {σ : S_t} {t : Nat} {D : List Row} {r : Row} {res : Int32} (h : AdP σ t D r res) : TrB σ t (adR (some D) r) := by
  rcases h with ⟨h1, h2, _⟩ | ⟨h1, _, _, h2, h3⟩
  · rw [h1]; exact h2
  · rw [h1]; exact ⟨h2, h3⟩
/-- what the copied rows look like -/
def CpI (D : List Row) (F : List Row) (i e : Nat) (nm : Option (List Nat)) (c : Nat) (D' : List Row) : Prop := D'.length = D.length + c ∧ (∀ k, k < D.length → dR D' k = dR D k) ∧ ∀ a, a < c → dR D' (D.length + a) = cpR F i e nm a
theorem CpI_push {D F D' : List Row} {i e c : Nat} {nm : Option (List Nat)} (h : CpI D F i e nm c D') : CpI D F i e nm (c + 1) (D' ++ [cpR F i e nm c]) := by
  obtain ⟨h1, h2, h3⟩ := h
  refine ⟨by rw [lenR]; omega, fun k hk => by rw [dR_lt (by omega)]; exact h2 k hk, fun a ha => ?_⟩
  by_cases q : a = c
  · subst q; rw [← h1]; exact dR_eq _ _
  · rw [dR_lt (by omega)]; exact h3 a (by omega)
theorem cpN_CpI {D F : List Row} {i e : Nat} {nm : Option (List Nat)} : ∀ {c : Nat} {D' : List Row}, cpN (some D) F i e nm c = some D' → CpI D F i e nm c D'
  | 0, D', h => by cases h; exact ⟨rfl, fun _ _ => rfl, fun a ha => absurd ha (Nat.not_lt_zero a)⟩
  | c + 1, D', h => by
    cases hc : cpN (some D) F i e nm c with
    | none =>
      have : cpN (some D) F i e nm (c + 1) = none := by show adR (cpN (some D) F i e nm c) _ = none; rw [hc]; rfl
      rw [this] at h; cases h
    | some D1 =>
      have : adR (some D1) (cpR F i e nm c) = some D' := by rw [← hc]; exact h
      obtain ⟨e1, _, _⟩ := adR_some this
      rw [e1]
      exact CpI_push (cpN_CpI hc)
theorem sub_dT {F : List Row} {i c : Nat} (hi : i < F.length) (hc : c < siz (dT F) F.length i) : dT F i ≤ dT F (i + c) ∧ (0 < c → dT F i < dT F (i + c)) := by
  rcases Nat.eq_zero_or_pos c with q | q
  · subst q; exact ⟨Nat.le_refl _, fun h => absurd h (Nat.lt_irrefl 0)⟩
  · have := (siz_spec (f := dT F) (n := F.length) hi).2.2.1 (i + c) (by omega) (by omega)
    exact ⟨by omega, fun _ => this⟩
theorem cp_dT {D F D' : List Row} {i e c a : Nat} {nm : Option (List Nat)} (h : CpI D F i e nm c D') (ha : a < c) : dT D' (D.length + a) = e + (dT F (i + a) - dT F i) ∧ dK D' (D.length + a) = dK F (i + a) := by
  have := h.2.2 a ha
  unfold dT dK
  rw [this]
  exact ⟨rfl, rfl⟩
theorem cp_owner {D F D' : List Row} {i e c : Nat} {nm : Option (List Nat)} (hWF : WfR F) (hi : i < F.length) (h0 : 0 < c) (hc : c < siz (dT F) F.length i) (h : CpI D F i e nm c D') (h5 : D'.length ≤ 500) : OwR D' (nI (D.length + (par (dT F) (i + c) - i))) (e + (dT F (i + c) - dT F i)) ∧ (OwN D' (nI (D.length + (par (dT F) (i + c) - i))) ↔ dN F (i + c) ≠ none) := by
  have hsz := (siz_spec (f := dT F) (n := F.length) hi).2.1
  obtain ⟨g1, g2⟩ := par_ge hWF.1 hi (show i < i + c by omega) (by omega)
  obtain ⟨p1, p2, p3⟩ := par_spec hWF.1 (show 0 < i + c by omega) (show i + c < F.length by omega)
  obtain ⟨w1, w2⟩ := hWF.2.2.1 (i + c) (by omega) (by omega)
  have hL := h.1
  obtain ⟨a, ha⟩ : ∃ a, par (dT F) (i + c) = i + a := ⟨par (dT F) (i + c) - i, by omega⟩
  rw [ha] at p1 p2 p3 w1 w2 ⊢
  have hac : a < c := by omega
  obtain ⟨d1, d2⟩ := cp_dT h hac
  have s1 := (sub_dT hi (show a < siz (dT F) F.length i by omega)).1
  rw [show i + a - i = a by omega]
  constructor
  · refine Or.inr ⟨D.length + a, rfl, ⟨by omega, fun j q1 q2 => ?_⟩, by rw [d2]; exact w1, by rw [d1]; omega⟩
    obtain ⟨b, hb⟩ : ∃ b, j = D.length + b := ⟨j - D.length, by omega⟩
    rw [hb] at q1 q2 ⊢
    have hbc : b < c := by omega
    rw [d1, (cp_dT h hbc).1]
    have := p3 (i + b) (by omega) (by omega)
    have := (sub_dT hi (show b < siz (dT F) F.length i by omega)).1
    omega
  · have hw : dN F (i + c) ≠ none ↔ dK F (i + a) = 6 := by
      constructor
      · intro z; exact Classical.not_not.mp (fun y => z (w2.mpr y))
      · intro z y; exact w2.mp y z
    rw [hw]
    constructor
    · rintro ⟨p, e1, e2, e3⟩
      have : D.length + a = p := (nI_eq (by omega) (by omega)).mp e1
      rw [← this, d2] at e3
      exact e3
    · intro z
      exact ⟨D.length + a, rfl, by omega, by rw [d2]; exact z⟩
theorem c_addWhole {E : En_t} {d j j' i e : Nat} {x : Int32} {D F : List Row} {σ : S_t} {nm : Option (List Nat)} (hj : j < 10) (hj' : j' < 10) (hne : j ≠ j') (hW : WfR D) (hT : TrR σ (tr j) D) (hWF : WfR F) (hTF : TrD σ (tr j') F) (hi : i < F.length) (hO : OwR D x e) (he : e ≤ dT F i) (hnm1 : OwN D x → nm = some (nam F i)) (hnm2 : ¬ OwN D x → nm = none) : CV E (d + 4) m_Tr_addWhole [pv E (tr j), pv E (tr j'), .int (nI i), .int x] σ (fun σ' => Fg (TPl (tr j)) σ σ' ∧ TrB σ' (tr j) (cpS (some D) F i e nm)) := by
  have ht := kind_tr j hj
  have ht' := kind_tr j' hj'
  obtain ⟨ap1, ap2⟩ := tr_apart hne
  have w6 := hW.2.2.2.2
  have wF6 := hWF.2.2.2.2
  obtain ⟨z1, z2, z3, z4⟩ := siz_spec (f := dT F) (n := F.length) hi
  have frF : ∀ {τ : S_t}, Fg (TPl (tr j)) σ τ → TrD τ (tr j') F := fun hF => TrD_fr (fun p k a b => ⟨hF.1 p k (fun z => ap2 p k z ⟨a, b⟩), hF.2.1 p k (fun z => ap2 p k z ⟨a, b⟩)⟩) hTF
  let Q : Option Value → S_t → Prop := fun q σ' => q = none ∧ (Fg (TPl (tr j)) σ σ' ∧ TrB σ' (tr j) (cpS (some D) F i e nm))
  have dep : ∀ c, c < siz (dT F) F.length i → e + (dT F (i + c) - dT F i) ≤ 30 ∧ (5 ≤ dK F (i + c) → e + (dT F (i + c) - dT F i) ≤ 29) := fun c hc => by
    have h1 := (sub_dT hi hc).1
    have h2 := hWF.2.1 (i + c) (by omega)
    have h3 := h2.2.1
    have h4 := h2.2.2.1
    exact ⟨by omega, fun z => by have := h4 z; omega⟩
  -- the loop, once c rows are laid
  have loop : ∀ (m c : Nat) (τ : S_t), 0 < c → c + m = siz (dT F) F.length i → Fg (TPl (tr j)) σ τ → TrB τ (tr j) (cpN (some D) F i e nm c) → JE E (d + 4) m_Tr_addWhole 36 [(0, pv E (tr j)), (1, pv E (tr j')), (2, .int (nI i)), (4, .int (nI D.length)), (5, .int (nI (i + siz (dT F) F.length i))), (6, .int (nI (i + c)))] [] τ Q := by
    intro m
    induction m with
    | zero =>
      intro c τ h0 hc hF hB
      have : c = siz (dT F) F.length i := by omega
      subst this
      exact b_Tr_addWhole_36 ht ht' ⟨fun _ => ⟨rfl, hF, hB⟩, fun q => absurd (Int32.le_refl _) q⟩
    | succ m ih =>
      intro c τ h0 hc hF hB
      refine b_Tr_addWhole_36 ht ht' ⟨fun q => absurd q (nI_ge (by omega) (by omega)), fun _ => ?_⟩
      cases hcp : cpN (some D) F i e nm c with
      | none =>
        rw [hcp] at hB
        have h14 : gI τ (tr j) 14 = 1 := hB
        refine ⟨fun _ => ⟨rfl, hF, ?_⟩, fun q => absurd q (by rw [h14]; decide)⟩
        have : cpS (some D) F i e nm = none := by
          unfold cpS
          rw [← hc]
          exact cpN_stay hcp (m + 1)
        rw [this]; exact h14
      | some D1 =>
        rw [hcp] at hB
        obtain ⟨T1, W1⟩ := hB
        have hI := cpN_CpI hcp
        have W5 := W1.2.2.2.2.1
        obtain ⟨o1, o2⟩ := cp_owner hWF hi h0 (show c < siz (dT F) F.length i by omega) hI W5
        have TF := frF hF
        refine ⟨fun q => absurd T1.2.2.2.1 q, fun _ => ⟨vin (by omega) (by decide), ?_⟩⟩
        obtain ⟨g1, g2⟩ := par_ge hWF.1 hi (show i < i + c by omega) (by omega)
        obtain ⟨p1, p2, p3⟩ := par_spec hWF.1 (show 0 < i + c by omega) (show i + c < F.length by omega)
        rw [nI_clamp (by omega), (TF.1.2.2.2.2 (i + c) (by omega)).2.2.1, pI_s (by omega), zI_nI, pk_sub g1, nI_add, show par (dT F) (i + c) - i + D.length = D.length + (par (dT F) (i + c) - i) by omega, nI_1]
        obtain ⟨e1, e2⟩ := dep c (by omega)
        refine (c_addLike (nm := dN F (i + c)) hj hj' hne W1 T1 hWF TF.1 (by omega) o1 e1 e2 (fun z => nam_some (o2.mp z)) (fun z => Classical.not_not.mp (fun y => z (o2.mpr y)))).mono (fun r σ1 hq => ?_)
        refine ih (c + 1) σ1 (by omega) (by omega) (hF.tr hq.1) ?_
        have : cpN (some D) F i e nm (c + 1) = adR (some D1) (likR F (i + c) (e + (dT F (i + c) - dT F i)) (dN F (i + c))) := by
          show adR (cpN (some D) F i e nm c) (cpR F i e nm c) = _
          rw [hcp]
          unfold cpR
          rw [if_neg (by omega)]
        rw [this]
        exact AdP_B hq.2
  refine CE.of (L := [(0, pv E (tr j)), (1, pv E (tr j')), (2, .int (nI i)), (3, .int x)]) rfl (Nat.le_of_ble_eq_true rfl) rfl (b_Tr_addWhole_0 ht ht' ⟨vin (by omega) (by decide), fun r1 e1 => ?_⟩)
  rw [nI_clamp (by omega), hTF.2 i hi, hTF.1.2.2.1, nI_add, mn_n (by omega) (by omega), show min F.length (i + siz (dT F) F.length i) = i + siz (dT F) F.length i by omega] at e1
  rw [e1, hT.2.2.1, nI_1]
  have d0 := dep 0 (by omega)
  rw [Nat.add_zero, Nat.sub_self, Nat.add_zero] at d0
  refine (c_addLike (nm := nm) hj hj' hne hW hT hWF hTF.1 hi hO d0.1 d0.2 hnm1 hnm2).mono (fun r σ1 hq => ?_)
  refine loop (siz (dT F) F.length i - 1) 1 σ1 (by omega) (by omega) hq.1 ?_
  have : cpN (some D) F i e nm 1 = adR (some D) (likR F i e nm) := by
    show adR (some D) (cpR F i e nm 0) = _
    unfold cpR
    rw [if_pos rfl, Nat.add_zero, Nat.sub_self, Nat.add_zero]
  rw [this]
  exact AdP_B hq.2
theorem c_addWhole1 {E : En_t} {d t t' i : Nat} {x : Int32} {F : List Row} {σ : S_t} (ht : kindP t = 11) (ht' : kindP t' = 11) (hWF : WfR F) (hTF : TrD σ t' F) (hi : i < F.length) (hd : t' ≠ t) (h : gI σ t 14 = 1) : CV E (d + 3) m_Tr_addWhole [pv E t, pv E t', .int (nI i), .int x] σ (fun σ' => σ' = sI σ t 14 1) := by
  have wF6 := hWF.2.2.2.2
  obtain ⟨z1, z2, z3, z4⟩ := siz_spec (f := dT F) (n := F.length) hi
  refine CE.of (L := [(0, pv E t), (1, pv E t'), (2, .int (nI i)), (3, .int x)]) rfl (Nat.le_of_ble_eq_true rfl) rfl (b_Tr_addWhole_0 ht ht' ⟨vin (by omega) (by decide), fun r1 e1 => (c_addLike1 ht ht' (by omega) h).mono (fun r σ1 hq => ?_)⟩)
  rw [hq.2]
  exact b_Tr_addWhole_36 ht ht' ⟨fun _ => ⟨rfl, rfl⟩, fun _ => ⟨fun _ => ⟨rfl, rfl⟩, fun q => absurd q (by rw [gI_sI_s]; decide)⟩⟩
