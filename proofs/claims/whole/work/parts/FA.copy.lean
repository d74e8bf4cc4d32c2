/-! copy, shelve of the reference -/
theorem c_make1 {E : En_t} {d : Nat} {x1 x2 x3 x4 x5 : Int32} {σ : S_t} (h : gI σ 0 39 = 1) : CV E (d + 1) m_Mo_make [pv E 0, .int x1, .int x2, .int x3, .int x4, .int x5] σ (fun σ' => Fg MMk σ σ' ∧ gI σ' 0 39 = 1) := by
  have m39 : MMk 0 39 := Or.inr (Or.inr ⟨rfl, rfl⟩)
  exact CE.of (L := [(0, pv E 0), (1, .int x1), (2, .int x2), (3, .int x3), (4, .int x4), (5, .int x5)]) rfl (Nat.le_of_ble_eq_true rfl) rfl (b_Mo_make_0 ⟨in8, fun _ => b_Mo_make_18 ⟨fun q => absurd q (by rw [h]; decide), fun _ => ⟨rfl, Fg.rf, h⟩⟩, fun _ => b_Mo_make_18 ⟨fun q => absurd q (by rw [gI_sI_s]; decide), fun _ => ⟨rfl, Fg.rf.si m39, gI_sI_s _ _ _ _⟩⟩⟩)
theorem c_makeLike1 {E : En_t} {d : Nat} {x1 x2 x3 x4 x5 x6 : Int32} {σ : S_t} (h : gI σ 0 39 = 1) : CV E (d + 2) m_Mo_makeLike [pv E 0, .int x1, .int x2, .int x3, .int x4, .int x5, .int x6] σ (fun σ' => Fg MMk σ σ' ∧ gI σ' 0 39 = 1) := by
  refine CE.of (L := [(0, pv E 0), (1, .int x1), (2, .int x2), (3, .int x3), (4, .int x4), (5, .int x5), (6, .int x6)]) rfl (Nat.le_of_ble_eq_true rfl) rfl (b_Mo_makeLike_0 ((c_make1 h).mono (fun σ1 hq => ?_)))
  exact ⟨fun q => absurd q (by rw [hq.2]; decide), fun _ => ⟨rfl, hq⟩⟩
/-- where a copied value may come -/
def OwS (S : Option (List Row)) (e : Nat) (nm : Option (List Nat)) : Prop := match S with
  | none => True
  | some D => ∃ x, OwR D x e ∧ (nm = none ↔ ¬ OwN D x)
theorem c_copy {E : En_t} {d s i e : Nat} {S : Option (List Row)} {F : List Row} {nm : Option (List Nat)} {x4 : Int32} {σ : S_t} (hs : s < 8) (hB : MoB σ S) (hWF : WfR F) (hMF : MoR σ s F) (hi : i < F.length) (he : e ≤ dT F i) (hO : OwS S e nm) (hn0 : x4 = 0 → nm = none) (hn1 : ¬ x4 = 0 → nm = dN F i) : CV E (d + 4) m_Mo_copy [pv E 0, .int (nI s), .int (nI i), .int (nI e), .int x4] σ (fun σ' => Fg MMk σ σ' ∧ MoB σ' (cpS S F i e nm)) := by
  obtain ⟨z1, z2, z3, z4⟩ := siz_spec (f := dT F) (n := F.length) hi
  have nF5 := hWF.2.2.2.2
  have dep : ∀ c, c < siz (dT F) F.length i → e + (dT F (i + c) - dT F i) ≤ 30 ∧ (5 ≤ dK F (i + c) → e + (dT F (i + c) - dT F i) ≤ 29) := fun c hc => by
    have h1 := (sub_dT hi hc).1
    have h2 := hWF.2.1 (i + c) (by omega)
    have h3 := h2.2.1
    have h4 := h2.2.2.1
    exact ⟨by omega, fun z => by have := h4 z; omega⟩
  let Q : Option Value → S_t → Prop := fun q σ' => q = none ∧ (Fg MMk σ σ' ∧ MoB σ' (cpS S F i e nm))
  have loop : ∀ (m c : Nat) (τ : S_t), c + m = siz (dT F) F.length i → Fg MMk σ τ → MoB τ (cpN S F i e nm c) → JE E (d + 4) m_Mo_copy 12 [(0, pv E 0), (1, .int (nI s)), (2, .int (nI i)), (3, .int (nI e)), (4, .int x4), (5, .int (nI (500 * s + i))), (6, .int (nI c))] [] τ Q := by
    intro m
    induction m with
    | zero =>
      intro c τ hc hF hB
      have : c = siz (dT F) F.length i := by omega
      subst this
      obtain ⟨_, _, _, _, _, _, m6⟩ := MoR_src hs hWF hF hMF
      refine b_Mo_copy_12 ?_
      rw [nI_clamp (by omega), (m6 i hi).2.2.2.2.1]
      exact ⟨vin (by omega) (by decide), fun _ => ⟨rfl, hF, hB⟩, fun q => absurd (Int32.le_refl _) q⟩
    | succ m ih =>
      intro c τ hc hF hB
      have hcs : c < siz (dT F) F.length i := by omega
      have MF := MoR_src hs hWF hF hMF
      obtain ⟨_, _, _, _, _, _, m6⟩ := id MF
      obtain ⟨r1, r2, r3, r4, r5, r6, r7, r8, _⟩ := m6 (i + c) (by omega)
      have q6 := (m6 i hi).2.2.2.2.2.1
      obtain ⟨e1, e2⟩ := dep c hcs
      have sd := (sub_dT hi hcs).1
      have hd30 := (hWF.2.1 (i + c) (by omega)).2.1
      have iF : vp_in (nI (500 * s + (i + c))) 4500 := vin (by omega) (by decide)
      have i5 : vp_in (nI (500 * s + i)) 4500 := vin (by omega) (by decide)
      have xd : nI e + nI (dT F (i + c)) - nI (dT F i) = nI (e + (dT F (i + c) - dT F i)) := by rw [nI_add, pk_sub (by omega)]; congr 1; omega
      have hq : nI (500 * s + i) + nI c = nI (500 * s + (i + c)) := by rw [nI_add]; congr 1; omega
      -- the call, with its name
      have call : ∀ (x5 : Int32), x5 = (if (if c = 0 then nm else dN F (i + c)) = none then -1 else nI (nam F (i + c)).length) → JE E (d + 4) m_Mo_copy 104 [(0, pv E 0), (1, .int (nI s)), (2, .int (nI i)), (3, .int (nI e)), (4, .int x4), (5, .int (nI (500 * s + i))), (6, .int (nI c)), (7, .int (nI (500 * s + (i + c))))] [.int x5, .int (gI τ 19 (500 * s + (i + c))), .int (nI (e + (dT F (i + c) - dT F i))), .int (nI i + nI c), .int (nI s), pv E 0] τ Q := by
        intro x5 hx5
        refine b_Mo_copy_104 ⟨iF, ?_⟩
        rw [nI_clamp (by omega), r1, nI_add, nI_1]
        have nxt : ∀ σ1, Fg MMk τ σ1 → MoB σ1 (cpN S F i e nm (c + 1)) → JE E (d + 4) m_Mo_copy 12 [(0, pv E 0), (1, .int (nI s)), (2, .int (nI i)), (3, .int (nI e)), (4, .int x4), (5, .int (nI (500 * s + i))), (6, .int (nI (c + 1)))] [] σ1 Q := fun σ1 h1 h2 => ih (c + 1) σ1 (by omega) (hF.tr h1) h2
        cases hcp : cpN S F i e nm c with
        | none =>
          rw [hcp] at hB
          refine (c_makeLike1 hB).mono (fun σ1 hq => nxt σ1 hq.1 ?_)
          have : cpN S F i e nm (c + 1) = none := by show adR (cpN S F i e nm c) _ = none; rw [hcp]; rfl
          rw [this]; exact hq.2
        | some D1 =>
          rw [hcp] at hB
          have hB' := hB
          obtain ⟨_, _, _, W1⟩ := hB'
          have own : ∃ x, OwR D1 x (e + (dT F (i + c) - dT F i)) ∧ ((if c = 0 then nm else dN F (i + c)) = none ↔ ¬ OwN D1 x) := by
            by_cases h0 : c = 0
            · subst h0
              have hS : S = some D1 := hcp
              subst hS
              obtain ⟨x, o1, o2⟩ := hO
              rw [if_pos rfl, Nat.add_zero, Nat.sub_self, Nat.add_zero]
              exact ⟨x, o1, o2⟩
            · rw [if_neg h0]
              cases S with
              | none => rw [cpN_none] at hcp; cases hcp
              | some D =>
                obtain ⟨o1, o2⟩ := cp_owner hWF hi (by omega) hcs (cpN_CpI hcp) W1.2.2.2.2.1
                exact ⟨_, o1, by rw [o2]; exact ⟨fun z y => y z, fun z => Classical.not_not.mp z⟩⟩
          obtain ⟨x, o1, o2⟩ := own
          have hnm : (if c = 0 then nm else dN F (i + c)) = none ∨ (if c = 0 then nm else dN F (i + c)) = some (nam F (i + c)) := by
            by_cases z : (if c = 0 then nm else dN F (i + c)) = none
            · exact Or.inl z
            · right
              by_cases h0 : c = 0
              · subst h0
                rw [if_pos rfl] at z ⊢
                have : nm = dN F i := hn1 (fun y => z (hn0 y))
                rw [this] at z ⊢
                exact nam_some z
              · rw [if_neg h0] at z ⊢
                exact nam_some z
          refine (c_makeLike hs hB hWF MF (show i + c < F.length by omega) o1 e1 e2 hnm o2 hx5 rfl).mono (fun σ1 hq => nxt σ1 hq.1 ?_)
          have : cpN S F i e nm (c + 1) = adR (some D1) (likR F (i + c) (e + (dT F (i + c) - dT F i)) (if c = 0 then nm else dN F (i + c))) := by
            show adR (cpN S F i e nm c) (cpR F i e nm c) = _
            rw [hcp]; rfl
          rw [this]; exact hq.2
      have at56 : ∀ s0 : Int32, (s0 = 0 → (if c = 0 then nm else dN F (i + c)) = none) → (¬ s0 = 0 → (if c = 0 then nm else dN F (i + c)) = dN F (i + c) ∧ dN F (i + c) ≠ none) → JE E (d + 4) m_Mo_copy 56 [(0, pv E 0), (1, .int (nI s)), (2, .int (nI i)), (3, .int (nI e)), (4, .int x4), (5, .int (nI (500 * s + i))), (6, .int (nI c)), (7, .int (nI (500 * s + (i + c))))] [.int s0] τ Q := by
        intro s0 h0 h1
        refine b_Mo_copy_56 ?_
        rw [nI_clamp (show 500 * s + (i + c) < 2 ^ 31 by omega), nI_clamp (show 500 * s + i < 2 ^ 31 by omega), r6, q6, xd, r8]
        refine ⟨iF, i5, iF, fun z => call _ (by rw [if_pos (h0 z)]), fun z => ⟨iF, call _ ?_⟩⟩
        obtain ⟨y1, y2⟩ := h1 z
        rw [y1]
      have at41 : (c = 0 → nm = dN F i) → JE E (d + 4) m_Mo_copy 41 [(0, pv E 0), (1, .int (nI s)), (2, .int (nI i)), (3, .int (nI e)), (4, .int x4), (5, .int (nI (500 * s + i))), (6, .int (nI c)), (7, .int (nI (500 * s + (i + c))))] [] τ Q := by
        intro hc0
        have hnmc : (if c = 0 then nm else dN F (i + c)) = dN F (i + c) := by
          by_cases h0 : c = 0
          · subst h0; rw [if_pos rfl]; exact hc0 rfl
          · rw [if_neg h0]
        refine b_Mo_copy_41 ?_
        rw [nI_clamp (show 500 * s + (i + c) < 2 ^ 31 by omega), r8]
        refine ⟨iF, fun z => b_Mo_copy_55 (at56 0 (fun _ => ?_) (fun y => absurd rfl y)), fun z => at56 1 (fun y => absurd y (by decide)) (fun _ => ⟨hnmc, fun y => ?_⟩)⟩
        · rw [hnmc]
          by_cases y : dN F (i + c) = none
          · exact y
          · rw [if_neg y] at z
            have := bls_len (nam F (i + c))
            have hcF := cc_bts F
            obtain ⟨b, _, b2, _⟩ := (m6 (i + c) (by omega)).2.2.2.2.2.2.2.2.1
            exact absurd z (nI_pos (by omega))
        · rw [if_pos y] at z
          exact z (by decide)
      refine b_Mo_copy_12 ?_
      rw [nI_clamp (by omega), (m6 i hi).2.2.2.2.1, hq]
      refine ⟨i5, fun q => absurd q (nI_ge hcs (by omega)), fun _ => pk_lt 0 c (fun g => at41 (fun h => by omega)) (fun g => ⟨fun z => b_Mo_copy_55 (at56 0 (fun _ => by rw [if_pos (by omega)]; exact hn0 z) (fun y => absurd rfl y)), fun z => at41 (fun _ => hn1 z)⟩)⟩
  refine CE.of (L := [(0, pv E 0), (1, .int (nI s)), (2, .int (nI i)), (3, .int (nI e)), (4, .int x4)]) rfl (Nat.le_of_ble_eq_true rfl) rfl (b_Mo_copy_0 ?_)
  rw [ix500]
  exact loop (siz (dT F) F.length i) 0 σ (by omega) Fg.rf hB
/-- the same document at another shelf -/
theorem MoR_move {σ σ' : S_t} {s : Nat} {D : List Row} (h : MoR σ 8 D) (h9 : ∀ p, 9 ≤ p → p ≤ 12 → gI σ' p s = gI σ p 8) (hr : ∀ p k, 13 ≤ p → p ≤ 24 → k < D.length → gI σ' p (500 * s + k) = gI σ p (4000 + k)) (hL : ∀ k, k < D.length → gL σ' 25 (500 * s + k) = gL σ 25 (4000 + k)) (h26 : ∀ i, i < cc D → gI σ' 26 (4000 * s + i) = gI σ 26 (32000 + i)) (h27 : ∀ pm i, gI σ 12 8 = nI pm → pm ≤ 26 * D.length → i < pm → gI σ' 27 (13000 * s + i) = gI σ 27 (104000 + i)) : MoR σ' s D := by
  obtain ⟨a1, a2, a3, pm, a4, a5, a6⟩ := h
  refine ⟨by rw [h9 9 (by omega) (by omega)]; exact a1, by rw [h9 10 (by omega) (by omega)]; exact a2, by rw [h9 11 (by omega) (by omega)]; exact a3, pm, a4, by rw [h9 12 (by omega) (by omega)]; exact a5, fun k hk => ?_⟩
  obtain ⟨r1, r2, r3, r4, r5, r6, r7, r8, ⟨a, r9, r10, r11⟩, r12, ⟨b, r13, r14, r15⟩, r16, r17⟩ := a6 k hk
  refine ⟨by rw [hr 13 k (by omega) (by omega) hk]; exact r1, by rw [hr 14 k (by omega) (by omega) hk]; exact r2, by rw [hr 15 k (by omega) (by omega) hk]; exact r3, by rw [hr 16 k (by omega) (by omega) hk]; exact r4, by rw [hr 17 k (by omega) (by omega) hk]; exact r5, by rw [hr 18 k (by omega) (by omega) hk]; exact r6, by rw [hL k hk]; exact r7, by rw [hr 20 k (by omega) (by omega) hk]; exact r8, ⟨a, by rw [hr 19 k (by omega) (by omega) hk]; exact r9, r10, fun i hi => (h26 _ (by omega)).trans (r11 i hi)⟩, by rw [hr 22 k (by omega) (by omega) hk]; exact r12, ⟨b, by rw [hr 21 k (by omega) (by omega) hk]; exact r13, r14, fun i hi => (h26 _ (by omega)).trans (r15 i hi)⟩, fun q => by rw [hr 24 k (by omega) (by omega) hk]; exact r16 q, fun q => ?_⟩
  obtain ⟨c, m, s1, s0, s2, s3, s4, s5⟩ := r17 q
  exact ⟨c, m, s1, s0, by rw [hr 23 k (by omega) (by omega) hk]; exact s2, by rw [hr 24 k (by omega) (by omega) hk]; exact s3, s4, fun i hi => (h27 pm _ a5 a4 (by omega)).trans (s5 i hi)⟩
def MSv (s : Nat) : Nat → Nat → Prop := fun p k => MoC s p k ∨ (p = 8 ∧ k = s)
theorem nI0_4 : (4000 : Int32) = nI 4000 := rfl
theorem c_shelve {E : En_t} {d s : Nat} {D : List Row} {σ : S_t} (hs : s < 8) (hW : WfR D) (hM : MoR σ 8 D) : CV E d m_Mo_shelve [pv E 0, .int (nI s)] σ (fun σ' => Fg (MSv s) σ σ' ∧ MoR σ' s D ∧ gI σ' 8 s = 1) := by
  have n5 := hW.2.2.2.2
  have hcc := cc_bts D
  obtain ⟨a1, a2, a3, pm, a4, a5, a6⟩ := id hM
  let Q : Option Value → S_t → Prop := fun q σ' => q = none ∧ (Fg (MSv s) σ σ' ∧ MoR σ' s D ∧ gI σ' 8 s = 1)
  have mrow : ∀ {p k : Nat}, 13 ≤ p → p ≤ 25 → k < 500 → MSv s p (500 * s + k) := fun h1 h2 h3 => Or.inl (Or.inr (Or.inl ⟨h1, h2, by omega, by omega⟩))
  have wk : ∀ {τ : S_t} {p k : Nat}, Fg (MSv s) σ τ → ((9 ≤ p ∧ p ≤ 12 ∧ k = 8) ∨ (13 ≤ p ∧ p ≤ 25 ∧ 4000 ≤ k) ∨ (p = 26 ∧ 32000 ≤ k) ∨ (p = 27 ∧ 104000 ≤ k)) → gI τ p k = gI σ p k ∧ gL τ p k = gL σ p k := fun {τ p k} hF h => by
    have : ¬ MSv s p k := by unfold MSv MoC; omega
    exact ⟨hF.1 p k this, hF.2.1 p k this⟩
  -- what is printed, and the end
  have at313 : ∀ (m j : Nat) (τ : S_t), j + m = pm → Fg (MSv s) σ τ → (∀ p k, 13 ≤ p → p ≤ 24 → k < D.length → gI τ p (500 * s + k) = gI σ p (4000 + k)) → (∀ k, k < D.length → gL τ 25 (500 * s + k) = gL σ 25 (4000 + k)) → (∀ i, i < cc D → gI τ 26 (4000 * s + i) = gI σ 26 (32000 + i)) → (∀ i, i < j → gI τ 27 (13000 * s + i) = gI σ 27 (104000 + i)) → JE E d m_Mo_shelve 313 [(0, pv E 0), (1, .int (nI s)), (4, .int (nI j))] [] τ Q := by
    intro m
    induction m with
    | zero =>
      intro j τ hj hF hr hL h26 h27
      have : j = pm := by omega
      subst this
      refine b_Mo_shelve_313 ?_
      rw [cl8, (wk hF (p := 12) (k := 8) (by omega)).1, a5, nI_clamp (show s < 2 ^ 31 by omega)]
      refine ⟨in8, fun _ => ⟨in8, vin (by omega) (by decide), in8, vin (by omega) (by decide), fun σ1 e1 => ⟨in8, vin (by omega) (by decide), in8, vin (by omega) (by decide), fun σ2 e2 => ⟨vin (by omega) (by decide), rfl, ?_⟩⟩⟩, fun q => absurd (Int32.le_refl _) q⟩
      have gi : ∀ p k, gI σ2 p k = if (9 ≤ p ∧ p ≤ 12) ∧ k = s then gI τ p 8 else gI τ p k := by
        intro p k
        have h8 : ¬ 8 = s := by omega
        rw [e2, e1]
        simp only [gI_sI]
        repeat' split
        all_goals first | rfl | (exfalso; omega) | (congr 1; omega)
      have gl : ∀ p k, gL σ2 p k = gL τ p k := fun p k => by rw [e2, e1]; rfl
      have hFf : Fg (MSv s) σ (sI σ2 8 s (vp_nar .boolean (1 : Int32))) := by
        rw [e2, e1]
        exact ((((hF.si (Or.inl (Or.inl ⟨by omega, by omega, rfl⟩))).si (Or.inl (Or.inl ⟨by omega, by omega, rfl⟩))).si (Or.inl (Or.inl ⟨by omega, by omega, rfl⟩))).si (Or.inl (Or.inl ⟨by omega, by omega, rfl⟩))).si (Or.inr ⟨rfl, rfl⟩)
      refine ⟨hFf, MoR_move hM (fun p h1 h2 => ?_) (fun p k h1 h2 hk => ?_) (fun k hk => ?_) (fun i hi => ?_) (fun pm' i e1' e2' hi => ?_), by rw [gI_sI_s]; rfl⟩
      · rw [gI_sI_n (Or.inl (by omega)), gi, if_pos ⟨⟨h1, h2⟩, rfl⟩]; exact (wk hF (by omega)).1
      · rw [gI_sI_n (Or.inl (by omega)), gi, if_neg (by omega)]; exact hr p k h1 h2 hk
      · rw [gL_sI, gl]; exact hL k hk
      · rw [gI_sI_n (Or.inl (by omega)), gi, if_neg (by omega)]; exact h26 i hi
      · have : pm' = j := (nI_eq (by omega) (by omega)).mp (e1'.symm.trans a5)
        rw [gI_sI_n (Or.inl (by omega)), gi, if_neg (by omega)]; exact h27 i (by omega)
    | succ m ih =>
      intro j τ hj hF hr hL h26 h27
      refine b_Mo_shelve_313 ?_
      rw [cl8, (wk hF (p := 12) (k := 8) (by omega)).1, a5, show (104000 : Int32) + nI j = nI (104000 + j) from nI_add 104000 j, show (13000 : Int32) * nI s + nI j = nI (13000 * s + j) from by rw [show (13000 : Int32) * nI s = nI (13000 * s) from pk_mul 13000 s, nI_add], nI_clamp (show 104000 + j < 2 ^ 31 by omega), nI_clamp (show 13000 * s + j < 2 ^ 31 by omega), (wk hF (p := 27) (k := 104000 + j) (by omega)).1, nI_1]
      refine ⟨in8, fun q => absurd q (nI_ge (by omega) (by omega)), fun _ => ⟨vin (by omega) (by decide), vin (by omega) (by decide), ih (j + 1) _ (by omega) (hF.si (Or.inl (Or.inr (Or.inr (Or.inr ⟨rfl, by omega, by omega⟩))))) (fun p k h1 h2 hk => ?_) (fun k hk => hL k hk) (fun i hi => ?_) (fun i hi => ?_)⟩⟩
      · rw [gI_sI_n (Or.inl (by omega))]; exact hr p k h1 h2 hk
      · rw [gI_sI_n (Or.inl (by omega))]; exact h26 i hi
      · by_cases y : i = j
        · subst y; exact gI_sI_s _ _ _ _
        · rw [gI_sI_n (Or.inr (by omega))]; exact h27 i (by omega)
  have at268 : ∀ (m j : Nat) (τ : S_t), j + m = cc D → Fg (MSv s) σ τ → (∀ p k, 13 ≤ p → p ≤ 24 → k < D.length → gI τ p (500 * s + k) = gI σ p (4000 + k)) → (∀ k, k < D.length → gL τ 25 (500 * s + k) = gL σ 25 (4000 + k)) → (∀ i, i < j → gI τ 26 (4000 * s + i) = gI σ 26 (32000 + i)) → JE E d m_Mo_shelve 268 [(0, pv E 0), (1, .int (nI s)), (4, .int (nI j))] [] τ Q := by
    intro m
    induction m with
    | zero =>
      intro j τ hj hF hr hL h26
      have : j = cc D := by omega
      subst this
      refine b_Mo_shelve_268 ?_
      rw [cl8, (wk hF (p := 10) (k := 8) (by omega)).1, a2]
      exact ⟨in8, fun _ => at313 pm 0 τ (by omega) hF hr hL h26 (fun i hi => absurd hi (Nat.not_lt_zero i)), fun q => absurd (Int32.le_refl _) q⟩
    | succ m ih =>
      intro j τ hj hF hr hL h26
      refine b_Mo_shelve_268 ?_
      rw [cl8, (wk hF (p := 10) (k := 8) (by omega)).1, a2, show (32000 : Int32) + nI j = nI (32000 + j) from nI_add 32000 j, ix4000, nI_clamp (show 32000 + j < 2 ^ 31 by omega), nI_clamp (show 4000 * s + j < 2 ^ 31 by omega), (wk hF (p := 26) (k := 32000 + j) (by omega)).1, nI_1]
      refine ⟨in8, fun q => absurd q (nI_ge (by omega) (by omega)), fun _ => ⟨vin (by omega) (by decide), vin (by omega) (by decide), ih (j + 1) _ (by omega) (hF.si (Or.inl (Or.inr (Or.inr (Or.inl ⟨rfl, by omega, by omega⟩))))) (fun p k h1 h2 hk => ?_) (fun k hk => hL k hk) (fun i hi => ?_)⟩⟩
      · rw [gI_sI_n (Or.inl (by omega))]; exact hr p k h1 h2 hk
      · by_cases y : i = j
        · subst y; exact gI_sI_s _ _ _ _
        · rw [gI_sI_n (Or.inr (by omega))]; exact h26 i (by omega)
  have at13 : ∀ (m j : Nat) (τ : S_t), j + m = D.length → Fg (MSv s) σ τ → (∀ p k, 13 ≤ p → p ≤ 24 → k < j → gI τ p (500 * s + k) = gI σ p (4000 + k)) → (∀ k, k < j → gL τ 25 (500 * s + k) = gL σ 25 (4000 + k)) → JE E d m_Mo_shelve 13 [(0, pv E 0), (1, .int (nI s)), (2, .int (nI 4000)), (3, .int (nI (500 * s))), (4, .int (nI j))] [] τ Q := by
    intro m
    induction m with
    | zero =>
      intro j τ hj hF hr hL
      have : j = D.length := by omega
      subst this
      refine b_Mo_shelve_13 ?_
      rw [cl8, (wk hF (p := 9) (k := 8) (by omega)).1, a1]
      exact ⟨in8, fun _ => at268 (cc D) 0 τ (by omega) hF hr hL (fun i hi => absurd hi (Nat.not_lt_zero i)), fun q => absurd (Int32.le_refl _) q⟩
    | succ m ih =>
      intro j τ hj hF hr hL
      refine b_Mo_shelve_13 ?_
      rw [cl8, (wk hF (p := 9) (k := 8) (by omega)).1, a1, nI_add, nI_add, nI_clamp (show 4000 + j < 2 ^ 31 by omega), nI_clamp (show 500 * s + j < 2 ^ 31 by omega), nI_1]
      have i1 : vp_in (nI (4000 + j)) 4500 := vin (by omega) (by decide)
      have i2 : vp_in (nI (500 * s + j)) 4500 := vin (by omega) (by decide)
      have hne : 4000 + j ≠ 500 * s + j := by omega
      refine ⟨in8, fun q => absurd q (nI_ge (by omega) (by omega)), fun _ => ⟨i1, i2, i1, i2, fun σ1 e1 => ⟨i1, i2, i1, i2, fun σ2 e2 => ⟨i1, i2, i1, i2, fun σ3 e3 => ⟨i1, i2, i1, i2, fun σ4 e4 => ⟨i1, i2, i1, i2, fun σ5 e5 => ⟨i1, i2, i1, i2, fun σ6 e6 => ⟨i1, i2, ?_⟩⟩⟩⟩⟩⟩⟩⟩
      have st : ∀ (ρ ρ' : S_t) (p : Nat), ρ' = sI (sI ρ p (500 * s + j) (gI ρ p (4000 + j))) (p + 1) (500 * s + j) (gI (sI ρ p (500 * s + j) (gI ρ p (4000 + j))) (p + 1) (4000 + j)) → (∀ q k, gI ρ' q k = if (q = p ∨ q = p + 1) ∧ k = 500 * s + j then gI ρ q (4000 + j) else gI ρ q k) ∧ ρ'.2 = ρ.2 := by
        intro ρ ρ' p h
        rw [h]
        refine ⟨fun q k => ?_, rfl⟩
        rw [gI_sI_n (σ := ρ) (Or.inr hne)]
        simp only [gI_sI]
        by_cases y1 : q = p + 1 ∧ k = 500 * s + j
        · rw [if_pos y1, if_pos ⟨Or.inr y1.1, y1.2⟩, y1.1]
        · rw [if_neg y1]
          by_cases y2 : q = p ∧ k = 500 * s + j
          · rw [if_pos y2, if_pos ⟨Or.inl y2.1, y2.2⟩, y2.1]
          · rw [if_neg y2, if_neg]
            rintro ⟨z | z, z2⟩
            · exact y2 ⟨z, z2⟩
            · exact y1 ⟨z, z2⟩
      obtain ⟨g1, l1⟩ := st τ σ1 13 e1
      obtain ⟨g2, l2⟩ := st σ1 σ2 15 e2
      obtain ⟨g3, l3⟩ := st σ2 σ3 17 e3
      obtain ⟨g4, l4⟩ := st σ3 σ4 19 e4
      obtain ⟨g5, l5⟩ := st σ4 σ5 21 e5
      obtain ⟨g6, l6⟩ := st σ5 σ6 23 e6
      have gi : ∀ q k, gI σ6 q k = if (13 ≤ q ∧ q ≤ 24) ∧ k = 500 * s + j then gI τ q (4000 + j) else gI τ q k := by
        intro q k
        rw [g6, g5, g5, g4, g4, g3, g3, g2, g2, g1, g1]
        by_cases y : (13 ≤ q ∧ q ≤ 24) ∧ k = 500 * s + j
        · rw [if_pos y]
          obtain ⟨⟨y1, y2⟩, y3⟩ := y
          have hno : ∀ P : Prop, ¬ (P ∧ 4000 + j = 500 * s + j) := fun P z => hne z.2
          simp only [y3, hno, if_false, and_true]
          repeat' split
          all_goals first | rfl | (exfalso; omega)
        · rw [if_neg y]
          have hno : ∀ a b : Nat, 13 ≤ a → b ≤ 24 → b = a + 1 → ¬ ((q = a ∨ q = b) ∧ k = 500 * s + j) := fun a b h1 h2 h3 z => y ⟨by omega, z.2⟩
          rw [if_neg (hno 23 24 (by omega) (by omega) rfl), if_neg (hno 21 22 (by omega) (by omega) rfl), if_neg (hno 19 20 (by omega) (by omega) rfl), if_neg (hno 17 18 (by omega) (by omega) rfl), if_neg (hno 15 16 (by omega) (by omega) rfl), if_neg (hno 13 14 (by omega) (by omega) rfl)]
      have ll : σ6.2 = τ.2 := by rw [l6, l5, l4, l3, l2, l1]
      have hL6 : ∀ p k, gL σ6 p k = gL τ p k := fun p k => by show σ6.2.1 p k = τ.2.1 p k; rw [ll]
      have F6 : Fg (MSv s) σ σ6 := ⟨fun p k hp => by rw [gi, if_neg (fun z => hp (by rw [z.2]; exact mrow z.1.1 (by omega) (by omega)))]; exact hF.1 p k hp, fun p k hp => by rw [hL6]; exact hF.2.1 p k hp, by rw [show σ6.2.2 = τ.2.2 from by rw [ll]]; exact hF.2.2⟩
      rw [hL6, (wk hF (p := 25) (k := 4000 + j) (by omega)).2]
      refine ih (j + 1) _ (by omega) (F6.sl (mrow (by omega) (by omega) (by omega))) (fun p k h1 h2 hk => ?_) (fun k hk => ?_)
      · rw [gI_sL, gi]
        by_cases y : k = j
        · subst y; rw [if_pos ⟨⟨h1, h2⟩, rfl⟩]; exact (wk hF (by omega)).1
        · rw [if_neg (by omega)]; exact hr p k h1 h2 (by omega)
      · by_cases y : k = j
        · subst y; exact gL_sL_s _ _ _ _
        · rw [gL_sL_n (Or.inr (by omega)), hL6]; exact hL k (by omega)
  refine CE.of (L := [(0, pv E 0), (1, .int (nI s))]) rfl (Nat.le_of_ble_eq_true rfl) rfl (b_Mo_shelve_0 ?_)
  rw [show (500 : Int32) * nI s = nI (500 * s) from pk_mul 500 s]
  exact at13 D.length 0 σ (by omega) Fg.rf (fun p k _ _ hk => absurd hk (Nat.not_lt_zero k)) (fun k hk => absurd hk (Nat.not_lt_zero k))
