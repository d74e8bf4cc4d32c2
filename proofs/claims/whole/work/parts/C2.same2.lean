/-! same -/
theorem prt_le {D : List Row} {k : Nat} (hW : WfR D) (hk : k < D.length) : prt (dT D) D.length k ≤ 500 := by
  have z1 := cnt_le (f := dT D) (e := dT D k + 1) (a := k + 1) (b := k + siz (dT D) D.length k)
  have y1 := (siz_spec (f := dT D) (n := D.length) (k := k) hk).2.1
  have := hW.2.2.2.2.1
  unfold prt; omega
theorem dB_lt {D : List Row} {k : Nat} (hW : WfR D) (hk : k < D.length) : dB D k < 2 ^ 64 := by
  have o1 := hW.2.1 k hk
  by_cases q : dK D k = 3
  · exact (o1.2.2.2.2.2.1 q).1
  · rw [o1.2.2.2.2.1 q]; decide
theorem nm_eq {D F : List Row} {k j : Nat} (h1 : (nam D k).length < 2 ^ 31) (h2 : (nam F j).length < 2 ^ 31) : (if dN D k = none then (-1 : Int32) else nI (nam D k).length) = (if dN F j = none then (-1 : Int32) else nI (nam F j).length) ↔ ((dN D k = none ↔ dN F j = none) ∧ (nam D k).length = (nam F j).length) := by
  by_cases a : dN D k = none <;> by_cases b : dN F j = none
  · rw [if_pos a, if_pos b, nam_none a, nam_none b]
    exact ⟨fun _ => ⟨⟨fun _ => b, fun _ => a⟩, rfl⟩, fun _ => rfl⟩
  · rw [if_pos a, if_neg b]
    exact ⟨fun q => absurd q (nI_neg1 h2), fun q => absurd (q.1.mp a) b⟩
  · rw [if_neg a, if_pos b]
    exact ⟨fun q => absurd q.symm (nI_neg1 h1), fun q => absurd (q.1.mpr b) a⟩
  · rw [if_neg a, if_neg b, nI_eq h1 h2]
    exact ⟨fun q => ⟨⟨fun z => absurd z a, fun z => absurd z b⟩, q⟩, fun q => q.2⟩
theorem c_namedLike {E : En_t} {d s s' k j : Nat} {D F : List Row} {σ : S_t} (hs : s < 9) (hs' : s' < 9) (hD : WfR D) (hF : WfR F) (mD : MoR σ s D) (mF : MoR σ s' F) (hk : k < D.length) (hj : j < F.length) (nk : dN D k ≠ none) (nj : dN F j ≠ none) : CI E (d + 2) m_Mo_namedLike [pv E 0, .int (nI s), .int (nI k), .int (nI s'), .int (nI j)] σ (fun r σ' => CmR (nam D k) (nam F j) r ∧ σ' = σ) := by
  obtain ⟨_, _, _, pm, _, _, m6⟩ := mD
  obtain ⟨_, _, _, pm', _, _, m6'⟩ := mF
  obtain ⟨r1, r2, r3, r4, r5, r6, r7, r8, ⟨b, r9, r9', r9''⟩, _⟩ := m6 k hk
  obtain ⟨s1, s2, s3, s4, s5, s6, s7, s8, ⟨b', s9, s9', s9''⟩, _⟩ := m6' j hj
  have o1 := hD.2.1 k hk
  have o2 := hF.2.1 j hj
  have n1 := hD.2.2.2.2
  have n2 := hF.2.2.2.2
  have c1 := cc_bts D
  have c2 := cc_bts F
  have i1 : vp_in (nI (500 * s + k)) 4500 := vin (by omega) (by decide)
  have i2 : vp_in (nI (500 * s' + j)) 4500 := vin (by omega) (by decide)
  rw [if_neg nk] at r8
  rw [if_neg nj] at s8
  refine CE.of (L := [(0, pv E 0), (1, .int (nI s)), (2, .int (nI k)), (3, .int (nI s')), (4, .int (nI j))]) rfl (Nat.le_of_ble_eq_true rfl) rfl (b_Mo_namedLike_0 ?_)
  rw [ix500, ix500, nI_clamp (show 500 * s + k < 2 ^ 31 by omega), nI_clamp (show 500 * s' + j < 2 ^ 31 by omega), r8, s8, r9, s9, ix4000, ix4000]
  refine ⟨i1, i1, i2, i2, ?_⟩
  have sa : StrA (gI σ 26) (4000 * s + b) (nam D k) := fun i hi => by rw [show 4000 * s + b + i = 4000 * s + (b + i) by omega]; exact r9'' i hi
  have sb : StrA (gI σ 26) (4000 * s' + b') (nam F j) := fun i hi => by rw [show 4000 * s' + b' + i = 4000 * s' + (b' + i) by omega]; exact s9'' i hi
  exact (c_compared (o1 := 26) (o2 := 26) rfl rfl sa sb (show 4000 * s + b + (nam D k).length ≤ 36000 by omega) (show 4000 * s' + b' + (nam F j).length ≤ 36000 by omega) (show 36000 ≤ 1000000 by decide) (show 36000 ≤ 1000000 by decide) o1.2.2.2.2.2.2.1 o2.2.2.2.2.2.2.1).mono (fun r σ1 hq => ⟨_, rfl, hq⟩)
theorem c_isSameM {E : En_t} {d s s' k j : Nat} {D F : List Row} {σ : S_t} (hs : s < 9) (hs' : s' < 9) (hD : WfR D) (hF : WfR F) (mD : MoR σ s D) (mF : MoR σ s' F) (hk : k < D.length) (hj : j < F.length) : CI E (d + 3) m_Mo_isSame [pv E 0, .int (nI s), .int (nI k), .int (nI s'), .int (nI j)] σ (fun r σ' => σ' = σ ∧ ((r = 0 ∧ ¬ sameS D k F j) ∨ (r = 1 ∧ sameS D k F j))) := by
  have rowD : ∀ k, k < D.length → gI σ 20 (500 * s + k) = (if dN D k = none then -1 else nI (nam D k).length) ∧ gI σ 17 (500 * s + k) = nI (siz (dT D) D.length k) ∧ (nam D k).length ≤ 4000 := by
    intro k hk
    obtain ⟨_, _, _, pm, _, _, m6⟩ := mD
    obtain ⟨r1, r2, r3, r4, r5, r6, r7, r8, ⟨b, r9, r9', r9''⟩, _⟩ := m6 k hk
    have := cc_bts D
    have := hD.2.2.2.2
    exact ⟨r8, r5, by omega⟩
  have rowF : ∀ k, k < F.length → gI σ 20 (500 * s' + k) = (if dN F k = none then -1 else nI (nam F k).length) ∧ gI σ 17 (500 * s' + k) = nI (siz (dT F) F.length k) ∧ (nam F k).length ≤ 4000 := by
    intro k hk
    obtain ⟨_, _, _, pm, _, _, m6⟩ := mF
    obtain ⟨r1, r2, r3, r4, r5, r6, r7, r8, ⟨b, r9, r9', r9''⟩, _⟩ := m6 k hk
    have := cc_bts F
    have := hF.2.2.2.2
    exact ⟨r8, r5, by omega⟩
  obtain ⟨a1, a2, a3, a4⟩ := siz_spec (f := dT D) (n := D.length) (k := k) hk
  obtain ⟨b1, b2, b3, b4⟩ := siz_spec (f := dT F) (n := F.length) (k := j) hj
  have n1 := hD.2.2.2.2.1
  have n2 := hF.2.2.2.2.1
  let Q : Option Value → S_t → Prop := fun q σ' => ∃ r, q = some (.int r) ∧ σ' = σ ∧ ((r = 0 ∧ ¬ sameS D k F j) ∨ (r = 1 ∧ sameS D k F j))
  -- the answer 0 goes on to the end
  have none : ∀ (i : Nat), ¬ sameS D k F j → JE E (d + 3) m_Mo_isSame 42 [(0, pv E 0), (1, .int (nI s)), (2, .int (nI k)), (3, .int (nI s')), (4, .int (nI j)), (5, .int (nI (siz (dT D) D.length k))), (6, .int (0 : Int32)), (7, .int (nI i))] [] σ Q := fun i h => b_Mo_isSame_42 ⟨fun _ => ⟨rfl, _, rfl, rfl, Or.inl ⟨rfl, h⟩⟩, fun _ => ⟨fun _ => ⟨rfl, _, rfl, rfl, Or.inl ⟨rfl, h⟩⟩, fun q => absurd rfl q⟩⟩
  have loop : siz (dT D) D.length k = siz (dT F) F.length j → ∀ (m i : Nat), i + m = siz (dT D) D.length k → (∀ i', i' < i → likeR D (k + i') F (j + i') ∧ (0 < i' → dN D (k + i') = dN F (j + i'))) → JE E (d + 3) m_Mo_isSame 42 [(0, pv E 0), (1, .int (nI s)), (2, .int (nI k)), (3, .int (nI s')), (4, .int (nI j)), (5, .int (nI (siz (dT D) D.length k))), (6, .int (1 : Int32)), (7, .int (nI i))] [] σ Q := by
    intro hz m
    induction m with
    | zero =>
      intro i hi hall
      have : i = siz (dT D) D.length k := by omega
      refine b_Mo_isSame_42 ⟨fun _ => ⟨rfl, _, rfl, rfl, Or.inr ⟨rfl, hz, fun i' h => hall i' (by omega)⟩⟩, fun q => absurd (by rw [this]; exact Int32.le_refl _) q⟩
    | succ m ih =>
      intro i hi hall
      have hki : k + i < D.length := by omega
      have hji : j + i < F.length := by omega
      obtain ⟨e1, _, l1⟩ := rowD _ hki
      obtain ⟨e2, _, l2⟩ := rowF _ hji
      have i1 : vp_in (nI (500 * s + (k + i))) 4500 := vin (by omega) (by decide)
      have i2 : vp_in (nI (500 * s' + (j + i))) 4500 := vin (by omega) (by decide)
      refine b_Mo_isSame_42 ⟨fun q => absurd q (nI_ge (by omega) (by omega)), fun _ => ⟨fun q => absurd q (by decide), fun _ => ?_⟩⟩
      rw [nI_add, nI_add, ix500, ix500, nI_add, nI_add, show 500 * s + k + i = 500 * s + (k + i) by omega, show 500 * s' + j + i = 500 * s' + (j + i) by omega, nI_clamp (show 500 * s + (k + i) < 2 ^ 31 by omega), nI_clamp (show 500 * s' + (j + i) < 2 ^ 31 by omega)]
      refine (c_isLikeM hs hs' hD hF mD mF hki hji).mono (fun r σ1 hq => ?_)
      obtain ⟨rfl, hq⟩ := hq
      rcases hq with ⟨rfl, hn⟩ | ⟨rfl, hy⟩
      · refine ⟨fun _ => b_Mo_isSame_158 ?_, fun q => absurd rfl q⟩
        rw [nI_1]
        exact none _ (fun z => hn (z.2 i (by omega)).1)
      · have next : (0 < i → dN D (k + i) = dN F (j + i)) → JE E (d + 3) m_Mo_isSame 158 [(0, pv E 0), (1, .int (nI s)), (2, .int (nI k)), (3, .int (nI s')), (4, .int (nI j)), (5, .int (nI (siz (dT D) D.length k))), (6, .int (1 : Int32)), (7, .int (nI i))] [] σ1 Q := by
          intro h
          refine b_Mo_isSame_158 ?_
          rw [nI_1]
          refine ih (i + 1) (by omega) (fun i' h' => ?_)
          by_cases e : i' = i
          · subst e; exact ⟨hy, h⟩
          · exact hall i' (by omega)
        have stop : dN D (k + i) ≠ dN F (j + i) → 0 < i → JE E (d + 3) m_Mo_isSame 155 [(0, pv E 0), (1, .int (nI s)), (2, .int (nI k)), (3, .int (nI s')), (4, .int (nI j)), (5, .int (nI (siz (dT D) D.length k))), (7, .int (nI i))] [] σ1 Q := by
          intro h h0
          refine b_Mo_isSame_155 (b_Mo_isSame_156 (b_Mo_isSame_158 ?_))
          rw [nI_1]
          exact none _ (fun z => h ((z.2 i (by omega)).2 h0))
        have go : (0 < i → dN D (k + i) = dN F (j + i)) → JE E (d + 3) m_Mo_isSame 151 [(0, pv E 0), (1, .int (nI s)), (2, .int (nI k)), (3, .int (nI s')), (4, .int (nI j)), (5, .int (nI (siz (dT D) D.length k))), (7, .int (nI i))] [] σ1 Q := fun h => b_Mo_isSame_151 (b_Mo_isSame_156 (next h))
        refine ⟨fun q => absurd q (by decide), fun _ => ?_⟩
        refine pk_le i 0 (fun g => next (fun h => by omega)) (fun g => ⟨i1, i2, ?_⟩)
        rw [e1, e2, nm_eq (by omega) (by omega)]
        refine ⟨fun q => stop (fun z => q ⟨by rw [z], by unfold nam; rw [z]⟩) g, fun q => ⟨i1, fun z => go (fun _ => ?_), fun z => ?_⟩⟩
        · have hz1 : dN D (k + i) = .none := by
            by_cases y : dN D (k + i) = .none
            · exact y
            · rw [if_neg y] at z; exact absurd z (nI_pos (by omega))
          rw [hz1, q.1.mp hz1]
        · have hz1 : dN D (k + i) ≠ .none := fun y => by rw [if_pos y] at z; exact z (by decide)
          have hz2 : dN F (j + i) ≠ .none := fun y => hz1 (q.1.mpr y)
          refine (c_namedLike hs hs' hD hF mD mF hki hji hz1 hz2).mono (fun r σ2 hq => ?_)
          obtain ⟨hq, rfl⟩ := hq
          rw [hq.2, cmN_0, ← dN_iff q.1]
          exact ⟨fun y => stop y g, fun y => go (fun _ => y)⟩
  refine CE.of (L := [(0, pv E 0), (1, .int (nI s)), (2, .int (nI k)), (3, .int (nI s')), (4, .int (nI j))]) rfl (Nat.le_of_ble_eq_true rfl) rfl (b_Mo_isSame_0 ?_)
  rw [ix500, ix500, nI_clamp (show 500 * s + k < 2 ^ 31 by omega), nI_clamp (show 500 * s' + j < 2 ^ 31 by omega), (rowD k hk).2.1, (rowF j hj).2.1, nI_eq (by omega) (by omega)]
  exact ⟨vin (by omega) (by decide), vin (by omega) (by decide), fun q => b_Mo_isSame_37 (none 0 (fun z => q z.1)), fun q => b_Mo_isSame_37 (loop q (siz (dT D) D.length k) 0 (by omega) (fun i' h => absurd h (Nat.not_lt_zero i')))⟩
/-! the class -/
theorem or_mod {a b : Nat} (ha : a < 2 ^ 64) (hb : b < 2 ^ 64) : (lN a ||| lN b) &&& (9223372036854775807 : Int64) = lN ((a ||| b) % 2 ^ 63) := by
  rw [wb_or ha hb, x_pos (Nat.or_lt_two_pow ha hb)]
theorem or_mod0 (a b : Nat) : (a ||| b) % 2 ^ 63 = 0 ↔ a % 2 ^ 63 = 0 ∧ b % 2 ^ 63 = 0 := by
  rw [← Nat.and_two_pow_sub_one_eq_mod, ← Nat.and_two_pow_sub_one_eq_mod, ← Nat.and_two_pow_sub_one_eq_mod, Nat.and_or_distrib_right]
  exact Nat.or_eq_zero_iff
theorem c_alikeAlone {E : En_t} {d t t' k j : Nat} {D F : List Row} {σ : S_t} (ht : kindP t = 11) (ht' : kindP t' = 11) (hD : WfR D) (hF : WfR F) (mD : TrR σ t D) (mF : TrR σ t' F) (hk : k < D.length) (hj : j < F.length) : CI E (d + 1) m_Tr_isAlikeAlone [pv E t, .int (nI k), pv E t', .int (nI j)] σ (fun r σ' => σ' = σ ∧ ((r = 0 ∧ ¬ likeR D k F j) ∨ (r = 1 ∧ likeR D k F j))) := by
  obtain ⟨r1, r2, r3, r4, r5, r6, r7, r8, ⟨b, r9, r10, r11⟩⟩ := mD.2.2.2.2 k hk
  obtain ⟨s1, s2, s3, s4, s5, s6, s7, s8, ⟨b', s9, s10, s11⟩⟩ := mF.2.2.2.2 j hj
  have o1 := hD.2.1 k hk
  have o2 := hF.2.1 j hj
  have k1 := o1.1
  have k2 := o2.1
  have n1 := hD.2.2.2.2
  have n2 := hF.2.2.2.2
  have c1 := cc_bts D
  have c2 := cc_bts F
  have p1 := prt_le hD hk
  have p2 := prt_le hF hj
  have B1 := dB_lt hD hk
  have B2 := dB_lt hF hj
  have i1 : vp_in (nI k) 500 := vin (by omega) (by decide)
  have i2 : vp_in (nI j) 500 := vin (by omega) (by decide)
  have m1 : (if dK D k = 4 then (dX D k).length else prt (dT D) D.length k) < 2 ^ 31 := by split <;> omega
  have m2 : (if dK F j = 4 then (dX F j).length else prt (dT F) F.length j) < 2 ^ 31 := by split <;> omega
  refine CE.of (L := [(0, pv E t), (1, .int (nI k)), (2, pv E t'), (3, .int (nI j))]) rfl (Nat.le_of_ble_eq_true rfl) rfl (b_Tr_isAlikeAlone_0 ht ht' ?_)
  rw [nI_clamp (show k < 2 ^ 31 by omega), nI_clamp (show j < 2 ^ 31 by omega), r1, r2, s1, s2, r9, s9, r6, s6, nI_eq (by omega) (by omega), nI_eq m1 m2, show nI (dK D k) = (4 : Int32) ↔ dK D k = 4 from nI_eq (b := 4) (by omega) (by decide), or_mod B1 B2]
  refine ⟨i1, i2, fun q => ⟨_, rfl, rfl, Or.inl ⟨rfl, fun z => q z.1⟩⟩, fun q1 => ⟨i1, i2, fun q2 => ⟨i1, fun q4 => ⟨i1, i2, fun v1 e1 => ?_⟩, fun q4 => ⟨i1, i1, i2, ?_⟩⟩, fun q => ⟨_, rfl, rfl, Or.inl ⟨rfl, fun z => q ?_⟩⟩⟩⟩
  · rw [if_neg q4, if_neg (by omega)] at q2
    have hX : dX D k = dX F j := by rw [o1.2.2.2.1 q4, o2.2.2.2.1 (by omega)]
    have yes : ((dB D k % 2 ^ 63 = 0 ∧ dB F j % 2 ^ 63 = 0) ∨ dB D k = dB F j) → JE E (d + 1) m_Tr_isAlikeAlone 116 [] [] σ (fun q σ' => ∃ r, q = some (.int r) ∧ σ' = σ ∧ ((r = 0 ∧ ¬ likeR D k F j) ∨ (r = 1 ∧ likeR D k F j))) := fun h => b_Tr_isAlikeAlone_116 ⟨_, rfl, rfl, Or.inr ⟨rfl, q1, q2, hX, h⟩⟩
    have e0 : v1 = 0 ↔ (dB D k % 2 ^ 63 = 0 ∧ dB F j % 2 ^ 63 = 0) := by
      rw [e1, lg0 (Nat.mod_lt _ (by decide)), or_mod0]
    rw [e0]
    refine ⟨fun z => b_Tr_isAlikeAlone_93 ht ht' ⟨fun q => absurd rfl q, fun _ => ⟨i1, i2, ?_⟩⟩, fun z => b_Tr_isAlikeAlone_93 ht ht' ⟨fun _ => yes (Or.inl z), fun q => absurd q (by decide)⟩⟩
    rw [nI_clamp (show k < 2 ^ 31 by omega), nI_clamp (show j < 2 ^ 31 by omega), r6, s6, lg_cmp_eq, lN_eq64 B1 B2]
    exact ⟨fun y => ⟨_, rfl, rfl, Or.inl ⟨rfl, fun x => x.2.2.2.elim z y⟩⟩, fun y => yes (Or.inr y)⟩
  · rw [if_pos q4, if_pos (by omega)] at q2
    rw [if_pos q4]
    refine (c_sameCh ht ht' r11 s11 (by omega) (by omega) q2 o1.2.2.2.2.2.2.2 o2.2.2.2.2.2.2.2).mono (fun r σ1 hq => ?_)
    obtain ⟨rfl, hq⟩ := hq
    have hB : dB D k = dB F j := by rw [o1.2.2.2.2.1 (by omega), o2.2.2.2.2.1 (by omega)]
    have hP : prt (dT D) D.length k = prt (dT F) F.length j := by rw [leaf_prt hD hk (by omega), leaf_prt hF hj (by omega)]
    rcases hq with ⟨rfl, hn⟩ | ⟨rfl, hy⟩
    · exact ⟨rfl, _, rfl, rfl, Or.inl ⟨rfl, fun z => hn z.2.2.1⟩⟩
    · exact ⟨rfl, _, rfl, rfl, Or.inr ⟨rfl, q1, hP, hy, Or.inr hB⟩⟩
  · rw [← z.1, z.2.1, z.2.2.1]
theorem c_sameName {E : En_t} {d t t' k j : Nat} {D F : List Row} {σ : S_t} (ht : kindP t = 11) (ht' : kindP t' = 11) (hD : WfR D) (hF : WfR F) (mD : TrR σ t D) (mF : TrR σ t' F) (hk : k < D.length) (hj : j < F.length) : CI E (d + 1) m_Tr_hasSameName [pv E t, .int (nI k), pv E t', .int (nI j)] σ (fun r σ' => σ' = σ ∧ ((r = 0 ∧ nam D k ≠ nam F j) ∨ (r = 1 ∧ nam D k = nam F j))) := by
  obtain ⟨r1, r2, r3, r4, r5, r6, r7, ⟨b, r9, r10, r11⟩, r8⟩ := mD.2.2.2.2 k hk
  obtain ⟨s1, s2, s3, s4, s5, s6, s7, ⟨b', s9, s10, s11⟩, s8⟩ := mF.2.2.2.2 j hj
  have o1 := hD.2.1 k hk
  have o2 := hF.2.1 j hj
  have n1 := hD.2.2.2.2
  have n2 := hF.2.2.2.2
  have c1 := cc_bts D
  have c2 := cc_bts F
  have i1 : vp_in (nI k) 500 := vin (by omega) (by decide)
  have i2 : vp_in (nI j) 500 := vin (by omega) (by decide)
  refine CE.of (L := [(0, pv E t), (1, .int (nI k)), (2, pv E t'), (3, .int (nI j))]) rfl (Nat.le_of_ble_eq_true rfl) rfl (b_Tr_hasSameName_0 ht ht' ?_)
  rw [nI_clamp (show k < 2 ^ 31 by omega), nI_clamp (show j < 2 ^ 31 by omega), r7, s7, r9, s9, nI_eq (by omega) (by omega)]
  refine ⟨i1, i2, fun q => ⟨_, rfl, rfl, Or.inl ⟨rfl, fun z => q (by rw [z])⟩⟩, fun q => ⟨i1, i1, i2, (c_sameCh ht ht' r11 s11 (by omega) (by omega) q o1.2.2.2.2.2.2.1 o2.2.2.2.2.2.2.1).mono (fun r σ1 hq => ?_)⟩⟩
  obtain ⟨rfl, hq⟩ := hq
  rcases hq with ⟨rfl, hn⟩ | ⟨rfl, hy⟩
  · exact ⟨fun _ => ⟨_, rfl, rfl, Or.inl ⟨rfl, hn⟩⟩, fun q => absurd rfl q⟩
  · exact ⟨fun q => absurd q (by decide), fun _ => ⟨_, rfl, rfl, Or.inr ⟨rfl, hy⟩⟩⟩
theorem mn_n {a b : Nat} (ha : a < 2 ^ 31) (hb : b < 2 ^ 31) : mnI (nI a) (nI b) = nI (min a b) := by
  unfold mnI
  by_cases g : b < a
  · rw [if_pos ((nI_ltI hb ha).mpr g), show min a b = b by omega]
  · rw [if_neg (fun q => g ((nI_ltI hb ha).mp q)), show min a b = a by omega]
theorem c_isAlike {E : En_t} {d t t' k j : Nat} {D F : List Row} {σ : S_t} (ht : kindP t = 11) (ht' : kindP t' = 11) (hD : WfR D) (hF : WfR F) (mD : TrD σ t D) (mF : TrD σ t' F) (hk : k < D.length) (hj : j < F.length) : CI E (d + 2) m_Tr_isAlike [pv E t, .int (nI k), pv E t', .int (nI j)] σ (fun r σ' => σ' = σ ∧ ((r = 0 ∧ ¬ sameS D k F j) ∨ (r = 1 ∧ sameS D k F j))) := by
  obtain ⟨a1, a2, a3, a4⟩ := siz_spec (f := dT D) (n := D.length) (k := k) hk
  obtain ⟨b1, b2, b3, b4⟩ := siz_spec (f := dT F) (n := F.length) (k := j) hj
  have n1 := hD.2.2.2.2.1
  have n2 := hF.2.2.2.2.1
  let Q : Option Value → S_t → Prop := fun q σ' => ∃ r, q = some (.int r) ∧ σ' = σ ∧ ((r = 0 ∧ ¬ sameS D k F j) ∨ (r = 1 ∧ sameS D k F j))
  have loop : siz (dT D) D.length k = siz (dT F) F.length j → ∀ (m i : Nat), i + m = siz (dT D) D.length k → (∀ i', i' < i → likeR D (k + i') F (j + i') ∧ (0 < i' → dN D (k + i') = dN F (j + i'))) → JE E (d + 2) m_Tr_isAlike 46 [(0, pv E t), (1, .int (nI k)), (2, pv E t'), (3, .int (nI j)), (4, .int (nI (siz (dT D) D.length k))), (5, .int (nI i))] [] σ Q := by
    intro hz m
    induction m with
    | zero =>
      intro i hi hall
      have : i = siz (dT D) D.length k := by omega
      exact b_Tr_isAlike_46 ht ht' ⟨fun _ => ⟨_, rfl, rfl, Or.inr ⟨rfl, hz, fun i' h => hall i' (by omega)⟩⟩, fun q => absurd (by rw [this]; exact Int32.le_refl _) q⟩
    | succ m ih =>
      intro i hi hall
      have hki : k + i < D.length := by omega
      have hji : j + i < F.length := by omega
      refine b_Tr_isAlike_46 ht ht' ⟨fun q => absurd q (nI_ge (by omega) (by omega)), fun _ => ?_⟩
      rw [nI_add, nI_add]
      refine (c_alikeAlone ht ht' hD hF mD.1 mF.1 hki hji).mono (fun r σ1 hq => ?_)
      obtain ⟨rfl, hq⟩ := hq
      rcases hq with ⟨rfl, hn⟩ | ⟨rfl, hy⟩
      · exact ⟨fun q => absurd rfl q, fun _ => ⟨_, rfl, rfl, Or.inl ⟨rfl, fun z => hn (z.2 i (by omega)).1⟩⟩⟩
      · have next : (0 < i → dN D (k + i) = dN F (j + i)) → JE E (d + 2) m_Tr_isAlike 105 [(0, pv E t), (1, .int (nI k)), (2, pv E t'), (3, .int (nI j)), (4, .int (nI (siz (dT D) D.length k))), (5, .int (nI i))] [] σ1 Q := by
          intro h
          refine b_Tr_isAlike_105 ht ht' ?_
          rw [nI_1]
          refine ih (i + 1) (by omega) (fun i' h' => ?_)
          by_cases e : i' = i
          · subst e; exact ⟨hy, h⟩
          · exact hall i' (by omega)
        refine ⟨fun _ => pk_le i 0 (fun g => next (fun h => by omega)) (fun g => ?_), fun q => absurd q (by decide)⟩
        have hnm := same_named hD hF hk hj hz g (by omega) (fun i' h => (hall i' h).1)
        refine (c_isNamed ht mD.1 hD hki).mono (fun r σ2 hq => ?_)
        obtain ⟨rfl, hq⟩ := hq
        rcases hq with ⟨rfl, z⟩ | ⟨rfl, z⟩
        · exact ⟨fun _ => next (fun _ => by rw [z, hnm.mp z]), fun q => absurd rfl q⟩
        · refine ⟨fun q => absurd q (by decide), fun _ => (c_sameName ht ht' hD hF mD.1 mF.1 hki hji).mono (fun r σ3 hq => ?_)⟩
          obtain ⟨rfl, hq⟩ := hq
          rcases hq with ⟨rfl, y⟩ | ⟨rfl, y⟩
          · exact ⟨fun q => absurd rfl q, fun _ => ⟨_, rfl, rfl, Or.inl ⟨rfl, fun x => y ((dN_iff hnm).mp ((x.2 i (by omega)).2 g))⟩⟩⟩
          · exact ⟨fun _ => next (fun _ => (dN_iff hnm).mpr y), fun q => absurd q (by decide)⟩
  refine CE.of (L := [(0, pv E t), (1, .int (nI k)), (2, pv E t'), (3, .int (nI j))]) rfl (Nat.le_of_ble_eq_true rfl) rfl (b_Tr_isAlike_0 ht ht' ?_)
  rw [nI_clamp (show k < 2 ^ 31 by omega), nI_clamp (show j < 2 ^ 31 by omega), mD.2 k hk, mF.2 j hj, mD.1.2.2.1, mF.1.2.2.1, nI_eq (by omega) (by omega), pk_sub (show k ≤ D.length by omega), pk_sub (show j ≤ F.length by omega)]
  refine ⟨vin (by omega) (by decide), vin (by omega) (by decide), fun q => ⟨vin (by omega) (by decide), fun r1 e1 r2 e2 => ?_⟩, fun q => ⟨_, rfl, rfl, Or.inl ⟨rfl, fun z => q z.1⟩⟩⟩
  rw [mn_n (by omega) (by omega)] at e1
  rw [e1, mn_n (by omega) (by omega), show min (siz (dT D) D.length k) (min (D.length - k) (F.length - j)) = siz (dT D) D.length k by omega] at e2
  rw [e2]
  exact loop q (siz (dT D) D.length k) 0 (by omega) (fun i' h => absurd h (Nat.not_lt_zero i'))
theorem op_same {E : En_t} : Op_14 E 40 (Sim Shv) (Sim Shv) := by
  intro a0 a1 a2 a3 σ hI
  have hS := Sim_Shv hI
  have hN := Shv_N hS
  have none : (¬ hasV σ a0 a1 ∨ ¬ hasV σ a2 a3) → CI E 40 m_Mo_same [pv E 0, .int a0, .int a1, .int a2, .int a3] σ (fun r2 σ2 => (-1 : Int32) = r2 ∧ Sim Shv σ2) := by
    intro h
    refine CE.of (L := [(0, pv E 0), (1, .int a0), (2, .int a1), (3, .int a2), (4, .int a3)]) rfl (Nat.le_of_ble_eq_true rfl) rfl (b_Mo_same_0 (d := 39) ((c_hasM (d := 38)).mono (fun r σ2 hq => ?_)))
    obtain ⟨rfl, hq⟩ := hq
    rcases hq with ⟨rfl, z⟩ | ⟨rfl, z⟩
    · exact ⟨fun _ => b_Mo_same_19 ⟨_, rfl, rfl, hI⟩, fun q => absurd rfl q⟩
    · refine ⟨fun q => absurd q (by decide), fun _ => (c_hasM (d := 38)).mono (fun r σ3 hq => ?_)⟩
      obtain ⟨rfl, hq⟩ := hq
      rcases hq with ⟨rfl, y⟩ | ⟨rfl, y⟩
      · exact ⟨fun q => absurd rfl q, fun _ => b_Mo_same_19 ⟨_, rfl, rfl, hI⟩⟩
      · exact absurd y (h.resolve_left (fun x => x z))
  refine CE.of (L := [(0, pv E 49), (1, .int a0), (2, .int a1), (3, .int a2), (4, .int a3)]) rfl (Nat.le_of_ble_eq_true rfl) rfl (b_Cp_same_0 (d := 39) ((c_hasC (d := 38) hN).mono (fun r σ1 hq => ?_)))
  obtain ⟨rfl, hq⟩ := hq
  rcases hq with ⟨rfl, hn⟩ | ⟨rfl, hy⟩
  · exact ⟨fun _ => ⟨_, rfl, none (Or.inl hn)⟩, fun q => absurd rfl q⟩
  refine ⟨fun q => absurd q (by decide), fun _ => (c_hasC (d := 38) hN).mono (fun r σ2 hq => ?_)⟩
  obtain ⟨rfl, hq⟩ := hq
  rcases hq with ⟨rfl, hn⟩ | ⟨rfl, hy2⟩
  · exact ⟨fun q => absurd rfl q, fun _ => ⟨_, rfl, none (Or.inr hn)⟩⟩
  obtain ⟨i, k, t, D, hi, rfl, rfl, hk, hR, hkd, _, hW, hM, hT⟩ := Shv_val hS hy
  obtain ⟨i', k', t', D', hi', rfl, rfl, hk', hR', hkd', _, hW', hM', hT'⟩ := Shv_val hS hy2
  have mod : ∀ v, (v = 0 ∧ ¬ sameS D k D' k') ∨ (v = 1 ∧ sameS D k D' k') → CI E 40 m_Mo_same [pv E 0, .int (nI i), .int (nI k), .int (nI i'), .int (nI k')] σ2 (fun r2 σ2 => v = r2 ∧ Sim Shv σ2) := by
    intro v hv
    refine CE.of (L := [(0, pv E 0), (1, .int (nI i)), (2, .int (nI k)), (3, .int (nI i')), (4, .int (nI k'))]) rfl (Nat.le_of_ble_eq_true rfl) rfl (b_Mo_same_0 (d := 39) ((c_hasM (d := 38)).mono (fun r σ3 hq => ?_)))
    obtain ⟨rfl, hq⟩ := hq
    rcases hq with ⟨rfl, z⟩ | ⟨rfl, z⟩
    · exact absurd hy z
    refine ⟨fun q => absurd q (by decide), fun _ => (c_hasM (d := 38)).mono (fun r σ4 hq => ?_)⟩
    obtain ⟨rfl, hq⟩ := hq
    rcases hq with ⟨rfl, z⟩ | ⟨rfl, z⟩
    · exact absurd hy2 z
    refine ⟨fun _ => (c_isSameM (d := 36) (by omega) (by omega) hW.1 hW'.1 hM hM' hk hk').mono (fun r σ5 hq => ?_), fun q => absurd q (by decide)⟩
    obtain ⟨rfl, hq⟩ := hq
    rcases hq with ⟨rfl, z⟩ | ⟨rfl, z⟩
    · rcases hv with ⟨rfl, _⟩ | ⟨_, y⟩
      · exact ⟨fun _ => ⟨_, rfl, rfl, hI⟩, fun q => absurd rfl q⟩
      · exact absurd y z
    · rcases hv with ⟨_, y⟩ | ⟨rfl, _⟩
      · exact absurd z y
      · exact ⟨fun q => absurd q (by decide), fun _ => ⟨_, rfl, rfl, hI⟩⟩
  refine ⟨fun _ => ⟨vin hi (by decide), t, by rw [nI_clamp (by omega)]; exact hR, hkd, vin hi' (by decide), t', by rw [nI_clamp (by omega)]; exact hR', hkd', (c_isAlike (d := 37) hkd hkd' hW.1 hW'.1 hT hT' hk hk').mono (fun r σ3 hq => ?_)⟩, fun q => absurd q (by decide)⟩
  obtain ⟨rfl, hq⟩ := hq
  rcases hq with ⟨rfl, z⟩ | ⟨rfl, z⟩
  · exact ⟨fun _ => ⟨_, rfl, mod _ (Or.inl ⟨rfl, z⟩)⟩, fun q => absurd rfl q⟩
  · exact ⟨fun q => absurd q (by decide), fun _ => ⟨_, rfl, mod _ (Or.inr ⟨rfl, z⟩)⟩⟩
