/-! values that are the same -/
theorem leaf_siz {D : List Row} {k : Nat} (hW : WfR D) (hk : k < D.length) (h : dK D k < 5) : siz (dT D) D.length k = 1 := by
  obtain ⟨q1, q2, q3, q4⟩ := siz_spec (f := dT D) (n := D.length) (k := k) hk
  rcases Nat.lt_or_ge 1 (siz (dT D) D.length k) with g | g
  · exfalso
    have h1 := kid_first hW.1 hk g
    have h2 := ((par_ge hW.1 hk (show k < k + 1 by omega) (by omega)).2).mp h1
    have h3 := (hW.2.2.1 (k + 1) (by omega) (by omega)).1
    rw [h2] at h3
    omega
  · omega
theorem leaf_prt {D : List Row} {k : Nat} (hW : WfR D) (hk : k < D.length) (h : dK D k < 5) : prt (dT D) D.length k = 0 := prt_0 (leaf_siz hW hk h)
theorem cnt_shift {f g : Nat → Nat} {e e' a s s' : Nat} : ∀ {b : Nat}, (∀ i, a ≤ i → i < b → (f (s + i) = e ↔ g (s' + i) = e')) → cnt f e (s + a) (s + b) = cnt g e' (s' + a) (s' + b) := by
  intro b
  induction b with
  | zero => intro _; rw [cnt_emp (by omega), cnt_emp (by omega)]
  | succ b ih =>
    intro h
    have := ih (fun i h1 h2 => h i h1 (by omega))
    show (if s + a ≤ s + b ∧ f (s + b) = e then cnt f e (s + a) (s + b) + 1 else cnt f e (s + a) (s + b)) = (if s' + a ≤ s' + b ∧ g (s' + b) = e' then cnt g e' (s' + a) (s' + b) + 1 else cnt g e' (s' + a) (s' + b))
    by_cases z : a ≤ b
    · have hb := h b z (by omega)
      by_cases y : f (s + b) = e
      · rw [if_pos ⟨by omega, y⟩, if_pos ⟨by omega, hb.mp y⟩, this]
      · rw [if_neg (fun q => y q.2), if_neg (fun q => y (hb.mpr q.2)), this]
    · rw [if_neg (by omega), if_neg (by omega), this]
/-- parts, counted by their parents -/
theorem prt_par {f : Nat → Nat} {n k : Nat} (h : VT f n) (hk : k < n) : ∀ b, k + siz f n k ≤ b → b ≤ n → prt f n k = cnt (par f) k (k + 1) b := by
  intro b hb hbn
  obtain ⟨q1, q2, q3, q4⟩ := siz_spec (f := f) (n := n) (k := k) hk
  have e1 : prt f n k = cnt (par f) k (k + 1) (k + siz f n k) := by
    unfold prt
    exact cnt_shift (s := k) (s' := k) (fun i h1 h2 => (par_ge h hk (by omega) (by omega)).2)
  rw [e1]
  refine (cnt_skip hb (fun j h1 h2 z => ?_)).symm
  have := par_in h (show 0 < j by omega) (show j < n by omega)
  rw [z] at this
  have := (siz_spec (f := f) (n := n) (k := j) (by omega)).1
  omega
theorem same_par {f g : Nat → Nat} {n m k j : Nat} (hf : VT f n) (hg : VT g m) (hk : k < n) (hj : j < m) (hz : siz f n k = siz g m j) : ∀ i, 0 < i → i < siz f n k → (∀ i', i' < i → prt f n (k + i') = prt g m (j + i')) → par f (k + i) + j = par g (j + i) + k := by
  obtain ⟨a1, a2, a3, a4⟩ := siz_spec (f := f) (n := n) (k := k) hk
  obtain ⟨b1, b2, b3, b4⟩ := siz_spec (f := g) (n := m) (k := j) hj
  have half : ∀ {f g : Nat → Nat} {n m k j : Nat}, VT f n → VT g m → k < n → j < m → siz f n k = siz g m j → ∀ i, 0 < i → i < siz f n k → (∀ i', i' < i → prt f n (k + i') = prt g m (j + i')) → (∀ i', 0 < i' → i' < i → par f (k + i') + j = par g (j + i') + k) → ¬ par f (k + i) + j < par g (j + i) + k := by
    intro f g n m k j hf hg hk hj hz i h0 hi hp ih hlt
    obtain ⟨a1, a2, a3, a4⟩ := siz_spec (f := f) (n := n) (k := k) hk
    obtain ⟨b1, b2, b3, b4⟩ := siz_spec (f := g) (n := m) (k := j) hj
    obtain ⟨p1, p2⟩ := par_ge hf hk (show k < k + i by omega) (by omega)
    obtain ⟨r1, r2⟩ := par_ge hg hj (show j < j + i by omega) (by omega)
    obtain ⟨s1, s2, s3⟩ := par_spec hf (show 0 < k + i by omega) (by omega)
    obtain ⟨t1, t2, t3⟩ := par_spec hg (show 0 < j + i by omega) (by omega)
    -- q: the parent in g
    obtain ⟨q, hq⟩ : ∃ q, par g (j + i) = j + q := ⟨par g (j + i) - j, by omega⟩
    have hqi : q < i := by omega
    have hd := s3 (k + q) (by omega) (by omega)
    obtain ⟨u1, u2, u3, u4⟩ := siz_spec (f := f) (n := n) (k := k + q) (by omega)
    have hend : k + q + siz f n (k + q) ≤ k + i := by
      rcases Nat.lt_or_ge (k + i) (k + q + siz f n (k + q)) with z | z
      · have := u3 (k + i) (by omega) z; omega
      · exact z
    have e1 := prt_par hf (show k + q < n by omega) (k + i) hend (by omega)
    have hin := par_in hg (show 0 < j + i by omega) (show j + i < m by omega)
    rw [hq] at hin
    have v1 := (siz_spec (f := g) (n := m) (k := j + i) (by omega)).1
    have e2 := prt_par hg (show j + q < m by omega) (j + q + siz g m (j + q)) (Nat.le_refl _) ((siz_spec (f := g) (n := m) (k := j + q) (by omega)).2.1)
    have e3 : cnt (par f) (k + q) (k + q + 1) (k + i) = cnt (par g) (j + q) (j + q + 1) (j + i) := by
      have := cnt_shift (f := par f) (g := par g) (e := k + q) (e' := j + q) (a := q + 1) (s := k) (s' := j) (b := i) (fun i' h1 h2 => by
        have := ih i' (by omega) h2
        constructor
        · intro z; omega
        · intro z; omega)
      exact this
    have e4 : cnt (par g) (j + q) (j + q + 1) (j + i + 1) = cnt (par g) (j + q) (j + q + 1) (j + i) + 1 := cnt_yes (by omega) hq
    have e5 := cnt_mono (f := par g) (e := j + q) (a := j + q + 1) (b := j + i + 1) (c := j + q + siz g m (j + q)) (by omega)
    have := hp q hqi
    omega
  intro i
  induction i using Nat.strongRecOn with
  | ind i ih =>
    intro h0 hi hp
    have ih' : ∀ i', 0 < i' → i' < i → par f (k + i') + j = par g (j + i') + k := fun i' q1 q2 => ih i' q2 q1 (by omega) (fun i'' q3 => hp i'' (by omega))
    have h1 := half hf hg hk hj hz i h0 hi hp ih'
    have h2 := half hg hf hj hk hz.symm i h0 (by omega) (fun i' q => (hp i' q).symm) (fun i' q1 q2 => (ih' i' q1 q2).symm)
    omega
/-- rows that are alike -/
def likeR (D : List Row) (k : Nat) (F : List Row) (j : Nat) : Prop := dK D k = dK F j ∧ prt (dT D) D.length k = prt (dT F) F.length j ∧ dX D k = dX F j ∧ ((dB D k % 2 ^ 63 = 0 ∧ dB F j % 2 ^ 63 = 0) ∨ dB D k = dB F j)
/-- values that are the same -/
def sameS (D : List Row) (k : Nat) (F : List Row) (j : Nat) : Prop := siz (dT D) D.length k = siz (dT F) F.length j ∧ ∀ i, i < siz (dT D) D.length k → likeR D (k + i) F (j + i) ∧ (0 < i → dN D (k + i) = dN F (j + i))
theorem nam_none {D : List Row} {k : Nat} (h : dN D k = none) : nam D k = [] := by unfold nam; rw [h]; rfl
theorem nam_some {D : List Row} {k : Nat} (h : dN D k ≠ none) : dN D k = some (nam D k) := by
  unfold nam
  cases hd : dN D k with
  | none => exact absurd hd h
  | some s => rfl
theorem dN_iff {D F : List Row} {k j : Nat} (h : dN D k = none ↔ dN F j = none) : dN D k = dN F j ↔ nam D k = nam F j := by
  constructor
  · intro e; unfold nam; rw [e]
  · intro e
    by_cases g : dN D k = none
    · rw [g, h.mp g]
    · rw [nam_some g, nam_some (fun z => g (h.mpr z)), e]
/-- the sames agree whether a part has a name -/
theorem same_named {D F : List Row} {k j i : Nat} (hD : WfR D) (hF : WfR F) (hk : k < D.length) (hj : j < F.length) (hz : siz (dT D) D.length k = siz (dT F) F.length j) (h0 : 0 < i) (hi : i < siz (dT D) D.length k) (h : ∀ i', i' < i → likeR D (k + i') F (j + i')) : dN D (k + i) = none ↔ dN F (j + i) = none := by
  obtain ⟨a1, a2, a3, a4⟩ := siz_spec (f := dT D) (n := D.length) (k := k) hk
  obtain ⟨b1, b2, b3, b4⟩ := siz_spec (f := dT F) (n := F.length) (k := j) hj
  have e := same_par hD.1 hF.1 hk hj hz i h0 hi (fun i' q => (h i' q).2.1)
  obtain ⟨p1, p2⟩ := par_ge hD.1 hk (show k < k + i by omega) (by omega)
  obtain ⟨s1, s2, s3⟩ := par_spec hD.1 (show 0 < k + i by omega) (by omega)
  have c1 := (hD.2.2.1 (k + i) (by omega) (by omega)).2
  have c2 := (hF.2.2.1 (j + i) (by omega) (by omega)).2
  obtain ⟨q, hq⟩ : ∃ q, par (dT D) (k + i) = k + q := ⟨par (dT D) (k + i) - k, by omega⟩
  have hq2 : par (dT F) (j + i) = j + q := by omega
  rw [c1, c2, hq, hq2, (h q (by omega)).1]
theorem lg0 {n : Nat} (h : n < 2 ^ 63) : lg_cmp (lN n) (0 : Int64) = 0 ↔ n = 0 := (lg_cmp_eq _ _).trans (pk_lEQ (b := 0) h (by decide))
theorem lN_eq64 {a b : Nat} (ha : a < 2 ^ 64) (hb : b < 2 ^ 64) : lN a = lN b ↔ a = b := by
  constructor
  · intro h
    have := congrArg (fun x => x.toBitVec.toNat) h
    simp only [wb_tn ha, wb_tn hb] at this
    exact this
  · intro h; rw [h]
theorem c_isLikeM {E : En_t} {d s s' k j : Nat} {D F : List Row} {σ : S_t} (hs : s < 9) (hs' : s' < 9) (hD : WfR D) (hF : WfR F) (mD : MoR σ s D) (mF : MoR σ s' F) (hk : k < D.length) (hj : j < F.length) : CI E (d + 2) m_Mo_isLike [pv E 0, .int (nI s), .int (nI k), .int (nI s'), .int (nI j)] σ (fun r σ' => σ' = σ ∧ ((r = 0 ∧ ¬ likeR D k F j) ∨ (r = 1 ∧ likeR D k F j))) := by
  obtain ⟨_, _, _, pm, _, _, m6⟩ := mD
  obtain ⟨_, _, _, pm', _, _, m6'⟩ := mF
  obtain ⟨r1, r2, r3, r4, r5, r6, r7, r8, r9, r10, ⟨b, r11, r11', r11''⟩, r12, r13⟩ := m6 k hk
  obtain ⟨s1, s2, s3, s4, s5, s6, s7, s8, s9, s10, ⟨b', s11, s11', s11''⟩, s12, s13⟩ := m6' j hj
  have o1 := hD.2.1 k hk
  have o2 := hF.2.1 j hj
  have n1 := hD.2.2.2.2
  have k1 := o1.1
  have k2 := o2.1
  have n2 := hF.2.2.2.2
  have c1 := cc_bts D
  have c2 := cc_bts F
  have z1 := cnt_le (f := dT D) (e := dT D k + 1) (a := k + 1) (b := k + siz (dT D) D.length k)
  have z2 := cnt_le (f := dT F) (e := dT F j + 1) (a := j + 1) (b := j + siz (dT F) F.length j)
  have y1 := (siz_spec (f := dT D) (n := D.length) (k := k) hk).2.1
  have y2 := (siz_spec (f := dT F) (n := F.length) (k := j) hj).2.1
  have p1 : prt (dT D) D.length k ≤ 500 := by unfold prt; omega
  have p2 : prt (dT F) F.length j ≤ 500 := by unfold prt; omega
  have i1 : vp_in (nI (500 * s + k)) 4500 := vin (by omega) (by decide)
  have i2 : vp_in (nI (500 * s' + j)) 4500 := vin (by omega) (by decide)
  have B1 : dB D k < 2 ^ 64 := by
    by_cases q : dK D k = 3
    · exact (o1.2.2.2.2.2.1 q).1
    · rw [o1.2.2.2.2.1 q]; decide
  have B2 : dB F j < 2 ^ 64 := by
    by_cases q : dK F j = 3
    · exact (o2.2.2.2.2.2.1 q).1
    · rw [o2.2.2.2.2.1 q]; decide
  refine CE.of (L := [(0, pv E 0), (1, .int (nI s)), (2, .int (nI k)), (3, .int (nI s')), (4, .int (nI j))]) rfl (Nat.le_of_ble_eq_true rfl) rfl (b_Mo_isLike_0 ?_)
  rw [ix500, ix500, nI_clamp (show 500 * s + k < 2 ^ 31 by omega), nI_clamp (show 500 * s' + j < 2 ^ 31 by omega), r1, r4, r10, s1, s4, s10, r11, s11, r7, s7, ix4000, ix4000, nI_eq (by omega) (by omega), nI_eq (by omega) (by omega), nI_eq (by omega) (by omega), show nI (dK D k) = (4 : Int32) ↔ dK D k = 4 from nI_eq (b := 4) (by omega) (by decide)]
  refine ⟨i1, i2, fun q => ⟨_, rfl, rfl, Or.inl ⟨rfl, fun z => q z.1⟩⟩, fun q1 => ⟨i1, i2, fun q => ⟨_, rfl, rfl, Or.inl ⟨rfl, fun z => q z.2.1⟩⟩, fun q2 => ⟨i1, i2, fun q3 => ⟨i1, fun q4 => ⟨i1, ?_⟩, fun q4 => ⟨i1, i1, i2, i2, ?_⟩⟩, fun q => ⟨_, rfl, rfl, Or.inl ⟨rfl, fun z => q (by rw [z.2.2.1])⟩⟩⟩⟩⟩
  · have hX : dX D k = dX F j := by rw [o1.2.2.2.1 q4, o2.2.2.2.1 (by omega)]
    rw [x_pos B1, x_pos B2, lg0 (Nat.mod_lt _ (by decide)), lg0 (Nat.mod_lt _ (by decide))]
    have yes : ((dB D k % 2 ^ 63 = 0 ∧ dB F j % 2 ^ 63 = 0) ∨ dB D k = dB F j) → JE E (d + 2) m_Mo_isLike 205 [] [] σ (fun q σ' => ∃ r, q = some (.int r) ∧ σ' = σ ∧ ((r = 0 ∧ ¬ likeR D k F j) ∨ (r = 1 ∧ likeR D k F j))) := fun h => b_Mo_isLike_205 ⟨_, rfl, rfl, Or.inr ⟨rfl, q1, q2, hX, h⟩⟩
    have no : ¬ (dB D k % 2 ^ 63 = 0 ∧ dB F j % 2 ^ 63 = 0) → JE E (d + 2) m_Mo_isLike 179 [(0, pv E 0), (5, .int (nI (500 * s + k))), (6, .int (nI (500 * s' + j)))] [] σ (fun q σ' => ∃ r, q = some (.int r) ∧ σ' = σ ∧ ((r = 0 ∧ ¬ likeR D k F j) ∨ (r = 1 ∧ likeR D k F j))) := by
      intro h
      refine b_Mo_isLike_179 (b_Mo_isLike_180 ⟨fun z => absurd rfl z, fun _ => ⟨i1, i2, ?_⟩⟩)
      rw [nI_clamp (show 500 * s + k < 2 ^ 31 by omega), nI_clamp (show 500 * s' + j < 2 ^ 31 by omega), r7, s7, lg_cmp_eq, lN_eq64 B1 B2]
      exact ⟨fun z => ⟨_, rfl, rfl, Or.inl ⟨rfl, fun y => y.2.2.2.elim h z⟩⟩, fun z => yes (Or.inr z)⟩
    exact ⟨fun z => no (fun y => z y.1), fun z => ⟨i2, fun y => no (fun x => y x.2), fun y => b_Mo_isLike_180 ⟨fun _ => yes (Or.inl ⟨z, y⟩), fun q => absurd q (by decide)⟩⟩⟩
  · have sa : StrA (gI σ 26) (4000 * s + b) (dX D k) := fun i hi => by rw [show 4000 * s + b + i = 4000 * s + (b + i) by omega]; exact r11'' i hi
    have sb : StrA (gI σ 26) (4000 * s' + b') (dX F j) := fun i hi => by rw [show 4000 * s' + b' + i = 4000 * s' + (b' + i) by omega]; exact s11'' i hi
    refine (c_compared (o1 := 26) (o2 := 26) rfl rfl sa sb (show 4000 * s + b + (dX D k).length ≤ 36000 by omega) (show 4000 * s' + b' + (dX F j).length ≤ 36000 by omega) (show 36000 ≤ 1000000 by decide) (show 36000 ≤ 1000000 by decide) o1.2.2.2.2.2.2.2 o2.2.2.2.2.2.2.2).mono (fun r σ1 hq => ?_)
    obtain ⟨hq, rfl⟩ := hq
    have hB : dB D k = dB F j := by rw [o1.2.2.2.2.1 (by omega), o2.2.2.2.2.1 (by omega)]
    rw [hq.2, cmN_0]
    exact ⟨fun z => ⟨_, rfl, rfl, Or.inl ⟨rfl, fun y => z y.2.2.1⟩⟩, fun z => ⟨_, rfl, rfl, Or.inr ⟨rfl, q1, q2, z, Or.inr hB⟩⟩⟩
