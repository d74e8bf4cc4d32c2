/-! measure; addWhole -/
def sK (f : Nat → Nat) (n k : Nat) : Nat → Nat
  | 0 => 0
  | m + 1 => sK f n k m + (if par f (n - (m + 1)) = k then siz f n (n - (m + 1)) else 0)
theorem sK_skip {f : Nat → Nat} {n k m : Nat} : ∀ {m' : Nat}, m ≤ m' → (∀ j, n - m' ≤ j → j < n - m → par f j ≠ k) → m' ≤ n → sK f n k m' = sK f n k m
  | 0, h, _, _ => by
    have : m = 0 := by omega
    subst this; rfl
  | m' + 1, h, hj, hn => by
    by_cases e : m = m' + 1
    · subst e; rfl
    · have ih := sK_skip (f := f) (n := n) (k := k) (m := m) (m' := m') (by omega) (fun j h1 h2 => hj j (by omega) h2) (by omega)
      show sK f n k m' + (if par f (n - (m' + 1)) = k then siz f n (n - (m' + 1)) else 0) = _
      rw [if_neg (hj _ (by omega) (by omega)), Nat.add_zero, ih]
theorem sK_bnd {f : Nat → Nat} {n k : Nat} (hV : VT f n) (hk : k < n) : ∀ (m c : Nat), c + m = k + siz f n k → k < c → (c < k + siz f n k → f c = f k + 1) → sK f n k (n - c) = k + siz f n k - c := by
  obtain ⟨s1, s2, s3, s4⟩ := siz_spec (f := f) (n := n) (k := k) hk
  intro m
  induction m using Nat.strongRecOn with
  | ind m ih =>
    intro c hm hkc hc
    by_cases g : c = k + siz f n k
    · rw [sK_skip (m := 0) (Nat.zero_le _) (fun j h1 h2 z => ?_) (by omega)]
      · show 0 = _; omega
      · have := par_in hV (show 0 < j by omega) (show j < n by omega)
        rw [z] at this
        have := (siz_spec (f := f) (n := n) (k := j) (by omega)).1
        omega
    · have hcl : c < k + siz f n k := by omega
      obtain ⟨n1, n2, n3⟩ := kid_next hV hk hkc hcl (hc hcl)
      obtain ⟨q1, q2, q3, q4⟩ := siz_spec (f := f) (n := n) (k := c) (by omega)
      have e1 : n - c = (n - (c + 1)) + 1 := by omega
      have hp : par f c = k := ((par_ge hV hk hkc hcl).2).mp (hc hcl)
      rw [e1]
      show sK f n k (n - (c + 1)) + (if par f (n - (n - (c + 1) + 1)) = k then siz f n (n - (n - (c + 1) + 1)) else 0) = _
      rw [show n - (n - (c + 1) + 1) = c by omega, if_pos hp, sK_skip (m := n - (c + siz f n c)) (by omega) (fun j h1 h2 z => ?_) (by omega), ih (k + siz f n k - (c + siz f n c)) (by omega) (c + siz f n c) (by omega) (by omega) n2]
      · omega
      · have := (par_ge hV (show c < n by omega) (show c < j by omega) (by omega)).1
        omega
theorem sK_siz {f : Nat → Nat} {n k : Nat} (hV : VT f n) (hk : k < n) : 1 + sK f n k (n - (k + 1)) = siz f n k := by
  obtain ⟨s1, s2, s3, s4⟩ := siz_spec (f := f) (n := n) (k := k) hk
  have := sK_bnd hV hk (k + siz f n k - (k + 1)) (k + 1) (by omega) (by omega) (fun h => kid_first hV hk (by omega))
  omega
theorem sK_le {f : Nat → Nat} {n k m : Nat} (hV : VT f n) (hk : k < n) (h1 : n - (k + 1) ≤ m) (h2 : m < n) : 1 + sK f n k m = siz f n k := by
  rw [← sK_siz hV hk, sK_skip h1 (fun j q1 q2 z => ?_) (by omega)]
  have := (par_spec hV (show 0 < j by omega) (show j < n by omega)).1
  omega
theorem sK_b {f : Nat → Nat} {n k m : Nat} (hV : VT f n) (hk : k < n) (hm : m < n) : 1 + sK f n k m ≤ n := by
  have mono : ∀ {a b : Nat}, a ≤ b → sK f n k a ≤ sK f n k b := by
    intro a b hab
    induction b with
    | zero => have : a = 0 := by omega
              subst this; exact Nat.le_refl _
    | succ b ih =>
      by_cases e : a = b + 1
      · subst e; exact Nat.le_refl _
      · have := ih (by omega)
        show _ ≤ sK f n k b + _
        omega
  have h := sK_le hV hk (m := n - 1) (by omega) (by omega)
  have := mono (a := m) (b := n - 1) (by omega)
  have := (siz_spec (f := f) (n := n) hk).2.1
  omega
theorem c_measure {E : En_t} {d j : Nat} {D : List Row} {σ : S_t} (hj : j < 10) (hW : WfR D) (hT : TrR σ (tr j) D) : CV E d m_Tr_measure [pv E (tr j)] σ (fun σ' => Fg (fun p _ => p = tr j + 5) σ σ' ∧ TrD σ' (tr j) D) := by
  have ht := kind_tr j hj
  have hV := hW.1
  have hn := hW.2.2.2.2.1
  generalize tr j = t at *
  let Q : Option Value → S_t → Prop := fun q σ' => q = none ∧ (Fg (fun p _ => p = t + 5) σ σ' ∧ TrD σ' t D)
  have e13 : ∀ {τ : S_t}, Fg (fun p _ => p = t + 5) σ τ → gI τ t 13 = nI D.length := fun hF => by rw [hF.1 t 13 (by omega)]; exact hT.2.2.1
  have e3 : ∀ {τ : S_t} {k : Nat}, Fg (fun p _ => p = t + 5) σ τ → k < D.length → gI τ (t + 3) k = zI (pI (dT D) k) := fun hF hk => by rw [hF.1 (t + 3) _ (by omega)]; exact (hT.2.2.2.2 _ hk).2.2.1
  have keep : ∀ {τ : S_t}, Fg (fun p _ => p = t + 5) σ τ → TrR τ t D := fun {τ} hF => by
    obtain ⟨t1, t2, t3, t4, t5⟩ := hT
    refine ⟨by rw [hF.1 t 11 (by omega)]; exact t1, by rw [hF.1 t 12 (by omega)]; exact t2, by rw [hF.1 t 13 (by omega)]; exact t3, by rw [hF.1 t 14 (by omega)]; exact t4, fun k hk => ?_⟩
    obtain ⟨r1, r2, r3, r4, r5, r6, r7, ⟨a, r8, r9, r10⟩, ⟨b, r11, r12, r13⟩⟩ := t5 k hk
    exact ⟨by rw [hF.1 (t + 1) _ (by omega)]; exact r1, by rw [hF.1 (t + 2) _ (by omega)]; exact r2, by rw [hF.1 (t + 3) _ (by omega)]; exact r3, by rw [hF.1 (t + 4) _ (by omega)]; exact r4, by rw [hF.1 (t + 6) _ (by omega)]; exact r5, by rw [hF.2.1 (t + 7) _ (by omega)]; exact r6, by rw [hF.1 (t + 9) _ (by omega)]; exact r7, ⟨a, by rw [hF.1 (t + 8) _ (by omega)]; exact r8, r9, StrA_congr (fun i _ => hF.1 (t + 11) _ (by omega)) r10⟩, ⟨b, by rw [hF.1 (t + 10) _ (by omega)]; exact r11, r12, StrA_congr (fun i _ => hF.1 (t + 11) _ (by omega)) r13⟩⟩
  have loop2 : ∀ (i : Nat) (τ : S_t), i < D.length → Fg (fun p _ => p = t + 5) σ τ → (∀ k, k < D.length → gI τ (t + 5) k = nI (1 + sK (dT D) D.length k (D.length - (i + 1)))) → JE E d m_Tr_measure 30 [(0, pv E t), (1, .int (nI i))] [] τ Q := by
    intro i
    induction i with
    | zero =>
      intro τ hi hF hs
      refine b_Tr_measure_30 ht ⟨fun _ => ⟨rfl, hF, keep hF, fun k hk => ?_⟩, fun q => absurd (by decide) q⟩
      rw [hs k hk, sK_le hV hk (by omega) (by omega)]
    | succ i ih =>
      intro τ hi hF hs
      obtain ⟨p1, p2, p3⟩ := par_spec hV (show 0 < i + 1 by omega) hi
      refine b_Tr_measure_30 ht ⟨fun q => absurd q (nI_nle (by omega) (by omega)), fun _ => ⟨vin (by omega) (by decide), ?_⟩⟩
      rw [nI_clamp (by omega), e3 hF hi, pI_s (by omega), zI_nI]
      refine ⟨fun q => absurd q (nI_pos (by omega)), fun _ => ⟨vin (by omega) (by decide), fun q => absurd q (nI_ge p1 (by omega)), fun _ => ⟨vin (by omega) (by decide), vin (by omega) (by decide), vin (by omega) (by decide), vin (by omega) (by decide), b_Tr_measure_73 ht ?_⟩⟩⟩
      rw [nI_clamp (by omega), hs _ hi, hs _ (by omega), nI_add, pk_m1]
      refine ih _ (by omega) (hF.si rfl) (fun k hk => ?_)
      have e1 : D.length - (i + 1) = (D.length - (i + 1 + 1)) + 1 := by omega
      have e2 : sK (dT D) D.length k (D.length - (i + 1)) = sK (dT D) D.length k (D.length - (i + 1 + 1)) + (if par (dT D) (i + 1) = k then siz (dT D) D.length (i + 1) else 0) := by
        rw [e1]
        show _ + (if par (dT D) (D.length - (D.length - (i + 1 + 1) + 1)) = k then siz (dT D) D.length (D.length - (D.length - (i + 1 + 1) + 1)) else 0) = _
        rw [show D.length - (D.length - (i + 1 + 1) + 1) = i + 1 by omega]
      by_cases z : k = par (dT D) (i + 1)
      · subst z
        rw [gI_sI_s, e2, if_pos rfl, ← sK_siz hV hi]
        congr 1
        omega
      · rw [gI_sI_n (Or.inr z), hs k hk, e2, if_neg (fun y => z y.symm)]; rfl
  have loop1 : ∀ (m i : Nat) (τ : S_t), i + m = D.length → Fg (fun p _ => p = t + 5) σ τ → (∀ k, k < i → gI τ (t + 5) k = 1) → JE E d m_Tr_measure 2 [(0, pv E t), (1, .int (nI i))] [] τ Q := by
    intro m
    induction m with
    | zero =>
      intro i τ hi hF hs
      have : i = D.length := by omega
      subst this
      refine b_Tr_measure_2 ht ?_
      rw [e13 hF]
      refine ⟨fun _ => ?_, fun q => absurd (Int32.le_refl _) q⟩
      by_cases z : D.length = 0
      · rw [z]
        refine b_Tr_measure_30 ht ⟨fun _ => ⟨rfl, hF, keep hF, fun k hk => by omega⟩, fun q => absurd (by decide) q⟩
      · rw [show nI D.length - (1 : Int32) = nI (D.length - 1) from pk_sub (b := 1) (by omega)]
        refine loop2 (D.length - 1) τ (by omega) hF (fun k hk => ?_)
        rw [show D.length - (D.length - 1 + 1) = 0 by omega, hs k hk]; rfl
    | succ m ih =>
      intro i τ hi hF hs
      refine b_Tr_measure_2 ht ?_
      rw [e13 hF, nI_clamp (by omega), nI_1]
      refine ⟨fun q => absurd q (nI_ge (by omega) (by omega)), fun _ => ⟨vin (by omega) (by decide), ih (i + 1) _ (by omega) (hF.si rfl) (fun k hk => ?_)⟩⟩
      by_cases e : k = i
      · subst e; exact gI_sI_s _ _ _ _
      · rw [gI_sI_n (Or.inr e)]; exact hs k (by omega)
  exact CE.of (L := [(0, pv E t)]) rfl (Nat.le_of_ble_eq_true rfl) rfl (b_Tr_measure_0 ht (loop1 D.length 0 σ (by omega) Fg.rf (fun k hk => absurd hk (Nat.not_lt_zero k))))
/-! what comes when it is too much already -/
theorem c_add1 {E : En_t} {d t : Nat} {x y : Int32} {σ : S_t} (ht : kindP t = 11) (h : gI σ t 14 = 1) : CI E d m_Tr_add [pv E t, .int x, .int y] σ (fun r σ' => r = -1 ∧ σ' = sI σ t 14 1) :=
  CE.of (L := [(0, pv E t), (1, .int x), (2, .int y)]) rfl (Nat.le_of_ble_eq_true rfl) rfl (b_Tr_add_0 ht ⟨fun _ => ⟨_, rfl, rfl, rfl⟩, fun q => absurd q (by rw [h]; decide)⟩)
theorem c_addNamed1 {E : En_t} {d t t' : Nat} {x y z : Int32} {σ : S_t} (ht : kindP t = 11) (ht' : kindP t' = 11) (h : gI σ t 14 = 1) : CI E (d + 1) m_Tr_addNamed [pv E t, .int x, pv E t', .int y, .int z] σ (fun r σ' => r = -1 ∧ σ' = sI σ t 14 1) := by
  refine CE.of (L := [(0, pv E t), (1, .int x), (2, pv E t'), (3, .int y), (4, .int z)]) rfl (Nat.le_of_ble_eq_true rfl) rfl (b_Tr_addNamed_0 ht ht' ((c_add1 ht h).mono (fun r σ1 hq => ?_)))
  rw [hq.1, hq.2]
  exact ⟨fun _ => ⟨_, rfl, rfl, rfl⟩, fun q => absurd rfl q⟩
theorem c_addLike1 {E : En_t} {d t t' k : Nat} {z : Int32} {σ : S_t} (ht : kindP t = 11) (ht' : kindP t' = 11) (hk : k < 500) (h : gI σ t 14 = 1) : CI E (d + 2) m_Tr_addLike [pv E t, pv E t', .int (nI k), .int z] σ (fun r σ' => r = -1 ∧ σ' = sI σ t 14 1) := by
  refine CE.of (L := [(0, pv E t), (1, pv E t'), (2, .int (nI k)), (3, .int z)]) rfl (Nat.le_of_ble_eq_true rfl) rfl (b_Tr_addLike_0 ht ht' ⟨vin hk (by decide), (c_addNamed1 ht ht' h).mono (fun r σ1 hq => ?_)⟩)
  rw [hq.1, hq.2]
  exact ⟨fun q => absurd rfl q, fun _ => ⟨_, rfl, rfl, rfl⟩⟩
