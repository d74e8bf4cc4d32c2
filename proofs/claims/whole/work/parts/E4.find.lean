/-! the class's find, and point -/
theorem mn_500 {x : Nat} (h : x < 2 ^ 31) : mnI (500 : Int32) (nI x) = nI (min 500 x) := mn_n (a := 500) (by decide) h
theorem ix_h {v x : Nat} : min 500 (10 * min 500 v + x) = min 500 (10 * v + x) := by omega
theorem c_index {E : En_t} {d a : Nat} {t : List Nat} {σ : S_t} (hst : StrA (gI σ 70) a t) (ha : a + t.length ≤ 2000) (hlt : Ltrs t) : CI E (d + 1) m_Po_index [pv E 69, .int (nI a), .int (nI (a + t.length))] σ (fun r σ' => σ' = σ ∧ ((IdxO t ∧ r = nI (min 500 (vl t t.length))) ∨ (¬ IdxO t ∧ r = -1))) := by
  let Q : Option Value → S_t → Prop := fun q σ' => ∃ r, q = some (.int r) ∧ σ' = σ ∧ ((IdxO t ∧ r = nI (min 500 (vl t t.length))) ∨ (¬ IdxO t ∧ r = -1))
  have no : ¬ IdxO t → Q (some (.int (-1 : Int32))) σ := fun h => ⟨_, rfl, rfl, Or.inr ⟨h, rfl⟩⟩
  have loop : 0 < t.length → (gA t 0 = 48 → t.length = 1) → ∀ (m j : Nat), j + m = t.length → (∀ i, i < j → 48 ≤ gA t i ∧ gA t i ≤ 57) → JE E (d + 1) m_Po_index 46 [(0, pv E 69), (2, .int (nI (a + t.length))), (4, .int (nI (min 500 (vl t j)))), (5, .int (nI (a + j)))] [] σ Q := by
    intro hl0 h0 m
    induction m with
    | zero =>
      intro j hm hd
      have : j = t.length := by omega
      subst this
      exact b_Po_index_46 ⟨fun _ => ⟨_, rfl, rfl, Or.inl ⟨⟨hl0, hd, h0⟩, rfl⟩⟩, fun q => absurd (Int32.le_refl _) q⟩
    | succ m ih =>
      intro j hm hd
      have hj : j < t.length := by omega
      have hlj := hlt j hj
      have hb3 : gA t j < 2 ^ 31 := by unfold Ltr at hlj; omega
      have hb4 : gA t j < 1114112 := by unfold Ltr at hlj; omega
      refine b_Po_index_46 ⟨fun q => absurd q (nI_ge (by omega) (by omega)), fun _ => ?_⟩
      rw [nI_clamp (by omega), hst j hj]
      have hin : vp_in (nI (a + j)) 2000 := vin (by omega) (by decide)
      refine ⟨hin, pk_lt (gA t j) 48 (fun g => no (fun z => by have := (z.2.1 j hj).1; omega)) (fun g => ⟨hin, pk_le (gA t j) 57 (fun g2 => ⟨hin, fun r1 e1 => ?_⟩) (fun g2 => no (fun z => by have := (z.2.1 j hj).2; omega))⟩)⟩
      rw [show (10 : Int32) * nI (min 500 (vl t j)) = nI (10 * min 500 (vl t j)) from pk_mul 10 _, nI_add, show nI (10 * min 500 (vl t j) + gA t j) - (48 : Int32) = nI (10 * min 500 (vl t j) + gA t j - 48) from pk_sub (b := 48) (by omega), show 10 * min 500 (vl t j) + gA t j - 48 = 10 * min 500 (vl t j) + (gA t j - 48) by omega, mn_500 (by omega), ix_h] at e1
      rw [e1, nI_1]
      exact ih (j + 1) (by omega) (fun i hi => by
        by_cases e : i = j
        · subst e; exact ⟨g, g2⟩
        · exact hd i (by omega))
  have start : 0 < t.length → (gA t 0 = 48 → t.length = 1) → JE E (d + 1) m_Po_index 40 [(0, pv E 69), (1, .int (nI a)), (2, .int (nI (a + t.length)))] [] σ Q := fun h1 h2 => b_Po_index_40 (loop h1 h2 t.length 0 (by omega) (fun i hi => absurd hi (Nat.not_lt_zero i)))
  refine CE.of (L := [(0, pv E 69), (1, .int (nI a)), (2, .int (nI (a + t.length)))]) rfl (Nat.le_of_ble_eq_true rfl) rfl (b_Po_index_0 (pk_le (a + t.length) a (fun g => b_Po_index_20 (b_Po_index_21 ⟨fun _ => no (fun z => by have := z.1; omega), fun q => absurd (nI_le g (by omega)) q⟩)) (fun g => ?_)))
  have hl0 := hlt 0 (by omega)
  have hb3 : gA t 0 < 2 ^ 31 := by unfold Ltr at hl0; omega
  have ng : ¬ nI (a + t.length) ≤ nI a := nI_ge g (by omega)
  have h0 := hst 0 (by omega)
  rw [Nat.add_zero] at h0
  rw [nI_clamp (by omega), h0, show nI (gA t 0) = (48 : Int32) ↔ gA t 0 = 48 from nI_eq (b := 48) hb3 (by decide)]
  refine ⟨vin (by omega) (by decide), fun q => b_Po_index_20 (b_Po_index_21 ⟨fun z => absurd z ng, fun _ => ⟨fun _ => start (by omega) (fun z => absurd z q), fun z => absurd rfl z⟩⟩), fun q => b_Po_index_21 ⟨fun z => absurd z ng, fun _ => ⟨fun z => absurd z (by decide), fun _ => ?_⟩⟩⟩
  rw [pk_sub (by omega), show a + t.length - a = t.length by omega, show nI t.length ≤ (1 : Int32) ↔ t.length ≤ 1 from nI_leI (b := 1) (by omega) (by decide)]
  exact ⟨fun z => start (by omega) (fun _ => by omega), fun z => no (fun y => by have := y.2.2 q; omega)⟩
theorem c_isName {E : En_t} {d a t0 c : Nat} {t : List Nat} {D : List Row} {σ : S_t} (ht : kindP t0 = 11) (hT : TrR σ t0 D) (hW : WfR D) (hc : c < D.length) (hst : StrA (gI σ 70) a t) (ha : a + t.length ≤ 2000) (hlt : Ltrs t) : CI E (d + 2) m_Po_isName [pv E 69, pv E t0, .int (nI c), .int (nI a), .int (nI (a + t.length))] σ (fun r σ' => σ' = σ ∧ ((r = 0 ∧ nam D c ≠ t) ∨ (r = 1 ∧ nam D c = t))) := by
  have h500 := hW.2.2.2.2.1
  have s7 := (hT.2.2.2.2 c hc).2.2.2.2.2.2.1
  obtain ⟨b, s8, s9, s10⟩ := (hT.2.2.2.2 c hc).2.2.2.2.2.2.2.1
  have hcc := cc_bts D
  have hb := hW.2.2.2.2.2
  have hln := (hW.2.1 c hc).2.2.2.2.2.2.1
  refine CE.of (L := [(0, pv E 69), (1, pv E t0), (2, .int (nI c)), (3, .int (nI a)), (4, .int (nI (a + t.length)))]) rfl (Nat.le_of_ble_eq_true rfl) rfl (b_Po_isName_0 ht ⟨vin (by omega) (by decide), ?_⟩)
  rw [nI_clamp (by omega), s7, pk_sub (by omega), show a + t.length - a = t.length by omega, nI_eq (by omega) (by omega)]
  refine ⟨fun he => ?_, fun he => ⟨_, rfl, rfl, Or.inl ⟨rfl, fun z => he (by rw [z])⟩⟩⟩
  have loop : ∀ (m j : Nat), j + m = t.length → ((nam D c).drop j = t.drop j ↔ nam D c = t) → JE E (d + 2) m_Po_isName 18 [(0, pv E 69), (1, pv E t0), (2, .int (nI c)), (3, .int (nI a)), (4, .int (nI (a + t.length))), (5, .int (nI (a + j)))] [] σ (fun q σ' => ∃ r, q = some (.int r) ∧ σ' = σ ∧ ((r = 0 ∧ nam D c ≠ t) ∨ (r = 1 ∧ nam D c = t))) := by
    intro m
    induction m with
    | zero =>
      intro j hm hd
      have : j = t.length := by omega
      subst this
      exact b_Po_isName_18 ht ⟨fun _ => ⟨_, rfl, rfl, Or.inr ⟨rfl, hd.mp (by rw [List.drop_eq_nil_of_le (by omega), List.drop_eq_nil_of_le (Nat.le_refl _)])⟩⟩, fun q => absurd (Int32.le_refl _) q⟩
    | succ m ih =>
      intro j hm hd
      have hj : j < t.length := by omega
      have hlj := hlt j hj
      have hlk := hln j (by omega)
      refine b_Po_isName_18 ht ⟨fun q => absurd q (nI_ge (by omega) (by omega)), fun _ => ?_⟩
      rw [pk_sub (by omega), show a + j - a = j by omega]
      refine (c_nameCh ht hT hW hc).mono (fun r σ1 hq => ?_)
      obtain ⟨rfl, hq⟩ := hq
      have er : r = nI (gA (nam D c) j) := chA_uniq (by omega) hq (Or.inr ⟨j, rfl, by omega, rfl⟩)
      rw [er, nI_clamp (by omega), hst j hj, nI_1, nI_eq (by unfold Ltr at hlk; omega) (by unfold Ltr at hlj; omega)]
      refine ⟨vin (by omega) (by decide), fun q => ih (j + 1) (by omega) ?_, fun q => ⟨_, rfl, rfl, Or.inl ⟨rfl, fun z => q (by rw [z])⟩⟩⟩
      rw [← hd, gA_drop hj, gA_drop (by omega : j < (nam D c).length), q]
      simp
  exact loop t.length 0 (by omega) Iff.rfl
theorem c_findPart {E : En_t} {d a t0 k : Nat} {t : List Nat} {D : List Row} {σ : S_t} (ht : kindP t0 = 11) (hT : TrD σ t0 D) (hW : WfR D) (hk : k < D.length) (hst : StrA (gI σ 70) a t) (ha : a + t.length ≤ 2000) (hlt : Ltrs t) : CI E (d + 3) m_Po_findPart [pv E 69, pv E t0, .int (nI k), .int (nI a), .int (nI (a + t.length))] σ (fun r σ' => σ' = σ ∧ ∃ o, PtR D k t o ∧ r = oI o) := by
  have h500 := hW.2.2.2.2.1
  have hV := hW.1
  have kk := (hW.2.1 k hk).1
  have pk := prt_le hW hk
  have sk := siz_spec (f := dT D) (n := D.length) hk
  have r1 := (hT.1.2.2.2.2 k hk).1
  let Q : Option Value → S_t → Prop := fun q σ' => ∃ r, q = some (.int r) ∧ σ' = σ ∧ ∃ o, PtR D k t o ∧ r = oI o
  have hin : vp_in (nI k) 500 := vin (by omega) (by decide)
  -- the loop: M tells which kid is sought
  have loop : ∀ (x5 x6 : Int32) (M : Nat → Prop), (∀ c, Kid D k c → ∀ (R : Prop), (M c → Q (some (.int (nI c))) σ) → (¬ M c → JE E (d + 3) m_Po_findPart 118 [(0, pv E 69), (1, pv E t0), (3, .int (nI a)), (4, .int (nI (a + t.length))), (5, .int x5), (6, .int x6), (7, .int (nI (k + siz (dT D) D.length k))), (8, .int (nI c))] [] σ Q) → ((x5 = 0 → vp_in (nI c) 500 ∧ ((¬ (gI σ (t0 + 4) (nI c).toNatClampNeg) = x6 → JE E (d + 3) m_Po_findPart 118 [(0, pv E 69), (1, pv E t0), (3, .int (nI a)), (4, .int (nI (a + t.length))), (5, .int x5), (6, .int x6), (7, .int (nI (k + siz (dT D) D.length k))), (8, .int (nI c))] [] σ Q) ∧ ((gI σ (t0 + 4) (nI c).toNatClampNeg) = x6 → Q (some (.int (nI c))) σ))) ∧ (¬ x5 = 0 → CI E (d + 2) m_Po_isName [pv E 69, pv E t0, .int (nI c), .int (nI a), .int (nI (a + t.length))] σ (fun r2 σ1 => (r2 = 0 → JE E (d + 3) m_Po_findPart 118 [(0, pv E 69), (1, pv E t0), (3, .int (nI a)), (4, .int (nI (a + t.length))), (5, .int x5), (6, .int x6), (7, .int (nI (k + siz (dT D) D.length k))), (8, .int (nI c))] [] σ1 Q) ∧ (¬ r2 = 0 → Q (some (.int (nI c))) σ1))))) → (∀ c, Kid D k c → M c → (∀ c', Kid D k c' → c' < c → ¬ M c') → PtR D k t (some c)) → ((∀ c, Kid D k c → ¬ M c) → PtR D k t none) → ∀ (m c : Nat), c + m = k + siz (dT D) D.length k → Bnd D k c → (∀ c', Kid D k c' → c' < c → ¬ M c') → JE E (d + 3) m_Po_findPart 75 [(0, pv E 69), (1, pv E t0), (3, .int (nI a)), (4, .int (nI (a + t.length))), (5, .int x5), (6, .int x6), (7, .int (nI (k + siz (dT D) D.length k))), (8, .int (nI c))] [] σ Q := by
    intro x5 x6 M htest hyes hnone m
    induction m using Nat.strongRecOn with
    | ind m ih =>
      intro c hm hB hno
      refine b_Po_findPart_75 ht ?_
      refine pk_le (k + siz (dT D) D.length k) c (fun g => ⟨_, rfl, rfl, none, hnone (fun c' hc' => hno c' hc' (by have := hc'.2.1; omega)), rfl⟩) (fun g => ?_)
      have hK : Kid D k c := ⟨hB.1, g, hB.2.2 g⟩
      have hcD : c < D.length := by omega
      refine htest c hK True (fun hM => ⟨_, rfl, rfl, some c, hyes c hK hM hno, rfl⟩) (fun hM => b_Po_findPart_118 ht ⟨vin (by omega) (by decide), fun r1 e1 => ?_⟩)
      have sc := siz_spec (f := dT D) (n := D.length) hcD
      obtain ⟨b1, b2, b3⟩ := Bnd_next hV hk hK
      have b1' := b1.2.1
      rw [nI_clamp (by omega), hT.2 c hcD] at e1
      have e2 : mxI (1 : Int32) (nI (siz (dT D) D.length c)) = nI (siz (dT D) D.length c) := by
        unfold mxI
        by_cases z : (1 : Int32) < nI (siz (dT D) D.length c)
        · rw [if_pos z]
        · rw [if_neg z]
          have : ¬ 1 < siz (dT D) D.length c := fun y => z ((nI_ltI (a := 1) (by decide) (by omega)).mpr y)
          rw [show siz (dT D) D.length c = 1 by omega]; rfl
      rw [e1, e2, nI_add]
      refine ih (k + siz (dT D) D.length k - (c + siz (dT D) D.length c)) (by omega) (c + siz (dT D) D.length c) (by omega) b1 (fun c' hc' hlt' => ?_)
      rcases Nat.lt_trichotomy c' c with y | y | y
      · exact hno c' hc' y
      · subst y; exact hM
      · have := Kid_gap hk hK hc' y; omega
  have go : ∀ (x5 x6 : Int32) (M : Nat → Prop), (∀ c, Kid D k c → ∀ (R : Prop), (M c → Q (some (.int (nI c))) σ) → (¬ M c → JE E (d + 3) m_Po_findPart 118 [(0, pv E 69), (1, pv E t0), (3, .int (nI a)), (4, .int (nI (a + t.length))), (5, .int x5), (6, .int x6), (7, .int (nI (k + siz (dT D) D.length k))), (8, .int (nI c))] [] σ Q) → ((x5 = 0 → vp_in (nI c) 500 ∧ ((¬ (gI σ (t0 + 4) (nI c).toNatClampNeg) = x6 → JE E (d + 3) m_Po_findPart 118 [(0, pv E 69), (1, pv E t0), (3, .int (nI a)), (4, .int (nI (a + t.length))), (5, .int x5), (6, .int x6), (7, .int (nI (k + siz (dT D) D.length k))), (8, .int (nI c))] [] σ Q) ∧ ((gI σ (t0 + 4) (nI c).toNatClampNeg) = x6 → Q (some (.int (nI c))) σ))) ∧ (¬ x5 = 0 → CI E (d + 2) m_Po_isName [pv E 69, pv E t0, .int (nI c), .int (nI a), .int (nI (a + t.length))] σ (fun r2 σ1 => (r2 = 0 → JE E (d + 3) m_Po_findPart 118 [(0, pv E 69), (1, pv E t0), (3, .int (nI a)), (4, .int (nI (a + t.length))), (5, .int x5), (6, .int x6), (7, .int (nI (k + siz (dT D) D.length k))), (8, .int (nI c))] [] σ1 Q) ∧ (¬ r2 = 0 → Q (some (.int (nI c))) σ1))))) → (∀ c, Kid D k c → M c → (∀ c', Kid D k c' → c' < c → ¬ M c') → PtR D k t (some c)) → ((∀ c, Kid D k c → ¬ M c) → PtR D k t none) → JE E (d + 3) m_Po_findPart 51 [(0, pv E 69), (1, pv E t0), (2, .int (nI k)), (3, .int (nI a)), (4, .int (nI (a + t.length))), (5, .int x5)] [.int x6] σ Q := by
    intro x5 x6 M h1 h2 h3
    refine b_Po_findPart_51 ht ⟨hin, fun r1 e1 => ?_⟩
    rw [nI_clamp (by omega), hT.2 k hk, hT.1.2.2.1, nI_add, mn_n (by omega) (by omega), show min D.length (k + siz (dT D) D.length k) = k + siz (dT D) D.length k by omega] at e1
    rw [e1, nI_1]
    exact loop x5 x6 M h1 h2 h3 (k + siz (dT D) D.length k - (k + 1)) (k + 1) (by omega) (Bnd_first hV hk) (fun c' hc' h' => by have := hc'.1; omega)
  have obj : dK D k = 6 → JE E (d + 3) m_Po_findPart 35 [(0, pv E 69), (1, pv E t0), (2, .int (nI k)), (3, .int (nI a)), (4, .int (nI (a + t.length))), (5, .int (1 : Int32))] [] σ Q := by
    intro q6
    refine b_Po_findPart_35 ht ⟨fun q => absurd q (by decide), fun _ => go 1 (-1) (fun c => nam D c = t) (fun c hK R hy hn => ⟨fun q => absurd q (by decide), fun _ => ?_⟩) (fun c hK hM hno => Or.inr (Or.inl ⟨q6, Or.inl ⟨c, hK, hM, hno, rfl⟩⟩)) (fun hno => Or.inr (Or.inl ⟨q6, Or.inr ⟨hno, rfl⟩⟩))⟩
    refine (c_isName ht hT.1 hW (by have := hK.2.1; omega) hst ha hlt).mono (fun r σ1 hq => ?_)
    obtain ⟨rfl, hq⟩ := hq
    rcases hq with ⟨rfl, z⟩ | ⟨rfl, z⟩
    · exact ⟨fun _ => hn z, fun q => absurd rfl q⟩
    · exact ⟨fun q => absurd q (by decide), fun _ => hy z⟩
  have arr : dK D k = 5 → JE E (d + 3) m_Po_findPart 35 [(0, pv E 69), (1, pv E t0), (2, .int (nI k)), (3, .int (nI a)), (4, .int (nI (a + t.length))), (5, .int (0 : Int32))] [] σ Q := by
    intro q5
    refine b_Po_findPart_35 ht ⟨fun _ => (c_index (d := d + 1) hst ha hlt).mono (fun r σ1 hq => ?_), fun q => absurd rfl q⟩
    obtain ⟨rfl, hq⟩ := hq
    have hord : ∀ c, Kid D k c → ordr (dT D) c < 500 := fun c hK => by
      have h1 := (kid_ord hV hk hK.1 hK.2.1 hK.2.2).1
      have h2 := cnt_le (f := dT D) (e := dT D k + 1) (a := k + 1) (b := c)
      have := hK.2.1
      omega
    refine go 0 r (fun c => IdxO t ∧ ordr (dT D) c = vl t t.length) (fun c hK R hy hn => ⟨fun _ => ?_, fun q => absurd rfl q⟩) (fun c hK hM hno => Or.inl ⟨q5, Or.inl ⟨hM.1, c, hK, hM.2, rfl⟩⟩) (fun hno => Or.inl ⟨q5, Or.inr ⟨fun z => ?_, rfl⟩⟩)
    · have hcD : c < D.length := by have := hK.2.1; omega
      rw [nI_clamp (by omega), (hT.1.2.2.2.2 c hcD).2.2.2.1]
      refine ⟨vin (by omega) (by decide), ?_⟩
      have ho := hord c hK
      rcases hq with ⟨hI, rfl⟩ | ⟨hI, rfl⟩
      · rw [nI_eq (by omega) (by omega)]
        exact ⟨fun z => hn (fun y => z (by have := y.2; omega)), fun z => hy ⟨hI, by omega⟩⟩
      · exact ⟨fun z => hn (fun y => hI y.1), fun z => absurd z.symm (nI_neg1 (by omega))⟩
    · obtain ⟨hI, c, hK, ho⟩ := z
      exact hno c hK ⟨hI, ho⟩
  refine CE.of (L := [(0, pv E 69), (1, pv E t0), (2, .int (nI k)), (3, .int (nI a)), (4, .int (nI (a + t.length)))]) rfl (Nat.le_of_ble_eq_true rfl) rfl (b_Po_findPart_0 ht ⟨hin, ?_⟩)
  rw [nI_clamp (by omega), r1, show nI (dK D k) = (6 : Int32) ↔ dK D k = 6 from nI_eq (b := 6) (by omega) (by decide)]
  refine ⟨fun q6 => b_Po_findPart_16 ht ⟨fun q => absurd rfl q, fun _ => ⟨hin, ?_⟩⟩, fun q6 => b_Po_findPart_16 ht ⟨fun _ => obj q6, fun q => absurd q (by decide)⟩⟩
  rw [nI_clamp (by omega), r1, show nI (dK D k) = (5 : Int32) ↔ dK D k = 5 from nI_eq (b := 5) (by omega) (by decide)]
  exact ⟨fun q5 => arr q5, fun q5 => ⟨_, rfl, rfl, none, Or.inr (Or.inr ⟨q5, q6, rfl⟩), rfl⟩⟩
theorem mL_at {A B : List (List Nat)} {t : List Nat} : mA (mL (A ++ t :: B)) (mL A).length = -2 ∧ (∀ j, j < t.length → mA (mL (A ++ t :: B)) ((mL A).length + 1 + j) = nI (gA t j)) ∧ (mL (A ++ t :: B)).length = (mL A).length + 1 + t.length + (mL B).length ∧ (mL (A ++ [t])).length = (mL A).length + 1 + t.length := by
  have e : mL (A ++ t :: B) = mL A ++ ((-2 : Int32) :: (t.map nI ++ mL B)) := by rw [mL_split, mL_cons]
  refine ⟨by rw [e]; exact mA_ge (mL A) _ 0, fun j hj => ?_, ?_, ?_⟩
  · rw [e, show (mL A).length + 1 + j = (mL A).length + (1 + j) by omega, mA_ge]
    unfold mA
    rw [List.getD_eq_getElem?_getD, show 1 + j = j + 1 by omega, List.getElem?_cons_succ, List.getElem?_append_left (by rw [List.length_map]; exact hj), List.getElem?_map]
    unfold gA
    rw [List.getD_eq_getElem?_getD, List.getElem?_eq_getElem hj]
    rfl
  · rw [e, List.length_append, List.length_cons, List.length_append, List.length_map]; omega
  · rw [mL_split, mL_cons, List.length_append, List.length_cons, List.length_append, List.length_map]
    show (mL A).length + (t.length + 0 + 1) = _
    omega
theorem c_endTok {E : En_t} {d : Nat} {A B : List (List Nat)} {t : List Nat} {σ : S_t} (hM : MkC σ (mL (A ++ t :: B))) (hl : (mL (A ++ t :: B)).length ≤ 2000) (hlt : Ltrs t) : CI E d m_Po_endOfToken [pv E 69, .int (nI ((mL A).length + 1))] σ (fun r σ' => σ' = σ ∧ r = nI ((mL A).length + 1 + t.length)) := by
  obtain ⟨a1, a2, a3, a4⟩ := mL_at (A := A) (B := B) (t := t)
  have loop : ∀ (m j : Nat), j + m = t.length → JE E d m_Po_endOfToken 2 [(0, pv E 69), (2, .int (nI ((mL A).length + 1 + j)))] [] σ (fun q σ' => ∃ r, q = some (.int r) ∧ σ' = σ ∧ r = nI ((mL A).length + 1 + t.length)) := by
    intro m
    induction m with
    | zero =>
      intro j hj
      have : j = t.length := by omega
      subst this
      refine b_Po_endOfToken_2 ?_
      rw [hM.1, nI_clamp (by omega)]
      refine pk_le (mL (A ++ t :: B)).length ((mL A).length + 1 + t.length) (fun g => ⟨_, rfl, rfl, rfl⟩) (fun g => ⟨vin (by omega) (by decide), ?_⟩)
      rw [hM.2 _ (by omega)]
      cases B with
      | nil => exfalso; rw [a3] at g; simp [mL] at g
      | cons b B =>
        have := (mL_at (A := A ++ [t]) (B := B) (t := b)).1
        rw [a4, List.append_assoc, List.singleton_append] at this
        rw [this]
        exact ⟨fun _ => ⟨_, rfl, rfl, rfl⟩, fun q => absurd rfl q⟩
    | succ m ih =>
      intro j hj
      have hlj := hlt j (by omega)
      refine b_Po_endOfToken_2 ?_
      rw [hM.1, nI_clamp (by omega), hM.2 _ (by omega), a2 j (by omega), nI_1]
      refine ⟨fun q => absurd q (nI_ge (by omega) (by omega)), fun _ => ⟨vin (by omega) (by decide), fun q => ?_, fun _ => ih (j + 1) (by omega)⟩⟩
      exfalso
      have := congrArg Int32.toInt q
      rw [nI_toInt (by unfold Ltr at hlj; omega)] at this
      have h2 : (-2 : Int32).toInt = -2 := rfl
      omega
  exact CE.of (L := [(0, pv E 69), (1, .int (nI ((mL A).length + 1)))]) rfl (Nat.le_of_ble_eq_true rfl) rfl (b_Po_endOfToken_0 (loop t.length 0 (by omega)))
theorem mL_len (A : List (List Nat)) : A.length ≤ (mL A).length := by
  induction A with
  | nil => exact Nat.le_refl _
  | cons t A ih => rw [mL_cons, List.length_cons, List.length_cons, List.length_append]; omega
theorem c_find {E : En_t} {d t0 : Nat} {D : List Row} {T : List (List Nat)} {σ : S_t} (ht : kindP t0 = 11) (hT : TrD σ t0 D) (hW : WfD D) (hM : MkC σ (mL T)) (hl : (mL T).length ≤ 2000) (hlt : ∀ t ∈ T, Ltrs t) : CI E (d + 4) m_Po_find [pv E 69, pv E t0] σ (fun r σ' => σ' = σ ∧ ∃ o, FndR D (some 0) T o ∧ r = oI o) := by
  have loop : ∀ (B A : List (List Nat)) (k : Option Nat), T = A ++ B → (∀ j, k = some j → j < D.length) → (∀ o, FndR D k B o → FndR D (some 0) T o) → JE E (d + 4) m_Po_find 7 [(0, pv E 69), (1, pv E t0), (2, .int (oI k)), (3, .int (nI (mL A).length)), (4, .int (nI A.length))] [] σ (fun q σ' => ∃ r, q = some (.int r) ∧ σ' = σ ∧ ∃ o, FndR D (some 0) T o ∧ r = oI o) := by
    intro B
    induction B with
    | nil =>
      intro A k hAB hk hF
      rw [List.append_nil] at hAB
      subst hAB
      have res : ∃ r, some (Value.int (oI k)) = some (.int r) ∧ σ = σ ∧ ∃ o, FndR D (some 0) T o ∧ r = oI o := ⟨_, rfl, rfl, k, hF k (by cases k <;> rfl), rfl⟩
      refine b_Po_find_7 ht ⟨fun _ => res, fun _ => ?_⟩
      rw [hM.1]
      exact ⟨fun _ => res, fun q => absurd (Int32.le_refl _) q⟩
    | cons t B ih =>
      intro A k hAB hk hF
      have hM2 := hM
      rw [hAB] at hM2
      obtain ⟨a1, a2, a3, a4⟩ := mL_at (A := A) (B := B) (t := t)
      have hl2 := hl
      rw [hAB] at hl2
      have hA := mL_len A
      have hlt2 : Ltrs t := hlt t (by rw [hAB]; simp)
      refine b_Po_find_7 ht ⟨fun q => absurd q (nI_ge (b := 2000) (by omega) (by decide)), fun _ => ?_⟩
      rw [hM2.1, nI_1]
      refine ⟨fun q => absurd q (nI_ge (by omega) (by omega)), fun _ => ?_⟩
      cases k with
      | none => exact ⟨fun _ => ⟨_, rfl, rfl, none, hF none rfl, rfl⟩, fun q => absurd rfl q⟩
      | some k =>
        have hkD := hk k rfl
        have h500 := hW.1.2.2.2.2.1
        refine ⟨fun q => absurd q.symm (nI_neg1 (by omega)), fun _ => (c_endTok hM2 hl2 hlt2).mono (fun r σ1 hq => ?_)⟩
        obtain ⟨rfl, rfl⟩ := hq
        refine (c_findPart ht hT hW.1 hkD (a := (mL A).length + 1) (t := t) (fun j hj => by rw [hM2.2 _ (by omega)]; exact a2 j hj) (by omega) hlt2).mono (fun r σ2 hq => ?_)
        obtain ⟨rfl, o, ho, rfl⟩ := hq
        rw [nI_1]
        have := ih (A ++ [t]) o (by rw [hAB, List.append_assoc]; rfl) (fun j e => by subst e; exact PtR_lt hkD ho) (fun o' h => hF o' ⟨o, ho, h⟩)
        rw [a4, lenT] at this
        exact this
  exact CE.of (L := [(0, pv E 69), (1, pv E t0)]) rfl (Nat.le_of_ble_eq_true rfl) rfl (b_Po_find_0 ht (loop T [] (some 0) rfl (fun j e => by cases e; exact hW.2) (fun o h => h)))
