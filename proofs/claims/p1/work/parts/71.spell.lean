/-! the reference's spell and print -/
def ShA (σ : S_t) (T : Nat → Nat) (k : Nat) (p : Int) : Prop := gI σ 0 15 = nI k ∧ gI σ 0 16 = zI p ∧ ∀ i, i < k → gI σ 6 i = nI (T i)
theorem MN_no {p k : Nat} (h : ¬ p = 7) (h2 : p = 0 → ¬ k = 18) : ¬ MN p k := by
  rintro (q | ⟨q, q2⟩)
  · exact h q
  · exact h2 q q2
theorem ShA.fs {σ σ' : S_t} {T : Nat → Nat} {k : Nat} {p : Int} (h : ShA σ T k p) (hF : Fs MN σ σ') : ShA σ' T k p :=
  ⟨by rw [hF.1 0 15 (MN_no (by decide) (fun _ => by decide))]; exact h.1, by rw [hF.1 0 16 (MN_no (by decide) (fun _ => by decide))]; exact h.2.1, fun i hi => by rw [hF.1 6 i (MN_no (by decide) (fun q => absurd q (by decide)))]; exact h.2.2 i hi⟩
theorem c_printNum {E : En_t} {d n : Nat} {l : List Nat} {σ : S_t} (h : PnM σ l) (hl : l.length ≤ 36) (hN : n < 2 ^ 31) : CV E (d + 1) m_Mo_printNumber [pv E 0, .int (nI n)] σ (fun σ' => Fs MN σ σ' ∧ PnM σ' (l ++ numL n)) := by
  refine CE.of (L := [(0, pv E 0), (1, .int (nI n))]) rfl (Nat.le_of_ble_eq_true rfl) rfl (b_Mo_printNumber_0 ?_)
  have c99 : nI n ≤ (99 : Int32) ↔ n ≤ 99 := nI_leI (b := 99) hN (by omega)
  have c9 : nI n ≤ (9 : Int32) ↔ n ≤ 9 := nI_leI (b := 9) hN (by omega)
  have at37 : ∀ τ m, Fs MN σ τ → PnM τ m → m.length < 40 → JE E (d + 1) m_Mo_printNumber 37 [(0, pv E 0), (1, .int (nI n))] [] τ (fun r σ' => r = none ∧ Fs MN σ σ' ∧ PnM σ' (m ++ [48 + n % 10])) := by
    intro τ m F O hm
    refine b_Mo_printNumber_37 ?_
    rw [n_mod10 hN, i48]
    exact (c_printing O hm).mono (fun σ1 hq => ⟨rfl, F.tr hq.1, hq.2⟩)
  have at17 : ∀ τ m, Fs MN σ τ → PnM τ m → m.length < 39 → JE E (d + 1) m_Mo_printNumber 17 [(0, pv E 0), (1, .int (nI n))] [] τ (fun r σ' => r = none ∧ Fs MN σ σ' ∧ PnM σ' (m ++ ((if 9 < n then [48 + n / 10 % 10] else []) ++ [48 + n % 10]))) := by
    intro τ m F O hm
    refine b_Mo_printNumber_17 ?_
    rw [c9, n_d10 hN, n_mod10 (by omega), i48]
    refine ⟨fun g => ?_, fun g => ?_⟩
    · rw [if_neg (by omega), List.nil_append]; exact at37 τ m F O (by omega)
    · rw [if_pos (by omega), ← List.append_assoc]
      exact (c_printing O (by omega)).mono (fun σ1 hq => at37 σ1 _ (F.tr hq.1) hq.2 (by rw [len1]; omega))
  rw [c99, n_d100 hN, i48]
  unfold numL
  refine ⟨fun g => ?_, fun g => ?_⟩
  · rw [if_neg (by omega), List.nil_append]; exact at17 σ l Fs.rf h (by omega)
  · rw [if_pos (by omega), List.append_assoc [48 + n / 100], ← List.append_assoc l [48 + n / 100]]
    exact (c_printing h (by omega)).mono (fun σ2 hq2 => at17 σ2 _ hq2.1 hq2.2 (by rw [len1]; omega))
theorem sp_A {T : Nat → Nat} {k : Nat} {p : Int} (hk : 1 ≤ k) (h1 : (k : Int) ≤ p) (h2 : p ≤ 21) : gl (fun j => [48 + (if j < k then T j else 0)]) p.toNat = spL T k p := by
  unfold spL plL
  rw [if_neg (by omega), if_neg (by omega), List.nil_append]
  have e : p.toNat = k + (p - k).toNat := by omega
  rw [e, gl_add]
  congr 1
  · refine gl_ext (fun i hi => ?_)
    show [48 + (if i < k then T i else 0)] = (if 0 < i ∧ (i : Int) = p then [46] else []) ++ [48 + T i]
    rw [if_pos hi, if_neg (by omega), List.nil_append]
  · refine gl_ext (fun i hi => ?_)
    show [48 + (if k + i < k then T (k + i) else 0)] = [48]
    rw [if_neg (by omega)]
theorem sp_B {T : Nat → Nat} {k : Nat} {p : Int} (h0 : 1 ≤ p) (h1 : p < (k : Int)) (h2 : p ≤ 21) : gl (fun j => (if (j : Int) = p then [46] else []) ++ [48 + T j]) k = spL T k p := by
  unfold spL plL
  rw [if_neg (by omega), if_neg (by omega), List.nil_append, show (p - k).toNat = 0 by omega, show zrL 0 = [] from rfl, List.append_nil]
  refine gl_ext (fun i hi => ?_)
  unfold plF
  by_cases g : (i : Int) = p
  · rw [if_pos g, if_pos ⟨by omega, g⟩]
  · rw [if_neg g, if_neg (fun q => g q.2)]
theorem sp_C {T : Nat → Nat} {k : Nat} {p : Int} (h0 : -5 ≤ p) (h1 : p ≤ 0) : [48] ++ [46] ++ zrL (-p).toNat ++ gl (fun j => [48 + T j]) k = spL T k p := by
  unfold spL plL
  rw [if_neg (by omega), if_pos h1, show (p - k).toNat = 0 by omega, show zrL 0 = [] from rfl, List.append_nil]
  congr 1
  refine gl_ext (fun i hi => ?_)
  unfold plF
  rw [if_neg (by omega), List.nil_append]
theorem sp_D {T : Nat → Nat} {k : Nat} {p : Int} (h : 21 < p ∨ p < -5) : gl (fun j => (if j = 1 then [46] else []) ++ [48 + T j]) k ++ [101] ++ [if p ≤ 0 then 45 else 43] ++ numL (p - 1).natAbs = spL T k p := by
  unfold spL pwL
  rw [if_pos h, ← List.append_assoc, ← List.append_assoc]
  have e1 : gl (fun j => (if j = 1 then [46] else []) ++ [48 + T j]) k = dgL T k k := by
    refine gl_ext (fun i hi => ?_)
    unfold dgF
    rw [if_pos hi]
  have e2 : (if p ≤ 0 then 45 else 43) = (if p < 1 then 45 else 43) := by
    by_cases g : p ≤ 0
    · rw [if_pos g, if_pos (by omega)]
    · rw [if_neg g, if_neg (by omega)]
  rw [e1, e2]
theorem len_1 {F : Nat → List Nat} (h : ∀ i, (F i).length = 1) : ∀ n, (gl F n).length = n
  | 0 => rfl
  | n + 1 => by show (gl F n ++ F n).length = n + 1; rw [List.length_append, len_1 h n, h]
theorem c_spell2 {E : En_t} {d k : Nat} {T : Nat → Nat} {p : Int} {l : List Nat} {σ : S_t} (hS : ShA σ T k p) (hk1 : 1 ≤ k) (hk2 : k ≤ 17) (hp1 : -400 ≤ p) (hp2 : p ≤ 400) (h : PnM σ l) (hl : l.length ≤ 1) : JE E (d + 2) m_Mo_spell 43 [(0, pv E 0)] [] σ (fun r σ' => r = none ∧ Fs MN σ σ' ∧ PnM σ' (l ++ spL T k p)) := by
  have loopA : (k : Int) ≤ p → p ≤ 21 → ∀ (m j : Nat) (τ : S_t), j + m = p.toNat → Fs MN σ τ → PnM τ (l ++ gl (fun j => [48 + (if j < k then T j else 0)]) j) → JE E (d + 2) m_Mo_spell 70 [(0, pv E 0), (3, .int (nI k)), (4, .int (zI p)), (5, .int (nI j))] [] τ (fun r σ' => r = none ∧ Fs MN σ σ' ∧ PnM σ' (l ++ spL T k p)) := by
    intro g1 g2 m
    have ez : zI p = nI p.toNat := by rw [← zI_nI]; exact congrArg zI (by omega)
    rw [ez]
    induction m with
    | zero =>
      intro j τ hj hF hO
      have : j = p.toNat := by omega
      subst this
      refine b_Mo_spell_70 ⟨fun _ => ⟨rfl, hF, ?_⟩, fun q => absurd (Int32.le_refl _) q⟩
      rw [← sp_A hk1 g1 g2]; exact hO
    | succ m ih =>
      intro j τ hj hF hO
      have hS1 := hS.fs hF
      have hlen := len_1 (F := fun j => [48 + (if j < k then T j else 0)]) (fun _ => rfl) j
      have at97 : ∀ x, x = (if j < k then T j else 0) → JE E (d + 2) m_Mo_spell 97 [(0, pv E 0), (3, .int (nI k)), (4, .int (nI p.toNat)), (5, .int (nI j))] [.int (nI x), .int (48 : Int32), pv E 0] τ (fun r σ' => r = none ∧ Fs MN σ σ' ∧ PnM σ' (l ++ spL T k p)) := by
        intro x hx
        refine b_Mo_spell_97 ?_
        rw [i48]
        refine (c_printing hO (by rw [List.length_append, hlen]; omega)).mono (fun σ1 hq => ?_)
        rw [nI_1]
        refine ih (j + 1) σ1 (by omega) (hF.tr hq.1) ?_
        have : l ++ gl (fun j => [48 + (if j < k then T j else 0)]) (j + 1) = l ++ gl (fun j => [48 + (if j < k then T j else 0)]) j ++ [48 + x] := by
          rw [hx, List.append_assoc]; rfl
        rw [this]; exact hq.2
      refine b_Mo_spell_70 ⟨fun q => absurd q (nI_ge (by omega) (by omega)), fun _ => ⟨fun q => ?_, fun q => ⟨?_, ?_⟩⟩⟩
      · have := (nI_leI (by omega) (by omega)).mp q
        exact at97 0 (by rw [if_neg (by omega)])
      · have : ¬ k ≤ j := fun z => q (nI_le z (by omega))
        exact vin (by omega) (by omega)
      · have : ¬ k ≤ j := fun z => q (nI_le z (by omega))
        rw [nI_clamp (by omega), hS1.2.2 j (by omega)]
        exact at97 (T j) (by rw [if_pos (by omega)])
  have loopB : 1 ≤ p → p < (k : Int) → p ≤ 21 → ∀ (m j : Nat) (τ : S_t), j + m = k → Fs MN σ τ → PnM τ (l ++ gl (fun j => (if (j : Int) = p then [46] else []) ++ [48 + T j]) j) → JE E (d + 2) m_Mo_spell 126 [(0, pv E 0), (3, .int (nI k)), (4, .int (zI p)), (5, .int (nI j))] [] τ (fun r σ' => r = none ∧ Fs MN σ σ' ∧ PnM σ' (l ++ spL T k p)) := by
    intro g0 g1 g2 m
    induction m with
    | zero =>
      intro j τ hj hF hO
      have : j = k := by omega
      subst this
      refine b_Mo_spell_126 ⟨fun _ => ⟨rfl, hF, ?_⟩, fun q => absurd (Int32.le_refl _) q⟩
      rw [← sp_B g0 g1 g2]; exact hO
    | succ m ih =>
      intro j τ hj hF hO
      have hlen : (gl (fun j => (if (j : Int) = p then [46] else []) ++ [48 + T j]) j).length ≤ j + 1 := by
        have := gl_len1 (F := fun j => (if (j : Int) = p then [46] else []) ++ [48 + T j]) (q := p.toNat) (fun i => by
          show ((if (i : Int) = p then [46] else []) ++ [48 + T i]).length ≤ _
          rw [List.length_append]
          by_cases h : (i : Int) = p
          · rw [if_pos h, if_pos (by omega)]; simp
          · rw [if_neg h]; split <;> simp) j
        split at this <;> omega
      have hln : (l ++ gl (fun j => (if (j : Int) = p then [46] else []) ++ [48 + T j]) j).length ≤ j + 2 := by rw [List.length_append]; omega
      have at145 : ∀ (τ1 : S_t) (l1 : List Nat), Fs MN σ τ1 → PnM τ1 l1 → l1.length < 40 → l1 = l ++ gl (fun j => (if (j : Int) = p then [46] else []) ++ [48 + T j]) j ++ (if (j : Int) = p then [46] else []) → JE E (d + 2) m_Mo_spell 145 [(0, pv E 0), (3, .int (nI k)), (4, .int (zI p)), (5, .int (nI j))] [] τ1 (fun r σ' => r = none ∧ Fs MN σ σ' ∧ PnM σ' (l ++ spL T k p)) := by
        intro τ1 l1 F1 O1 hl1 he
        have hS1 := hS.fs F1
        refine b_Mo_spell_145 ⟨vin (by omega) (by omega), ?_⟩
        rw [nI_clamp (by omega), hS1.2.2 j (by omega), i48]
        refine (c_printing O1 hl1).mono (fun σ1 hq => ?_)
        rw [nI_1]
        refine ih (j + 1) σ1 (by omega) (F1.tr hq.1) ?_
        have : l ++ gl (fun j => (if (j : Int) = p then [46] else []) ++ [48 + T j]) (j + 1) = l1 ++ [48 + T j] := by
          rw [he]
          show l ++ (gl (fun j => (if (j : Int) = p then [46] else []) ++ [48 + T j]) j ++ ((if (j : Int) = p then [46] else []) ++ [48 + T j])) = _
          rw [← List.append_assoc, ← List.append_assoc]
        rw [this]; exact hq.2
      have ej : nI j = zI p ↔ (j : Int) = p := by rw [← zI_nI]; exact zI_eq (by omega) (by omega) (by omega) (by omega)
      refine b_Mo_spell_126 ⟨fun q => absurd q (nI_ge (by omega) (by omega)), fun _ => ⟨fun q => ?_, fun q => ?_⟩⟩
      · exact at145 τ _ hF hO (by omega) (by rw [if_neg (fun z => q (ej.mpr z)), List.append_nil])
      · exact (c_printing (x := 46) hO (by omega)).mono (fun σ1 hq => at145 σ1 _ (hF.tr hq.1) hq.2 (by rw [len1]; omega) (by rw [if_pos (ej.mp q)]))
  have loopC2 : -5 ≤ p → p ≤ 0 → ∀ (m j : Nat) (τ : S_t), j + m = k → Fs MN σ τ → PnM τ (l ++ ([48] ++ [46] ++ zrL (-p).toNat ++ gl (fun j => [48 + T j]) j)) → JE E (d + 2) m_Mo_spell 218 [(0, pv E 0), (3, .int (nI k)), (5, .int (nI j))] [] τ (fun r σ' => r = none ∧ Fs MN σ σ' ∧ PnM σ' (l ++ spL T k p)) := by
    intro g0 g1 m
    induction m with
    | zero =>
      intro j τ hj hF hO
      have : j = k := by omega
      subst this
      refine b_Mo_spell_218 ⟨fun _ => ⟨rfl, hF, ?_⟩, fun q => absurd (Int32.le_refl _) q⟩
      rw [← sp_C g0 g1]; exact hO
    | succ m ih =>
      intro j τ hj hF hO
      have hS1 := hS.fs hF
      have hlen := len_1 (F := fun j => [48 + T j]) (fun _ => rfl) j
      refine b_Mo_spell_218 ⟨fun q => absurd q (nI_ge (by omega) (by omega)), fun _ => ⟨vin (by omega) (by omega), ?_⟩⟩
      rw [nI_clamp (by omega), hS1.2.2 j (by omega), i48]
      refine (c_printing hO (by rw [List.length_append, List.length_append, List.length_append, hlen, zr_len]; simp; omega)).mono (fun σ1 hq => ?_)
      rw [nI_1]
      refine ih (j + 1) σ1 (by omega) (hF.tr hq.1) ?_
      have : l ++ ([48] ++ [46] ++ zrL (-p).toNat ++ gl (fun j => [48 + T j]) (j + 1)) = l ++ ([48] ++ [46] ++ zrL (-p).toNat ++ gl (fun j => [48 + T j]) j) ++ [48 + T j] := by
        show l ++ ([48] ++ [46] ++ zrL (-p).toNat ++ (gl (fun j => [48 + T j]) j ++ [48 + T j])) = _
        simp only [List.append_assoc]
      rw [this]; exact hq.2
  have loopC1 : -5 ≤ p → p ≤ 0 → ∀ (m j : Nat) (τ : S_t), j + m = (-p).toNat → Fs MN σ τ → PnM τ (l ++ ([48] ++ [46] ++ zrL j)) → JE E (d + 2) m_Mo_spell 195 [(0, pv E 0), (3, .int (nI k)), (4, .int (zI p)), (5, .int (nI j))] [] τ (fun r σ' => r = none ∧ Fs MN σ σ' ∧ PnM σ' (l ++ spL T k p)) := by
    intro g0 g1 m
    have en : -(zI p) = nI (-p).toNat := by
      have : -(zI p) = zI (-p) := (Int32.ofInt_neg _).symm
      rw [this, ← zI_nI]; exact congrArg zI (by omega)
    induction m with
    | zero =>
      intro j τ hj hF hO
      have : j = (-p).toNat := by omega
      subst this
      refine b_Mo_spell_195 ⟨fun _ => ?_, fun q => absurd (by rw [en]; exact Int32.le_refl _) q⟩
      refine loopC2 g0 g1 k 0 τ (by omega) hF ?_
      rw [show gl (fun j => [48 + T j]) 0 = [] from rfl, List.append_nil]; exact hO
    | succ m ih =>
      intro j τ hj hF hO
      refine b_Mo_spell_195 ⟨fun q => absurd q (by rw [en]; exact nI_ge (by omega) (by omega)), fun _ => ?_⟩
      refine (c_printing (x := 48) hO (by rw [List.length_append, List.length_append, zr_len]; simp; omega)).mono (fun σ1 hq => ?_)
      rw [nI_1]
      refine ih (j + 1) σ1 (by omega) (hF.tr hq.1) ?_
      have : l ++ ([48] ++ [46] ++ zrL (j + 1)) = l ++ ([48] ++ [46] ++ zrL j) ++ [48] := by
        show l ++ ([48] ++ [46] ++ (zrL j ++ [48])) = _
        simp only [List.append_assoc]
      rw [this]; exact hq.2
  have loopD : (21 < p ∨ p < -5) → ∀ (m j : Nat) (τ : S_t), j + m = k → Fs MN σ τ → PnM τ (l ++ gl (fun j => (if j = 1 then [46] else []) ++ [48 + T j]) j) → JE E (d + 2) m_Mo_spell 250 [(0, pv E 0), (3, .int (nI k)), (4, .int (zI p)), (5, .int (nI j))] [] τ (fun r σ' => r = none ∧ Fs MN σ σ' ∧ PnM σ' (l ++ spL T k p)) := by
    intro g m
    have lenD : ∀ j, (gl (fun j => (if j = 1 then [46] else []) ++ [48 + T j]) j).length ≤ j + 1 := by
      intro j
      have := gl_len1 (F := fun j => (if j = 1 then [46] else []) ++ [48 + T j]) (q := 1) (fun i => by
        show ((if i = 1 then [46] else []) ++ [48 + T i]).length ≤ _
        rw [List.length_append]
        split <;> simp) j
      split at this <;> omega
    induction m with
    | zero =>
      intro j τ hj hF hO
      have : j = k := by omega
      subst this
      have hlen := lenD j
      have cp : zI p ≤ (0 : Int32) ↔ p ≤ 0 := zI_le (b := 0) (by omega) (by omega) (by omega) (by omega)
      refine b_Mo_spell_250 ⟨fun _ => ?_, fun q => absurd (Int32.le_refl _) q⟩
      refine (c_printing (x := 101) hO (by rw [List.length_append]; omega)).mono (fun σ1 hq1 => ?_)
      have at307 : ∀ s, s = (if p ≤ 0 then 45 else 43) → JE E (d + 2) m_Mo_spell 307 [(0, pv E 0), (4, .int (zI p))] [.int (nI s), pv E 0] σ1 (fun r σ' => r = none ∧ Fs MN σ σ' ∧ PnM σ' (l ++ spL T j p)) := by
        intro s hs
        refine b_Mo_spell_307 ((c_printing hq1.2 (by rw [len1, List.length_append]; omega)).mono (fun σ2 hq2 => ?_))
        have at327 : ∀ n, n = (p - 1).natAbs → JE E (d + 2) m_Mo_spell 327 [] [.int (nI n), pv E 0] σ2 (fun r σ' => r = none ∧ Fs MN σ σ' ∧ PnM σ' (l ++ spL T j p)) := by
          intro n hn
          refine b_Mo_spell_327 ((c_printNum hq2.2 (by rw [len1, len1, List.length_append]; omega) (by omega)).mono (fun σ3 hq3 => ?_))
          refine ⟨rfl, ((hF.tr hq1.1).tr hq2.1).tr hq3.1, ?_⟩
          rw [← sp_D g, ← hs, ← hn, ← List.append_assoc, ← List.append_assoc, ← List.append_assoc]
          exact hq3.2
        rw [cp]
        have e1 : (1 : Int32) - zI p = zI (1 - p) := by rw [show (1 : Int32) = zI 1 from rfl, zI_sub]
        have e2 : zI p - (1 : Int32) = zI (p - 1) := by rw [show (1 : Int32) = zI 1 from rfl, zI_sub]
        rw [e1, e2]
        refine ⟨fun q => ?_, fun q => ?_⟩
        · have : zI (1 - p) = nI (1 - p).toNat := by rw [← zI_nI]; exact congrArg zI (by omega)
          rw [this]; exact at327 _ (by omega)
        · have : zI (p - 1) = nI (p - 1).toNat := by rw [← zI_nI]; exact congrArg zI (by omega)
          rw [this]; exact at327 _ (by omega)
      rw [cp]
      exact ⟨fun q => at307 45 (by rw [if_pos q]), fun q => at307 43 (by rw [if_neg q])⟩
    | succ m ih =>
      intro j τ hj hF hO
      have hlen := lenD j
      have hln : (l ++ gl (fun j => (if j = 1 then [46] else []) ++ [48 + T j]) j).length ≤ j + 2 := by rw [List.length_append]; omega
      have at268 : ∀ (τ1 : S_t) (l1 : List Nat), Fs MN σ τ1 → PnM τ1 l1 → l1.length < 40 → l1 = l ++ gl (fun j => (if j = 1 then [46] else []) ++ [48 + T j]) j ++ (if j = 1 then [46] else []) → JE E (d + 2) m_Mo_spell 268 [(0, pv E 0), (3, .int (nI k)), (4, .int (zI p)), (5, .int (nI j))] [] τ1 (fun r σ' => r = none ∧ Fs MN σ σ' ∧ PnM σ' (l ++ spL T k p)) := by
        intro τ1 l1 F1 O1 hl1 he
        have hS1 := hS.fs F1
        refine b_Mo_spell_268 ⟨vin (by omega) (by omega), ?_⟩
        rw [nI_clamp (by omega), hS1.2.2 j (by omega), i48]
        refine (c_printing O1 hl1).mono (fun σ1 hq => ?_)
        rw [nI_1]
        refine ih (j + 1) σ1 (by omega) (F1.tr hq.1) ?_
        have : l ++ gl (fun j => (if j = 1 then [46] else []) ++ [48 + T j]) (j + 1) = l1 ++ [48 + T j] := by
          rw [he]
          show l ++ (gl (fun j => (if j = 1 then [46] else []) ++ [48 + T j]) j ++ ((if j = 1 then [46] else []) ++ [48 + T j])) = _
          rw [← List.append_assoc, ← List.append_assoc]
        rw [this]; exact hq.2
      have ej : nI j = (1 : Int32) ↔ j = 1 := nI_eq (b := 1) (by omega) (by omega)
      refine b_Mo_spell_250 ⟨fun q => absurd q (nI_ge (by omega) (by omega)), fun _ => ⟨fun q => ?_, fun q => ?_⟩⟩
      · exact at268 τ _ hF hO (by omega) (by rw [if_neg (fun z => q (ej.mpr z)), List.append_nil])
      · exact (c_printing (x := 46) hO (by omega)).mono (fun σ1 hq => at268 σ1 _ (hF.tr hq.1) hq.2 (by rw [len1]; omega) (by rw [if_pos (ej.mp q)]))
  have l0 : ∀ (F : Nat → List Nat), PnM σ (l ++ gl F 0) := fun F => by rw [show gl F 0 = [] from rfl, List.append_nil]; exact h
  refine b_Mo_spell_43 ?_
  rw [hS.1, hS.2.1]
  have c1 : zI p < nI k ↔ p < (k : Int) := by rw [← zI_nI]; exact zI_lt (by omega) (by omega) (by omega) (by omega)
  have c21 : (21 : Int32) < zI p ↔ 21 < p := zI_lt (a := 21) (by omega) (by omega) (by omega) (by omega)
  have cl1 : zI p < (1 : Int32) ↔ p < 1 := zI_lt (b := 1) (by omega) (by omega) (by omega) (by omega)
  have cl5 : zI p < (-5 : Int32) ↔ p < -5 := by
    rw [show (-5 : Int32) = zI (-5) from rfl]; exact zI_lt (by omega) (by omega) (by omega) (by omega)
  have cg0 : (0 : Int32) < zI p ↔ 0 < p := zI_lt (a := 0) (by omega) (by omega) (by omega) (by omega)
  have at168 : p < 1 ∨ 21 < p → JE E (d + 2) m_Mo_spell 168 [(0, pv E 0), (3, .int (nI k)), (4, .int (zI p))] [] σ (fun r σ' => r = none ∧ Fs MN σ σ' ∧ PnM σ' (l ++ spL T k p)) := by
    intro hp
    refine b_Mo_spell_168 ?_
    rw [cl5, cg0]
    refine ⟨fun q => b_Mo_spell_247 (loopD (Or.inr q) k 0 σ (by omega) Fs.rf (l0 _)), fun q => ⟨fun q2 => b_Mo_spell_247 (loopD (by omega) k 0 σ (by omega) Fs.rf (l0 _)), fun q2 => ?_⟩⟩
    refine (c_printing (x := 48) h (by omega)).mono (fun σ1 hq1 => ?_)
    refine (c_printing (x := 46) hq1.2 (by rw [len1]; omega)).mono (fun σ2 hq2 => ?_)
    refine loopC1 (by omega) (by omega) _ 0 σ2 (Nat.zero_add _) (hq1.1.tr hq2.1) ?_
    rw [show zrL 0 = [] from rfl, List.append_nil, ← List.append_assoc]
    exact hq2.2
  have at110 : p < (k : Int) ∨ 21 < p → JE E (d + 2) m_Mo_spell 110 [(0, pv E 0), (3, .int (nI k)), (4, .int (zI p))] [] σ (fun r σ' => r = none ∧ Fs MN σ σ' ∧ PnM σ' (l ++ spL T k p)) := by
    intro hp
    refine b_Mo_spell_110 ?_
    rw [cl1, c21]
    exact ⟨fun q => at168 (Or.inl q), fun q => ⟨fun q2 => at168 (Or.inr q2), fun q2 => loopB (by omega) (by omega) (by omega) k 0 σ (by omega) Fs.rf (l0 _)⟩⟩
  rw [c1, c21]
  exact ⟨fun q => at110 (Or.inl q), fun q => ⟨fun q2 => at110 (Or.inr q2), fun q2 => loopA (by omega) (by omega) _ 0 σ (Nat.zero_add _) Fs.rf (l0 _)⟩⟩
