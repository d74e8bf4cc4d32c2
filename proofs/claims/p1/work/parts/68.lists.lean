/-! what is written of a number -/
def numL (n : Nat) : List Nat := (if 99 < n then [48 + n / 100] else []) ++ (if 9 < n then [48 + n / 10 % 10] else []) ++ [48 + n % 10]
def zrL (n : Nat) : List Nat := gl (fun _ => [48]) n
def dgF (T : Nat → Nat) (c i : Nat) : List Nat := (if i = 1 then [46] else []) ++ [48 + (if i < c then T i else 0)]
def dgL (T : Nat → Nat) (c n : Nat) : List Nat := gl (dgF T c) n
def pwL (p : Int) : List Nat := [101] ++ [if p < 1 then 45 else 43] ++ numL (p - 1).natAbs
def plF (T : Nat → Nat) (p : Int) (i : Nat) : List Nat := (if 0 < i ∧ (i : Int) = p then [46] else []) ++ [48 + T i]
def plL (T : Nat → Nat) (c : Nat) (p : Int) : List Nat := (if p ≤ 0 then [48] ++ [46] ++ zrL (-p).toNat else []) ++ gl (plF T p) c ++ zrL (p - c).toNat
def spL (T : Nat → Nat) (c : Nat) (p : Int) : List Nat := if 21 < p ∨ p < -5 then dgL T c c ++ pwL p else plL T c p
theorem gl_len1 {F : Nat → List Nat} {q : Nat} (h : ∀ i, (F i).length ≤ (if i = q then 2 else 1)) : ∀ n, (gl F n).length ≤ n + (if q < n then 1 else 0)
  | 0 => Nat.zero_le _
  | n + 1 => by
    show (gl F n ++ F n).length ≤ _
    rw [List.length_append]
    have h1 := gl_len1 h n
    have h2 := h n
    by_cases q1 : n = q
    · rw [if_pos q1] at h2
      rw [if_neg (by omega)] at h1
      rw [if_pos (by omega)]
      omega
    · rw [if_neg q1] at h2
      by_cases q2 : q < n
      · rw [if_pos q2] at h1; rw [if_pos (by omega)]; omega
      · rw [if_neg q2] at h1; omega
theorem zr_len (n : Nat) : (zrL n).length = n := by
  induction n with
  | zero => rfl
  | succ n ih => show (zrL n ++ [48]).length = n + 1; rw [len1, ih]
theorem dg_len (T : Nat → Nat) (c n : Nat) : (dgL T c n).length ≤ n + 1 := by
  have := gl_len1 (F := dgF T c) (q := 1) (fun i => by unfold dgF; rw [List.length_append]; split <;> simp) n
  unfold dgL
  split at this <;> omega
theorem pl_len (T : Nat → Nat) (p : Int) (n : Nat) : (gl (plF T p) n).length ≤ n + 1 := by
  have := gl_len1 (F := plF T p) (q := p.toNat) (fun i => by
    unfold plF; rw [List.length_append]
    by_cases h : 0 < i ∧ (i : Int) = p
    · rw [if_pos h, if_pos (by omega)]; simp
    · rw [if_neg h]; split <;> simp) n
  split at this <;> omega
theorem nm_len (n : Nat) : (numL n).length ≤ 3 := by
  unfold numL
  rw [List.length_append, List.length_append]
  split <;> split <;> simp
theorem pw_len (p : Int) : (pwL p).length ≤ 5 := by
  unfold pwL
  rw [List.length_append, List.length_append]
  have := nm_len (p - 1).natAbs
  simp
  omega
theorem i48 (x : Nat) : (48 : Int32) + nI x = nI (48 + x) := nI_add 48 x
/-! the class: putZeros, putDigits, putPower, putPlain -/
theorem PrAt.fs {σ σ' : S_t} {T : Nat → Nat} {c : Nat} {p : Int} (h : PrAt σ T c p) (hF : Fs MO σ σ') : PrAt σ' T c p := by
  have n59 : ∀ k, ¬ MO 59 k := fun k q => by rcases q with q | ⟨q, _⟩ <;> exact absurd q (by decide)
  have n60 : ∀ k, ¬ MO 60 k := fun k q => by rcases q with q | ⟨q, _⟩ <;> exact absurd q (by decide)
  exact ⟨by rw [hF.1 59 2 (n59 2)]; exact h.1, by rw [hF.1 59 3 (n59 3)]; exact h.2.1, fun i hi => by rw [hF.1 60 i (n60 i)]; exact h.2.2 i hi⟩
theorem c_putZeros {E : En_t} {d : Nat} {z : Int} {l : List Nat} {σ : S_t} (h : OuC σ l) (hl : l.length ≤ 1000000) (h1 : -2000 ≤ z) (h2 : z ≤ 2000) : CV E (d + 1) m_Pr_putZeros [.int (zI z), pv E 53] σ (fun σ' => Fs MO σ σ' ∧ OuC σ' (l ++ zrL z.toNat)) := by
  refine CE.of (L := [(0, .int (zI z)), (1, pv E 53)]) rfl (Nat.le_of_ble_eq_true rfl) rfl (b_Pr_putZeros_0 ?_)
  have loop : ∀ (m i : Nat) (τ : S_t), i + m = z.toNat → Fs MO σ τ → OuC τ (l ++ zrL i) → JE E (d + 1) m_Pr_putZeros 2 [(0, .int (zI z)), (1, pv E 53), (2, .int (nI i))] [] τ (fun r σ' => r = none ∧ Fs MO σ σ' ∧ OuC σ' (l ++ zrL z.toNat)) := by
    intro m
    induction m with
    | zero =>
      intro i τ him hF hO
      have : i = z.toNat := by omega
      subst this
      refine b_Pr_putZeros_2 ⟨fun _ => ⟨rfl, hF, hO⟩, fun h => absurd ?_ h⟩
      rw [← zI_nI]
      exact (zI_le (by omega) (by omega) (by omega) (by omega)).mpr (by omega)
    | succ m ih =>
      intro i τ him hF hO
      refine b_Pr_putZeros_2 ⟨fun h => ?_, fun _ => ?_⟩
      · rw [← zI_nI] at h
        have := (zI_le (by omega) (by omega) (by omega) (by omega)).mp h
        omega
      · refine (c_putC (x := 48) hO (by rw [List.length_append, zr_len]; omega)).mono (fun σ1 hq => ?_)
        rw [nI_1]
        refine ih (i + 1) σ1 (by omega) (hF.tr hq.1) ?_
        have : l ++ zrL (i + 1) = l ++ zrL i ++ [48] := by rw [List.append_assoc]; rfl
        rw [this]
        exact hq.2
  exact loop z.toNat 0 σ (by omega) Fs.rf (by rw [show zrL 0 = [] from rfl, List.append_nil]; exact h)
theorem c_putDigits {E : En_t} {d n c : Nat} {T : Nat → Nat} {p : Int} {l : List Nat} {σ : S_t} (hP : PrAt σ T c p) (hc : c ≤ 810) (h : OuC σ l) (hl : l.length ≤ 1000000) (hn : n ≤ 2000) : CV E (d + 1) m_Pr_putDigits [pv E 59, .int (nI n), pv E 53] σ (fun σ' => Fs MO σ σ' ∧ OuC σ' (l ++ dgL T c n)) := by
  refine CE.of (L := [(0, pv E 59), (1, .int (nI n)), (2, pv E 53)]) rfl (Nat.le_of_ble_eq_true rfl) rfl (b_Pr_putDigits_0 ?_)
  have loop : ∀ (m i : Nat) (τ : S_t), i + m = n → Fs MO σ τ → OuC τ (l ++ dgL T c i) → JE E (d + 1) m_Pr_putDigits 2 [(0, pv E 59), (1, .int (nI n)), (2, pv E 53), (3, .int (nI i))] [] τ (fun r σ' => r = none ∧ Fs MO σ σ' ∧ OuC σ' (l ++ dgL T c n)) := by
    intro m
    induction m with
    | zero =>
      intro i τ him hF hO
      have : i = n := by omega
      subst this
      exact b_Pr_putDigits_2 ⟨fun _ => ⟨rfl, hF, hO⟩, fun h => absurd (Int32.le_refl _) h⟩
    | succ m ih =>
      intro i τ him hF hO
      have hlen := dg_len T c i
      have at18 : ∀ (τ1 : S_t) (l1 : List Nat), Fs MO σ τ1 → OuC τ1 l1 → l1.length ≤ 1010000 → l1 = l ++ dgL T c i ++ (if i = 1 then [46] else []) → JE E (d + 1) m_Pr_putDigits 18 [(0, pv E 59), (1, .int (nI n)), (2, pv E 53), (3, .int (nI i))] [] τ1 (fun r σ' => r = none ∧ Fs MO σ σ' ∧ OuC σ' (l ++ dgL T c n)) := by
        intro τ1 l1 F1 O1 hl1 he
        have P1 := hP.fs F1
        have at41 : ∀ x, x = (if i < c then T i else 0) → JE E (d + 1) m_Pr_putDigits 41 [(0, pv E 59), (1, .int (nI n)), (2, pv E 53), (3, .int (nI i))] [.int (nI (48 + x)), pv E 53] τ1 (fun r σ' => r = none ∧ Fs MO σ σ' ∧ OuC σ' (l ++ dgL T c n)) := by
          intro x hx
          refine b_Pr_putDigits_41 ((c_putC O1 (by omega)).mono (fun σ1 hq => ?_))
          rw [nI_1]
          refine ih (i + 1) σ1 (by omega) (F1.tr hq.1) ?_
          have : l ++ dgL T c (i + 1) = l1 ++ [48 + x] := by
            rw [he, hx]
            show l ++ (dgL T c i ++ ((if i = 1 then [46] else []) ++ [48 + (if i < c then T i else 0)])) = _
            rw [← List.append_assoc, ← List.append_assoc]
          rw [this]
          exact hq.2
        refine b_Pr_putDigits_18 ?_
        rw [P1.1]
        refine ⟨fun h => ?_, fun h => ⟨?_, ?_⟩⟩
        · have := (nI_leI (by omega) (by omega)).mp h
          exact at41 0 (by rw [if_neg (by omega)])
        · have : ¬ c ≤ i := fun q => h (nI_le q (by omega))
          exact vin (by omega) (by omega)
        · have : ¬ c ≤ i := fun q => h (nI_le q (by omega))
          rw [nI_clamp (by omega), (P1.2.2 i (by omega)).1, i48]
          exact at41 (T i) (by rw [if_pos (by omega)])
      have e1 : nI i = (1 : Int32) ↔ i = 1 := nI_eq (b := 1) (by omega) (by omega)
      have hln : (l ++ dgL T c i).length ≤ 1003000 := by rw [List.length_append]; omega
      refine b_Pr_putDigits_2 ⟨fun h => absurd h (nI_ge (by omega) (by omega)), fun _ => ⟨fun h => ?_, fun h => ?_⟩⟩
      · exact at18 τ _ hF hO (by omega) (by rw [if_neg (fun q => h (e1.mpr q)), List.append_nil])
      · refine (c_putC (x := 46) hO (by omega)).mono (fun σ1 hq => ?_)
        exact at18 σ1 _ (hF.tr hq.1) hq.2 (by rw [len1]; omega) (by rw [if_pos (e1.mp h)])
  exact loop n 0 σ (by omega) Fs.rf (by rw [show dgL T c 0 = [] from rfl, List.append_nil]; exact h)
