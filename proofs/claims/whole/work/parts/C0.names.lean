/-! names compared -/
def rk (c : Nat) : Nat := if c < 55296 then c else if c < 65536 then c + 1048576 else c - 65536 + 55296
def cmN : List Nat → List Nat → Int
  | [], [] => 0
  | [], _ :: _ => -1
  | _ :: _, [] => 1
  | a :: s, b :: t => if a = b then cmN s t else if rk a < rk b then -1 else 1
theorem gA_drop {s : List Nat} {k : Nat} (h : k < s.length) : s.drop k = gA s k :: s.drop (k + 1) := by
  rw [List.drop_eq_getElem_cons h]
  unfold gA
  rw [List.getD_eq_getElem?_getD, List.getElem?_eq_getElem h]
  rfl
theorem cmN_eq {s t : List Nat} {k : Nat} (h1 : k < s.length) (h2 : k < t.length) (h : gA s k = gA t k) : cmN (s.drop k) (t.drop k) = cmN (s.drop (k + 1)) (t.drop (k + 1)) := by
  rw [gA_drop h1, gA_drop h2]
  show (if gA s k = gA t k then _ else _) = _
  rw [if_pos h]
theorem cmN_ne {s t : List Nat} {k : Nat} (h1 : k < s.length) (h2 : k < t.length) (h : gA s k ≠ gA t k) : cmN (s.drop k) (t.drop k) = if rk (gA s k) < rk (gA t k) then -1 else 1 := by
  rw [gA_drop h1, gA_drop h2]
  show (if gA s k = gA t k then _ else _) = _
  rw [if_neg h]
theorem cmN_end {s t : List Nat} {k : Nat} (h : s.length = k ∨ t.length = k) (h1 : k ≤ s.length) (h2 : k ≤ t.length) : cmN (s.drop k) (t.drop k) = if s.length < t.length then -1 else if s.length = t.length then 0 else 1 := by
  rcases h with e | e
  · rw [List.drop_eq_nil_of_le (by omega : s.length ≤ k)]
    by_cases g : t.length = k
    · rw [List.drop_eq_nil_of_le (by omega : t.length ≤ k), if_neg (by omega), if_pos (by omega)]; rfl
    · rw [gA_drop (by omega : k < t.length), if_pos (by omega)]; rfl
  · rw [List.drop_eq_nil_of_le (by omega : t.length ≤ k)]
    by_cases g : s.length = k
    · rw [List.drop_eq_nil_of_le (by omega : s.length ≤ k), if_neg (by omega), if_pos (by omega)]; rfl
    · rw [gA_drop (by omega : k < s.length), if_neg (by omega), if_neg (by omega)]; rfl
theorem cmN_0 : ∀ {s t : List Nat}, cmN s t = 0 ↔ s = t
  | [], [] => ⟨fun _ => rfl, fun _ => rfl⟩
  | [], _ :: _ => ⟨fun h => absurd h (by show ¬ ((-1 : Int) = 0); decide), fun h => absurd h (by simp)⟩
  | _ :: _, [] => ⟨fun h => absurd h (by show ¬ ((1 : Int) = 0); decide), fun h => absurd h (by simp)⟩
  | a :: s, b :: t => by
    show (if a = b then cmN s t else if rk a < rk b then -1 else 1) = 0 ↔ _
    by_cases h : a = b
    · rw [if_pos h, cmN_0, h]
      simp
    · rw [if_neg h]
      constructor
      · intro q; split at q <;> exact absurd q (by decide)
      · intro q; exact absurd (List.cons.inj q).1 h
/-- unit of the reference -/
def un16 (c : Nat) : Nat := if c < 65536 then c else 55296 + (c - 65536) / 1024
theorem c_unit {E : En_t} {d c : Nat} {σ : S_t} (hc : c < 1114112) : CI E d m_Mo_unit [.int (nI c)] σ (fun r σ' => r = nI (un16 c) ∧ σ' = σ) := by
  refine CE.of (L := [(0, .int (nI c))]) rfl (Nat.le_of_ble_eq_true rfl) rfl (b_Mo_unit_0 (pk_le 65536 c (fun g => ⟨_, rfl, ?_, rfl⟩) (fun g => ⟨_, rfl, ?_, rfl⟩)))
  · unfold un16
    rw [if_neg (by omega), show nI c - (65536 : Int32) = nI (c - 65536) from pk_sub (b := 65536) g, pk_shrN (by omega) _ 10 (by decide)]
    exact nI_add 55296 _
  · unfold un16; rw [if_pos g]
theorem un_rk {a b : Nat} (ha : Ltr a) (hb : Ltr b) (h : a ≠ b) : (un16 a = un16 b → (a < b ↔ rk a < rk b)) ∧ (un16 a ≠ un16 b → (un16 a < un16 b ↔ rk a < rk b)) := by
  unfold Ltr at ha hb
  unfold un16 rk
  constructor
  · intro q
    repeat' split at q
    all_goals (repeat' split)
    all_goals omega
  · intro q
    repeat' split at q
    all_goals (repeat' split)
    all_goals omega
theorem nI_subs {a b : Nat} (ha : a < 2 ^ 30) (hb : b < 2 ^ 30) : (nI a - nI b < 0 ↔ a < b) ∧ (nI a - nI b = 0 ↔ a = b) := by
  have h := pk_sub_toInt ha hb
  constructor
  · rw [fa_lt, h]
    show (a : Int) - b < (0 : Int32).toInt ↔ _
    rw [show (0 : Int32).toInt = 0 from rfl]
    omega
  · rw [fa_eq, h]
    show (a : Int) - b = (0 : Int32).toInt ↔ _
    rw [show (0 : Int32).toInt = 0 from rfl]
    omega
/-- what compared answers -/
def CmR (s t : List Nat) (r : Int32) : Prop := (r < 0 ↔ cmN s t < 0) ∧ (r = 0 ↔ cmN s t = 0)
theorem c_compared {E : En_t} {d o1 o2 a b : Nat} {s t : List Nat} {σ : S_t} (k1 : kindP o1 = 20) (k2 : kindP o2 = 20) (h1 : StrA (gI σ o1) a s) (h2 : StrA (gI σ o2) b t) (l1 : a + s.length ≤ lenP o1) (l2 : b + t.length ≤ lenP o2) (m1 : lenP o1 ≤ 1000000) (m2 : lenP o2 ≤ 1000000) (hs : Ltrs s) (ht : Ltrs t) : CI E (d + 1) m_Mo_compared [pv E o1, .int (nI a), .int (nI s.length), pv E o2, .int (nI b), .int (nI t.length)] σ (fun r σ' => CmR s t r ∧ σ' = σ) := by
  have loop : ∀ (m k : Nat), k + m = min s.length t.length → cmN (s.drop k) (t.drop k) = cmN s t → JE E (d + 1) m_Mo_compared 3 [(0, pv E o1), (1, .int (nI a)), (2, .int (nI s.length)), (3, pv E o2), (4, .int (nI b)), (5, .int (nI t.length)), (6, .int (nI k))] [] σ (fun q σ' => ∃ r, q = some (.int r) ∧ CmR s t r ∧ σ' = σ) := by
    intro m
    induction m with
    | zero =>
      intro k hk hc
      have fin : CmR s t (nI s.length - nI t.length) := by
        obtain ⟨e1, e2⟩ := nI_subs (a := s.length) (b := t.length) (by omega) (by omega)
        rw [cmN_end (by omega) (by omega) (by omega)] at hc
        unfold CmR
        rw [e1, e2, ← hc]
        constructor
        · constructor
          · intro q; rw [if_pos q]; decide
          · intro q; split at q
            · assumption
            · split at q <;> exact absurd q (by decide)
        · constructor
          · intro q; rw [if_neg (by omega), if_pos q]
          · intro q; split at q
            · exact absurd q (by decide)
            · split at q
              · assumption
              · exact absurd q (by decide)
      exact b_Mo_compared_3 k1 k2 (pk_le s.length k (fun g => ⟨_, rfl, fin, rfl⟩) (fun g => pk_le t.length k (fun g2 => ⟨_, rfl, fin, rfl⟩) (fun g2 => by omega)))
    | succ m ih =>
      intro k hk hc
      have hks : k < s.length := by omega
      have hkt : k < t.length := by omega
      refine b_Mo_compared_3 k1 k2 ⟨fun q => absurd q (nI_ge hks (by omega)), fun _ => ⟨fun q => absurd q (nI_ge hkt (by omega)), fun _ => ?_⟩⟩
      rw [nI_add, nI_add, nI_clamp (by omega), nI_clamp (by omega), h1 k hks, h2 k hkt, nI_1]
      have hls := hs k hks
      have hlt := ht k hkt
      have b1 : gA s k < 1114112 := by unfold Ltr at hls; omega
      have b2 : gA t k < 1114112 := by unfold Ltr at hlt; omega
      refine ⟨vin (by omega) m1, vin (by omega) m2, ?_⟩
      rw [nI_eq (by omega) (by omega)]
      refine ⟨fun q => ih (k + 1) (by omega) (by rw [← hc, cmN_eq hks hkt q]), fun q => (c_unit b1).mono (fun r2 σ1 hq => ?_)⟩
      rw [hq.1, hq.2]
      refine (c_unit b2).mono (fun r4 σ2 hq => ?_)
      rw [hq.1, hq.2]
      obtain ⟨u1, u2⟩ := un_rk hls hlt q
      have ub : ∀ c, c < 1114112 → un16 c < 2 ^ 30 := fun c hc => by unfold un16; split <;> omega
      rw [cmN_ne hks hkt q] at hc
      have fin : ∀ {x y : Nat}, x < 2 ^ 30 → y < 2 ^ 30 → x ≠ y → (x < y ↔ rk (gA s k) < rk (gA t k)) → CmR s t (nI x - nI y) := by
        intro x y hx hy hne hiff
        obtain ⟨e1, e2⟩ := nI_subs hx hy
        unfold CmR
        rw [e1, e2, ← hc, hiff]
        constructor
        · constructor
          · intro z; rw [if_pos z]; decide
          · intro z; split at z
            · assumption
            · exact absurd z (by decide)
        · constructor
          · intro z; exact absurd z hne
          · intro z; split at z <;> exact absurd z (by decide)
      rw [nI_eq (by have := ub _ b1; omega) (by have := ub _ b2; omega)]
      refine ⟨fun z => ⟨_, rfl, fin (by omega) (by omega) q (u1 z), rfl⟩, fun z => (c_unit b1).mono (fun r6 σ3 hq => ?_)⟩
      rw [hq.1, hq.2]
      refine (c_unit b2).mono (fun r8 σ4 hq => ?_)
      rw [hq.1, hq.2]
      exact ⟨_, rfl, fin (ub _ b1) (ub _ b2) z (u2 z), rfl⟩
  exact CE.of (L := [(0, pv E o1), (1, .int (nI a)), (2, .int (nI s.length)), (3, pv E o2), (4, .int (nI b)), (5, .int (nI t.length))]) rfl (Nat.le_of_ble_eq_true rfl) rfl (b_Mo_compared_0 k1 k2 (loop (min s.length t.length) 0 (by omega) rfl))
/-- the same letters, in the class -/
theorem c_sameCh {E : En_t} {d t1 t2 a b : Nat} {s u : List Nat} {σ : S_t} (k1 : kindP t1 = 11) (k2 : kindP t2 = 11) (h1 : StrA (gI σ (t1 + 11)) a s) (h2 : StrA (gI σ (t2 + 11)) b u) (l1 : a + s.length ≤ 4000) (l2 : b + u.length ≤ 4000) (hl : s.length = u.length) (hs : Ltrs s) (hu : Ltrs u) : CI E d m_Tr_hasSameCharacters [pv E t1, .int (nI a), .int (nI s.length), pv E t2, .int (nI b)] σ (fun r σ' => σ' = σ ∧ ((r = 0 ∧ s ≠ u) ∨ (r = 1 ∧ s = u))) := by
  have loop : ∀ (m k : Nat), k + m = s.length → (s.drop k = u.drop k ↔ s = u) → JE E d m_Tr_hasSameCharacters 3 [(0, pv E t1), (1, .int (nI a)), (2, .int (nI s.length)), (3, pv E t2), (4, .int (nI b)), (5, .int (nI k))] [] σ (fun q σ' => ∃ r, q = some (.int r) ∧ σ' = σ ∧ ((r = 0 ∧ s ≠ u) ∨ (r = 1 ∧ s = u))) := by
    intro m
    induction m with
    | zero =>
      intro k hk hc
      have : k = s.length := by omega
      subst this
      exact b_Tr_hasSameCharacters_3 k1 k2 ⟨fun _ => ⟨_, rfl, rfl, Or.inr ⟨rfl, hc.mp (by rw [List.drop_eq_nil_of_le (Nat.le_refl _), List.drop_eq_nil_of_le (by omega)])⟩⟩, fun q => absurd (Int32.le_refl _) q⟩
    | succ m ih =>
      intro k hk hc
      have hks : k < s.length := by omega
      refine b_Tr_hasSameCharacters_3 k1 k2 ⟨fun q => absurd q (nI_ge hks (by omega)), fun _ => ?_⟩
      have hls := hs k hks
      have hlu := hu k (by omega)
      rw [nI_add, nI_add, nI_clamp (by omega), nI_clamp (by omega), h1 k hks, h2 k (by omega), nI_1, nI_eq (by unfold Ltr at hls; omega) (by unfold Ltr at hlu; omega)]
      refine ⟨vin (by omega) (by decide), vin (by omega) (by decide), fun q => ih (k + 1) (by omega) ?_, fun q => ⟨_, rfl, rfl, Or.inl ⟨rfl, fun z => q (by rw [z])⟩⟩⟩
      rw [← hc, gA_drop hks, gA_drop (by omega : k < u.length), q]
      simp
  exact CE.of (L := [(0, pv E t1), (1, .int (nI a)), (2, .int (nI s.length)), (3, pv E t2), (4, .int (nI b))]) rfl (Nat.le_of_ble_eq_true rfl) rfl (b_Tr_hasSameCharacters_0 k1 k2 (loop s.length 0 (by omega) Iff.rfl))
