/-! UTF-8 on both sides -/
def uMore (b : Nat) : Nat := if b < 194 then 0 else if b < 224 then 1 else if b < 240 then 2 else if b < 245 then 3 else 0
def uLo (b : Nat) : Nat := if b = 224 then 160 else if b = 240 then 144 else 128
def uHi (b : Nat) : Nat := if b = 237 then 159 else if b = 244 then 143 else 191
abbrev uRng (l : List Nat) (p lo hi : Nat) : Prop := p < l.length ∧ lo ≤ gA l p ∧ gA l p ≤ hi
abbrev uGood (l : List Nat) (a j : Nat) : Prop := uRng l (a + 1 + j) (if j = 0 then uLo (gA l a) else 128) (if j = 0 then uHi (gA l a) else 191)
def uVal (l : List Nat) (a : Nat) : Nat → Nat
  | 0 => gA l a % 2 ^ (6 - uMore (gA l a))
  | j + 1 => uVal l a j * 64 + gA l (a + 1 + j) % 64
/-- a wide character's bytes fail at e -/
def U8F (l : List Nat) (a e : Nat) : Prop := (uMore (gA l a) = 0 ∧ e = a) ∨ ∃ j, j < uMore (gA l a) ∧ (∀ i, i < j → uGood l a i) ∧ ¬ uGood l a j ∧ e = a + 1 + j
def U8O (l : List Nat) (a : Nat) : Prop := 0 < uMore (gA l a) ∧ ∀ j, j < uMore (gA l a) → uGood l a j
def uV (l : List Nat) (a : Nat) : Nat := uVal l a (uMore (gA l a))
def uE (l : List Nat) (a : Nat) : Nat := a + 1 + uMore (gA l a)
theorem uMore_le (b : Nat) : uMore b ≤ 3 := by unfold uMore; (repeat' split) <;> omega
theorem U8F_no {l : List Nat} {a e : Nat} (h : U8F l a e) : ¬ U8O l a := by
  rintro ⟨h1, h2⟩
  rcases h with ⟨q, _⟩ | ⟨j, q1, _, q2, _⟩
  · omega
  · exact q2 (h2 j q1)
theorem U8F_uniq {l : List Nat} {a e e' : Nat} (h : U8F l a e) (h' : U8F l a e') : e = e' := by
  rcases h with ⟨q, q'⟩ | ⟨j, q1, q2, q3, q4⟩ <;> rcases h' with ⟨r, r'⟩ | ⟨k, r1, r2, r3, r4⟩
  · omega
  · omega
  · omega
  · rcases Nat.lt_trichotomy j k with g | g | g
    · exact absurd (r2 j g) q3
    · omega
    · exact absurd (q2 k g) r3
theorem U8F_le {l : List Nat} {a e : Nat} (ha : a < l.length) (h : U8F l a e) : a ≤ e ∧ e ≤ l.length := by
  rcases h with ⟨q, q'⟩ | ⟨j, q1, q2, q3, q4⟩
  · omega
  · rcases Nat.eq_zero_or_pos j with z | z
    · omega
    · have := (q2 (j - 1) (by omega)).1
      omega
theorem U8O_le {l : List Nat} {a : Nat} (h : U8O l a) : uE l a ≤ l.length := by
  have := (h.2 (uMore (gA l a) - 1) (by have := h.1; omega)).1
  have := h.1
  unfold uE; omega
theorem uVal_lt {l : List Nat} {a : Nat} : ∀ j, j ≤ 3 → uVal l a j < 2 ^ (6 - uMore (gA l a) + 6 * j)
  | 0, _ => Nat.mod_lt _ (Nat.two_pow_pos _)
  | j + 1, hj => by
    have ih := uVal_lt (l := l) (a := a) j (by omega)
    have := Nat.mod_lt (gA l (a + 1 + j)) (show 0 < 64 by decide)
    show uVal l a j * 64 + gA l (a + 1 + j) % 64 < _
    rw [show 6 - uMore (gA l a) + 6 * (j + 1) = (6 - uMore (gA l a) + 6 * j) + 6 by omega, Nat.pow_add]
    generalize 2 ^ (6 - uMore (gA l a) + 6 * j) = X at *
    omega
theorem uVal_b {l : List Nat} {a j : Nat} (hj : j ≤ 3) (hm : 0 < uMore (gA l a)) (h : j ≤ uMore (gA l a)) : uVal l a j < 2 ^ 21 := by
  refine Nat.lt_of_lt_of_le (uVal_lt j hj) (Nat.pow_le_pow_right (by decide) ?_)
  have := uMore_le (gA l a)
  omega
/-- a wide character is a letter, and has as many bytes as it needs -/
theorem uV_ltr {l : List Nat} {a : Nat} (hb : Bt l) (h : U8O l a) : Ltr (uV l a) ∧ bl (uV l a) ≤ 1 + uMore (gA l a) := by
  have hg := Bt_gA hb a
  obtain ⟨h1, h2⟩ := h
  have e : uMore (gA l a) = 1 ∨ uMore (gA l a) = 2 ∨ uMore (gA l a) = 3 := by have := uMore_le (gA l a); omega
  unfold uMore at e
  have gx : ∀ j, gA l (a + 1 + j) < 256 := fun j => Bt_gA hb _
  have g0 := h2 0 h1
  simp only [uGood, if_true] at g0
  obtain ⟨-, g1, g2⟩ := g0
  unfold uLo at g1
  unfold uHi at g2
  have u0 : uVal l a 0 = gA l a % 2 ^ (6 - uMore (gA l a)) := rfl
  have u1 : uVal l a 1 = uVal l a 0 * 64 + gA l (a + 1 + 0) % 64 := rfl
  have u2 : uVal l a 2 = uVal l a 1 * 64 + gA l (a + 1 + 1) % 64 := rfl
  have u3 : uVal l a 3 = uVal l a 2 * 64 + gA l (a + 1 + 2) % 64 := rfl
  have c1 : 1 < uMore (gA l a) → 128 ≤ gA l (a + 1 + 1) ∧ gA l (a + 1 + 1) ≤ 191 := fun q => (h2 1 q).2
  have c2 : 2 < uMore (gA l a) → 128 ≤ gA l (a + 1 + 2) ∧ gA l (a + 1 + 2) ≤ 191 := fun q => (h2 2 q).2
  have x0 := gx 0
  have x1 := gx 1
  have x2 := gx 2
  have hM : (194 ≤ gA l a ∧ gA l a < 224 ∧ uMore (gA l a) = 1) ∨ (224 ≤ gA l a ∧ gA l a < 240 ∧ uMore (gA l a) = 2) ∨ (240 ≤ gA l a ∧ gA l a < 245 ∧ uMore (gA l a) = 3) := by
    unfold uMore at h1 ⊢
    repeat' split at h1
    all_goals (repeat' split)
    all_goals omega
  unfold uV Ltr bl
  rcases hM with ⟨m1, m2, m3⟩ | ⟨m1, m2, m3⟩ | ⟨m1, m2, m3⟩
  · rw [m3] at u0 ⊢
    rw [u1, u0, show (2 : Nat) ^ (6 - 1) = 32 from rfl]
    have : 128 ≤ gA l (a + 1 + 0) ∧ gA l (a + 1 + 0) ≤ 191 := by
      repeat' split at g1
      all_goals (repeat' split at g2)
      all_goals omega
    constructor
    · omega
    · repeat' split
      all_goals omega
  · rw [m3] at u0 ⊢
    have c1 := c1 (by omega)
    rw [u2, u1, u0, show (2 : Nat) ^ (6 - 2) = 16 from rfl]
    have : (gA l a = 224 → 160 ≤ gA l (a + 1 + 0)) ∧ (gA l a = 237 → gA l (a + 1 + 0) ≤ 159) ∧ 128 ≤ gA l (a + 1 + 0) ∧ gA l (a + 1 + 0) ≤ 191 := by
      repeat' split at g1
      all_goals (repeat' split at g2)
      all_goals omega
    constructor
    · omega
    · repeat' split
      all_goals omega
  · rw [m3] at u0 ⊢
    have c1 := c1 (by omega)
    have c2 := c2 (by omega)
    rw [u3, u2, u1, u0, show (2 : Nat) ^ (6 - 3) = 8 from rfl]
    have : (gA l a = 240 → 144 ≤ gA l (a + 1 + 0)) ∧ (gA l a = 244 → gA l (a + 1 + 0) ≤ 143) ∧ 128 ≤ gA l (a + 1 + 0) ∧ gA l (a + 1 + 0) ≤ 191 := by
      repeat' split at g1
      all_goals (repeat' split at g2)
      all_goals omega
    constructor
    · omega
    · repeat' split
      all_goals omega
theorem hr_rng {l : List Nat} {p lo hi : Nat} (hb : Bt l) (h1 : lo < 2 ^ 31) (h2 : hi < 2 ^ 31) : (hr l p < nI lo → ¬ uRng l p lo hi) ∧ (¬ hr l p < nI lo → ((hr l p ≤ nI hi → uRng l p lo hi) ∧ (¬ hr l p ≤ nI hi → ¬ uRng l p lo hi))) := by
  by_cases h : p < l.length
  · have hg := Bt_gA hb p
    rw [hr_lt h, nI_ltI (by omega) h1, nI_leI (by omega) h2]
    exact ⟨fun q z => by omega, fun q => ⟨fun z => ⟨h, by omega, by omega⟩, fun z y => by omega⟩⟩
  · have : hr l p < nI lo := by
      rw [hr_ge h, fa_lt, nI_toInt h1]
      show (-1 : Int) < lo
      omega
    exact ⟨fun _ z => h z.1, fun q => absurd this q⟩
theorem u6 {v g : Nat} (hv : v < 2 ^ 25) (hg : g < 256) : (nI v <<< ((6 : Int32) &&& 31)) ||| (nI g &&& (63 : Int32)) = nI (v * 64 + g % 64) := by
  rw [pk_shlN _ 6 (by decide) (by omega), show nI g &&& (63 : Int32) = nI (g % 64) from fa_mask g 6, show v * 2 ^ 6 = 2 ^ 6 * v by omega, fa_or_sum v (Nat.mod_lt g (by decide)), show 2 ^ 6 * v = v * 64 by omega]
/-- letters read -/
def RlM (σ : S_t) (L : List Nat) : Prop := gI σ 0 44 = nI L.length ∧ ∀ k, k < L.length → gI σ 39 k = nI (gA L k)
def MKp : Nat → Nat → Prop := fun p k => p = 39 ∨ (p = 0 ∧ k = 44)
def MWd : Nat → Nat → Prop := fun p k => p = 39 ∨ (p = 0 ∧ (k = 44 ∨ k = 9))
theorem c_keepM {E : En_t} {d c : Nat} {L : List Nat} {σ : S_t} (h : RlM σ L) (hl : L.length < 2100) : CV E d m_Mo_keep [pv E 0, .int (nI c)] σ (fun σ' => Fg MKp σ σ' ∧ RlM σ' (L ++ [c])) := by
  refine CE.of (L := [(0, pv E 0), (1, .int (nI c))]) rfl (Nat.le_of_ble_eq_true rfl) rfl (b_Mo_keep_0 ?_)
  rw [h.1, nI_clamp (by omega), gI_sI_n (Or.inl (by decide)), h.1, nI_1]
  refine ⟨vin hl (by decide), rfl, (Fg.rf.si (Or.inl rfl)).si (Or.inr ⟨rfl, rfl⟩), ?_, fun k hk => ?_⟩
  · rw [gI_sI_s, len1]
  · rw [gI_sI_n (Or.inl (by decide))]
    rw [len1] at hk
    by_cases q : k = L.length
    · subst q; rw [gI_sI_s, gA_eq]
    · rw [gI_sI_n (Or.inr q), gA_lt (by omega)]; exact h.2 k (by omega)
theorem RlM_fg {P : Nat → Nat → Prop} {σ σ' : S_t} {L : List Nat} (hF : Fg P σ σ') (h1 : ¬ P 0 44) (h2 : ∀ k, ¬ P 39 k) (h : RlM σ L) : RlM σ' L := ⟨by rw [hF.1 _ _ h1]; exact h.1, fun k hk => by rw [hF.1 _ _ (h2 k)]; exact h.2 k hk⟩
theorem c_takeWide {E : En_t} {d a : Nat} {l L : List Nat} {σ : S_t} (hT : TcM σ l) (hb : Bt l) (hl : l.length ≤ 2000) (h9 : gI σ 0 9 = nI a) (ha : a < l.length) (hR : RlM σ L) (hL : L.length < 2100) : CI E (d + 1) m_Mo_takeWide [pv E 0, .int (nI l.length)] σ (fun r σ' => Fg MWd σ σ' ∧ ((r = 0 ∧ ∃ e, U8F l a e ∧ gI σ' 0 9 = nI e ∧ RlM σ' L) ∨ (r = 1 ∧ U8O l a ∧ gI σ' 0 9 = nI (uE l a) ∧ RlM σ' (L ++ [uV l a])))) := by
  let Q : Option Value → S_t → Prop := fun q σ' => ∃ r, q = some (.int r) ∧ (Fg MWd σ σ' ∧ ((r = 0 ∧ ∃ e, U8F l a e ∧ gI σ' 0 9 = nI e ∧ RlM σ' L) ∨ (r = 1 ∧ U8O l a ∧ gI σ' 0 9 = nI (uE l a) ∧ RlM σ' (L ++ [uV l a]))))
  have hg := Bt_gA hb a
  have m9 : MWd 0 9 := Or.inr ⟨rfl, Or.inr rfl⟩
  have mk : ∀ {p k : Nat}, MKp p k → MWd p k := fun {p k} h => by unfold MKp at h; unfold MWd; omega
  have loop : 0 < uMore (gA l a) → ∀ (m j : Nat) (τ : S_t), j + m = uMore (gA l a) → (∀ i, i < j → uGood l a i) → Fg MWd σ τ → TcM τ l → RlM τ L → gI τ 0 9 = nI (a + 1 + j) → JE E (d + 1) m_Mo_takeWide 169 [(0, pv E 0), (1, .int (nI l.length)), (3, .int (nI (uMore (gA l a)))), (4, .int (nI (if j = 0 then uLo (gA l a) else 128))), (5, .int (nI (if j = 0 then uHi (gA l a) else 191))), (6, .int (nI (uVal l a j))), (7, .int (nI j))] [] τ Q := by
    intro hm m
    have h3 := uMore_le (gA l a)
    induction m with
    | zero =>
      intro j τ hj hall hF hT hR h9
      have hj : j = uMore (gA l a) := by omega
      subst hj
      refine b_Mo_takeWide_169 ⟨fun _ => (c_keepM hR hL).mono (fun σ1 hq => ⟨_, rfl, hF.tr (hq.1.mono (fun _ _ z => mk z)), Or.inr ⟨rfl, ⟨hm, hall⟩, ?_, hq.2⟩⟩), fun q => absurd (Int32.le_refl _) q⟩
      rw [hq.1.1 0 9 (by unfold MKp; omega), h9]; rfl
    | succ m ih =>
      intro j τ hj hall hF hT hR h9
      refine b_Mo_takeWide_169 ⟨fun q => absurd q (nI_ge (by omega) (by omega)), fun _ => (c_hereM hT hl (by omega) h9).mono (fun r σ1 hq => ?_)⟩
      rw [hq.1, hq.2]
      have b1 : (if j = 0 then uLo (gA l a) else 128) < 2 ^ 31 := by unfold uLo; (repeat' split) <;> omega
      have b2 : (if j = 0 then uHi (gA l a) else 191) < 2 ^ 31 := by unfold uHi; (repeat' split) <;> omega
      obtain ⟨r1, r2⟩ := hr_rng (p := a + 1 + j) hb b1 b2
      have bad : ¬ uGood l a j → Q (some (.int (0 : Int32))) τ := fun z => ⟨_, rfl, hF, Or.inl ⟨rfl, a + 1 + j, Or.inr ⟨j, by omega, hall, z, rfl⟩, h9, hR⟩⟩
      refine ⟨fun q => bad (r1 q), fun q => ⟨fun z => ?_, fun z => bad ((r2 q).2 z)⟩⟩
      have hgd : uGood l a j := (r2 q).1 z
      rw [hr_lt hgd.1, u6 (by have := uVal_b (l := l) (a := a) (j := j) (by omega) hm (by omega); omega) (Bt_gA hb _), h9, nI_1, nI_1]
      have hF1 : Fg MWd σ (sI τ 0 9 (nI (a + 1 + j + 1))) := hF.si m9
      have := ih (j + 1) _ (by omega) (fun i hi => by
        by_cases e : i = j
        · subst e; exact hgd
        · exact hall i (by omega)) hF1 (TcM_fg (Fg.rf.si m9) (fun k => by unfold MWd; omega) hT) ⟨by rw [gI_sI_n (Or.inr (by decide))]; exact hR.1, fun k hk => by rw [gI_sI_n (Or.inl (by decide))]; exact hR.2 k hk⟩ (gI_sI_s _ _ _ _)
      rw [if_neg (by omega), if_neg (by omega)] at this
      exact this
  have start : 0 < uMore (gA l a) → ∀ s0, s0 = nI (uMore (gA l a)) → JE E (d + 1) m_Mo_takeWide 61 [(0, pv E 0), (1, .int (nI l.length)), (2, .int (nI (gA l a)))] [.int s0] σ Q := by
    intro hm s0 hs
    subst hs
    have h3 := uMore_le (gA l a)
    have body : ∀ lo hi mask : Nat, lo = uLo (gA l a) → hi = uHi (gA l a) → mask = 2 ^ (6 - uMore (gA l a)) - 1 → JE E (d + 1) m_Mo_takeWide 153 [(0, pv E 0), (1, .int (nI l.length)), (3, .int (nI (uMore (gA l a)))), (4, .int (nI lo)), (5, .int (nI hi))] [.int (nI mask), .int (nI (gA l a))] σ Q := by
      intro lo hi mask h1 h2 h4
      refine b_Mo_takeWide_153 ?_
      rw [h4, fa_mask, h9, nI_1, h1, h2]
      exact loop hm (uMore (gA l a)) 0 _ (by omega) (fun i hi => absurd hi (Nat.not_lt_zero i)) (Fg.rf.si m9) (TcM_fg (Fg.rf.si m9) (fun k => by unfold MWd; omega) hT) ⟨by rw [gI_sI_n (Or.inr (by decide))]; exact hR.1, fun k hk => by rw [gI_sI_n (Or.inl (by decide))]; exact hR.2 k hk⟩ (gI_sI_s _ _ _ _)
    have c1 : nI (uMore (gA l a)) = (1 : Int32) ↔ uMore (gA l a) = 1 := nI_eq (b := 1) (by omega) (by decide)
    have c2 : nI (uMore (gA l a)) = (2 : Int32) ↔ uMore (gA l a) = 2 := nI_eq (b := 2) (by omega) (by decide)
    have d1 : ∀ k, k < 2 ^ 31 → (nI (gA l a) = nI k ↔ gA l a = k) := fun k hk => nI_eq (by omega) hk
    have body2 : ∀ lo hi : Nat, lo = uLo (gA l a) → hi = uHi (gA l a) → JE E (d + 1) m_Mo_takeWide 128 [(0, pv E 0), (1, .int (nI l.length)), (2, .int (nI (gA l a))), (3, .int (nI (uMore (gA l a)))), (4, .int (nI lo))] [.int (nI hi)] σ Q := by
      intro lo hi h1 h2
      refine b_Mo_takeWide_128 ?_
      rw [c1, c2]
      exact ⟨fun q => ⟨fun q2 => body lo hi 7 h1 h2 (by rw [show uMore (gA l a) = 3 by omega]), fun q2 => body lo hi 15 h1 h2 (by rw [q2])⟩, fun q => body lo hi 31 h1 h2 (by rw [q])⟩
    have body3 : ∀ lo : Nat, lo = uLo (gA l a) → JE E (d + 1) m_Mo_takeWide 97 [(0, pv E 0), (1, .int (nI l.length)), (2, .int (nI (gA l a))), (3, .int (nI (uMore (gA l a))))] [.int (nI lo)] σ Q := by
      intro lo h1
      refine b_Mo_takeWide_97 ?_
      rw [show nI (gA l a) = (237 : Int32) ↔ gA l a = 237 from d1 237 (by decide), show nI (gA l a) = (244 : Int32) ↔ gA l a = 244 from d1 244 (by decide)]
      exact ⟨fun q => ⟨fun q2 => body2 lo 191 h1 (by unfold uHi; rw [if_neg q, if_neg q2]), fun q2 => body2 lo 143 h1 (by unfold uHi; rw [if_neg q, if_pos q2])⟩, fun q => body2 lo 159 h1 (by unfold uHi; rw [if_pos q])⟩
    refine b_Mo_takeWide_61 ⟨fun _ => ?_, fun q => absurd q (nI_ne0 hm (by omega))⟩
    rw [show nI (gA l a) = (224 : Int32) ↔ gA l a = 224 from d1 224 (by decide), show nI (gA l a) = (240 : Int32) ↔ gA l a = 240 from d1 240 (by decide)]
    exact ⟨fun q => ⟨fun q2 => body3 128 (by unfold uLo; rw [if_neg q, if_neg q2]), fun q2 => body3 144 (by unfold uLo; rw [if_neg q, if_pos q2])⟩, fun q => body3 160 (by unfold uLo; rw [if_pos q])⟩
  have none : uMore (gA l a) = 0 → JE E (d + 1) m_Mo_takeWide 60 [(0, pv E 0), (1, .int (nI l.length)), (2, .int (nI (gA l a)))] [] σ Q := fun h => b_Mo_takeWide_60 (b_Mo_takeWide_61 ⟨fun q => absurd rfl q, fun _ => ⟨_, rfl, Fg.rf, Or.inl ⟨rfl, a, Or.inl ⟨h, rfl⟩, h9, hR⟩⟩⟩)
  have s42 : ¬ (194 ≤ gA l a ∧ gA l a < 240) → JE E (d + 1) m_Mo_takeWide 42 [(0, pv E 0), (1, .int (nI l.length)), (2, .int (nI (gA l a)))] [] σ Q := fun h => b_Mo_takeWide_42 (pk_lt (gA l a) 240 (fun q => none (by unfold uMore; rw [if_pos (by omega)])) (fun q => pk_le 245 (gA l a) (fun q2 => none (by unfold uMore; (repeat' split) <;> omega)) (fun q2 => start (by unfold uMore; (repeat' split) <;> omega) 3 (by unfold uMore; rw [if_neg (by omega), if_neg (by omega), if_neg (by omega), if_pos (by omega)]; rfl))))
  have s24 : ¬ (194 ≤ gA l a ∧ gA l a < 224) → JE E (d + 1) m_Mo_takeWide 24 [(0, pv E 0), (1, .int (nI l.length)), (2, .int (nI (gA l a)))] [] σ Q := fun h => b_Mo_takeWide_24 (pk_lt (gA l a) 224 (fun q => s42 (by omega)) (fun q => pk_le 240 (gA l a) (fun q2 => s42 (by omega)) (fun q2 => start (by unfold uMore; (repeat' split) <;> omega) 2 (by unfold uMore; rw [if_neg (by omega), if_neg (by omega), if_pos (by omega)]; rfl))))
  refine CE.of (L := [(0, pv E 0), (1, .int (nI l.length))]) rfl (Nat.le_of_ble_eq_true rfl) rfl (b_Mo_takeWide_0 ((c_hereM hT hl (by omega) h9).mono (fun r σ1 hq => ?_)))
  rw [hq.1, hq.2, hr_lt ha]
  exact pk_lt (gA l a) 194 (fun q => s24 (by omega)) (fun q => pk_le 224 (gA l a) (fun q2 => s24 (by omega)) (fun q2 => start (by unfold uMore; (repeat' split) <;> omega) 1 (by unfold uMore; rw [if_neg (by omega), if_pos (by omega)]; rfl)))
/-! the class -/
/-- nextCharacter fails at e, or reads c up to e -/
def NxF (l : List Nat) (a e : Nat) : Prop := (¬ a < l.length ∧ e = a) ∨ (a < l.length ∧ 128 ≤ gA l a ∧ U8F l a e)
def NxO (l : List Nat) (a c e : Nat) : Prop := a < l.length ∧ ((gA l a < 128 ∧ c = gA l a ∧ e = a + 1) ∨ (128 ≤ gA l a ∧ U8O l a ∧ c = uV l a ∧ e = uE l a))
theorem c_nextCh {E : En_t} {d a : Nat} {l : List Nat} {σ : S_t} (hT : TpC σ l) (hb : Bt l) (hl : l.length ≤ 2000) (h9 : gI σ 51 2 = nI a) (ha : a ≤ l.length) : CI E (d + 1) m_Te_nextCharacter [pv E 51] σ (fun r σ' => Fg (fun p k => p = 51 ∧ k = 2) σ σ' ∧ ((r = -1 ∧ ∃ e, NxF l a e ∧ gI σ' 51 2 = nI e) ∨ (∃ c e, r = nI c ∧ NxO l a c e ∧ gI σ' 51 2 = nI e))) := by
  let Q : Option Value → S_t → Prop := fun q σ' => ∃ r, q = some (.int r) ∧ (Fg (fun p k => p = 51 ∧ k = 2) σ σ' ∧ ((r = -1 ∧ ∃ e, NxF l a e ∧ gI σ' 51 2 = nI e) ∨ (∃ c e, r = nI c ∧ NxO l a c e ∧ gI σ' 51 2 = nI e)))
  have hg := Bt_gA hb a
  have fT : ∀ {τ : S_t}, Fg (fun p k => p = 51 ∧ k = 2) σ τ → TpC τ l := fun hF => TpC_fg hF (by omega) (fun k => by omega) hT
  have loop : a < l.length → 128 ≤ gA l a → 0 < uMore (gA l a) → ∀ (m j : Nat) (τ : S_t), j + m = uMore (gA l a) → (∀ i, i < j → uGood l a i) → Fg (fun p k => p = 51 ∧ k = 2) σ τ → gI τ 51 2 = nI (a + 1 + j) → JE E (d + 1) m_Te_nextCharacter 107 [(0, pv E 51), (2, .int (nI (uMore (gA l a)))), (3, .int (nI (uVal l a j))), (4, .int (nI (if j = 0 then uLo (gA l a) else 128))), (5, .int (nI (if j = 0 then uHi (gA l a) else 191))), (6, .int (nI j))] [] τ Q := by
    intro hal h128 hm m
    have h3 := uMore_le (gA l a)
    induction m with
    | zero =>
      intro j τ hj hall hF h9
      have hj : j = uMore (gA l a) := by omega
      subst hj
      refine b_Te_nextCharacter_107 ⟨fun _ => ⟨_, rfl, hF, Or.inr ⟨uV l a, uE l a, rfl, ⟨hal, Or.inr ⟨h128, ⟨hm, hall⟩, rfl, rfl⟩⟩, h9⟩⟩, fun q => absurd (Int32.le_refl _) q⟩
    | succ m ih =>
      intro j τ hj hall hF h9
      refine b_Te_nextCharacter_107 ⟨fun q => absurd q (nI_ge (by omega) (by omega)), fun _ => (c_hereC (fT hF) hb hl (by omega) h9).mono (fun r σ1 hq => ?_)⟩
      rw [hq.1, hq.2]
      have b1 : (if j = 0 then uLo (gA l a) else 128) < 2 ^ 31 := by unfold uLo; (repeat' split) <;> omega
      have b2 : (if j = 0 then uHi (gA l a) else 191) < 2 ^ 31 := by unfold uHi; (repeat' split) <;> omega
      obtain ⟨r1, r2⟩ := hr_rng (p := a + 1 + j) hb b1 b2
      have bad : ¬ uGood l a j → Q (some (.int (-1 : Int32))) τ := fun z => ⟨_, rfl, hF, Or.inl ⟨rfl, a + 1 + j, Or.inr ⟨hal, h128, Or.inr ⟨j, by omega, hall, z, rfl⟩⟩, h9⟩⟩
      refine ⟨fun q => bad (r1 q), fun q => ⟨fun z => ?_, fun z => bad ((r2 q).2 z)⟩⟩
      have hgd : uGood l a j := (r2 q).1 z
      rw [hr_lt hgd.1, u6 (by have := uVal_b (l := l) (a := a) (j := j) (by omega) hm (by omega); omega) (Bt_gA hb _), h9, nI_1, nI_1]
      have := ih (j + 1) _ (by omega) (fun i hi => by
        by_cases e : i = j
        · subst e; exact hgd
        · exact hall i (by omega)) (hF.si ⟨rfl, rfl⟩) (gI_sI_s _ _ _ _)
      rw [if_neg (by omega), if_neg (by omega)] at this
      exact this
  have start : a < l.length → 128 ≤ gA l a → 0 < uMore (gA l a) → ∀ s0, s0 = nI (uVal l a 0) → JE E (d + 1) m_Te_nextCharacter 41 [(0, pv E 51), (1, .int (nI (gA l a))), (2, .int (nI (uMore (gA l a))))] [.int s0] (sI σ 51 2 (nI (a + 1))) Q := by
    intro hal h128 hm s0 hs
    subst hs
    have d1 : ∀ k, k < 2 ^ 31 → (nI (gA l a) = nI k ↔ gA l a = k) := fun k hk => nI_eq (by omega) hk
    have body2 : ∀ lo hi : Nat, lo = uLo (gA l a) → hi = uHi (gA l a) → JE E (d + 1) m_Te_nextCharacter 102 [(0, pv E 51), (2, .int (nI (uMore (gA l a)))), (3, .int (nI (uVal l a 0))), (4, .int (nI lo))] [.int (nI hi)] (sI σ 51 2 (nI (a + 1))) Q := by
      intro lo hi h1 h2
      refine b_Te_nextCharacter_102 ?_
      rw [h1, h2]
      exact loop hal h128 hm (uMore (gA l a)) 0 _ (by omega) (fun i hi => absurd hi (Nat.not_lt_zero i)) (Fg.rf.si ⟨rfl, rfl⟩) (gI_sI_s _ _ _ _)
    have body3 : ∀ lo : Nat, lo = uLo (gA l a) → JE E (d + 1) m_Te_nextCharacter 71 [(0, pv E 51), (1, .int (nI (gA l a))), (2, .int (nI (uMore (gA l a)))), (3, .int (nI (uVal l a 0)))] [.int (nI lo)] (sI σ 51 2 (nI (a + 1))) Q := by
      intro lo h1
      refine b_Te_nextCharacter_71 ?_
      rw [show nI (gA l a) = (237 : Int32) ↔ gA l a = 237 from d1 237 (by decide), show nI (gA l a) = (244 : Int32) ↔ gA l a = 244 from d1 244 (by decide)]
      exact ⟨fun q => ⟨fun q2 => body2 lo 191 h1 (by unfold uHi; rw [if_neg q, if_neg q2]), fun q2 => body2 lo 143 h1 (by unfold uHi; rw [if_neg q, if_pos q2])⟩, fun q => body2 lo 159 h1 (by unfold uHi; rw [if_pos q])⟩
    refine b_Te_nextCharacter_41 ?_
    rw [show nI (gA l a) = (224 : Int32) ↔ gA l a = 224 from d1 224 (by decide), show nI (gA l a) = (240 : Int32) ↔ gA l a = 240 from d1 240 (by decide)]
    exact ⟨fun q => ⟨fun q2 => body3 128 (by unfold uLo; rw [if_neg q, if_neg q2]), fun q2 => body3 144 (by unfold uLo; rw [if_neg q, if_pos q2])⟩, fun q => body3 160 (by unfold uLo; rw [if_pos q])⟩
  refine CE.of (L := [(0, pv E 51)]) rfl (Nat.le_of_ble_eq_true rfl) rfl (b_Te_nextCharacter_0 ((c_hereC hT hb hl (by omega) h9).mono (fun r σ1 hq => ?_)))
  rw [hq.1, hq.2]
  by_cases hal : a < l.length
  · rw [hr_lt hal]
    have wide : ∀ (x : Int32) (n : Nat), x = nI n → 128 ≤ gA l a → uMore (gA l a) = n → 0 < n → n ≤ 3 → ((¬ x = (-1 : Int32) → (¬ x = 0 → JE E (d + 1) m_Te_nextCharacter 41 [(0, pv E 51), (1, .int (nI (gA l a))), (2, .int x)] [.int (nI (gA l a) &&& ((63 : Int32) >>> (x &&& 31)))] (sI σ 51 2 (gI σ 51 2 + (1 : Int32))) Q) ∧ (x = 0 → JE E (d + 1) m_Te_nextCharacter 41 [(0, pv E 51), (1, .int (nI (gA l a))), (2, .int x)] [.int (nI (gA l a))] (sI σ 51 2 (gI σ 51 2 + (1 : Int32))) Q)) ∧ (x = (-1 : Int32) → Q (some (.int (-1 : Int32))) σ)) := by
      intro x n hx h128 hn h0 h3
      subst hx
      refine ⟨fun _ => ⟨fun _ => ?_, fun q => absurd q (nI_ne0 h0 (by omega))⟩, fun q => absurd q.symm (nI_neg1 (by omega))⟩
      rw [h9, nI_1, ← hn]
      refine start hal h128 (by omega) _ ?_
      show nI (gA l a) &&& ((63 : Int32) >>> (nI (uMore (gA l a)) &&& 31)) = nI (gA l a % 2 ^ (6 - uMore (gA l a)))
      rw [hn, ← fa_mask]
      have : n = 1 ∨ n = 2 ∨ n = 3 := by omega
      rcases this with rfl | rfl | rfl <;> rfl
    refine CE.of (L := [(0, .int (nI (gA l a)))]) rfl (Nat.le_of_ble_eq_true rfl) rfl (b_Te_bytesBehind_0 (pk_le 128 (gA l a) (fun q1 => pk_lt (gA l a) 194 (fun q2 => ⟨_, rfl, ?_⟩) (fun q2 => pk_le (gA l a) 244 (fun q3 => pk_le 224 (gA l a) (fun q4 => pk_le 240 (gA l a) (fun q5 => ⟨_, rfl, wide _ 3 rfl q1 ?_ (by decide) (by decide)⟩) (fun q5 => ⟨_, rfl, wide _ 2 rfl q1 ?_ (by decide) (by decide)⟩)) (fun q4 => ⟨_, rfl, wide _ 1 rfl q1 ?_ (by decide) (by decide)⟩)) (fun q3 => ⟨_, rfl, ?_⟩))) (fun q1 => ⟨fun q2 => ⟨_, rfl, ?_⟩, fun q2 => absurd (nI_pos' (by omega)) q2⟩)))
    · exact ⟨fun q => absurd rfl q, fun _ => ⟨_, rfl, Fg.rf, Or.inl ⟨rfl, a, Or.inr ⟨hal, q1, Or.inl ⟨by unfold uMore; rw [if_pos q2], rfl⟩⟩, h9⟩⟩⟩
    · unfold uMore; rw [if_neg (by omega), if_neg (by omega), if_neg (by omega), if_pos (by omega)]
    · unfold uMore; rw [if_neg (by omega), if_neg (by omega), if_pos (by omega)]
    · unfold uMore; rw [if_neg (by omega), if_pos (by omega)]
    · exact ⟨fun q => absurd rfl q, fun _ => ⟨_, rfl, Fg.rf, Or.inl ⟨rfl, a, Or.inr ⟨hal, q1, Or.inl ⟨by unfold uMore; rw [if_neg (by omega), if_neg (by omega), if_neg (by omega), if_neg (by omega)], rfl⟩⟩, h9⟩⟩⟩
    · refine ⟨fun _ => ⟨fun q => absurd rfl q, fun _ => ?_⟩, fun q => absurd q (by decide)⟩
      rw [h9, nI_1]
      have body : ∀ lo hi : Int32, JE E (d + 1) m_Te_nextCharacter 102 [(0, pv E 51), (2, .int (0 : Int32)), (3, .int (nI (gA l a))), (4, .int lo)] [.int hi] (sI σ 51 2 (nI (a + 1))) Q := fun lo hi => b_Te_nextCharacter_102 (b_Te_nextCharacter_107 ⟨fun _ => ⟨_, rfl, Fg.rf.si ⟨rfl, rfl⟩, Or.inr ⟨gA l a, a + 1, rfl, ⟨hal, Or.inl ⟨q1, rfl, rfl⟩⟩, gI_sI_s _ _ _ _⟩⟩, fun q => absurd (Int32.le_refl _) q⟩)
      have body2 : ∀ lo : Int32, JE E (d + 1) m_Te_nextCharacter 71 [(0, pv E 51), (1, .int (nI (gA l a))), (2, .int (0 : Int32)), (3, .int (nI (gA l a)))] [.int lo] (sI σ 51 2 (nI (a + 1))) Q := fun lo => b_Te_nextCharacter_71 ⟨fun _ => ⟨fun _ => body lo _, fun _ => body lo _⟩, fun _ => body lo _⟩
      exact b_Te_nextCharacter_41 ⟨fun _ => ⟨fun _ => body2 _, fun _ => body2 _⟩, fun _ => body2 _⟩
  · rw [hr_ge hal]
    refine CE.of (L := [(0, .int (-1))]) rfl (Nat.le_of_ble_eq_true rfl) rfl (b_Te_bytesBehind_0 ⟨fun q => absurd q (by decide), fun _ => ⟨fun q => absurd q (by decide), fun _ => ⟨_, rfl, fun q => absurd rfl q, fun _ => ⟨_, rfl, Fg.rf, Or.inl ⟨rfl, a, Or.inl ⟨hal, rfl⟩, h9⟩⟩⟩⟩⟩)
