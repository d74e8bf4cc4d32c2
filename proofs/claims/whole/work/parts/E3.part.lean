/-! where a token leads -/
def vl (t : List Nat) : Nat → Nat
  | 0 => 0
  | j + 1 => 10 * vl t j + (gA t j - 48)
def IdxO (t : List Nat) : Prop := 0 < t.length ∧ (∀ i, i < t.length → 48 ≤ gA t i ∧ gA t i ≤ 57) ∧ (gA t 0 = 48 → t.length = 1)
def Kid (D : List Row) (k c : Nat) : Prop := k < c ∧ c < k + siz (dT D) D.length k ∧ dT D c = dT D k + 1
/-- the token t leads from k to r -/
def PtR (D : List Row) (k : Nat) (t : List Nat) (r : Option Nat) : Prop :=
  (dK D k = 5 ∧ ((IdxO t ∧ ∃ c, Kid D k c ∧ ordr (dT D) c = vl t t.length ∧ r = some c) ∨ (¬ (IdxO t ∧ ∃ c, Kid D k c ∧ ordr (dT D) c = vl t t.length) ∧ r = none))) ∨
  (dK D k = 6 ∧ ((∃ c, Kid D k c ∧ nam D c = t ∧ (∀ c', Kid D k c' → c' < c → nam D c' ≠ t) ∧ r = some c) ∨ ((∀ c, Kid D k c → nam D c ≠ t) ∧ r = none))) ∨
  (¬ dK D k = 5 ∧ ¬ dK D k = 6 ∧ r = none)
theorem Kid_ord {D : List Row} {k c c' : Nat} (hV : VT (dT D) D.length) (hk : k < D.length) (h : Kid D k c) (h' : Kid D k c') (hlt : c < c') : ordr (dT D) c < ordr (dT D) c' := by
  obtain ⟨q1, q2⟩ := kid_ord hV hk h.1 h.2.1 h.2.2
  obtain ⟨r1, r2⟩ := kid_ord hV hk h'.1 h'.2.1 h'.2.2
  obtain ⟨s1, s2, s3⟩ := kid_next hV hk h.1 h.2.1 h.2.2
  have hle : c + siz (dT D) D.length c ≤ c' := by
    rcases Nat.lt_or_ge c' (c + siz (dT D) D.length c) with g | g
    · have := (siz_spec (f := dT D) (n := D.length) (k := c) (by have := (siz_spec (f := dT D) (n := D.length) hk).2.1; have := h.2.1; omega)).2.2.1 c' hlt g
      have := h.2.2
      have := h'.2.2
      omega
    · exact g
  have := cnt_mono (f := dT D) (e := dT D k + 1) (a := k + 1) hle
  omega
theorem PtR_uniq {D : List Row} {k : Nat} {t : List Nat} {r r' : Option Nat} (hV : VT (dT D) D.length) (hk : k < D.length) (h : PtR D k t r) (h' : PtR D k t r') : r = r' := by
  have ou : ∀ c c', Kid D k c → Kid D k c' → ordr (dT D) c = ordr (dT D) c' → c = c' := fun c c' h1 h2 e => by
    rcases Nat.lt_trichotomy c c' with g | g | g
    · have := Kid_ord hV hk h1 h2 g; omega
    · exact g
    · have := Kid_ord hV hk h2 h1 g; omega
  rcases h with ⟨a, h⟩ | ⟨a, h⟩ | ⟨a, b, h⟩ <;> rcases h' with ⟨a', h'⟩ | ⟨a', h'⟩ | ⟨a', b', h'⟩ <;> first | omega | skip
  · rcases h with ⟨i, c, k1, o1, rfl⟩ | ⟨n, rfl⟩ <;> rcases h' with ⟨i', c', k1', o1', rfl⟩ | ⟨n', rfl⟩
    · rw [ou c c' k1 k1' (by omega)]
    · exact absurd ⟨i, c, k1, o1⟩ n'
    · exact absurd ⟨i', c', k1', o1'⟩ n
    · rfl
  · rcases h with ⟨c, k1, o1, m1, rfl⟩ | ⟨n, rfl⟩ <;> rcases h' with ⟨c', k1', o1', m1', rfl⟩ | ⟨n', rfl⟩
    · rcases Nat.lt_trichotomy c c' with g | g | g
      · exact absurd o1 (m1' c k1 g)
      · rw [g]
      · exact absurd o1' (m1 c' k1' g)
    · exact absurd o1 (n' c k1)
    · exact absurd o1' (n c' k1')
    · rfl
  · rw [h, h']
theorem PtR_lt {D : List Row} {k c : Nat} {t : List Nat} (hk : k < D.length) (h : PtR D k t (some c)) : c < D.length := by
  have hs := (siz_spec (f := dT D) (n := D.length) hk).2.1
  rcases h with ⟨a, ⟨i, c', k1, o1, e⟩ | ⟨n, e⟩⟩ | ⟨a, ⟨c', k1, o1, m1, e⟩ | ⟨n, e⟩⟩ | ⟨a, b, e⟩
  · cases e; have := k1.2.1; omega
  · cases e
  · cases e; have := k1.2.1; omega
  · cases e
  · cases e
def FndR (D : List Row) : Option Nat → List (List Nat) → Option Nat → Prop
  | k, [], r => r = k
  | none, _ :: _, r => r = none
  | some k, t :: B, r => ∃ r', PtR D k t r' ∧ FndR D r' B r
theorem FndR_uniq {D : List Row} (hV : VT (dT D) D.length) : ∀ {B : List (List Nat)} {k r r' : Option Nat}, (∀ j, k = some j → j < D.length) → FndR D k B r → FndR D k B r' → r = r'
  | [], k, r, r', _, h, h' => by
    cases k <;> exact Eq.trans h h'.symm
  | t :: B, none, r, r', _, h, h' => Eq.trans h h'.symm
  | t :: B, some k, r, r', hk, h, h' => by
    obtain ⟨x, h1, h2⟩ := h
    obtain ⟨y, h3, h4⟩ := h'
    have := PtR_uniq hV (hk k rfl) h1 h3
    subst this
    exact FndR_uniq hV (fun j e => by subst e; exact PtR_lt (hk k rfl) h1) h2 h4
theorem FndR_none {D : List Row} : ∀ B, FndR D none B none
  | [] => rfl
  | _ :: _ => rfl
def oI (r : Option Nat) : Int32 := match r with
  | none => -1
  | some k => nI k
/-- a child boundary of k -/
def Bnd (D : List Row) (k c : Nat) : Prop := k < c ∧ c ≤ k + siz (dT D) D.length k ∧ (c < k + siz (dT D) D.length k → dT D c = dT D k + 1)
theorem Bnd_first {D : List Row} {k : Nat} (hV : VT (dT D) D.length) (hk : k < D.length) : Bnd D k (k + 1) := by
  have h := siz_spec (f := dT D) (n := D.length) hk
  exact ⟨by omega, by omega, fun q => kid_first hV hk (by omega)⟩
theorem Bnd_next {D : List Row} {k c : Nat} (hV : VT (dT D) D.length) (hk : k < D.length) (h : Kid D k c) : Bnd D k (c + siz (dT D) D.length c) ∧ c < c + siz (dT D) D.length c ∧ cnt (dT D) (dT D k + 1) (k + 1) (c + siz (dT D) D.length c) = cnt (dT D) (dT D k + 1) (k + 1) c + 1 := by
  obtain ⟨s1, s2, s3⟩ := kid_next hV hk h.1 h.2.1 h.2.2
  have hs := siz_spec (f := dT D) (n := D.length) hk
  have hc := siz_spec (f := dT D) (n := D.length) (k := c) (by have := h.2.1; omega)
  exact ⟨⟨by have := h.1; omega, s1, s2⟩, by omega, s3⟩
/-- no kid lies within a kid -/
theorem Kid_gap {D : List Row} {k c c' : Nat} (hk : k < D.length) (h : Kid D k c) (h' : Kid D k c') (hlt : c < c') : c + siz (dT D) D.length c ≤ c' := by
  rcases Nat.lt_or_ge c' (c + siz (dT D) D.length c) with g | g
  · have := (siz_spec (f := dT D) (n := D.length) (k := c) (by have := (siz_spec (f := dT D) (n := D.length) hk).2.1; have := h.2.1; omega)).2.2.1 c' hlt g
    have := h.2.2
    have := h'.2.2
    omega
  · exact g
theorem Bnd_cnt {D : List Row} {k c : Nat} (hV : VT (dT D) D.length) (hk : k < D.length) (h : Bnd D k c) : cnt (dT D) (dT D k + 1) (k + 1) c ≤ prt (dT D) D.length k ∧ (c < k + siz (dT D) D.length k ↔ cnt (dT D) (dT D k + 1) (k + 1) c < prt (dT D) D.length k) := by
  have m : cnt (dT D) (dT D k + 1) (k + 1) c ≤ prt (dT D) D.length k := cnt_mono h.2.1
  refine ⟨m, fun q => kid_cnt hV hk h.1 q (h.2.2 q), fun q => ?_⟩
  rcases Nat.eq_or_lt_of_le h.2.1 with z | z
  · exfalso
    rw [z] at q
    exact Nat.lt_irrefl _ q
  · exact z
/-! the reference -/
theorem dig_c {E : En_t} {d c : Nat} {σ : S_t} (hc : c < 2 ^ 31) : CI E d m_Mo_isDigit [.int (nI c)] σ (fun r σ' => ((r = 0 ∧ ¬ (48 ≤ c ∧ c ≤ 57)) ∨ (r = 1 ∧ 48 ≤ c ∧ c ≤ 57)) ∧ σ' = σ) :=
  CE.of (L := [(0, .int (nI c))]) rfl (Nat.le_of_ble_eq_true rfl) rfl (b_Mo_isDigit_0 (pk_lt c 48 (fun g => ⟨_, rfl, Or.inl ⟨rfl, by omega⟩, rfl⟩) (fun g => pk_lt 57 c (fun g2 => ⟨_, rfl, Or.inl ⟨rfl, by omega⟩, rfl⟩) (fun g2 => ⟨_, rfl, Or.inr ⟨rfl, g, g2⟩, rfl⟩))))
theorem siz_le {D : List Row} {k : Nat} (hk : k < D.length) : k + siz (dT D) D.length k ≤ D.length := (siz_spec hk).2.1
theorem vl_h1 {v a x : Nat} (h : v = a ∨ (10000 ≤ v ∧ 10000 ≤ a)) (g : 10000 ≤ v) : 10000 ≤ 10 * a + x := by omega
theorem vl_h2 {v a g : Nat} (h : v = a ∨ (10000 ≤ v ∧ 10000 ≤ a)) (hv : v < 10000) (h48 : 48 ≤ g) : 10 * v + g - 48 = 10 * a + (g - 48) := by omega
theorem vl_h3 {v g : Nat} (hv : v < 10000) (h48 : g ≤ 57) : 10 * v + g - 48 < 200000 := by omega
theorem c_partOf {E : En_t} {d s k i : Nat} {D : List Row} {T : List (List Nat)} {σ : S_t} (hs : s < 8) (hW : WfR D) (mD : MoR σ s D) (hk : k < D.length) (hT : PtT σ T) (hi : i < T.length) (hTl : T.length ≤ 2000) (hoff : off T i + (T.getD i []).length ≤ 2000) (hst : StrA (gI σ 39) (off T i) (T.getD i [])) (hlt : Ltrs (T.getD i [])) : CI E (d + 2) m_Mo_partOf [pv E 0, .int (nI s), .int (nI k), .int (nI i)] σ (fun r σ' => σ' = σ ∧ ∃ o, PtR D k (T.getD i []) o ∧ r = oI o) := by
  generalize hte : T.getD i [] = t at *
  have e44 : gI σ 44 i = nI t.length := by rw [hT.2.2.2 i hi, hte]
  have e43 := hT.2.2.1 i hi
  obtain ⟨_, _, _, pm, _, _, m6⟩ := mD
  have hV := hW.1
  have n1 := hW.2.2.2.2
  have hcc := cc_bts D
  have row : ∀ c, c < D.length → gI σ 13 (500 * s + c) = nI (dK D c) ∧ gI σ 16 (500 * s + c) = nI (prt (dT D) D.length c) ∧ gI σ 17 (500 * s + c) = nI (siz (dT D) D.length c) := fun c hc => ⟨(m6 c hc).1, (m6 c hc).2.2.2.1, (m6 c hc).2.2.2.2.1⟩
  have kk := (hW.2.1 k hk).1
  have pk := prt_le hW hk
  have sk := siz_spec (f := dT D) (n := D.length) hk
  let Q : Option Value → S_t → Prop := fun q σ' => ∃ r, q = some (.int r) ∧ σ' = σ ∧ ∃ o, PtR D k t o ∧ r = oI o
  have i500 : ∀ c, c < D.length → vp_in (nI (500 * s + c)) 4500 := fun c hc => vin (by omega) (by decide)
  refine CE.of (L := [(0, pv E 0), (1, .int (nI s)), (2, .int (nI k)), (3, .int (nI i))]) rfl (Nat.le_of_ble_eq_true rfl) rfl (b_Mo_partOf_0 ?_)
  rw [nI_clamp (show i < 2 ^ 31 by omega), e44, e43, ix500, nI_clamp (show 500 * s + k < 2 ^ 31 by omega), (row k hk).1, show nI (dK D k) = (5 : Int32) ↔ dK D k = 5 from nI_eq (b := 5) (by omega) (by decide), show nI (dK D k) = (6 : Int32) ↔ dK D k = 6 from nI_eq (b := 6) (by omega) (by decide), nI_1, show (500 : Int32) * nI s = nI (500 * s) from pk_mul 500 s]
  refine ⟨vin (by omega) (by decide), vin (by omega) (by decide), i500 k hk, fun q5 => ⟨i500 k hk, fun q6 => ?_, fun q6 => ⟨_, rfl, rfl, none, Or.inr (Or.inr ⟨q5, q6, rfl⟩), rfl⟩⟩, fun q5 => ?_⟩
  · -- an object
    have loop : ∀ (m c : Nat), c + m = k + siz (dT D) D.length k → Bnd D k c → (∀ c', Kid D k c' → c' < c → nam D c' ≠ t) → JE E (d + 2) m_Mo_partOf 205 [(0, pv E 0), (1, .int (nI s)), (2, .int (nI k)), (4, .int (nI (500 * s))), (5, .int (nI t.length)), (6, .int (nI (off T i))), (7, .int (nI c)), (8, .int (nI (cnt (dT D) (dT D k + 1) (k + 1) c)))] [] σ Q := by
      intro m
      induction m using Nat.strongRecOn with
      | ind m ih =>
        intro c hm hB hno
        obtain ⟨cl, ci⟩ := Bnd_cnt hV hk hB
        refine b_Mo_partOf_205 ?_
        rw [nI_add, nI_add, nI_clamp (show 500 * s + k < 2 ^ 31 by omega), (row k hk).2.1]
        refine ⟨i500 k hk, pk_le (prt (dT D) D.length k) (cnt (dT D) (dT D k + 1) (k + 1) c) (fun g => ⟨_, rfl, rfl, none, Or.inr (Or.inl ⟨q6, Or.inr ⟨fun c' hc' => hno c' hc' ?_, rfl⟩⟩), rfl⟩) (fun g => ?_)⟩
        · have : ¬ c < k + siz (dT D) D.length k := fun z => by have := ci.mp z; omega
          have := hc'.2.1
          omega
        · have hcl := ci.mpr g
          have hK : Kid D k c := ⟨hB.1, hcl, hB.2.2 hcl⟩
          have hcD : c < D.length := by omega
          have hnm : dN D c ≠ none := by
            intro z
            have hp : par (dT D) c = k := ((par_ge hV hk hK.1 hK.2.1).2).mp hK.2.2
            have := (hW.2.2.1 c (by have := hK.1; omega) hcD).2.mp z
            rw [hp] at this
            exact this q6
          obtain ⟨r1, r2, r3, r4, r5, r6, r7, r8, ⟨b, r9, r9', r9''⟩, _⟩ := m6 c hcD
          rw [if_neg hnm] at r8
          rw [nI_clamp (show 500 * s + c < 2 ^ 31 by omega), r8, r9, ix4000]
          have sa : StrA (gI σ 26) (4000 * s + b) (nam D c) := fun i hi => by rw [show 4000 * s + b + i = 4000 * s + (b + i) by omega]; exact r9'' i hi
          refine ⟨i500 c hcD, i500 c hcD, (c_compared (o1 := 26) (o2 := 39) rfl rfl sa hst (show 4000 * s + b + (nam D c).length ≤ 36000 by omega) (show off T i + t.length ≤ 2100 by omega) (show 36000 ≤ 1000000 by decide) (show 2100 ≤ 1000000 by decide) (hW.2.1 c hcD).2.2.2.2.2.2.1 hlt).mono (fun r σ1 hq => ?_)⟩
          obtain ⟨hq, rfl⟩ := hq
          rw [hq.2, cmN_0, r5, nI_add, nI_1]
          obtain ⟨b1, b2, b3⟩ := Bnd_next hV hk hK
          refine ⟨fun z => ⟨i500 c hcD, ?_⟩, fun z => ⟨_, rfl, rfl, some c, Or.inr (Or.inl ⟨q6, Or.inl ⟨c, hK, z, hno, rfl⟩⟩), rfl⟩⟩
          have b1' := b1.2.1
          have := ih (k + siz (dT D) D.length k - (c + siz (dT D) D.length c)) (by omega) (c + siz (dT D) D.length c) (by omega) b1 (fun c' hc' hlt' => by
            rcases Nat.lt_trichotomy c' c with y | y | y
            · exact hno c' hc' y
            · subst y; exact z
            · have := Kid_gap hk hK hc' y; omega)
          rw [b3] at this
          exact this
    have := loop (k + siz (dT D) D.length k - (k + 1)) (k + 1) (by omega) (Bnd_first hV hk) (fun c' hc' h' => by have := hc'.1; omega)
    rw [cnt_emp (Nat.le_refl _)] at this
    exact this
  · -- an array
    have sel : ∀ v, v < prt (dT D) D.length k → IdxO t → vl t t.length = v → JE E (d + 2) m_Mo_partOf 150 [(0, pv E 0), (4, .int (nI (500 * s))), (7, .int (nI v)), (8, .int (nI (k + 1))), (9, .int (nI 0))] [] σ Q := by
      intro v hv hI hvl
      have loop : ∀ (m c : Nat), cnt (dT D) (dT D k + 1) (k + 1) c + m = v → Kid D k c → JE E (d + 2) m_Mo_partOf 150 [(0, pv E 0), (4, .int (nI (500 * s))), (7, .int (nI v)), (8, .int (nI c)), (9, .int (nI (cnt (dT D) (dT D k + 1) (k + 1) c)))] [] σ Q := by
        intro m
        induction m with
        | zero =>
          intro c hm hK
          have e : cnt (dT D) (dT D k + 1) (k + 1) c = v := by omega
          rw [e]
          refine b_Mo_partOf_150 ⟨fun _ => ⟨_, rfl, rfl, some c, Or.inl ⟨q5, Or.inl ⟨hI, c, hK, ?_, rfl⟩⟩, rfl⟩, fun q => absurd (Int32.le_refl _) q⟩
          rw [(kid_ord hV hk hK.1 hK.2.1 hK.2.2).1, e, hvl]
        | succ m ih =>
          intro c hm hK
          have hcD : c < D.length := by have := hK.2.1; omega
          obtain ⟨b1, b2, b3⟩ := Bnd_next hV hk hK
          refine b_Mo_partOf_150 ⟨fun q => absurd q (nI_ge (by omega) (by omega)), fun _ => ?_⟩
          rw [nI_add, nI_clamp (show 500 * s + c < 2 ^ 31 by omega), (row c hcD).2.2, nI_add, nI_1]
          refine ⟨i500 c hcD, ?_⟩
          have := ih (c + siz (dT D) D.length c) (by omega) ⟨b1.1, (Bnd_cnt hV hk b1).2.mpr (by omega), b1.2.2 ((Bnd_cnt hV hk b1).2.mpr (by omega))⟩
          rw [b3] at this
          exact this
      have hB := Bnd_first hV hk
      have e0 : cnt (dT D) (dT D k + 1) (k + 1) (k + 1) = 0 := cnt_emp (Nat.le_refl _)
      have h0 := (Bnd_cnt hV hk hB).2.mpr (by omega)
      have := loop v (k + 1) (by omega) ⟨hB.1, h0, hB.2.2 h0⟩
      rw [e0] at this
      exact this
    have noK : ∀ c, Kid D k c → ordr (dT D) c < prt (dT D) D.length k := fun c hK => (kid_ord hV hk hK.1 hK.2.1 hK.2.2).2
    have no : ¬ (IdxO t ∧ ∃ c, Kid D k c ∧ ordr (dT D) c = vl t t.length) → Q (some (.int (-1 : Int32))) σ := fun h => ⟨_, rfl, rfl, none, Or.inl ⟨q5, Or.inr ⟨h, rfl⟩⟩, rfl⟩
    have loop : ∀ (m j v : Nat), j + m = t.length → (∀ i, i < j → 48 ≤ gA t i ∧ gA t i ≤ 57) → (0 < j → gA t 0 = 48 → t.length = 1) → v < 200000 → ((v = vl t j) ∨ (10000 ≤ v ∧ 10000 ≤ vl t j)) → JE E (d + 2) m_Mo_partOf 42 [(0, pv E 0), (2, .int (nI k)), (4, .int (nI (500 * s))), (5, .int (nI t.length)), (6, .int (nI (off T i))), (7, .int (nI v)), (8, .int (nI j))] [] σ Q := by
      intro m
      induction m with
      | zero =>
        intro j v hm hd h0 hv200 hv
        have : j = t.length := by omega
        subst this
        refine b_Mo_partOf_42 ⟨fun _ => ?_, fun q => absurd (Int32.le_refl _) q⟩
        rw [show nI t.length = (0 : Int32) ↔ t.length = 0 from nI_eq (b := 0) (by omega) (by decide), nI_add, nI_clamp (show 500 * s + k < 2 ^ 31 by omega), (row k hk).2.1]
        refine ⟨fun z => no (fun y => by have := y.1.1; omega), fun z => ⟨i500 k hk, pk_lt v (prt (dT D) D.length k) (fun g => ?_) (fun g => no (fun y => ?_))⟩⟩
        · rw [nI_1]
          exact sel v g ⟨by omega, hd, h0 (by omega)⟩ (by omega)
        · obtain ⟨_, c, hK, ho⟩ := y
          have := noK c hK
          omega
      | succ m ih =>
        intro j v hm hd h0 hv200 hv
        have hj : j < t.length := by omega
        have hlj := hlt j hj
        have hb3 : gA t j < 2 ^ 31 := by unfold Ltr at hlj; omega
        refine b_Mo_partOf_42 ⟨fun q => absurd q (nI_ge hj (by omega)), fun _ => ?_⟩
        rw [nI_add, nI_clamp (by omega), hst j hj]
        refine ⟨vin (by omega) (by decide), (dig_c hb3).mono (fun r σ1 hq => ?_)⟩
        obtain ⟨hq, rfl⟩ := hq
        rcases hq with ⟨rfl, hn⟩ | ⟨rfl, hy1, hy2⟩
        · exact ⟨fun _ => no (fun y => hn (y.1.2.1 j hj)), fun q => absurd rfl q⟩
        · have next : (gA t 0 = 48 → t.length = 1) → JE E (d + 2) m_Mo_partOf 89 [(0, pv E 0), (2, .int (nI k)), (4, .int (nI (500 * s))), (5, .int (nI t.length)), (6, .int (nI (off T i))), (7, .int (nI v)), (8, .int (nI j)), (9, .int (nI (gA t j)))] [] σ1 Q := by
            intro h0'
            have hd' : ∀ i, i < j + 1 → 48 ≤ gA t i ∧ gA t i ≤ 57 := fun i hi => by
              by_cases e : i = j
              · subst e; exact ⟨hy1, hy2⟩
              · exact hd i (by omega)
            have nv : vl t (j + 1) = 10 * vl t j + (gA t j - 48) := rfl
            refine b_Mo_partOf_89 (pk_le 10000 v (fun g => b_Mo_partOf_113 ?_) (fun g => b_Mo_partOf_113 ?_))
            · rw [nI_1]
              exact ih (j + 1) v (by omega) hd' (fun _ => h0') hv200 (Or.inr ⟨g, vl_h1 hv g⟩)
            · rw [nI_1, show (10 : Int32) * nI v = nI (10 * v) from pk_mul 10 v, nI_add, show nI (10 * v + gA t j) - (48 : Int32) = nI (10 * v + gA t j - 48) from pk_sub (b := 48) (by omega)]
              exact ih (j + 1) _ (by omega) hd' (fun _ => h0') (vl_h3 g hy2) (Or.inl (vl_h2 hv g hy1))
          refine ⟨fun q => absurd q (by decide), fun _ => ?_⟩
          rw [show nI j = (0 : Int32) ↔ j = 0 from nI_eq (b := 0) (by omega) (by decide), show nI (gA t j) = (48 : Int32) ↔ gA t j = 48 from nI_eq (b := 48) hb3 (by decide), show nI t.length ≤ (1 : Int32) ↔ t.length ≤ 1 from nI_leI (b := 1) (by omega) (by decide)]
          refine ⟨fun z => next (h0 (by omega)), fun z => ⟨fun y => next (fun x => absurd x (by rw [z] at y; exact y)), fun y => ⟨fun x => next (fun _ => by omega), fun x => no (fun w => ?_)⟩⟩⟩
          have := w.1.2.2 (by rw [z] at y; exact y)
          omega
    exact loop t.length 0 0 (by omega) (fun i hi => absurd hi (Nat.not_lt_zero i)) (fun h => absurd h (Nat.lt_irrefl 0)) (by decide) (Or.inl rfl)
