/-! documents as rows in the order of the canonical form: the shape, by depths -/
def lst (f : Nat → Nat) (e : Nat) : Nat → Nat
  | 0 => 0
  | n + 1 => if f n = e then n else lst f e n
theorem lst_spec {f : Nat → Nat} {e : Nat} : ∀ {n : Nat}, (∃ j, j < n ∧ f j = e) → lst f e n < n ∧ f (lst f e n) = e ∧ ∀ j, lst f e n < j → j < n → f j ≠ e
  | 0, h => by obtain ⟨j, hj, _⟩ := h; exact absurd hj (Nat.not_lt_zero j)
  | n + 1, h => by
    by_cases g : f n = e
    · have e1 : lst f e (n + 1) = n := if_pos g
      rw [e1]
      exact ⟨by omega, g, fun j h1 h2 => by omega⟩
    · have e1 : lst f e (n + 1) = lst f e n := if_neg g
      obtain ⟨j, hj, hf⟩ := h
      have : j ≠ n := fun z => g (z ▸ hf)
      obtain ⟨q1, q2, q3⟩ := lst_spec (n := n) ⟨j, by omega, hf⟩
      rw [e1]
      refine ⟨by omega, q2, fun i h1 h2 => ?_⟩
      by_cases z : i = n
      · subst z; exact g
      · exact q3 i h1 (by omega)
theorem lst_eq {f : Nat → Nat} {e n k : Nat} (h1 : k < n) (h2 : f k = e) (h3 : ∀ j, k < j → j < n → f j ≠ e) : lst f e n = k := by
  obtain ⟨q1, q2, q3⟩ := lst_spec (f := f) (e := e) (n := n) ⟨k, h1, h2⟩
  rcases Nat.lt_trichotomy (lst f e n) k with g | g | g
  · exact absurd h2 (q3 k g h1)
  · exact g
  · exact absurd q2 (h3 _ g q1)
theorem lst_congr {f g : Nat → Nat} {e : Nat} : ∀ {n : Nat}, (∀ j, j < n → f j = g j) → lst f e n = lst g e n
  | 0, _ => rfl
  | n + 1, h => by
    show (if f n = e then n else lst f e n) = (if g n = e then n else lst g e n)
    rw [h n (by omega), lst_congr (fun j hj => h j (by omega))]
/-- how many of a .. b - 1 have depth e -/
def cnt (f : Nat → Nat) (e a : Nat) : Nat → Nat
  | 0 => 0
  | b + 1 => if a ≤ b ∧ f b = e then cnt f e a b + 1 else cnt f e a b
theorem cnt_congr {f g : Nat → Nat} {e a : Nat} : ∀ {n : Nat}, (∀ j, j < n → f j = g j) → cnt f e a n = cnt g e a n
  | 0, _ => rfl
  | n + 1, h => by
    show (if a ≤ n ∧ f n = e then cnt f e a n + 1 else cnt f e a n) = (if a ≤ n ∧ g n = e then cnt g e a n + 1 else cnt g e a n)
    rw [h n (by omega), cnt_congr (fun j hj => h j (by omega))]
theorem cnt_yes {f : Nat → Nat} {e a b : Nat} (h1 : a ≤ b) (h2 : f b = e) : cnt f e a (b + 1) = cnt f e a b + 1 := if_pos ⟨h1, h2⟩
theorem cnt_no {f : Nat → Nat} {e a b : Nat} (h2 : f b ≠ e) : cnt f e a (b + 1) = cnt f e a b := if_neg (fun q => h2 q.2)
theorem cnt_emp {f : Nat → Nat} {e a : Nat} : ∀ {b : Nat}, b ≤ a → cnt f e a b = 0
  | 0, _ => rfl
  | b + 1, h => by
    have : cnt f e a (b + 1) = cnt f e a b := if_neg (fun q => by omega)
    rw [this]; exact cnt_emp (by omega)
theorem cnt_skip {f : Nat → Nat} {e a b : Nat} : ∀ {c : Nat}, b ≤ c → (∀ j, b ≤ j → j < c → f j ≠ e) → cnt f e a c = cnt f e a b
  | 0, h, _ => by
    have : b = 0 := by omega
    subst this
    rfl
  | c + 1, h, hn => by
    by_cases g : b = c + 1
    · subst g; rfl
    · rw [cnt_no (hn c (by omega) (by omega)), cnt_skip (by omega) (fun j h1 h2 => hn j h1 (by omega))]
theorem cnt_le {f : Nat → Nat} {e a : Nat} : ∀ {b : Nat}, cnt f e a b ≤ b - a
  | 0 => Nat.zero_le _
  | b + 1 => by
    have := cnt_le (f := f) (e := e) (a := a) (b := b)
    show (if a ≤ b ∧ f b = e then cnt f e a b + 1 else cnt f e a b) ≤ b + 1 - a
    split <;> omega
theorem cnt_mono {f : Nat → Nat} {e a b : Nat} : ∀ {c : Nat}, b ≤ c → cnt f e a b ≤ cnt f e a c
  | 0, h => by
    have : b = 0 := by omega
    subst this
    exact Nat.le_refl _
  | c + 1, h => by
    by_cases g : b = c + 1
    · subst g; exact Nat.le_refl _
    · have := cnt_mono (f := f) (e := e) (a := a) (b := b) (c := c) (by omega)
      show _ ≤ (if a ≤ c ∧ f c = e then cnt f e a c + 1 else cnt f e a c)
      split <;> omega
/-- a row of depths as documents have them -/
def VT (f : Nat → Nat) (n : Nat) : Prop := (0 < n → f 0 = 0) ∧ ∀ k, 0 < k → k < n → 1 ≤ f k ∧ f k ≤ f (k - 1) + 1
theorem climb {f : Nat → Nat} {n e i : Nat} (h : VT f n) : ∀ {j : Nat}, i ≤ j → j < n → f i ≤ e → e ≤ f j → ∃ k, i ≤ k ∧ k ≤ j ∧ f k = e := by
  intro j
  induction j with
  | zero =>
    intro h1 h2 h3 h4
    have : i = 0 := by omega
    subst this
    exact ⟨0, by omega, by omega, by omega⟩
  | succ j ih =>
    intro h1 h2 h3 h4
    by_cases g : i = j + 1
    · subst g; exact ⟨j + 1, by omega, by omega, by omega⟩
    · have := (h.2 (j + 1) (by omega) h2).2
      rw [show j + 1 - 1 = j from rfl] at this
      by_cases z : f (j + 1) = e
      · exact ⟨j + 1, by omega, by omega, z⟩
      · obtain ⟨k, q1, q2, q3⟩ := ih (by omega) (by omega) h3 (by omega)
        exact ⟨k, q1, by omega, q3⟩
def par (f : Nat → Nat) (k : Nat) : Nat := lst f (f k - 1) k
theorem par_spec {f : Nat → Nat} {n k : Nat} (h : VT f n) (h0 : 0 < k) (hk : k < n) : par f k < k ∧ f (par f k) + 1 = f k ∧ ∀ j, par f k < j → j < k → f k ≤ f j := by
  have hk1 := h.2 k h0 hk
  obtain ⟨j, q1, q2, q3⟩ := climb h (i := 0) (e := f k - 1) (j := k - 1) (by omega) (by omega) (by rw [h.1 (by omega)]; omega) (by omega)
  obtain ⟨r1, r2, r3⟩ := lst_spec (f := f) (e := f k - 1) (n := k) ⟨j, by omega, q3⟩
  refine ⟨r1, by unfold par; omega, fun i h1 h2 => ?_⟩
  rcases Nat.lt_or_ge (f i) (f k) with g | g
  · exfalso
    obtain ⟨m, m1, m2, m3⟩ := climb h (i := i) (e := f k - 1) (j := k - 1) (by omega) (by omega) (by omega) (by omega)
    exact r3 m (by unfold par at h1; omega) (by omega) m3
  · exact g
theorem par_eq {f : Nat → Nat} {k p : Nat} (h1 : p < k) (h2 : f p + 1 = f k) (h3 : ∀ j, p < j → j < k → f k ≤ f j) : par f k = p := by
  unfold par
  exact lst_eq h1 (by omega) (fun j q1 q2 z => by have := h3 j q1 q2; omega)
/-- how many rows the value at k is -/
def siz (f : Nat → Nat) (n k : Nat) : Nat := fa_first (fun i => decide (f (k + 1 + i) ≤ f k)) (n - (k + 1)) + 1
theorem siz_spec {f : Nat → Nat} {n k : Nat} (h : k < n) : 1 ≤ siz f n k ∧ k + siz f n k ≤ n ∧ (∀ j, k < j → j < k + siz f n k → f k < f j) ∧ (k + siz f n k < n → f (k + siz f n k) ≤ f k) := by
  have h1 := fa_first_le (fun i => decide (f (k + 1 + i) ≤ f k)) (n - (k + 1))
  have h2 := fa_first_no (fun i => decide (f (k + 1 + i) ≤ f k)) (n - (k + 1))
  have h3 := fa_first_yes (fun i => decide (f (k + 1 + i) ≤ f k)) (n - (k + 1))
  refine ⟨by unfold siz; omega, by unfold siz; omega, fun j q1 q2 => ?_, fun q => ?_⟩
  · have := h2 (j - (k + 1)) (by unfold siz at q2; omega)
    rw [decide_eq_false_iff_not, show k + 1 + (j - (k + 1)) = j by omega] at this
    omega
  · have := h3 (by unfold siz at q; omega)
    rw [decide_eq_true_iff] at this
    rw [show k + siz f n k = k + 1 + fa_first (fun i => decide (f (k + 1 + i) ≤ f k)) (n - (k + 1)) by unfold siz; omega]
    exact this
theorem siz_eq {f : Nat → Nat} {n k z : Nat} (h1 : 1 ≤ z) (h2 : k + z ≤ n) (h3 : ∀ j, k < j → j < k + z → f k < f j) (h4 : k + z < n → f (k + z) ≤ f k) : siz f n k = z := by
  obtain ⟨q1, q2, q3, q4⟩ := siz_spec (f := f) (n := n) (k := k) (by omega)
  rcases Nat.lt_trichotomy (siz f n k) z with g | g | g
  · have a := h3 (k + siz f n k) (by omega) (by omega)
    have b := q4 (by omega)
    omega
  · exact g
  · have a := q3 (k + z) (by omega) (by omega)
    have b := h4 (by omega)
    omega
def ordr (f : Nat → Nat) (k : Nat) : Nat := if k = 0 then 0 else cnt f (f k) (par f k + 1) k
def prt (f : Nat → Nat) (n k : Nat) : Nat := cnt f (f k + 1) (k + 1) (k + siz f n k)
def pI (f : Nat → Nat) (k : Nat) : Int := if k = 0 then -1 else (par f k : Int)
theorem pI_0 (f : Nat → Nat) : pI f 0 = -1 := rfl
theorem pI_s {f : Nat → Nat} {k : Nat} (h : 0 < k) : pI f k = (par f k : Int) := if_neg (by omega)
theorem par_in {f : Nat → Nat} {n k : Nat} (h : VT f n) (h0 : 0 < k) (hk : k < n) : k + siz f n k ≤ par f k + siz f n (par f k) := by
  obtain ⟨p1, p2, p3⟩ := par_spec h h0 hk
  obtain ⟨q1, q2, q3, q4⟩ := siz_spec (f := f) (n := n) (k := k) hk
  obtain ⟨r1, r2, r3, r4⟩ := siz_spec (f := f) (n := n) (k := par f k) (by omega)
  rcases Nat.lt_or_ge (par f k + siz f n (par f k)) (k + siz f n k) with g | g
  · exfalso
    have a := r4 (by omega)
    rcases Nat.lt_trichotomy (par f k + siz f n (par f k)) k with z | z | z
    · have := p3 _ (by omega) z; omega
    · rw [z] at a; omega
    · have := q3 _ z g; omega
  · exact g
/-- below k in the tree: its parent is k or behind k -/
theorem par_ge {f : Nat → Nat} {n k j : Nat} (h : VT f n) (hk : k < n) (h1 : k < j) (h2 : j < k + siz f n k) : k ≤ par f j ∧ (f j = f k + 1 ↔ par f j = k) := by
  obtain ⟨q1, q2, q3, q4⟩ := siz_spec (f := f) (n := n) (k := k) hk
  obtain ⟨p1, p2, p3⟩ := par_spec h (by omega) (show j < n by omega)
  have hj := q3 j h1 h2
  have a : k ≤ par f j := by
    rcases Nat.lt_or_ge (par f j) k with g | g
    · have := p3 k g h1; omega
    · exact g
  refine ⟨a, fun e => ?_, fun e => by rw [← p2, e]⟩
  rcases Nat.eq_or_lt_of_le a with z | z
  · exact z.symm
  · have := q3 _ z (by omega); omega
/-- the first part, and the part behind a part -/
theorem kid_first {f : Nat → Nat} {n k : Nat} (h : VT f n) (hk : k < n) (h1 : 1 < siz f n k) : f (k + 1) = f k + 1 := by
  obtain ⟨q1, q2, q3, q4⟩ := siz_spec (f := f) (n := n) (k := k) hk
  have a := q3 (k + 1) (by omega) (by omega)
  have b := (h.2 (k + 1) (by omega) (by omega)).2
  rw [show k + 1 - 1 = k from rfl] at b
  omega
theorem kid_next {f : Nat → Nat} {n k c : Nat} (h : VT f n) (hk : k < n) (h1 : k < c) (h2 : c < k + siz f n k) (hc : f c = f k + 1) : c + siz f n c ≤ k + siz f n k ∧ (c + siz f n c < k + siz f n k → f (c + siz f n c) = f k + 1) ∧ cnt f (f k + 1) (k + 1) (c + siz f n c) = cnt f (f k + 1) (k + 1) c + 1 := by
  obtain ⟨q1, q2, q3, q4⟩ := siz_spec (f := f) (n := n) (k := k) hk
  obtain ⟨r1, r2, r3, r4⟩ := siz_spec (f := f) (n := n) (k := c) (by omega)
  have hp : par f c = k := ((par_ge h hk h1 h2).2).mp hc
  have a := par_in h (by omega) (show c < n by omega)
  rw [hp] at a
  refine ⟨a, fun z => ?_, ?_⟩
  · have := q3 _ (by omega) z
    have := r4 (by omega)
    omega
  · rw [cnt_skip (b := c + 1) (by omega) (fun j h1 h2 => by have := r3 j (by omega) h2; omega), cnt_yes (by omega) hc]
/-- which part a part is -/
theorem kid_ord {f : Nat → Nat} {n k c : Nat} (h : VT f n) (hk : k < n) (h1 : k < c) (h2 : c < k + siz f n k) (hc : f c = f k + 1) : ordr f c = cnt f (f k + 1) (k + 1) c ∧ ordr f c < prt f n k := by
  have hp : par f c = k := ((par_ge h hk h1 h2).2).mp hc
  have e : ordr f c = cnt f (f k + 1) (k + 1) c := by
    unfold ordr
    rw [if_neg (by omega), hp, hc]
  refine ⟨e, ?_⟩
  rw [e]
  obtain ⟨a, b, c'⟩ := kid_next h hk h1 h2 hc
  unfold prt
  have := cnt_mono (f := f) (e := f k + 1) (a := k + 1) (b := c + siz f n c) (c := k + siz f n k) a
  omega
theorem prt_0 {f : Nat → Nat} {n k : Nat} (h : siz f n k = 1) : prt f n k = 0 := by
  unfold prt
  rw [h]
  exact cnt_emp (by omega)
/-- a child boundary: the end, or a part -/
theorem kid_cnt {f : Nat → Nat} {n k c : Nat} (h : VT f n) (hk : k < n) (h1 : k < c) (h2 : c < k + siz f n k) (hc : f c = f k + 1) : cnt f (f k + 1) (k + 1) c < prt f n k := by
  have := kid_ord h hk h1 h2 hc
  omega
