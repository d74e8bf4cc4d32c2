/-! findShortest: the scaled halves of the ways -/
def U4 : Nat := 5 ^ 1076 * 10 ^ 18924
theorem U4_TK : U4 * 2 ^ 1076 = TK := by
  have : (5 : Nat) ^ 1076 * 2 ^ 1076 = 10 ^ 1076 := by rw [← Nat.mul_pow]
  have e : U4 * 2 ^ 1076 = 5 ^ 1076 * 2 ^ 1076 * 10 ^ 18924 := by unfold U4; rw [Nat.mul_right_comm]
  rw [e, this, ← Nat.pow_add]
  exact tk_of (by omega)
theorem u4_aux (u0 u4 T a e : Nat) (he : e = a + 2) (h0 : u0 * 2 ^ a = T) (h4 : u4 * 2 ^ e = T) : u0 = 4 * u4 := by
  subst he
  have : u0 * 2 ^ a = 4 * u4 * 2 ^ a := by
    rw [h0, ← h4, Nat.pow_add, show (2 : Nat) ^ 2 = 4 from rfl, Nat.mul_comm 4 u4, Nat.mul_assoc, Nat.mul_comm (2 ^ a) 4]
  exact Nat.eq_of_mul_eq_mul_right (pw_pos a) this
theorem U0_U4 : U0 = 4 * U4 := u4_aux U0 U4 TK 1074 1076 (by decide) U0_TK U4_TK
theorem U4_pos : 0 < U4 := Nat.mul_pos (Nat.pow_pos (by decide)) (p10 _)
/-- the scale: ten to the 20000 + T -/
def Gz (T : Int) : Nat := 10 ^ (20000 + T).toNat
theorem Gz_pos (T : Int) : 0 < Gz T := p10 _
theorem sc_aux1 (x j q a c u4 e TT : Nat) (hT : u4 * 2 ^ e = TT) (h : a + e + j = q + c) : x * 2 ^ a * (TT * 10 ^ j) = x * 2 ^ q * u4 * (5 ^ j * 2 ^ c) := by
  rw [← hT, show (10 : Nat) = 2 * 5 from rfl, Nat.mul_pow]
  have : x * 2 ^ a * (u4 * 2 ^ e * (2 ^ j * 5 ^ j)) = x * u4 * 5 ^ j * (2 ^ a * 2 ^ e * 2 ^ j) := by ac_rfl
  rw [this, ← Nat.pow_add, ← Nat.pow_add, h, Nat.pow_add]
  ac_rfl
theorem sc_aux2 (x j q a c u4 e TT G : Nat) (hT : u4 * 2 ^ e = TT) (hG : G * 10 ^ j = TT) (h : a + e = q + c + j) : x * 5 ^ j * 2 ^ a * G = x * 2 ^ q * u4 * 2 ^ c := by
  apply Nat.eq_of_mul_eq_mul_right (pw_pos j)
  have e1 : x * 5 ^ j * 2 ^ a * G * 2 ^ j = x * 2 ^ a * (G * (2 ^ j * 5 ^ j)) := by ac_rfl
  rw [e1, ← Nat.mul_pow, show 2 * 5 = 10 from rfl, hG, ← hT]
  have e2 : x * 2 ^ a * (u4 * 2 ^ e) = x * u4 * (2 ^ a * 2 ^ e) := by ac_rfl
  rw [e2, ← Nat.pow_add, h, Nat.pow_add, Nat.pow_add]
  ac_rfl
theorem sc_cross {x q : Nat} {T : Int} (h1 : -400 ≤ T) (h2 : T ≤ 400) : sN x ((q : Int) - 1076) T * Gz T = x * 2 ^ q * U4 * sD ((q : Int) - 1076) T := by
  unfold sN sD Gz
  rcases Int.lt_or_le T 0 with g | g
  · have e : T.toNat = 0 := by omega
    rw [e, Nat.pow_zero, Nat.one_mul]
    refine sc_aux2 x (-T).toNat q _ _ U4 1076 TK _ U4_TK ?_ (by omega)
    rw [show (20000 + T).toNat = 20000 - (-T).toNat by omega]
    exact tk_dn (by omega)
  · have e : (-T).toNat = 0 := by omega
    rw [e, Nat.pow_zero, Nat.mul_one, show (20000 + T).toNat = 20000 + T.toNat by omega, tk_up]
    exact sc_aux1 x T.toNat q _ _ U4 1076 TK U4_TK (by omega)
theorem sc_ans {x q : Nat} {T : Int} (h1 : -400 ≤ T) (h2 : T ≤ 400) : sN x ((q : Int) - 1076) T / sD ((q : Int) - 1076) T = x * 2 ^ q * U4 / Gz T ∧ decide (sN x ((q : Int) - 1076) T % sD ((q : Int) - 1076) T ≠ 0) = decide (x * 2 ^ q * U4 % Gz T ≠ 0) := by
  have := cross (sD_pos ((q : Int) - 1076) T) (Gz_pos T) (sc_cross (x := x) (q := q) h1 h2)
  refine ⟨this.1, ?_⟩
  rw [decide_eq_decide]
  exact not_congr this.2
theorem Y_mid (b : Nat) : 4 * mB b * 2 ^ qB b * U4 = FV b := by
  unfold FV
  have h := U0_U4
  generalize U4 = u at *
  generalize U0 = v at *
  rw [h]
  ac_rfl
theorem yh_aux (m p u V W u0 : Nat) (h0 : u0 = 4 * u) (h1 : 4 * m * p * u = V) (h2 : W = V + p * u0) : 2 * ((4 * m + 2) * p * u) = V + W := by
  rw [h2, ← h1, h0, Nat.add_mul, Nat.add_mul, Nat.mul_add]
  have : p * (4 * u) = 2 * (2 * p * u) := by
    rw [show 2 * (2 * p * u) = (2 * 2) * (p * u) by ac_rfl, show p * (4 * u) = 4 * (p * u) by ac_rfl]
  rw [this]
  generalize 4 * m * p * u = A
  generalize 2 * p * u = B
  omega
theorem Y_hi (b : Nat) : 2 * ((4 * mB b + 2) * 2 ^ qB b * U4) = FV b + FV (b + 1) := yh_aux (mB b) (2 ^ qB b) U4 (FV b) (FV (b + 1)) U0 U0_U4 (Y_mid b) (FV_succ b)
theorem yl_aux2 (m p u V W u0 : Nat) (hm : 0 < m) (h0 : u0 = 4 * u) (h1 : 4 * m * p * u = V) (h2 : V = W + p * u0) : 2 * ((4 * m - 2) * p * u) = W + V := by
  have e : 4 * m = (4 * m - 2) + 2 := by omega
  rw [e] at h1
  generalize 4 * m - 2 = n at *
  rw [Nat.add_mul, Nat.add_mul] at h1
  have : p * u0 = 2 * (2 * p * u) := by
    rw [h0, show 2 * (2 * p * u) = (2 * 2) * (p * u) by ac_rfl, show p * (4 * u) = 4 * (p * u) by ac_rfl]
  rw [this] at h2
  generalize n * p * u = A at *
  generalize 2 * p * u = B at *
  omega
theorem yl_aux1 (m p u V W u0 : Nat) (hm : 0 < m) (h0 : u0 = 4 * u) (h1 : 4 * m * (2 * p) * u = V) (h2 : V = W + p * u0) : 2 * ((4 * m - 1) * (2 * p) * u) = W + V := by
  have e : 4 * m = (4 * m - 1) + 1 := by omega
  rw [e] at h1
  generalize 4 * m - 1 = n at *
  rw [Nat.add_mul, Nat.add_mul, Nat.one_mul] at h1
  have : p * u0 = 2 * (2 * p * u) := by
    rw [h0, show 2 * (2 * p * u) = (2 * 2) * (p * u) by ac_rfl, show p * (4 * u) = 4 * (p * u) by ac_rfl]
  rw [this] at h2
  generalize n * (2 * p) * u = A at *
  generalize 2 * p * u = B at *
  omega
/-- how far below the half of the way down lies -/
def cBl (b : Nat) : Nat := if mB b = 4503599627370496 ∧ 0 < qB b then 1 else 2
theorem q_pred (b : Nat) (hb : 0 < b) : (mB b = 4503599627370496 ∧ 0 < qB b → qB b = qB (b - 1) + 1) ∧ (¬ (mB b = 4503599627370496 ∧ 0 < qB b) → qB b = qB (b - 1)) := by
  unfold mB qB
  rw [show (2 : Nat) ^ 52 = 4503599627370496 from rfl]
  by_cases h : b % 4503599627370496 = 0
  · have e1 : (b - 1) / 4503599627370496 = b / 4503599627370496 - 1 := by omega
    rw [e1]
    by_cases g : b / 4503599627370496 = 0
    · omega
    · by_cases g1 : b / 4503599627370496 - 1 = 0
      · simp only [if_neg g, if_pos g1]; constructor <;> intro z <;> omega
      · simp only [if_neg g, if_neg g1]; constructor <;> intro z <;> omega
  · have e1 : (b - 1) / 4503599627370496 = b / 4503599627370496 := by omega
    rw [e1]
    by_cases g : b / 4503599627370496 = 0
    · rw [if_pos g, if_pos g]; constructor <;> intro z <;> omega
    · rw [if_neg g, if_neg g]; constructor <;> intro z <;> omega
theorem mB_pos {b : Nat} (hb : 0 < b) : 0 < mB b := by
  unfold mB
  rw [show (2 : Nat) ^ 52 = 4503599627370496 from rfl]
  split <;> omega
theorem Y_lo {b : Nat} (hb : 0 < b) : 2 * ((4 * mB b - cBl b) * 2 ^ qB b * U4) = FV (b - 1) + FV b := by
  have h := q_pred b hb
  have hs := FV_succ (b - 1)
  rw [show b - 1 + 1 = b by omega] at hs
  unfold cBl
  by_cases g : mB b = 4503599627370496 ∧ 0 < qB b
  · rw [if_pos g]
    have e := Y_mid b
    have e2 := h.1 g
    have e3 : 2 ^ qB b = 2 * 2 ^ qB (b - 1) := by rw [e2, Nat.pow_succ, Nat.mul_comm]
    rw [e3] at e ⊢
    exact yl_aux1 (mB b) (2 ^ qB (b - 1)) U4 (FV b) (FV (b - 1)) U0 (mB_pos hb) U0_U4 e hs
  · rw [if_neg g]
    rw [← h.2 g] at hs
    exact yl_aux2 (mB b) (2 ^ qB b) U4 (FV b) (FV (b - 1)) U0 (mB_pos hb) U0_U4 (Y_mid b) hs
theorem mB_par (b : Nat) : mB b % 2 = b % 2 := by
  unfold mB
  rw [show (2 : Nat) ^ 52 = 4503599627370496 from rfl]
  split <;> omega
theorem le_aux {Y G x : Nat} (hG : 0 < G) (ev : Prop) [Decidable ev] (r : Bool) (hr : r = decide (Y % G ≠ 0)) : Y / G + (if r = true ∨ ¬ ev then 1 else 0) ≤ x ↔ (Y < x * G ∨ (Y = x * G ∧ ev)) := by
  have h1 : Y / G < x ↔ Y < x * G := Nat.div_lt_iff_lt_mul hG
  have hd := Nat.div_add_mod Y G
  by_cases hm : Y % G = 0
  · have : r = false := by rw [hr]; exact decide_eq_false (fun h => h hm)
    rw [this]
    by_cases he : ev
    · rw [if_neg (by simp [he]), Nat.add_zero]
      have h2 : Y = Y / G * G := by rw [hm, Nat.add_zero, Nat.mul_comm] at hd; exact hd.symm
      have h3 : Y / G ≤ x ↔ Y ≤ x * G := by
        constructor
        · intro h; rw [h2]; exact Nat.mul_le_mul_right G h
        · intro h; rw [h2] at h; exact Nat.le_of_mul_le_mul_right h hG
      rw [h3]
      constructor
      · intro h; rcases Nat.lt_or_eq_of_le h with z | z; exact Or.inl z; exact Or.inr ⟨z, he⟩
      · rintro (z | z); exact Nat.le_of_lt z; exact Nat.le_of_eq z.1
    · rw [if_pos (Or.inr he), Nat.succ_le, h1]
      constructor
      · exact Or.inl
      · rintro (z | z); exact z; exact absurd z.2 he
  · have : r = true := by rw [hr]; exact decide_eq_true hm
    rw [if_pos (Or.inl this), Nat.succ_le, h1]
    constructor
    · exact Or.inl
    · rintro (z | z)
      · exact z
      · exact absurd (by rw [z.1]; exact Nat.mul_mod_left x G) hm
theorem mo_aux {Y G x : Nat} (hG : 0 < G) (hY : G ≤ Y) (ev : Prop) [Decidable ev] (r : Bool) (hr : r = decide (Y % G ≠ 0)) : x ≤ Y / G - (if r = false ∧ ¬ ev then 1 else 0) ↔ (x * G < Y ∨ (x * G = Y ∧ ev)) := by
  have h1 : x ≤ Y / G ↔ x * G ≤ Y := Nat.le_div_iff_mul_le hG
  have hd := Nat.div_add_mod Y G
  by_cases hm : Y % G = 0
  · have : r = false := by rw [hr]; exact decide_eq_false (fun h => h hm)
    rw [this]
    have h2 : Y = Y / G * G := by rw [hm, Nat.add_zero, Nat.mul_comm] at hd; exact hd.symm
    by_cases he : ev
    · rw [if_neg (by simp [he]), Nat.sub_zero, h1]
      constructor
      · intro h; rcases Nat.lt_or_eq_of_le h with z | z; exact Or.inl z; exact Or.inr ⟨z, he⟩
      · rintro (z | z); exact Nat.le_of_lt z; exact Nat.le_of_eq z.1
    · rw [if_pos ⟨rfl, he⟩]
      have hp : 0 < Y / G := Nat.div_pos hY hG
      have h3 : x ≤ Y / G - 1 ↔ x * G < Y := by
        rw [Nat.le_sub_one_iff_lt hp]
        constructor
        · intro h; rw [h2]; exact Nat.mul_lt_mul_of_pos_right h hG
        · intro h; rw [h2] at h; exact Nat.lt_of_mul_lt_mul_right h
      rw [h3]
      constructor
      · exact Or.inl
      · rintro (z | z); exact z; exact absurd z.2 he
  · have : r = true := by rw [hr]; exact decide_eq_true hm
    rw [if_neg (by rw [this]; simp), Nat.sub_zero, h1]
    constructor
    · intro h
      rcases Nat.lt_or_eq_of_le h with z | z
      · exact Or.inl z
      · exact absurd (by rw [← z]; exact Nat.mul_mod_left x G) hm
    · rintro (z | z); exact Nat.le_of_lt z; exact Nat.le_of_eq z.1
