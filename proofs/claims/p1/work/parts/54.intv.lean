/-! which values are read as a number: those between the halves of the ways to its neighbours -/
theorem mq_succ (H ex fr : Nat) (hfl : fr < H) : (if (if fr + 1 < H then ex else ex + 1) = 0 then (if fr + 1 < H then fr + 1 else 0) else (if fr + 1 < H then fr + 1 else 0) + H) * 2 ^ ((if (if fr + 1 < H then ex else ex + 1) = 0 then 1 else (if fr + 1 < H then ex else ex + 1)) - 1) = ((if ex = 0 then fr else fr + H) + 1) * 2 ^ ((if ex = 0 then 1 else ex) - 1) := by
  by_cases g : fr + 1 < H
  · simp only [if_pos g]
    by_cases z : ex = 0
    · simp only [if_pos z]
    · simp only [if_neg z]
      rw [Nat.add_right_comm]
  · simp only [if_neg g, if_neg (show ¬ ex + 1 = 0 by omega)]
    have hfr : fr + 1 = H := by omega
    by_cases z : ex = 0
    · subst z
      simp only [if_true, Nat.zero_add, Nat.sub_self, Nat.pow_zero, Nat.mul_one]
      omega
    · simp only [if_neg z]
      obtain ⟨e', rfl⟩ : ∃ e', ex = e' + 1 := ⟨ex - 1, by omega⟩
      rw [Nat.add_sub_cancel, Nat.add_sub_cancel, show fr + H + 1 = H * 2 by omega, Nat.pow_succ, Nat.zero_add, Nat.mul_assoc, Nat.mul_comm (2 ^ e')]
theorem FV_succ (b : Nat) : FV (b + 1) = FV b + 2 ^ qB b * U0 := by
  have key : mB (b + 1) * 2 ^ qB (b + 1) = (mB b + 1) * 2 ^ qB b := by
    have h := mq_succ 4503599627370496 (b / 4503599627370496) (b % 4503599627370496) (Nat.mod_lt _ (by decide))
    have d1 : (b + 1) / 4503599627370496 = if b % 4503599627370496 + 1 < 4503599627370496 then b / 4503599627370496 else b / 4503599627370496 + 1 := by split <;> omega
    have m1 : (b + 1) % 4503599627370496 = if b % 4503599627370496 + 1 < 4503599627370496 then b % 4503599627370496 + 1 else 0 := by split <;> omega
    unfold mB qB
    rw [show (2 : Nat) ^ 52 = 4503599627370496 from rfl, d1, m1]
    exact h
  unfold FV
  rw [key]
  generalize U0 = u0
  rw [Nat.add_mul, Nat.one_mul, Nat.add_mul]
theorem FV_lt (b : Nat) : FV b < FV (b + 1) := by
  rw [FV_succ]
  have := Nat.mul_pos (pw_pos (qB b)) U0_pos
  omega
theorem FV_mono {a b : Nat} (h : a ≤ b) : FV a ≤ FV b := by
  induction b with
  | zero => have : a = 0 := by omega
            subst this; exact Nat.le_refl _
  | succ b ih =>
    rcases Nat.lt_or_ge a (b + 1) with g | g
    · exact Nat.le_trans (ih (by omega)) (Nat.le_of_lt (FV_lt b))
    · have : a = b + 1 := by omega
      subst this; exact Nat.le_refl _
/-- 2X lies between b's halves -/
def Inv (X b : Nat) : Prop := (FV (b - 1) + FV b < 2 * X ∨ (FV (b - 1) + FV b = 2 * X ∧ b % 2 = 0)) ∧ (2 * X < FV b + FV (b + 1) ∨ (2 * X = FV b + FV (b + 1) ∧ b % 2 = 0))
theorem Inv_uniq {X b c : Nat} (hb : 0 < b) (hc : 0 < c) (h1 : Inv X b) (h2 : Inv X c) : b = c := by
  have key : ∀ {b c : Nat}, Inv X b → Inv X c → b < c → False := by
    intro b c h1 h2 hlt
    have a1 := FV_mono (show b ≤ c - 1 by omega)
    have a2 := FV_mono (show b + 1 ≤ c by omega)
    rcases Nat.lt_or_ge (b + 1) c with g | g
    · have a3 := FV_mono (show b + 1 ≤ c - 1 by omega)
      have a4 := FV_lt b
      rcases h1.2 with q | q <;> rcases h2.1 with w | w <;> omega
    · have hc1 : c = b + 1 := by omega
      subst hc1
      rw [Nat.add_sub_cancel] at *
      have := h2.1
      rw [Nat.add_sub_cancel] at this
      rcases h1.2 with q | q <;> rcases this with w | w <;> omega
  rcases Nat.lt_trichotomy b c with g | g | g
  · exact absurd (key h1 h2 g) id
  · exact g
  · exact absurd (key h2 h1 g) id
theorem rhe_prop {a b : Nat} (hb : 0 < b) : (2 * (rhe a b * b) < 2 * a + b ∨ (2 * (rhe a b * b) = 2 * a + b ∧ rhe a b % 2 = 0)) ∧ (2 * a < 2 * (rhe a b * b) + b ∨ (2 * a = 2 * (rhe a b * b) + b ∧ rhe a b % 2 = 0)) := by
  have h1 := Nat.div_add_mod a b
  have h2 := Nat.mod_lt a hb
  generalize hq : a / b = q at *
  generalize hr : a % b = r at *
  have e1 : b * q = q * b := Nat.mul_comm _ _
  unfold rhe
  rw [hq, hr]
  split
  · constructor <;> left <;> omega
  · split
    · rw [Nat.add_mul, Nat.one_mul]
      constructor <;> left <;> omega
    · have h3 : 2 * r = b := by omega
      rcases Nat.mod_two_eq_zero_or_one q with z | z
      · rw [z, Nat.add_zero]
        exact ⟨Or.inl (by omega), Or.inr ⟨by omega, z⟩⟩
      · rw [z, Nat.add_mul, Nat.one_mul]
        exact ⟨Or.inr ⟨by omega, by omega⟩, Or.inl (by omega)⟩
theorem ex_lg2 {X : Nat} (hX : 0 < X) (hs : TK ≤ X * 2 ^ 70000) : ∃ L, lg2 X L := by
  have hV : 0 < X * 2 ^ 70000 / TK := Nat.div_pos hs TK_pos
  obtain ⟨K, h1, h2⟩ := ex_log _ hV
  rw [Nat.le_div_iff_mul_le TK_pos] at h1
  rw [Nat.div_lt_iff_lt_mul TK_pos] at h2
  refine ⟨(K : Int) - 70000, ?_, ?_⟩
  · rw [← sc_le (a := K) (b := 70000) (by omega), Nat.mul_comm]; exact h1
  · rw [← sc_lt (a := 70000) (b := K + 1) (by omega), Nat.mul_comm TK]; exact h2
