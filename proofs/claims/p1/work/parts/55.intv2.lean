def InvL (X b : Nat) : Prop := FV (b - 1) + FV b < 2 * X ∨ (FV (b - 1) + FV b = 2 * X ∧ b % 2 = 0)
def InvU (X b : Nat) : Prop := 2 * X < FV b + FV (b + 1) ∨ (2 * X = FV b + FV (b + 1) ∧ b % 2 = 0)
theorem half_lt {X b c : Nat} (h1 : InvU X b) (h2 : InvL X c) (hlt : b < c) : False := by
  unfold InvU at h1
  unfold InvL at h2
  rcases Nat.lt_or_ge (b + 1) c with g | g
  · have a2 := FV_mono (show b + 1 ≤ c by omega)
    have a3 := FV_mono (show b + 1 ≤ c - 1 by omega)
    have a4 := FV_lt b
    rcases h1 with q | q <;> rcases h2 with w | w <;> omega
  · have hc1 : c = b + 1 := by omega
    subst hc1
    rw [Nat.add_sub_cancel] at h2
    rcases h1 with q | q <;> rcases h2 with w | w <;> omega
theorem rhe_cross {A D A' D' : Nat} (hD : 0 < D) (hD' : 0 < D') (h : A * D' = A' * D) : rhe A D = rhe A' D' := by
  rw [← rhe_scale (a := A) (b := D) hD', h, ← rhe_scale (a := A') (b := D') hD, Nat.mul_comm D D']
theorem FV_wv {w v : Nat} (hw : w ≤ 9007199254740992) (h : 4503599627370496 ≤ w ∨ v = 0) : FV (w + v * 4503599627370496) = w * 2 ^ v * U0 := by
  unfold FV
  congr 1
  unfold mB qB
  rw [show (2 : Nat) ^ 52 = 4503599627370496 from rfl]
  rcases Nat.lt_or_ge w 4503599627370496 with g | g
  · have hv : v = 0 := by omega
    subst hv
    rw [Nat.zero_mul, Nat.add_zero, Nat.div_eq_of_lt g, Nat.mod_eq_of_lt g]
    simp
  · rcases Nat.lt_or_ge w 9007199254740992 with g2 | g2
    · have d1 : (w + v * 4503599627370496) / 4503599627370496 = v + 1 := by omega
      have m1 : (w + v * 4503599627370496) % 4503599627370496 + 4503599627370496 = w := by omega
      rw [d1, if_neg (by omega), if_neg (by omega), m1, Nat.add_sub_cancel]
    · have d1 : (w + v * 4503599627370496) / 4503599627370496 = v + 2 := by omega
      have m1 : (w + v * 4503599627370496) % 4503599627370496 = 0 := by omega
      have hw2 : w = 9007199254740992 := by omega
      rw [d1, if_neg (by omega), if_neg (by omega), m1, hw2, show v + 2 - 1 = v + 1 by omega, Nat.pow_succ, Nat.zero_add]
      generalize 2 ^ v = P
      omega
theorem lo_aux (k s v X T u0 : Nat) (L : Int) (hT : T = u0 * 2 ^ k) (l1 : T * 2 ^ L.toNat ≤ X * 2 ^ (-L).toNat) (hs : (s : Int) + v - k ≤ L) : 2 ^ s * (2 ^ v * u0) ≤ X := by
  have h1 : 2 ^ s * (2 ^ v * u0) * 2 ^ (k + (-L).toNat) = u0 * 2 ^ k * 2 ^ (s + v + (-L).toNat) := by
    rw [Nat.pow_add, Nat.pow_add, Nat.pow_add]; ac_rfl
  have h2 : u0 * 2 ^ k * 2 ^ (s + v + (-L).toNat) ≤ u0 * 2 ^ k * 2 ^ (k + L.toNat) := Nat.mul_le_mul_left _ (Nat.pow_le_pow_right (by decide) (by omega))
  have h3 : u0 * 2 ^ k * 2 ^ (k + L.toNat) = T * 2 ^ L.toNat * 2 ^ k := by rw [hT, Nat.pow_add]; ac_rfl
  have h4 : T * 2 ^ L.toNat * 2 ^ k ≤ X * 2 ^ (-L).toNat * 2 ^ k := Nat.mul_le_mul_right _ l1
  have h5 : X * 2 ^ (-L).toNat * 2 ^ k = X * 2 ^ (k + (-L).toNat) := by rw [Nat.pow_add]; ac_rfl
  exact Nat.le_of_mul_le_mul_right (by rw [h1]; exact Nat.le_trans h2 (by rw [h3, ← h5]; exact h4)) (pw_pos (k + (-L).toNat))
/-- RdB in units of the least number: w units of 2^v -/
theorem RdB_units {X B : Nat} (h : RdB X B) : (B = 9218868437227405312 ∧ 2 * (FV 9218868437227405312) ≤ 2 * X) ∨ ∃ w v, B = w + v * 4503599627370496 ∧ w = rhe X (2 ^ v * U0) ∧ w ≤ 9007199254740992 ∧ v ≤ 2045 ∧ ((4503599627370496 ≤ w ∧ 4503599627370496 * (2 ^ v * U0) ≤ X) ∨ v = 0) := by
  obtain ⟨L, hl, ⟨q1, q2⟩ | ⟨q1, q2⟩⟩ := h
  · left
    refine ⟨q2, ?_⟩
    have e : FV 9218868437227405312 = TK * 2 ^ 1024 := by
      have := FV_wv (w := 4503599627370496) (v := 2046) (by omega) (Or.inl (by omega))
      rw [show 4503599627370496 + 2046 * 4503599627370496 = 9218868437227405312 by omega] at this
      rw [this, ← U0_TK, show (4503599627370496 : Nat) = 2 ^ 52 from rfl, ← Nat.pow_add, Nat.mul_assoc, ← Nat.pow_add, Nat.mul_comm]
    rw [e]
    have l1 := hl.1
    rw [show (-L).toNat = 0 by omega, Nat.pow_zero, Nat.mul_one] at l1
    have : TK * 2 ^ 1024 ≤ TK * 2 ^ L.toNat := Nat.mul_le_mul_left _ (Nat.pow_le_pow_right (by decide) (by omega))
    omega
  · right
    have hu : uOf L = max (L - 52) (-1074) := rfl
    generalize hv : (uOf L + 1074).toNat = v at *
    have hUp : 0 < 2 ^ v * U0 := Nat.mul_pos (pw_pos v) U0_pos
    have hcr : X * 2 ^ (-(uOf L)).toNat * (2 ^ v * U0) = X * (TK * 2 ^ (uOf L).toNat) := by
      rw [← U0_TK]
      have z1 : X * 2 ^ (-(uOf L)).toNat * (2 ^ v * U0) = X * U0 * 2 ^ ((-(uOf L)).toNat + v) := by rw [Nat.pow_add]; generalize U0 = u0; ac_rfl
      have z2 : X * (U0 * 2 ^ 1074 * 2 ^ (uOf L).toNat) = X * U0 * 2 ^ (1074 + (uOf L).toNat) := by rw [Nat.pow_add]; generalize U0 = u0; generalize (2 : Nat) ^ 1074 = A; ac_rfl
      rw [z1, z2]
      exact p2c _ _ (by omega) _
    have hw := rhe_cross (Nat.mul_pos TK_pos (pw_pos _)) hUp hcr
    rw [hw] at q2
    -- X against powers of two
    have hTU : ∀ k : Nat, k + v = 1074 + k → True := fun _ _ => trivial
    have up : ∀ s : Nat, (L + 1 : Int) ≤ (s : Int) + v - 1074 → X < 2 ^ s * (2 ^ v * U0) := by
      intro s hs
      have l2 := hl.2
      have e1 : 2 ^ s * (2 ^ v * U0) * 2 ^ 1074 = TK * 2 ^ (s + v) := by
        rw [← U0_TK, Nat.pow_add]; generalize U0 = u0; generalize (2 : Nat) ^ 1074 = A; ac_rfl
      refine Nat.lt_of_mul_lt_mul_right (a := 2 ^ 1074) ?_
      rw [e1, sc_lt (a' := (-(L + 1)).toNat) (b' := (L + 1).toNat + ((s : Int) + v - 1074 - (L + 1)).toNat) (by omega)]
      exact Nat.lt_of_lt_of_le l2 (Nat.mul_le_mul_left _ (Nat.pow_le_pow_right (by decide) (by omega)))
    have lo : ∀ s : Nat, (s : Int) + v - 1074 ≤ L → 2 ^ s * (2 ^ v * U0) ≤ X := fun s hs => lo_aux 1074 s v X TK U0 L U0_TK.symm hl.1 hs
    refine ⟨_, v, by rw [show (4503599627370496 : Nat) = 2 ^ 52 from rfl]; exact q2, rfl, ?_⟩
    rcases Int.lt_or_le (L - 52) (-1074) with g | g
    · have hv0 : v = 0 := by omega
      have h1 := up 52 (by omega)
      have h2 := rhe_le hUp h1
      rw [show (2 : Nat) ^ 52 = 4503599627370496 from rfl] at h2
      exact ⟨by omega, by omega, Or.inr hv0⟩
    · have h1 := up 53 (by omega)
      have h2 := rhe_le hUp h1
      have h3 := lo 52 (by omega)
      have h4 := rhe_ge hUp h3
      rw [show (2 : Nat) ^ 53 = 9007199254740992 from rfl] at h2
      rw [show (2 : Nat) ^ 52 = 4503599627370496 from rfl] at h3 h4
      exact ⟨h2, by omega, Or.inl ⟨h4, h3⟩⟩
