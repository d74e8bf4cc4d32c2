theorem rhe_half {a b : Nat} (hb : 0 < b) : rhe a b = rdh (2 * a / b) (decide (2 * a % b ≠ 0)) := by
  have h1 := Nat.div_add_mod a b
  have h2 := Nat.mod_lt a hb
  generalize hq : a / b = q at *
  generalize hr : a % b = r at *
  have e2 : 2 * a = b * (2 * q) + 2 * r := by
    rw [← h1, Nat.mul_add]
    have : 2 * (b * q) = b * (2 * q) := by ac_rfl
    omega
  unfold rhe rdh
  rw [hq, hr]
  rcases Nat.lt_or_ge (2 * r) b with g | g
  · have d1 : 2 * a / b = 2 * q := by rw [e2, Nat.mul_add_div hb, Nat.div_eq_of_lt g, Nat.add_zero]
    rw [d1, if_pos g, if_neg (by omega)]
    omega
  · have e3 : 2 * a = b * (2 * q + 1) + (2 * r - b) := by rw [e2, Nat.mul_add, Nat.mul_one]; omega
    have d1 : 2 * a / b = 2 * q + 1 := by rw [e3, Nat.mul_add_div hb, Nat.div_eq_of_lt (by omega), Nat.add_zero]
    have m1 : 2 * a % b = 2 * r - b := by rw [e3, Nat.mul_add_mod, Nat.mod_eq_of_lt (by omega)]
    rw [d1, m1, if_neg (by omega), show (2 * q + 1) / 2 = q by omega]
    rcases Nat.lt_or_ge b (2 * r) with g2 | g2
    · rw [if_pos g2, if_pos]
      exact ⟨by omega, Or.inl (by rw [decide_eq_true_eq]; omega)⟩
    · have : 2 * r - b = 0 := by omega
      rw [this, if_neg (by omega)]
      by_cases z : q % 2 = 1
      · rw [if_pos ⟨by omega, Or.inr z⟩, z]
      · rw [if_neg]
        · omega
        · rintro ⟨-, w | w⟩
          · simp at w
          · exact z w
theorem hW_u (X : Nat) (u : Int) : hW X u = 2 * (X * 2 ^ (-u).toNat) / (TK * 2 ^ u.toNat) ∧ hR X u = decide (2 * (X * 2 ^ (-u).toNat) % (TK * 2 ^ u.toNat) ≠ 0) := by
  have h1 : 0 < TK * 2 ^ (u - 1).toNat := Nat.mul_pos TK_pos (pw_pos _)
  have h2 : 0 < TK * 2 ^ u.toNat := Nat.mul_pos TK_pos (pw_pos _)
  have hx : X * 2 ^ (1 - u).toNat * (TK * 2 ^ u.toNat) = 2 * (X * 2 ^ (-u).toNat) * (TK * 2 ^ (u - 1).toNat) := by
    have z1 : X * 2 ^ (1 - u).toNat * (TK * 2 ^ u.toNat) = X * TK * 2 ^ ((1 - u).toNat + u.toNat) := by rw [Nat.pow_add]; generalize TK = T0; ac_rfl
    have z2 : 2 * (X * 2 ^ (-u).toNat) * (TK * 2 ^ (u - 1).toNat) = X * TK * 2 ^ (1 + (-u).toNat + (u - 1).toNat) := by rw [Nat.pow_add, Nat.pow_add, Nat.pow_one]; generalize TK = T0; ac_rfl
    rw [z1, z2]
    exact p2c _ _ (by omega) _
  obtain ⟨c1, c2⟩ := cross h1 h2 hx
  refine ⟨c1, ?_⟩
  unfold hR
  by_cases q : X * 2 ^ (1 - u).toNat % (TK * 2 ^ (u - 1).toNat) = 0
  · rw [q, c2.mp q]
  · have q2 : 2 * (X * 2 ^ (-u).toNat) % (TK * 2 ^ u.toNat) ≠ 0 := fun z => q (c2.mpr z)
    rw [decide_eq_true q, decide_eq_true q2]
theorem RdC_RdB {X B : Nat} (h : RdC X false B) : RdB X B := by
  obtain ⟨L, h1, h2 | ⟨h2, h3⟩⟩ := h
  · exact ⟨L, h1, Or.inl h2⟩
  · refine ⟨L, h1, Or.inr ⟨h2, ?_⟩⟩
    rw [h3, rhe_half (Nat.mul_pos TK_pos (pw_pos _)), Bool.false_or, (hW_u X (uOf L)).1, (hW_u X (uOf L)).2]
/-- a bit more than X0, on a grid that holds all halves: it is read as X0 and a bit -/
theorem RdC_cut {X0 X B G k : Nat} (hG : G * 10 ^ k = TK) (hX0 : ∃ x, X0 = G * x) (h1 : X0 < X) (h2 : X < X0 + G) (hk : ∀ L, lg2 X0 L → (-(L + 1)).toNat ≤ k ∧ (1 - uOf L).toNat ≤ k) (h : RdC X0 true B) : RdB X B := by
  have hGp : 0 < G := by
    rcases Nat.eq_zero_or_pos G with g | g
    · rw [g, Nat.zero_mul] at hG
      have := TK_pos; omega
    · exact g
  obtain ⟨x, rfl⟩ := hX0
  have hXG : X / G = x := by
    rw [Nat.div_eq_iff hGp]
    constructor
    · rw [Nat.mul_comm]; omega
    · rw [Nat.mul_comm] ; omega
  have hXm : X % G ≠ 0 := by
    intro q
    have := Nat.div_add_mod X G
    rw [q, hXG] at this
    omega
  -- the grid holds TK * 2^b / 2^a
  have grid : ∀ a b : Nat, a ≤ k → ∃ M, 0 < M ∧ TK * 2 ^ b = G * M * 2 ^ a := by
    intro a b ha
    refine ⟨5 ^ a * 10 ^ (k - a) * 2 ^ b, Nat.mul_pos (Nat.mul_pos (Nat.pow_pos (by decide)) (p10 _)) (pw_pos b), ?_⟩
    have e : (10 : Nat) ^ k = 5 ^ a * 2 ^ a * 10 ^ (k - a) := by
      rw [← Nat.mul_pow, ← Nat.pow_add, show a + (k - a) = k by omega]
    rw [← hG, e]
    ac_rfl
  obtain ⟨L, ⟨l1, l2⟩, h3⟩ := h
  obtain ⟨k1, k2⟩ := hk L ⟨l1, l2⟩
  have hlg : lg2 X L := by
    refine ⟨Nat.le_trans l1 (Nat.mul_le_mul_right _ (by omega)), ?_⟩
    obtain ⟨M, hM, e⟩ := grid (-(L + 1)).toNat (L + 1).toNat k1
    rw [e] at l2 ⊢
    have l3 := Nat.lt_of_mul_lt_mul_right l2
    have l4 : x < M := Nat.lt_of_mul_lt_mul_left l3
    have l5 : G * (x + 1) ≤ G * M := Nat.mul_le_mul_left _ l4
    rw [Nat.mul_add, Nat.mul_one] at l5
    exact Nat.mul_lt_mul_of_pos_right (by omega) (pw_pos _)
  rcases h3 with h3 | ⟨h3, h4⟩
  · exact ⟨L, hlg, Or.inl h3⟩
  · refine ⟨L, hlg, Or.inr ⟨h3, ?_⟩⟩
    rw [h4, rhe_half (Nat.mul_pos TK_pos (pw_pos _)), Bool.true_or, ← (hW_u X (uOf L)).1, ← (hW_u X (uOf L)).2]
    obtain ⟨M, hM, e⟩ := grid (1 - uOf L).toNat (uOf L - 1).toNat k2
    have hw : ∀ Z, hW Z (uOf L) = Z / (G * M) := by
      intro Z
      unfold hW
      rw [e, Nat.mul_div_mul_right _ _ (pw_pos _)]
    have hr : hR X (uOf L) = true := by
      unfold hR
      rw [e, Nat.mul_mod_mul_right, decide_eq_true_eq]
      intro q
      rcases Nat.mul_eq_zero.mp q with q | q
      · have : X % G = 0 := by
          rw [Nat.mod_mul] at q
          omega
        exact hXm this
      · have := pw_pos (1 - uOf L).toNat; omega
    rw [hw, hw, hr, ← Nat.div_div_eq_div_mul, ← Nat.div_div_eq_div_mul, hXG, Nat.mul_div_cancel_left _ hGp]
/-- RdB has one answer -/
theorem lg2_uniq {X : Nat} {L L' : Int} (h : lg2 X L) (h' : lg2 X L') : L = L' := by
  have key : ∀ {L L' : Int}, lg2 X L → lg2 X L' → L ≤ L' := by
    intro L L' h h'
    rcases Int.lt_or_le L' L with g | g
    · exfalso
      have a1 := h.1
      have a2 := h'.2
      rw [sc_le (a' := (L' + 1).toNat + (L - (L' + 1)).toNat) (b' := (-(L' + 1)).toNat) (by omega)] at a1
      have a3 : TK * 2 ^ (L' + 1).toNat ≤ TK * 2 ^ ((L' + 1).toNat + (L - (L' + 1)).toNat) := Nat.mul_le_mul_left _ (Nat.pow_le_pow_right (by decide) (by omega))
      omega
    · exact g
  exact Int.le_antisymm (key h h') (key h' h)
theorem RdB_uniq {X B B' : Nat} (h : RdB X B) (h' : RdB X B') : B = B' := by
  obtain ⟨L, h1, h2⟩ := h
  obtain ⟨L', h1', h2'⟩ := h'
  have e := lg2_uniq h1 h1'
  subst e
  rcases h2 with ⟨q1, q2⟩ | ⟨q1, q2⟩ <;> rcases h2' with ⟨w1, w2⟩ | ⟨w1, w2⟩
  · rw [q2, w2]
  · omega
  · omega
  · rw [q2, w2]
theorem RdB_lt {X B : Nat} (h : RdB X B) : B < 2 ^ 63 := by
  obtain ⟨L, ⟨l1, l2⟩, ⟨q1, q2⟩ | ⟨q1, q2⟩⟩ := h
  · omega
  · have hu : uOf L = max (L - 52) (-1074) := rfl
    have : rhe (X * 2 ^ (-(uOf L)).toNat) (TK * 2 ^ (uOf L).toNat) ≤ 2 ^ 53 := by
      refine rhe_le (Nat.mul_pos TK_pos (pw_pos _)) ?_
      rw [Nat.mul_comm (2 ^ 53), Nat.mul_assoc, ← Nat.pow_add]
      rw [sc_lt (a' := (-(L + 1)).toNat) (b' := (L + 1).toNat + (53 + (uOf L).toNat + (-(L + 1)).toNat - (-(uOf L)).toNat - (L + 1).toNat)) (by omega)]
      exact Nat.lt_of_lt_of_le l2 (Nat.mul_le_mul_left _ (Nat.pow_le_pow_right (by decide) (by omega)))
    omega
