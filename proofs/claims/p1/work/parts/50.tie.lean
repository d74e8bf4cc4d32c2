/-! both sides read a numeral as the same number -/
theorem lg2_hi {X : Nat} {L : Int} {s : Nat} (h : X * 2 ^ s < TK) (hl : lg2 X L) : L < -(s : Int) := by
  rcases Int.lt_or_le L (-(s : Int)) with g | g
  · exact g
  · exfalso
    have l1 := hl.1
    have a1 : X * 2 ^ s < TK * 2 ^ 0 := by rw [Nat.pow_zero, Nat.mul_one]; exact h
    rw [sc_lt (a' := (-L).toNat + (L + s).toNat) (b' := L.toNat) (by omega)] at a1
    have a2 : X * 2 ^ (-L).toNat ≤ X * 2 ^ ((-L).toNat + (L + s).toNat) := Nat.mul_le_mul_left _ (Nat.pow_le_pow_right (by decide) (by omega))
    omega
theorem lg2_lo {X : Nat} {L : Int} {s : Nat} (h : TK * 2 ^ s ≤ X) (hl : lg2 X L) : (s : Int) ≤ L := by
  rcases Int.lt_or_le L s with g | g
  · exfalso
    have l2 := hl.2
    have a1 : TK * 2 ^ s ≤ X * 2 ^ 0 := by rw [Nat.pow_zero, Nat.mul_one]; exact h
    rw [sc_le (a' := (L + 1).toNat + (s - (L + 1)).toNat) (b' := (-(L + 1)).toNat) (by omega)] at a1
    have a2 : TK * 2 ^ (L + 1).toNat ≤ TK * 2 ^ ((L + 1).toNat + (s - (L + 1)).toNat) := Nat.mul_le_mul_left _ (Nat.pow_le_pow_right (by decide) (by omega))
    omega
  · exact g
theorem RdB_tiny {X B : Nat} (h : X * 2 ^ 1080 < TK) (hB : RdB X B) : B = 0 := by
  obtain ⟨L, hl, q⟩ := hB
  have hL := lg2_hi h hl
  rcases q with ⟨q1, -⟩ | ⟨-, q2⟩
  · omega
  · have hu : uOf L = -1074 := by unfold uOf; omega
    rw [hu] at q2
    have e1 : (-(-1074 : Int)).toNat = 1074 := rfl
    have e2 : (-1074 : Int).toNat = 0 := rfl
    have e3 : ((-1074 : Int) + 1074).toNat = 0 := rfl
    rw [e1, e2, e3, Nat.pow_zero, Nat.mul_one, Nat.zero_mul, Nat.add_zero] at q2
    have h3 : X * 2 ^ 1074 * 2 ^ 6 < TK := by rw [Nat.mul_assoc, ← Nat.pow_add]; exact h
    have d1 : X * 2 ^ 1074 / TK = 0 := Nat.div_eq_of_lt (by omega)
    have m1 : X * 2 ^ 1074 % TK = X * 2 ^ 1074 := Nat.mod_eq_of_lt (by omega)
    unfold rhe at q2
    rw [d1, m1, if_pos (by omega)] at q2
    exact q2
theorem RdB_huge {X B : Nat} (h : TK * 2 ^ 1024 ≤ X) (hB : RdB X B) : B = 9218868437227405312 := by
  obtain ⟨L, hl, q⟩ := hB
  have hL := lg2_lo h hl
  rcases q with ⟨-, q2⟩ | ⟨q1, -⟩
  · exact q2
  · omega
theorem dval_zero {f : Nat → Nat} : ∀ {n : Nat}, (∀ i, i < n → f i = 0) → dval f n = 0
  | 0, _ => rfl
  | n + 1, h => by rw [dval, dval_zero (fun i hi => h i (by omega)), h n (by omega)]
theorem dval_pos {f : Nat → Nat} : ∀ {n k : Nat}, k < n → f k ≠ 0 → 0 < dval f n
  | n + 1, k, hk, h => by
    rw [dval]
    rcases Nat.lt_or_ge k n with g | g
    · have := dval_pos g h; omega
    · have : k = n := by omega
      subst this; omega
/-- the value of digits: between powers of ten -/
theorem SVd_lo {f : Nat → Nat} {n : Nat} {p : Int} (h0 : f 0 ≠ 0) (hn : 0 < n) (hp : -20000 ≤ p - n) : 10 ^ (p - 1 + 20000).toNat ≤ SV (dval f n) n p := by
  unfold SV
  have := Nat.mul_le_mul_right (10 ^ (p - n + 20000).toNat) (dval_ge h0 hn)
  rw [← Nat.pow_add, show n - 1 + (p - n + 20000).toNat = (p - 1 + 20000).toNat by omega] at this
  exact this
theorem SVd_hi {f : Nat → Nat} {n : Nat} {p : Int} (h : ∀ k, k < n → f k < 10) (hp : -20000 ≤ p - n) : SV (dval f n) n p < 10 ^ (p + 20000).toNat := by
  unfold SV
  have := Nat.mul_lt_mul_of_pos_right (dval_lt h) (p10 (p - n + 20000).toNat)
  rw [← Nat.pow_add, show n + (p - n + 20000).toNat = (p + 20000).toNat by omega] at this
  exact this
/-- what the first 800 digits, their zeros taken off behind, and 'cut' tell of all the digits -/
theorem tie_core {F : Nat → Nat} {n c : Nat} {P : Int} {cut : Bool} {B : Nat} (hF : ∀ k, k < n → F k < 10) (hl : F 0 ≠ 0) (hn0 : 0 < n) (hn : n ≤ 2100) (hc0 : 0 < c) (hc : c ≤ 800) (hcn : c ≤ n) (hz : ∀ k, c ≤ k → k < n → k < 800 → F k = 0) (hcut : cut = true ↔ ∃ k, 800 ≤ k ∧ k < n ∧ F k ≠ 0) (hp1 : -330 ≤ P) (hp2 : P ≤ 310) (h : RdC (SV (dval F c) c P) cut B) : RdB (SV (dval F n) n P) B := by
  -- all the digits: those that are kept, zeros, and those that are cut off
  obtain ⟨j, rfl⟩ : ∃ j, n = c + j := ⟨n - c, by omega⟩
  have hsplit := dval_app F c j
  generalize hR : dval (fun t => F (c + t)) j = R at hsplit
  have hSV : SV (dval F (c + j)) (c + j) P = SV (dval F c) c P + R * 10 ^ (P - (c + j : Nat) + 20000).toNat := by
    unfold SV
    rw [hsplit, Nat.add_mul, Nat.mul_assoc, ← Nat.pow_add]
    congr 3
    omega
  cases hcc : cut with
  | false =>
    rw [hcc] at h
    have hR0 : R = 0 := by
      rw [← hR]
      refine dval_zero (fun t ht => ?_)
      rcases Nat.lt_or_ge (c + t) 800 with g | g
      · exact hz (c + t) (by omega) (by omega) g
      · have : ¬ ∃ k, 800 ≤ k ∧ k < c + j ∧ F k ≠ 0 := by
          rw [← hcut, hcc]; exact Bool.false_ne_true
        rcases Nat.eq_zero_or_pos (F (c + t)) with q | q
        · exact q
        · exact absurd ⟨c + t, g, by omega, by omega⟩ this
    rw [hSV, hR0, Nat.zero_mul, Nat.add_zero]
    exact RdC_RdB h
  | true =>
    rw [hcc] at h
    obtain ⟨k0, q1, q2, q3⟩ := hcut.mp hcc
    have hRpos : 0 < R := by
      rw [← hR]
      refine dval_pos (k := k0 - c) (by omega) ?_
      rw [show c + (k0 - c) = k0 by omega]; exact q3
    -- R is below ten to the number of digits behind the 800th
    have hRlt : R < 10 ^ (c + j - 800) := by
      obtain ⟨i, hi⟩ : ∃ i, j = i + (c + j - 800) := ⟨800 - c, by omega⟩
      rw [← hR]
      generalize hm : c + j - 800 = m at *
      rw [hi, dval_app, dval_zero (fun t ht => hz (c + t) (by omega) (by omega) (by omega)), Nat.zero_mul, Nat.zero_add]
      exact dval_lt (fun t ht => hF (c + (i + t)) (by omega))
    have hk : (800 - P).toNat ≤ 1130 := by omega
    refine RdC_cut (X0 := SV (dval F c) c P) (G := 10 ^ (20000 - (800 - P).toNat)) (k := (800 - P).toNat) (tk_dn (by omega)) ?_ ?_ ?_ ?_ h
    · refine ⟨dval F c * 10 ^ (800 - c), ?_⟩
      unfold SV
      rw [Nat.mul_comm (10 ^ (20000 - (800 - P).toNat)), Nat.mul_assoc, ← Nat.pow_add]
      congr 2
      omega
    · rw [hSV]
      have := Nat.mul_pos hRpos (p10 (P - (c + j : Nat) + 20000).toNat)
      omega
    · rw [hSV]
      have := Nat.mul_lt_mul_of_pos_right hRlt (p10 (P - (c + j : Nat) + 20000).toNat)
      rw [← Nat.pow_add, show c + j - 800 + (P - (c + j : Nat) + 20000).toNat = 20000 - (800 - P).toNat by omega] at this
      omega
    · intro L hL
      have hlow := SVd_lo (f := F) (n := c) (p := P) hl hc0 (by omega)
      -- 2^(L+1) is above the value, and that is at least ten to P - 1
      have hLb : -(L + 1) ≤ max 0 ((10 * (3 - P)) / 3) := by
        rcases Int.lt_or_le (max 0 ((10 * (3 - P)) / 3)) (-(L + 1)) with g | g
        · exfalso
          have l2 := hL.2
          generalize hs : (-(L + 1)).toNat = s at *
          have hL0 : (L + 1).toNat = 0 := by omega
          rw [hL0, Nat.pow_zero, Nat.mul_one] at l2
          have a1 := Nat.lt_of_le_of_lt (Nat.mul_le_mul_right (2 ^ s) hlow) l2
          -- 2^s is at least ten to 1 - P
          have a2 : 10 ^ (1 - P).toNat ≤ 2 ^ s := by
            have b1 : (10 : Nat) ^ (1 - P).toNat ≤ 10 ^ (3 * (((1 - P).toNat + 2) / 3)) := Nat.pow_le_pow_right (by decide) (by omega)
            have b2 : (10 : Nat) ^ (3 * (((1 - P).toNat + 2) / 3)) ≤ 2 ^ (10 * (((1 - P).toNat + 2) / 3)) := by
              rw [Nat.pow_mul, Nat.pow_mul]
              exact Nat.pow_le_pow_left (by decide) _
            have b3 : (2 : Nat) ^ (10 * (((1 - P).toNat + 2) / 3)) ≤ 2 ^ s := Nat.pow_le_pow_right (by decide) (by omega)
            exact Nat.le_trans b1 (Nat.le_trans b2 b3)
          have a3 := Nat.mul_le_mul_left (10 ^ (P - 1 + 20000).toNat) a2
          have a4 : TK ≤ 10 ^ (P - 1 + 20000).toNat * 10 ^ (1 - P).toNat := by
            rw [← Nat.pow_add]
            have : 10 ^ 20000 ≤ 10 ^ ((P - 1 + 20000).toNat + (1 - P).toNat) := Nat.pow_le_pow_right (by decide) (by omega)
            exact this
          omega
        · exact g
      have hu : uOf L = max (L - 52) (-1074) := rfl
      omega
/-- the two answers for one numeral -/
theorem read_tie {F : Nat → Nat} {n c : Nat} {P : Int} {cut : Bool} {xm xc s : Int64} (hF : ∀ k, k < n → F k < 10) (hl : n = 0 ∨ F 0 ≠ 0) (hn : n ≤ 2100) (hc : c ≤ 800) (hcn : c ≤ n) (hc0 : c = 0 ↔ n = 0) (hz : ∀ k, c ≤ k → k < n → k < 800 → F k = 0) (hcut : cut = true ↔ ∃ k, 800 ≤ k ∧ k < n ∧ F k ≠ 0)
    (hs : s ||| lN 0 = s)
    (hm : (n = 0 ∧ xm = lN 0) ∨ (0 < n ∧ ((P < -340 ∧ xm = lN 0) ∨ (320 < P ∧ xm = lN 9218868437227405312) ∨ (-340 ≤ P ∧ P ≤ 320 ∧ ∃ B, RdB (SV (dval F n) n P) B ∧ xm = lN B))))
    (hcl : (c = 0 ∧ xc = s) ∨ (0 < c ∧ ((P < -330 ∧ xc = s) ∨ (310 < P ∧ xc = s ||| lN 9218868437227405312) ∨ (-330 ≤ P ∧ P ≤ 310 ∧ ∃ B, RdC (SV (dval F c) c P) cut B ∧ xc = s ||| lN B)))) : xc = s ||| xm := by
  rcases hm with ⟨m1, m2⟩ | ⟨m1, m2⟩
  · rcases hcl with ⟨c1, c2⟩ | ⟨c1, -⟩
    · rw [m2, hs, c2]
    · clear hcut; omega
  · rcases hcl with ⟨c1, -⟩ | ⟨c1, c2⟩
    · clear hcut; omega
    · have hl' : F 0 ≠ 0 := by
        rcases hl with q | q
        · clear hcut; omega
        · exact q
      have tiny : -340 ≤ P → P < -330 → ∀ B, RdB (SV (dval F n) n P) B → B = 0 := by
        intro h1 h2 B hB
        refine RdB_tiny ?_ hB
        have a1 := SVd_hi (p := P) hF (by clear hcut; omega)
        have a2 : 10 ^ (P + 20000).toNat ≤ 10 ^ (20000 - 331) := Nat.pow_le_pow_right (by decide) (by omega)
        have a3 : (2 : Nat) ^ 1080 ≤ 10 ^ 331 := by decide +kernel
        have a4 := Nat.mul_lt_mul_of_pos_right (Nat.lt_of_lt_of_le a1 a2) (pw_pos 1080)
        have a5 := Nat.mul_le_mul_left (10 ^ (20000 - 331)) a3
        rw [tk_dn (by decide)] at a5
        exact Nat.lt_of_lt_of_le a4 a5
      have huge : 310 < P → P ≤ 320 → ∀ B, RdB (SV (dval F n) n P) B → B = 9218868437227405312 := by
        intro h1 h2 B hB
        refine RdB_huge ?_ hB
        have a1 := SVd_lo (p := P) hl' m1 (by clear hcut; omega)
        have a2 : 10 ^ (20000 + 310) ≤ 10 ^ (P - 1 + 20000).toNat := Nat.pow_le_pow_right (by decide) (by omega)
        rw [tk_up] at a2
        have a3 : (2 : Nat) ^ 1024 ≤ 10 ^ 310 := by decide +kernel
        exact Nat.le_trans (Nat.mul_le_mul_left _ a3) (Nat.le_trans a2 a1)
      rcases m2 with ⟨q1, q2⟩ | ⟨q1, q2⟩ | ⟨q1, q2, B, q3, q4⟩ <;> rcases c2 with ⟨w1, w2⟩ | ⟨w1, w2⟩ | ⟨w1, w2, B', w3, w4⟩
      · rw [q2, hs, w2]
      · clear hcut; omega
      · clear hcut; omega
      · clear hcut; omega
      · rw [q2, w2]
      · clear hcut; omega
      · rw [q4, tiny q1 w1 B q3, hs, w2]
      · rw [q4, huge w1 q2 B q3, w2]
      · have := RdB_uniq q3 (tie_core hF hl' m1 hn c1 hc hcn hz hcut w1 w2 w3)
        rw [q4, w4, this]
