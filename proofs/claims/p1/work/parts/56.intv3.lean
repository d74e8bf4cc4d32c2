theorem dbl_pow (w v u : Nat) : w * 2 ^ (v + 1) * u = 2 * (w * (2 ^ v * u)) := by
  rw [Nat.pow_succ]; ac_rfl
theorem InvL_end {X B : Nat} (hB : 0 < B) (h : 2 * FV B ≤ 2 * X) : InvL X B := by
  obtain ⟨e, rfl⟩ : ∃ e, B = e + 1 := ⟨B - 1, by omega⟩
  have := FV_lt e
  left
  rw [Nat.add_sub_cancel]
  omega
theorem lo_arith {X w D Fb Fp : Nat} (e1 : Fb = w * D) (e2 : Fp = (w - 1) * D) (hw : 0 < w) (hp : 2 * (w * D) < 2 * X + D ∨ (2 * (w * D) = 2 * X + D ∧ w % 2 = 0)) : Fp + Fb < 2 * X ∨ (Fp + Fb = 2 * X ∧ w % 2 = 0) := by
  obtain ⟨a, rfl⟩ : ∃ a, w = a + 1 := ⟨w - 1, by omega⟩
  rw [Nat.add_sub_cancel] at e2
  have e0 : (a + 1) * D = a * D + D := Nat.succ_mul _ _
  rw [e0] at e1 hp
  clear e0
  generalize a * D = A at *
  rcases hp with q | ⟨q, q'⟩
  · left; omega
  · right; exact ⟨by omega, q'⟩
theorem hi_arith {X w D Fb Fp : Nat} (e1 : Fb = w * D) (e2 : Fp = (w + 1) * D) (hp : 2 * X < 2 * (w * D) + D ∨ (2 * X = 2 * (w * D) + D ∧ w % 2 = 0)) : 2 * X < Fb + Fp ∨ (2 * X = Fb + Fp ∧ w % 2 = 0) := by
  rw [Nat.succ_mul] at e2
  generalize w * D = A at *
  rcases hp with q | ⟨q, q'⟩
  · left; omega
  · right; exact ⟨by omega, q'⟩
theorem lo_arith2 {X D Fb Fp : Nat} (hD : 0 < D) (e1 : Fb = 4503599627370496 * (2 * D)) (e2 : Fp = 9007199254740991 * D) (hX : 4503599627370496 * (2 * D) ≤ X) : Fp + Fb < 2 * X := by omega
theorem hi_arith2 {X D a b Fb Fp : Nat} (hD : 0 < D) (hab : 2 * b = a + 2) (e1 : Fb = a * D) (e2 : Fp = 2 * (b * D)) (hp : 2 * X < 2 * (a * D) + D ∨ (2 * X = 2 * (a * D) + D ∧ a % 2 = 0)) : 2 * X < Fb + Fp := by
  have e : 2 * (b * D) = a * D + 2 * D := by rw [← Nat.mul_assoc, hab, Nat.add_mul]
  have hp' : 2 * X ≤ 2 * (a * D) + D := by
    rcases hp with q | q
    · exact Nat.le_of_lt q
    · exact Nat.le_of_eq q.1
  clear hp
  generalize a * D = A at *
  generalize 2 * (b * D) = C at *
  omega
theorem FV_wv2 {w v B : Nat} (hB : B = w + v * 4503599627370496) (hw : w ≤ 9007199254740992) (h : 4503599627370496 ≤ w ∨ v = 0) : FV B = w * (2 ^ v * U0) := by
  rw [hB, FV_wv hw h, Nat.mul_assoc]
theorem wv_a1 {w v B : Nat} (h : B = w + v * 4503599627370496) (hw : 0 < w) : B - 1 = w - 1 + v * 4503599627370496 := by omega
theorem wv_a2 {w v B : Nat} (h : B = w + v * 4503599627370496) : B + 1 = w + 1 + v * 4503599627370496 := by rw [h, Nat.add_right_comm]
theorem wv_a3 {v B : Nat} (h : B = 4503599627370496 + (v + 1) * 4503599627370496) : B - 1 = 9007199254740991 + v * 4503599627370496 := by
  rw [Nat.succ_mul] at h
  generalize v * 4503599627370496 = c at *
  omega
theorem wv_a4 {v B : Nat} (h : B = 9007199254740992 + v * 4503599627370496) : B + 1 = 4503599627370497 + (v + 1) * 4503599627370496 := by
  rw [Nat.succ_mul]
  generalize v * 4503599627370496 = c at *
  omega
theorem wv_ev {w v B : Nat} (h : B = w + v * 4503599627370496) : B % 2 = w % 2 := by omega
theorem wv_l1 {w v : Nat} (h : 4503599627370496 < w) (h' : w ≤ 9007199254740992) : w - 1 ≤ 9007199254740992 ∧ (4503599627370496 ≤ w - 1 ∨ v = 0) ∧ 0 < w := by omega
theorem wv_l2 {w v B : Nat} (h : B = w + v * 4503599627370496) (hB : 0 < B) (hv : v = 0) (h' : w ≤ 9007199254740992) : w - 1 ≤ 9007199254740992 ∧ 0 < w := by omega
theorem RdB_lo {X B : Nat} (h : RdB X B) (hB : 0 < B) : InvL X B := by
  rcases RdB_units h with ⟨h1, h2⟩ | ⟨w, v, h1, h2, h3, h4, h5⟩
  · exact InvL_end hB (by rw [h1]; exact h2)
  · have hUp : 0 < 2 ^ v * U0 := Nat.mul_pos (pw_pos v) U0_pos
    have hp := (rhe_prop (a := X) hUp).1
    rw [← h2] at hp
    have hc : 4503599627370496 ≤ w ∨ v = 0 := by
      rcases h5 with q | q
      · exact Or.inl q.1
      · exact Or.inr q
    have e1 := FV_wv2 h1 h3 hc
    unfold InvL
    rw [wv_ev h1]
    rcases Nat.lt_or_ge 4503599627370496 w with g | g
    · obtain ⟨a1, a2, a3⟩ := wv_l1 (v := v) g h3
      exact lo_arith e1 (FV_wv2 (wv_a1 h1 a3) a1 a2) a3 hp
    · by_cases hv : v = 0
      · obtain ⟨a1, a3⟩ := wv_l2 h1 hB hv h3
        exact lo_arith e1 (FV_wv2 (wv_a1 h1 a3) a1 (Or.inr hv)) a3 hp
      · have q := h5.resolve_right hv
        have hw : w = 4503599627370496 := Nat.le_antisymm g q.1
        clear h2 hp h5 hc
        subst hw
        obtain ⟨v', rfl⟩ : ∃ v', v = v' + 1 := ⟨v - 1, (Nat.succ_pred_eq_of_ne_zero hv).symm⟩
        have e4 : 2 ^ (v' + 1) * U0 = 2 * (2 ^ v' * U0) := by have := dbl_pow 1 v' U0; rw [Nat.one_mul, Nat.one_mul] at this; exact this
        left
        refine lo_arith2 (Nat.mul_pos (pw_pos v') U0_pos) (by rw [e1, e4]) (FV_wv2 (wv_a3 h1) (Nat.le_of_ble_eq_true rfl) (Or.inl (Nat.le_of_ble_eq_true rfl))) (by rw [← e4]; exact q.2)
theorem RdB_hi {X B : Nat} (h : RdB X B) (hB : B < 9218868437227405312) : InvU X B := by
  rcases RdB_units h with ⟨h1, h2⟩ | ⟨w, v, h1, h2, h3, h4, h5⟩
  · exact absurd h1 (Nat.ne_of_lt hB)
  · have hUp : 0 < 2 ^ v * U0 := Nat.mul_pos (pw_pos v) U0_pos
    have hp := (rhe_prop (a := X) hUp).2
    rw [← h2] at hp
    have hc : 4503599627370496 ≤ w ∨ v = 0 := by
      rcases h5 with q | q
      · exact Or.inl q.1
      · exact Or.inr q
    have e1 := FV_wv2 h1 h3 hc
    unfold InvU
    rw [wv_ev h1]
    rcases Nat.lt_or_ge w 9007199254740992 with g | g
    · exact hi_arith e1 (FV_wv2 (wv_a2 h1) g (hc.imp (fun q => Nat.le_succ_of_le q) id)) hp
    · have hw : w = 9007199254740992 := Nat.le_antisymm h3 g
      clear h2 h5 hc
      subst hw
      left
      exact hi_arith2 (b := 4503599627370497) hUp (by decide) e1 (by rw [FV_wv2 (wv_a4 h1) (Nat.le_of_ble_eq_true rfl) (Or.inl (Nat.le_of_ble_eq_true rfl)), ← Nat.mul_assoc, dbl_pow]) hp
/-- which values are read as b -/
theorem RdB_iff {X b : Nat} (hb : 0 < b) (hb2 : b < 9218868437227405312) (hX : 0 < X) (hs : TK ≤ X * 2 ^ 70000) : RdB X b ↔ InvL X b ∧ InvU X b := by
  refine ⟨fun h => ⟨RdB_lo h hb, RdB_hi h hb2⟩, fun h => ?_⟩
  obtain ⟨L, hl⟩ := ex_lg2 hX hs
  clear hs
  obtain ⟨B, hB⟩ : ∃ B, RdB X B := by
    rcases Int.lt_or_le 1023 L with g | g
    · exact ⟨_, L, hl, Or.inl ⟨g, rfl⟩⟩
    · exact ⟨_, L, hl, Or.inr ⟨g, rfl⟩⟩
  rcases Nat.lt_trichotomy B b with g | g | g
  · exact absurd (half_lt (RdB_hi hB (by omega)) h.1 g) id
  · rw [← g]; exact hB
  · exact absurd (half_lt h.2 (RdB_lo hB (by omega)) g) id
