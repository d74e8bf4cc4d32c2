/-! findAllDigits -/
def dgN (N k : Nat) : Nat := N / 10 ^ (809 - k) % 10
theorem dv_aux (N : Nat) : ∀ c, dval (fun i => N / 10 ^ (c - 1 - i) % 10) c = N % 10 ^ c := by
  intro c
  induction c generalizing N with
  | zero => rw [Nat.pow_zero, Nat.mod_one]; rfl
  | succ c ih =>
    have e : dval (fun i => N / 10 ^ (c + 1 - 1 - i) % 10) (c + 1) = dval (fun i => N / 10 ^ (c + 1 - 1 - i) % 10) c * 10 + N / 10 ^ (c + 1 - 1 - c) % 10 := rfl
    have e2 : dval (fun i => N / 10 ^ (c + 1 - 1 - i) % 10) c = dval (fun i => N / 10 / 10 ^ (c - 1 - i) % 10) c := dval_ext (fun i hi => by
      rw [Nat.div_div_eq_div_mul, show c + 1 - 1 - i = (c - 1 - i) + 1 by omega, Nat.pow_succ, Nat.mul_comm 10])
    rw [e, e2, ih, show c + 1 - 1 - c = 0 by omega, Nat.pow_zero, Nat.div_one, Nat.pow_succ, Nat.mul_comm (10 ^ c) 10, Nat.mod_mul]
    omega
theorem dv_all {N s0 : Nat} (hs : s0 ≤ 809) (hN : N < 10 ^ (810 - s0)) : dval (fun i => dgN N (s0 + i)) (810 - s0) = N := by
  have := dv_aux N (810 - s0)
  rw [Nat.mod_eq_of_lt hN] at this
  refine Eq.trans (dval_ext (fun i hi => ?_)) this
  unfold dgN
  rw [show 809 - (s0 + i) = 810 - s0 - 1 - i by omega]
theorem zr_top {N : Nat} : ∀ {s0 a : Nat}, a ≤ s0 → s0 ≤ 809 → N < 10 ^ (810 - a) → (∀ k, a ≤ k → k < s0 → dgN N k = 0) → N < 10 ^ (810 - s0) := by
  intro s0
  induction s0 with
  | zero => intro a h1 _ h _; rw [show a = 0 by omega] at h; exact h
  | succ s ih =>
    intro a h1 h2 h hz
    rcases Nat.lt_or_ge s a with g | g
    · rw [show s + 1 = a by omega]; exact h
    · have h3 := ih g (by omega) h (fun k k1 k2 => hz k k1 (by omega))
      have h4 := hz s g (by omega)
      unfold dgN at h4
      rw [show 810 - s = (809 - s) + 1 by omega, Nat.pow_succ] at h3
      have h5 : N / 10 ^ (809 - s) < 10 := (Nat.div_lt_iff_lt_mul (p10 _)).mpr (by rw [Nat.mul_comm]; exact h3)
      have h6 : N / 10 ^ (809 - s) = 0 := by
        generalize N / 10 ^ (809 - s) = X at *
        omega
      rw [show 810 - (s + 1) = 809 - s by omega]
      exact (Nat.div_eq_zero_iff_lt (p10 _)).mp h6
/-- the whole number that findAllDigits takes its digits of: it, its power of ten -/
def fdN (f' : Nat) (t : Int) : Nat := f' * 2 ^ t.toNat * 5 ^ (-t).toNat
theorem fd_val1 (x j q e u E2 TT : Nat) (hT : u * 2 ^ E2 = TT) (h : j + E2 = q + e) : x * 2 ^ j * TT = 2 ^ e * x * 2 ^ q * u := by
  rw [← hT]
  have : x * 2 ^ j * (u * 2 ^ E2) = x * u * (2 ^ j * 2 ^ E2) := by ac_rfl
  rw [this, ← Nat.pow_add, h, Nat.pow_add]
  ac_rfl
theorem fd_val2 (x j q e u E2 TT G : Nat) (hT : u * 2 ^ E2 = TT) (hG : G * 10 ^ j = TT) (h : E2 = q + e + j) : x * 5 ^ j * G = 2 ^ e * x * 2 ^ q * u := by
  apply Nat.eq_of_mul_eq_mul_right (pw_pos j)
  have e1 : x * 5 ^ j * G * 2 ^ j = x * (G * (2 ^ j * 5 ^ j)) := by ac_rfl
  rw [e1, ← Nat.mul_pow, show 2 * 5 = 10 from rfl, hG, ← hT, h, Nat.pow_add, Nat.pow_add]
  ac_rfl
theorem fd_val {b e k : Nat} (hf : mB b = 2 ^ e * (2 * k + 1)) {t : Int} (ht : t = (qB b : Int) - 1074 + e) (h1 : -2000 ≤ t) (h2 : t ≤ 2000) : fdN (2 * k + 1) t * 10 ^ (min 0 t + 20000).toNat = FV b := by
  unfold fdN FV
  rw [hf]
  rcases Int.lt_or_le t 0 with g | g
  · rw [show t.toNat = 0 by omega, Nat.pow_zero, Nat.mul_one, show (min 0 t + 20000).toNat = 20000 - (-t).toNat by omega]
    exact fd_val2 (2 * k + 1) (-t).toNat (qB b) e U0 1074 TK _ U0_TK (tk_dn (by omega)) (by omega)
  · rw [show (-t).toNat = 0 by omega, Nat.pow_zero, Nat.mul_one, tk_of (show (min 0 t + 20000).toNat = 20000 by omega)]
    exact fd_val1 (2 * k + 1) t.toNat (qB b) e U0 1074 TK U0_TK (by omega)
theorem fd_b1 : 2 ^ 53 * 5 ^ 1074 < 10 ^ 809 ∧ 2 ^ 1030 < 10 ^ 809 := by decide +kernel
theorem fd_lt {x : Nat} {t : Int} (hx : x < 2 ^ 53) (h1 : -1074 ≤ t) (h2 : t ≤ 0 ∨ x * 2 ^ t.toNat < 2 ^ 1030) : fdN x t < 10 ^ 809 := by
  unfold fdN
  obtain ⟨b1, b2⟩ := fd_b1
  rcases Int.lt_or_le 0 t with g | g
  · rw [show (-t).toNat = 0 by omega, Nat.pow_zero, Nat.mul_one]
    have h3 : x * 2 ^ t.toNat < 2 ^ 1030 := by
      rcases h2 with q | q
      · omega
      · exact q
    exact Nat.lt_trans h3 b2
  · rw [show t.toNat = 0 by omega, Nat.pow_zero, Nat.mul_one]
    have h5 : 5 ^ (-t).toNat ≤ 5 ^ 1074 := Nat.pow_le_pow_right (by decide) (by omega)
    exact Nat.lt_trans (Nat.lt_of_le_of_lt (Nat.mul_le_mul_left x h5) (Nat.mul_lt_mul_of_pos_right hx (Nat.pow_pos (by decide)))) b1
/-- the loop over nine digits -/
theorem fa_in {E : En_t} {d N a0 W : Nat} {tz : Int} {Q : Option Value → S_t → Prop} (σ0 : S_t) (h9 : 9 ≤ a0) (h810 : a0 ≤ 810) (hW : W = N / 10 ^ (810 - a0) % 1000000000)
    (hX : ∀ τ, Fs PB σ0 τ → (∀ r, ∀ V, BigAt σ0 61 V r → BigAt τ 61 V r) → (∀ k, a0 - 9 ≤ k → k < 810 → gI τ 60 k = nI (dgN N k)) → JE E (d + 1) m_Pr_findAllDigits 129 [(0, pv E 59), (5, .int (zI tz)), (6, .int (nI (a0 - 9)))] [] τ Q) :
    ∀ (m i : Nat) (τ : S_t), i + m = 9 → Fs PB σ0 τ → (∀ r, ∀ V, BigAt σ0 61 V r → BigAt τ 61 V r) → (∀ k, a0 - i ≤ k → k < 810 → gI τ 60 k = nI (dgN N k)) →
    JE E (d + 1) m_Pr_findAllDigits 88 [(0, pv E 59), (5, .int (zI tz)), (6, .int (nI (a0 - i))), (7, .int (nI (W / 10 ^ i))), (8, .int (nI i))] [] τ Q := by
  intro m
  induction m with
  | zero =>
    intro i τ him hF hB hg
    have : i = 9 := by omega
    subst this
    exact b_Pr_findAllDigits_88 ⟨fun _ => hX τ hF hB hg, fun q => absurd (Int32.le_refl _) q⟩
  | succ m ih =>
    intro i τ him hF hB hg
    have hWl : W < 1000000000 := by rw [hW]; exact Nat.mod_lt _ (by decide)
    have hWi : W / 10 ^ i < 2 ^ 31 := Nat.lt_of_le_of_lt (Nat.div_le_self _ _) (by omega)
    refine b_Pr_findAllDigits_88 ⟨fun q => ?_, fun _ => ⟨fun q => absurd q (nI_nle (by omega) (by omega)), fun _ => ?_⟩⟩
    · have := (nI_leI (a := 9) (b := i) (by omega) (by omega)).mp q
      omega
    · have e1 : nI (a0 - i) + (-1 : Int32) = nI (a0 - (i + 1)) := by
        rw [show a0 - i = a0 - (i + 1) + 1 by omega]; exact nI_dec _
      rw [e1, n_d10 hWi, Nat.div_div_eq_div_mul, ← Nat.pow_succ, nI_1, nI_clamp (by omega)]
      have e2 : nI (W / 10 ^ i) - nI (W / 10 ^ (i + 1)) * (10 : Int32) = nI (W / 10 ^ i % 10) := by
        have := n_mod10 hWi
        rw [n_d10 hWi, Nat.div_div_eq_div_mul, ← Nat.pow_succ] at this
        exact this
      rw [e2]
      have hd : W / 10 ^ i % 10 = dgN N (a0 - (i + 1)) := by
        unfold dgN
        rw [hW, show 809 - (a0 - (i + 1)) = (810 - a0) + i by omega, Nat.pow_add, ← Nat.div_div_eq_div_mul]
        generalize N / 10 ^ (810 - a0) = X
        rw [show (1000000000 : Nat) = 10 ^ i * (10 * 10 ^ (8 - i)) by rw [← Nat.pow_succ', ← Nat.pow_add, show i + (8 - i + 1) = 9 by omega], Nat.mod_mul_right_div_self, Nat.mod_mul_right_mod]
      rw [nar_small2 (by omega), hd]
      refine ⟨vin (by omega) (by omega), ih (i + 1) _ (by omega) (hF.si (Or.inl PM60)) (fun r V h => ?_) (fun k k1 k2 => ?_)⟩
      · obtain ⟨n, b1, b2, b3, b4, b5⟩ := hB r V h
        refine ⟨n, by rw [gI_sI_n (Or.inl (by decide))]; exact b1, b2, ?_, b4, by rw [gI_sI_n (Or.inl (by decide))]; exact b5⟩
        rw [← b3]
        congr 1
      · by_cases q : k = a0 - (i + 1)
        · subst q; exact gI_sI_s _ _ _ _
        · rw [gI_sI_n (Or.inr q)]; exact hg k (by omega) k2
