/-! findShortest: what its numbers say -/
theorem dn_iff {b X : Nat} (hb : 0 < b) (hb2 : b < 9218868437227405312) (hX : X ≤ FV b) : InvL X b ↔ RdB X b := by
  constructor
  · intro h
    have hp : 0 < X := by
      have := FV_pos hb
      unfold InvL at h
      generalize FV b = A at *
      generalize FV (b - 1) = B at *
      omega
    exact (RdB_iff2 hb hb2 hp).mpr ⟨h, (((RdB_iff2 hb hb2 (FV_pos hb)).mp (RdB_self hb hb2)).2).mono hX⟩
  · intro h
    exact ((RdB_iff2 hb hb2 (RdB_pos h)).mp h).1
theorem up_iff {b X : Nat} (hb : 0 < b) (hb2 : b < 9218868437227405312) (hX : FV b ≤ X) : InvU X b ↔ RdB X b := by
  constructor
  · intro h
    exact (RdB_iff2 hb hb2 (Nat.lt_of_lt_of_le (FV_pos hb) hX)).mpr ⟨(((RdB_iff2 hb hb2 (FV_pos hb)).mp (RdB_self hb hb2)).1).mono hX, h⟩
  · intro h
    exact ((RdB_iff2 hb hb2 (RdB_pos h)).mp h).2
def YL (b : Nat) : Nat := (4 * mB b - cBl b) * 2 ^ qB b * U4
def YH (b : Nat) : Nat := (4 * mB b + 2) * 2 ^ qB b * U4
def rB (Y : Nat) (T : Int) : Bool := decide (Y % Gz T ≠ 0)
def lsB (b : Nat) (T : Int) : Nat := YL b / Gz T + (if rB (YL b) T = true ∨ ¬ b % 2 = 0 then 1 else 0)
def msB (b : Nat) (T : Int) : Nat := YH b / Gz T - (if rB (YH b) T = false ∧ ¬ b % 2 = 0 then 1 else 0)
theorem ls_iff {b : Nat} {T : Int} (hb : 0 < b) (x : Nat) : lsB b T ≤ x ↔ InvL (x * Gz T) b := by
  unfold lsB
  rw [le_aux (Gz_pos T) (b % 2 = 0) (rB (YL b) T) rfl]
  have h : 2 * YL b = FV (b - 1) + FV b := Y_lo hb
  unfold InvL
  rw [← h]
  generalize YL b = Y
  generalize x * Gz T = X
  omega
theorem ms_iff {b : Nat} {T : Int} (hY : Gz T ≤ YH b) (x : Nat) : x ≤ msB b T ↔ InvU (x * Gz T) b := by
  unfold msB
  rw [mo_aux (Gz_pos T) hY (b % 2 = 0) (rB (YH b) T) rfl]
  have h : 2 * YH b = FV b + FV (b + 1) := Y_hi b
  unfold InvU
  rw [← h]
  generalize YH b = Y
  generalize x * Gz T = X
  omega
theorem tn_aux1 {TK A u0 ee k τp τm kp km : Nat} (hA : A * 10 ^ τm = TK * 10 ^ τp) (hu : u0 * 2 ^ ee = TK) (hk : km + k = ee + kp) (h : 10 ^ τp * 2 ^ km ≤ 2 ^ kp * 10 ^ τm) : A ≤ 2 ^ k * u0 := by
  have hp1 := pw_pos ee
  have hp2 := p10 τm
  refine Nat.le_of_mul_le_mul_right ?_ (Nat.mul_pos hp1 hp2)
  rw [Nat.mul_comm (2 ^ kp)] at h
  have h2 := (sc_le (A := 10 ^ τp) (B := 10 ^ τm) (a := km) (b := kp) (a' := ee) (b' := k) hk).mp h
  have e1 : A * (2 ^ ee * 10 ^ τm) = TK * (10 ^ τp * 2 ^ ee) := by
    rw [show A * (2 ^ ee * 10 ^ τm) = A * 10 ^ τm * 2 ^ ee by ac_rfl, hA, Nat.mul_assoc]
  have e2 : 2 ^ k * u0 * (2 ^ ee * 10 ^ τm) = TK * (10 ^ τm * 2 ^ k) := by
    rw [← hu]; ac_rfl
  rw [e1, e2]
  exact Nat.mul_le_mul_left _ h2
theorem tn_aux2 {TK A u0 ee k τp τm kp km : Nat} (hT : 0 < TK) (hA : A * 10 ^ τm = TK * 10 ^ τp) (hu : u0 * 2 ^ ee = TK) (hk : km + k = ee + kp) (h : 2 ^ kp * 10 ^ τm < 10 ^ τp * 2 ^ km) : 2 ^ k * u0 < A := by
  refine Nat.lt_of_mul_lt_mul_right (a := 2 ^ ee * 10 ^ τm) ?_
  rw [Nat.mul_comm (2 ^ kp)] at h
  have h2 := (sc_lt (A := 10 ^ τm) (B := 10 ^ τp) (a := kp) (b := km) (a' := k) (b' := ee) (by omega)).mp h
  have e1 : A * (2 ^ ee * 10 ^ τm) = TK * (10 ^ τp * 2 ^ ee) := by
    rw [show A * (2 ^ ee * 10 ^ τm) = A * 10 ^ τm * 2 ^ ee by ac_rfl, hA, Nat.mul_assoc]
  have e2 : 2 ^ k * u0 * (2 ^ ee * 10 ^ τm) = TK * (10 ^ τm * 2 ^ k) := by
    rw [← hu]; ac_rfl
  rw [e1, e2]
  exact Nat.mul_lt_mul_of_pos_left h2 hT
theorem ten_z (τ : Int) (h1 : -19000 ≤ τ) : 10 ^ (20000 + τ).toNat * 10 ^ (-τ).toNat = TK * 10 ^ τ.toNat := by
  rcases Int.lt_or_le τ 0 with g | g
  · rw [show τ.toNat = 0 by omega, Nat.pow_zero, Nat.mul_one, show (20000 + τ).toNat = 20000 - (-τ).toNat by omega]
    exact tk_dn (by omega)
  · rw [show (-τ).toNat = 0 by omega, Nat.pow_zero, Nat.mul_one, show (20000 + τ).toNat = 20000 + τ.toNat by omega, tk_up]
theorem top_sc {L q : Nat} (h : L + q < 2098) : 10 ^ (20000 + tnO ((L : Int) + q - 1074)).toNat ≤ 2 ^ (L + q) * U0 ∧ 2 ^ (L + q) * U0 < 10 ^ (20000 + (tnO ((L : Int) + q - 1074) + 1)).toNat := by
  have t := tens_tab (L + q) h
  have e : ((L + q : Nat) : Int) - 1074 = (L : Int) + q - 1074 := by omega
  rw [e] at t
  have hr : -19000 ≤ tnO ((L : Int) + q - 1074) := by unfold tnO; omega
  generalize tnO ((L : Int) + q - 1074) = τ at *
  obtain ⟨t1, t2⟩ := t
  constructor
  · exact tn_aux1 (ten_z τ hr) U0_TK (by omega) t1
  · exact tn_aux2 TK_pos (ten_z (τ + 1) (by omega)) U0_TK (by omega) t2
/-- the scale that findShortest takes -/
def tsB (L q : Nat) : Int := tnO ((L : Int) + q - 1074) - 17
theorem tsB_rng {L q : Nat} (h : L + q < 2098) : -345 ≤ tsB L q ∧ tsB L q ≤ 300 := by unfold tsB tnO; omega
theorem sc17 (τ : Int) (h : -19000 ≤ τ) : 10 ^ (20000 + τ).toNat = 100000000000000000 * Gz (τ - 17) ∧ 10 ^ (20000 + (τ + 1)).toNat = 1000000000000000000 * Gz (τ - 17) := by
  unfold Gz
  constructor
  · rw [show (20000 + τ).toNat = 17 + (20000 + (τ - 17)).toNat by omega, Nat.pow_add]
  · rw [show (20000 + (τ + 1)).toNat = 18 + (20000 + (τ - 17)).toNat by omega, Nat.pow_add]
theorem vb_aux (f L p u A B G V : Nat) (h1 : 2 ^ L ≤ f) (h2 : f < 2 ^ (L + 1)) (hp : 0 < p) (hu : 0 < u) (hV : V = f * p * u) (ha : A ≤ 2 ^ L * p * u) (hb : 2 ^ L * p * u < B) : A ≤ V ∧ V < 2 * B := by
  have e1 : 2 ^ L * p * u ≤ V := by rw [hV]; exact Nat.mul_le_mul_right _ (Nat.mul_le_mul_right _ h1)
  have e2 : V < 2 * (2 ^ L * p * u) := by
    rw [hV, show 2 * (2 ^ L * p * u) = 2 ^ L * 2 * p * u by ac_rfl, ← Nat.pow_succ]
    exact Nat.mul_lt_mul_of_pos_right (Nat.mul_lt_mul_of_pos_right h2 hp) hu
  generalize 2 ^ L * p * u = X at *
  omega
theorem V_sc {b L : Nat} (h1 : 2 ^ L ≤ mB b) (h2 : mB b < 2 ^ (L + 1)) (h : L + qB b < 2098) : 100000000000000000 * Gz (tsB L (qB b)) ≤ FV b ∧ FV b < 2000000000000000000 * Gz (tsB L (qB b)) := by
  obtain ⟨a1, a2⟩ := top_sc h
  have hr : -19000 ≤ tnO ((L : Int) + qB b - 1074) := by unfold tnO; omega
  obtain ⟨c1, c2⟩ := sc17 _ hr
  rw [c1, Nat.pow_add] at a1
  rw [c2, Nat.pow_add] at a2
  have := vb_aux (mB b) L (2 ^ qB b) U0 _ _ 0 (FV b) h1 h2 (pw_pos _) U0_pos rfl a1 a2
  refine ⟨this.1, ?_⟩
  have h3 := this.2
  rw [← Nat.mul_assoc] at h3
  exact h3
theorem dz_eq {V Z z : Nat} (g : Nat) : V / 10 ^ g / 10 ^ z = V / 10 ^ (g + z) := by
  rw [Nat.div_div_eq_div_mul, ← Nat.pow_add]
theorem upz_aux {V G s h : Nat} (hs : s = 2 * h) (hG : 0 < G) (hh : 0 < h) : (G * s < 2 * (V % (G * s)) ∨ (G * s = 2 * (V % (G * s)) ∧ V / (G * s) % 2 = 1)) ↔ (h < V / G % s ∨ (V / G % s = h ∧ (V % G ≠ 0 ∨ V / (G * s) % 2 = 1))) := by
  rw [Nat.mod_mul]
  have hr := Nat.mod_lt V hG
  generalize V / G % s = A
  generalize V % G = ρ at *
  generalize V / (G * s) % 2 = w
  have e : G * s = 2 * (G * h) := by rw [hs]; ac_rfl
  rw [e]
  rcases Nat.lt_trichotomy A h with q | q | q
  · have : G * (A + 1) ≤ G * h := Nat.mul_le_mul_left _ q
    rw [Nat.mul_add, Nat.mul_one] at this
    generalize G * h = X at *
    generalize G * A = Y at *
    omega
  · subst q
    generalize G * A = X at *
    omega
  · have : G * (h + 1) ≤ G * A := Nat.mul_le_mul_left _ q
    rw [Nat.mul_add, Nat.mul_one] at this
    generalize G * h = X at *
    generalize G * A = Y at *
    omega
theorem w10_aux {V Z : Nat} {up : Bool} (h : (V / 10 ^ Z + bN up) % 10 = 0) : cz V (Z + 1) up = cz V Z up := by
  unfold cz
  rw [Nat.pow_succ, ← Nat.div_div_eq_div_mul]
  generalize V / 10 ^ Z = q at *
  have : q + bN up = (q / 10 + bN up) * 10 := by
    cases up
    · have e : bN false = 0 := rfl
      rw [e] at h ⊢; omega
    · have e : bN true = 1 := rfl
      rw [e] at h ⊢; omega
  rw [this, Nat.mul_comm (10 ^ Z) 10, ← Nat.mul_assoc]
