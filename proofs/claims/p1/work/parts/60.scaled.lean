/-! the class's printer: scaled -/
theorem k61 : kindP 61 = 5 := rfl
theorem c_shl {E : En_t} {d b V : Nat} {r : Bool} {z : Int} {σ : S_t} (hk : kindP b = 5) (h : BigAt σ b V r) (h1 : -5000 ≤ z) (h2 : z ≤ 5000) (hT : V * 2 ^ z.toNat < 2 ^ 3040) : CV E (d + 1) m_Bi_shiftLeft [pv E b, .int (zI z)] σ (fun σ' => Fr (BP b) σ σ' ∧ BigAt σ' b (V * 2 ^ z.toNat) r) := by
  rcases Int.lt_or_le z 0 with g | g
  · refine (c_shiftLeftN hk ?_).mono (fun σ' hq => ?_)
    · exact (zI_le (b := 0) (by omega) (by omega) (by omega) (by omega)).mpr (by omega)
    · subst hq
      rw [show z.toNat = 0 by omega, Nat.pow_zero, Nat.mul_one]
      exact ⟨Fr.rf, h⟩
  · have e : zI z = nI z.toNat := by rw [← zI_nI]; exact congrArg zI (by omega)
    rw [e]
    exact c_shiftLeft hk h (by omega) hT
theorem c_shr {E : En_t} {d b V : Nat} {r : Bool} {z : Int} {σ : S_t} (hk : kindP b = 5) (h : BigAt σ b V r) (h1 : -5000 ≤ z) (h2 : z ≤ 5000) : CV E (d + 1) m_Bi_shiftRight [pv E b, .int (zI z)] σ (fun σ' => Fr (BP b) σ σ' ∧ BigAt σ' b (V / 2 ^ z.toNat) (r || decide (V % 2 ^ z.toNat ≠ 0))) := by
  rcases Int.lt_or_le 0 z with g | g
  · have e : zI z = nI z.toNat := by rw [← zI_nI]; exact congrArg zI (by omega)
    rw [e]
    exact c_shiftRight hk h (by omega)
  · refine (c_shiftRightN hk ?_).mono (fun σ' hq => ?_)
    · intro q
      have := (zI_lt (a := 0) (by omega) (by omega) (by omega) (by omega)).mp q
      omega
    · subst hq
      rw [show z.toNat = 0 by omega, Nat.pow_zero, Nat.div_one, Nat.mod_one]
      refine ⟨Fr.rf, ?_⟩
      rw [show (decide ((0 : Nat) ≠ 0)) = false from rfl, Bool.or_false]
      exact h
theorem rest_mul (V a b : Nat) (ha : 0 < a) : ((false || decide (V % a ≠ 0)) || decide (V / a % b ≠ 0)) = decide (V % (a * b) ≠ 0) := by
  rw [Nat.mod_mul]
  by_cases h1 : V % a = 0
  · by_cases h2 : V / a % b = 0
    · simp [h1, h2]
    · have : a ≠ 0 := by omega
      simp [h1, h2, this, Nat.mul_eq_zero]
  · simp [h1]
def sN (x : Nat) (t T : Int) : Nat := x * 5 ^ (-T).toNat * 2 ^ (t - T).toNat
def sD (t T : Int) : Nat := 5 ^ T.toNat * 2 ^ (T - t).toNat
theorem sD_pos (t T : Int) : 0 < sD t T := Nat.mul_pos (Nat.pow_pos (by decide)) (pw_pos _)
theorem pow5_le (k : Nat) : 5 ^ k ≤ 2 ^ (3 * k) := by rw [Nat.pow_mul]; exact Nat.pow_le_pow_left (by decide) k
theorem lt_pow {x a b c y : Nat} (hx : x < 2 ^ a) (hy : y ≤ 2 ^ b) (h : a + b ≤ c) : x * y < 2 ^ c := by
  have h1 : x * y ≤ x * 2 ^ b := Nat.mul_le_mul_left _ hy
  have h2 : x * 2 ^ b < 2 ^ a * 2 ^ b := Nat.mul_lt_mul_of_pos_right hx (pw_pos b)
  rw [← Nat.pow_add] at h2
  exact Nat.lt_of_lt_of_le (Nat.lt_of_le_of_lt h1 h2) (Nat.pow_le_pow_right (by decide) h)
theorem c_scaled {E : En_t} {d x : Nat} {t T : Int} {σ : S_t} (hx : x < 2 ^ 60) (ht1 : -1080 ≤ t) (ht2 : t ≤ 1000) (hT1 : -345 ≤ T) (hT2 : T ≤ 320) (hlow : sN x t T / sD t T < 2 ^ 64) :
    CL E (d + 3) m_Pr_scaled [pv E 59, .long (lN x), .int (zI t), .int (zI T)] σ (fun r σ' => r = lN (sN x t T / sD t T) ∧ Fr (BP 61) σ σ' ∧ gI σ' 61 2 = bI (decide (sN x t T % sD t T ≠ 0))) := by
  refine CE.of (L := [(0, pv E 59), (1, .long (lN x)), (3, .int (zI t)), (4, .int (zI T))]) rfl (Nat.le_of_ble_eq_true rfl) rfl (b_Pr_scaled_0 ((c_set k61 (by omega)).mono (fun σ1 hq => ?_)))
  obtain ⟨F1, B1⟩ := hq
  have last : ∀ σ4 V r, Fr (BP 61) σ σ4 → BigAt σ4 61 V r → V = sN x t T / sD t T → r = decide (sN x t T % sD t T ≠ 0) → JE E (d + 3) m_Pr_scaled 79 [(0, pv E 59)] [] σ4 (fun q σ' => ∃ r, q = some (.long r) ∧ r = lN (sN x t T / sD t T) ∧ Fr (BP 61) σ σ' ∧ gI σ' 61 2 = bI (decide (sN x t T % sD t T ≠ 0))) := by
    intro σ4 V r hF hB hV hr
    refine b_Pr_scaled_79 ((c_low k61 hB).mono (fun y σ' hq => ?_))
    obtain ⟨hy, hs⟩ := hq
    subst hs
    refine ⟨_, rfl, ?_, hF, ?_⟩
    · rw [hy, hV, Nat.mod_eq_of_lt hlow]
    · rw [← hr]
      exact hB.choose_spec.2.2.2.2
  have ez1 : zI t - zI T = zI (t - T) := zI_sub _ _
  have ez2 : zI T - zI t = zI (T - t) := zI_sub _ _
  rw [ez1, ez2]
  refine ⟨fun h => ?_, fun h => ?_⟩
  · have hT : T < 0 := (zI_lt (b := 0) (by omega) (by omega) (by omega) (by omega)).mp h
    have en : -zI T = nI (-T).toNat := by
      rw [← zI_nI]
      have : -zI T = zI (-T) := (Int32.ofInt_neg _).symm
      rw [this]; exact congrArg zI (by omega)
    rw [en]
    have h5 : x * 5 ^ (-T).toNat < 2 ^ 1100 := lt_pow (a := 60) (b := 3 * (-T).toNat) hx (pow5_le _) (by omega)
    refine (c_timesFive k61 B1 (by omega) (Nat.lt_of_lt_of_le h5 (Nat.pow_le_pow_right (by decide) (by decide)))).mono (fun σ2 hq => ?_)
    obtain ⟨F2, B2⟩ := hq
    refine (c_shl k61 B2 (by omega) (by omega) (lt_pow (a := 1100) (b := (t - T).toNat) h5 (Nat.le_refl _) (by omega))).mono (fun σ3 hq => ?_)
    obtain ⟨F3, B3⟩ := hq
    refine (c_shr k61 B3 (by omega) (by omega)).mono (fun σ4 hq => ?_)
    obtain ⟨F4, B4⟩ := hq
    have eD : sD t T = 2 ^ (T - t).toNat := by unfold sD; rw [show T.toNat = 0 by omega, Nat.pow_zero, Nat.one_mul]
    refine last σ4 _ _ (((F1.tr F2).tr F3).tr F4) B4 ?_ ?_
    · rw [eD]; rfl
    · rw [eD, Bool.false_or]; rfl
  · have hT : 0 ≤ T := by
      rcases Int.lt_or_le T 0 with g | g
      · exact absurd ((zI_lt (b := 0) (by omega) (by omega) (by omega) (by omega)).mpr g) h
      · exact g
    have en : zI T = nI T.toNat := by rw [← zI_nI]; exact congrArg zI (by omega)
    rw [en]
    refine (c_shl k61 B1 (by omega) (by omega) (lt_pow (a := 60) (b := (t - T).toNat) hx (Nat.le_refl _) (by omega))).mono (fun σ3 hq => ?_)
    obtain ⟨F3, B3⟩ := hq
    refine (c_overFive k61 B3 (by omega)).mono (fun σ2 hq => ?_)
    obtain ⟨F2, B2⟩ := hq
    refine (c_shr k61 B2 (by omega) (by omega)).mono (fun σ4 hq => ?_)
    obtain ⟨F4, B4⟩ := hq
    have eN : sN x t T = x * 2 ^ (t - T).toNat := by unfold sN; rw [show (-T).toNat = 0 by omega, Nat.pow_zero, Nat.mul_one]
    refine last σ4 _ _ (((F1.tr F3).tr F2).tr F4) B4 ?_ ?_
    · rw [eN]; unfold sD; rw [Nat.div_div_eq_div_mul]
    · rw [eN, rest_mul _ _ _ (Nat.pow_pos (by decide))]; rfl
theorem c_nlzL {E : En_t} {d : Nat} {σ : S_t} {n L : Nat} (h1 : 2 ^ L ≤ n) (h2 : n < 2 ^ (L + 1)) (hL : L < 63) : CI E (d + 1) m_JLo_numberOfLeadingZeros [.long (lN n)] σ (fun x σ' => x = nI (63 - L) ∧ σ' = σ) := by
  have hn : n < 2 ^ 63 := Nat.lt_of_lt_of_le h2 (Nat.pow_le_pow_right (by decide) (by omega))
  refine CE.of (L := [(0, .long (lN n))]) rfl (Nat.le_of_ble_eq_true rfl) rfl (b_JLo_numberOfLeadingZeros_0 ?_)
  rw [shr32 (by omega), lN_i]
  rcases Nat.lt_or_ge L 32 with g | g
  · have hn32 : n < 2 ^ 32 := Nat.lt_of_lt_of_le h2 (Nat.pow_le_pow_right (by decide) (by omega))
    have e0 : n / 2 ^ 32 = 0 := Nat.div_eq_of_lt hn32
    rw [e0]
    refine ⟨fun h => absurd rfl h, fun _ => ?_⟩
    rw [lN_i]
    refine (c_nlz h1 h2 g).mono (fun r s hq => ?_)
    obtain ⟨hr, hs⟩ := hq
    refine ⟨_, rfl, ?_, hs⟩
    rw [hr, show (32 : Int32) = nI 32 from rfl, nI_add]
    congr 1; omega
  · obtain ⟨k, rfl⟩ : ∃ k, L = 32 + k := ⟨L - 32, by omega⟩
    have a1 : 2 ^ k ≤ n / 2 ^ 32 := by
      rw [Nat.le_div_iff_mul_le (by decide), ← Nat.pow_add, Nat.add_comm]; exact h1
    have a2 : n / 2 ^ 32 < 2 ^ (k + 1) := by
      rw [Nat.div_lt_iff_lt_mul (by decide), ← Nat.pow_add, show k + 1 + 32 = 32 + k + 1 by omega]; exact h2
    have hpos := Nat.lt_of_lt_of_le (pw_pos k) a1
    refine ⟨fun _ => ?_, fun h => absurd h (nI_ne0 hpos (by omega))⟩
    refine (c_nlz a1 a2 (by omega)).mono (fun r s hq => ?_)
    obtain ⟨hr, hs⟩ := hq
    refine ⟨_, rfl, ?_, hs⟩
    rw [hr]
    congr 1; omega
def tnO (top : Int) : Int := top * 78913 / 262144
theorem c_tensOf {E : En_t} {d : Nat} {σ : S_t} {top : Int} (h1 : -1100 ≤ top) (h2 : top ≤ 1100) : CI E d m_Pr_tensOf [.int (zI top)] σ (fun x σ' => x = zI (tnO top) ∧ σ' = σ) := by
  refine CE.of (L := [(0, .int (zI top))]) rfl (Nat.le_of_ble_eq_true rfl) rfl (b_Pr_tensOf_0 ⟨_, rfl, ?_, rfl⟩)
  rw [show (78913 : Int32) = zI 78913 from rfl, zI_mul]
  apply Int32.toInt_inj.mp
  rw [pk_shr _ _ 18 (by decide), zI_toInt (by omega) (by omega), Int.shiftRight_eq_div_pow]
  have e : tnO top = top * 78913 / 262144 := rfl
  rw [zI_toInt (by omega) (by omega), e]
  rfl
theorem tens_tab : ∀ k : Nat, k < 2098 → 10 ^ (tnO ((k : Int) - 1074)).toNat * 2 ^ (-((k : Int) - 1074)).toNat ≤ 2 ^ ((k : Int) - 1074).toNat * 10 ^ (-(tnO ((k : Int) - 1074))).toNat ∧ 2 ^ ((k : Int) - 1074).toNat * 10 ^ (-(tnO ((k : Int) - 1074) + 1)).toNat < 10 ^ (tnO ((k : Int) - 1074) + 1).toNat * 2 ^ (-((k : Int) - 1074)).toNat := by decide +kernel
