/-! the JDK's small methods -/
theorem mnI_nI {a b : Nat} (ha : a < 2 ^ 31) (hb : b < 2 ^ 31) : mnI (nI a) (nI b) = nI (min a b) := by
  unfold mnI
  split
  · rename_i h
    have h := (nI_ltI hb ha).mp h
    rw [Nat.min_eq_right (by omega)]
  · rename_i h
    have h : ¬ b < a := fun q => h ((nI_ltI hb ha).mpr q)
    rw [Nat.min_eq_left (by omega)]
theorem mxI_nI {a b : Nat} (ha : a < 2 ^ 31) (hb : b < 2 ^ 31) : mxI (nI a) (nI b) = nI (max a b) := by
  unfold mxI
  split
  · rename_i h
    have h := (nI_ltI ha hb).mp h
    rw [Nat.max_eq_right (by omega)]
  · rename_i h
    have h : ¬ a < b := fun q => h ((nI_ltI ha hb).mpr q)
    rw [Nat.max_eq_left (by omega)]
theorem nI_negv {n : Nat} (h : 2 ^ 31 ≤ n) (h2 : n < 4294967296) : (nI n).toInt = (n : Int) - 4294967296 := by
  show (Int32.ofNat n).toInt = _
  rw [Int32.toInt_ofNat']
  simp only [Int32.size, Int.bmod]
  omega
theorem nI_npos {n : Nat} (h : 2 ^ 31 ≤ n) (h2 : n < 4294967296) : ¬ 0 < nI n := by
  rw [Int32.lt_iff_toInt_lt, nI_negv h h2, Int32.toInt_zero]
  omega
theorem c_compare {E : En_t} {d : Nat} {x y : Int32} {σ : S_t} : CI E d m_JIn_compare [.int x, .int y] σ (fun z σ' => z = (if x < y then -1 else if x = y then 0 else 1) ∧ σ' = σ) := by
  refine CE.of (L := [(0, .int x), (1, .int y)]) rfl (Nat.le_of_ble_eq_true rfl) rfl (b_JIn_compare_0 ⟨fun h => ⟨fun h2 => ?_, fun h2 => ?_⟩, fun h => ?_⟩)
  · exact ⟨_, rfl, by rw [if_neg (by rw [Int32.not_lt]; exact h), if_neg h2], rfl⟩
  · exact ⟨_, rfl, by rw [if_neg (by rw [Int32.not_lt]; exact h), if_pos h2], rfl⟩
  · exact ⟨_, rfl, by rw [if_pos (by rw [← Int32.not_le]; exact h)], rfl⟩
theorem ushr_v (x : Int32) {k : Nat} (hk : k < 32) : (x.toUInt32 >>> ((nI k).toUInt32 &&& Int32.toUInt32 31)).toInt32 = nI (un x / 2 ^ k) := by
  rw [← nI_un ((x.toUInt32 >>> ((nI k).toUInt32 &&& Int32.toUInt32 31)).toInt32)]
  congr 1
  exact pk_ushr x (nI k) k (s_u k hk)
theorem shl_v (x : Int32) {k : Nat} (hk : k < 32) : x <<< (nI k &&& 31) = nI (un x * 2 ^ k % 2 ^ 32) := by
  rw [← nI_un (x <<< (nI k &&& 31))]
  congr 1
  exact pk_shl x (nI k &&& 31) k (s_l k hk)
theorem nlz_step {a L k : Nat} (h1 : 2 ^ L ≤ a) (h2 : a < 2 ^ (L + 1)) (hk : 2 ^ k ≤ a) : k ≤ L ∧ 2 ^ (L - k) ≤ a / 2 ^ k ∧ a / 2 ^ k < 2 ^ (L - k + 1) := by
  have hkL : k ≤ L := by
    have h := Nat.lt_of_le_of_lt hk h2
    have := (Nat.pow_lt_pow_iff_right (a := 2) (by decide)).mp h
    omega
  refine ⟨hkL, ?_, ?_⟩
  · rw [Nat.le_div_iff_mul_le (pw_pos k), ← Nat.pow_add]
    rw [show L - k + k = L by omega]; exact h1
  · rw [Nat.div_lt_iff_lt_mul (pw_pos k), ← Nat.pow_add]
    rw [show L - k + 1 + k = L + 1 by omega]; exact h2
theorem nlz_small {a L k : Nat} (h1 : 2 ^ L ≤ a) (hk : a < 2 ^ k) : L < k :=
  (Nat.pow_lt_pow_iff_right (a := 2) (by decide)).mp (Nat.lt_of_le_of_lt h1 hk)
theorem nlz_61 {E : En_t} {d : Nat} {σ : S_t} {Q : Option Value → S_t → Prop} {a c L : Nat} (h1 : 2 ^ L ≤ a) (h2 : a < 2 ^ (L + 1)) (hL : L < 4) (hc : L ≤ c) (hc2 : c < 32) (hQ : Q (some (.int (nI (c - L)))) σ) : JE E d m_JIn_numberOfLeadingZeros 61 [(0, .int (nI a)), (1, .int (nI c))] [] σ Q := by
  have ha : a < 16 := Nat.lt_of_lt_of_le h2 (Nat.le_trans (Nat.pow_le_pow_right (by decide) (show L + 1 ≤ 4 by omega)) (by decide))
  refine b_JIn_numberOfLeadingZeros_61 ⟨fun h => ?_, fun h v hv => ?_⟩
  · have h : a < 4 := (nI_ltI (b := 4) (by omega) (by omega)).mp h
    have e : (((nI a).toUInt32 >>> ((1 : Int32).toUInt32 &&& Int32.toUInt32 31)).toInt32) = nI (a / 2) := by
      have := ushr_v (nI a) (k := 1) (by decide)
      rw [un_nI (by omega)] at this; exact this
    have hl : a / 2 = L := by
      have := nlz_small (k := 2) h1 h
      have : L = 0 ∨ L = 1 := by omega
      rcases this with rfl | rfl <;> simp at h1 h2 <;> omega
    rw [e, hl, pk_sub hc]; exact hQ
  · have h : 4 ≤ a := by
      rcases Nat.lt_or_ge a 4 with g | g
      · exact absurd ((nI_ltI (b := 4) (by omega) (by omega)).mpr g) h
      · exact g
    obtain ⟨q1, q2, q3⟩ := nlz_step (k := 2) h1 h2 h
    have e : (((nI a).toUInt32 >>> ((2 : Int32).toUInt32 &&& Int32.toUInt32 31)).toInt32) = nI (a / 4) := by
      have := ushr_v (nI a) (k := 2) (by decide)
      rw [un_nI (by omega)] at this; exact this
    have e2 : (((nI (a / 4)).toUInt32 >>> ((1 : Int32).toUInt32 &&& Int32.toUInt32 31)).toInt32) = nI (a / 4 / 2) := by
      have := ushr_v (nI (a / 4)) (k := 1) (by decide)
      rw [un_nI (by omega)] at this; exact this
    have hl : a / 4 / 2 = L - 2 := by
      have : L = 2 ∨ L = 3 := by omega
      rcases this with rfl | rfl <;> simp at h1 h2 <;> omega
    rw [e, e2, hl] at hv
    subst hv
    have e3 : nI c + (-2 : Int32) = nI (c - 2) := by
      have := pk_sub (a := c) (b := 2) (by omega)
      rw [← this, Int32.sub_eq_add_neg]; rfl
    rw [e3, pk_sub (by omega)]
    rw [show c - 2 - (L - 2) = c - L by omega]; exact hQ
theorem nlz_48 {E : En_t} {d : Nat} {σ : S_t} {Q : Option Value → S_t → Prop} {a c L : Nat} (h1 : 2 ^ L ≤ a) (h2 : a < 2 ^ (L + 1)) (hL : L < 8) (hc : L ≤ c) (hc2 : c < 32) (hQ : Q (some (.int (nI (c - L)))) σ) : JE E d m_JIn_numberOfLeadingZeros 48 [(0, .int (nI a)), (1, .int (nI c))] [] σ Q := by
  have ha : a < 256 := Nat.lt_of_lt_of_le h2 (Nat.le_trans (Nat.pow_le_pow_right (by decide) (show L + 1 ≤ 8 by omega)) (by decide))
  refine b_JIn_numberOfLeadingZeros_48 ⟨fun h => ?_, fun h => ?_⟩
  · have h : a < 16 := (nI_ltI (b := 16) (by omega) (by omega)).mp h
    exact nlz_61 h1 h2 (nlz_small (k := 4) h1 h) hc hc2 hQ
  · have h : 16 ≤ a := by
      rcases Nat.lt_or_ge a 16 with g | g
      · exact absurd ((nI_ltI (b := 16) (by omega) (by omega)).mpr g) h
      · exact g
    obtain ⟨q1, q2, q3⟩ := nlz_step (k := 4) h1 h2 h
    have e : (((nI a).toUInt32 >>> ((4 : Int32).toUInt32 &&& Int32.toUInt32 31)).toInt32) = nI (a / 2 ^ 4) := by
      have := ushr_v (nI a) (k := 4) (by decide)
      rw [un_nI (by omega)] at this; exact this
    have e3 : nI c + (-4 : Int32) = nI (c - 4) := by
      have := pk_sub (a := c) (b := 4) (by omega)
      rw [← this, Int32.sub_eq_add_neg]; rfl
    rw [e, e3]
    exact nlz_61 q2 q3 (by omega) (by omega) (by omega) (by rw [show c - 4 - (L - 4) = c - L by omega]; exact hQ)
theorem nlz_33 {E : En_t} {d : Nat} {σ : S_t} {Q : Option Value → S_t → Prop} {a c L : Nat} (h1 : 2 ^ L ≤ a) (h2 : a < 2 ^ (L + 1)) (hL : L < 16) (hc : L ≤ c) (hc2 : c < 32) (hQ : Q (some (.int (nI (c - L)))) σ) : JE E d m_JIn_numberOfLeadingZeros 33 [(0, .int (nI a)), (1, .int (nI c))] [] σ Q := by
  have ha : a < 65536 := Nat.lt_of_lt_of_le h2 (Nat.le_trans (Nat.pow_le_pow_right (by decide) (show L + 1 ≤ 16 by omega)) (by decide))
  refine b_JIn_numberOfLeadingZeros_33 ⟨fun h => ?_, fun h => ?_⟩
  · have h : a < 256 := (nI_ltI (b := 256) (by omega) (by omega)).mp h
    exact nlz_48 h1 h2 (nlz_small (k := 8) h1 h) hc hc2 hQ
  · have h : 256 ≤ a := by
      rcases Nat.lt_or_ge a 256 with g | g
      · exact absurd ((nI_ltI (b := 256) (by omega) (by omega)).mpr g) h
      · exact g
    obtain ⟨q1, q2, q3⟩ := nlz_step (k := 8) h1 h2 h
    have e : (((nI a).toUInt32 >>> ((8 : Int32).toUInt32 &&& Int32.toUInt32 31)).toInt32) = nI (a / 2 ^ 8) := by
      have := ushr_v (nI a) (k := 8) (by decide)
      rw [un_nI (by omega)] at this; exact this
    have e3 : nI c + (-8 : Int32) = nI (c - 8) := by
      have := pk_sub (a := c) (b := 8) (by omega)
      rw [← this, Int32.sub_eq_add_neg]; rfl
    rw [e, e3]
    exact nlz_48 q2 q3 (by omega) (by omega) (by omega) (by rw [show c - 8 - (L - 8) = c - L by omega]; exact hQ)
/-- the leading zeros of n, 2^L ≤ n < 2^(L+1) -/
theorem c_nlz {E : En_t} {d : Nat} {σ : S_t} {n L : Nat} (h1 : 2 ^ L ≤ n) (h2 : n < 2 ^ (L + 1)) (hL : L < 32) : CI E d m_JIn_numberOfLeadingZeros [.int (nI n)] σ (fun x σ' => x = nI (31 - L) ∧ σ' = σ) := by
  have hn : n < 4294967296 := Nat.lt_of_lt_of_le h2 (Nat.le_trans (Nat.pow_le_pow_right (by decide) (show L + 1 ≤ 32 by omega)) (by decide))
  have hn0 : 0 < n := Nat.lt_of_lt_of_le (pw_pos L) h1
  refine CE.of (L := [(0, .int (nI n))]) rfl (Nat.le_of_ble_eq_true rfl) rfl (b_JIn_numberOfLeadingZeros_0 ⟨fun h => ⟨fun h3 => ?_, fun h3 => ?_⟩, fun h => ⟨fun h3 => ?_, fun h3 => ?_⟩⟩)
  · have hs : n < 2 ^ 31 := by
      rcases Nat.lt_or_ge n (2 ^ 31) with g | g
      · exact g
      · exact absurd h (nI_npos g hn)
    have h3 : n < 65536 := (nI_ltI (b := 65536) (by omega) (by omega)).mp h3
    exact nlz_33 (c := 31) h1 h2 (nlz_small (k := 16) h1 h3) (by omega) (by omega) ⟨_, rfl, rfl, rfl⟩
  · have hs : n < 2 ^ 31 := by
      rcases Nat.lt_or_ge n (2 ^ 31) with g | g
      · exact g
      · exact absurd h (nI_npos g hn)
    have h3 : 65536 ≤ n := by
      rcases Nat.lt_or_ge n 65536 with g | g
      · exact absurd ((nI_ltI (b := 65536) (by omega) (by omega)).mpr g) h3
      · exact g
    obtain ⟨q1, q2, q3⟩ := nlz_step (k := 16) h1 h2 h3
    have e : (((nI n).toUInt32 >>> ((16 : Int32).toUInt32 &&& Int32.toUInt32 31)).toInt32) = nI (n / 2 ^ 16) := by
      have := ushr_v (nI n) (k := 16) (by decide)
      rw [un_nI (by omega)] at this; exact this
    rw [e]
    exact nlz_33 (c := 15) q2 q3 (by omega) (by omega) (by omega) ⟨_, rfl, by rw [show 15 - (L - 16) = 31 - L by omega], rfl⟩
  · have hs : 2 ^ 31 ≤ n := by
      rcases Nat.lt_or_ge n (2 ^ 31) with g | g
      · exact absurd (nI_lt hn0 g) h
      · exact g
    have : L = 31 := by
      have := Nat.lt_of_le_of_lt hs h2
      have := (Nat.pow_lt_pow_iff_right (a := 2) (by decide)).mp this
      omega
    subst this
    exact ⟨_, rfl, rfl, rfl⟩
  · exfalso
    have := un_0.mpr h3
    rw [un_nI hn] at this
    omega

/-! the other methods of Big -/
theorem tc0 : (0 : Int32).toNatClampNeg = 0 := rfl
theorem tc1 : (1 : Int32).toNatClampNeg = 1 := rfl
theorem sext (x : Int32) : ∃ k, k < 4294967296 ∧ x.toInt64 = lN (un x + 4294967296 * k) := by
  have h1 := un_lt x
  have e : x.toInt64.toBitVec.toNat = (if x.toBitVec.msb then 18446744069414584320 else 0) + un x := by
    rw [Int32.toBitVec_toInt64, BitVec.toNat_signExtend]
    unfold un
    split <;> simp [BitVec.toNat_setWidth]
    · omega
    · omega
  refine ⟨if x.toBitVec.msb then 4294967295 else 0, by split <;> omega, wb_inj (BitVec.eq_of_toNat_eq ?_)⟩
  rw [e, wb_tn (by split <;> omega)]
  split <;> omega
theorem shl32x (x : Int32) : x.toInt64 <<< ((32 : Int32).toInt64 &&& 63) = lN (un x * 4294967296) := by
  obtain ⟨k, hk, e⟩ := sext x
  rw [e, shl32, wb_mod, wb_mod (un x * 4294967296)]
  exact congrArg lN (by omega)
theorem c_isZero {E : En_t} {d b V : Nat} {r : Bool} {σ : S_t} (hk : kindP b = 5) (h : BigAt σ b V r) : CI E d m_Bi_isZero [pv E b] σ (fun x σ' => x = (if V = 0 then 1 else 0) ∧ σ' = σ) := by
  obtain ⟨n, h1, h2, h3, h4, h5⟩ := h
  have hz : V = 0 ↔ n = 0 := by
    constructor
    · intro e
      rcases h4 with h | h
      · exact h
      · have := pw_pos (32 * (n - 1)); omega
    · intro e; subst e; exact h3.symm
  refine CE.of (L := [(0, pv E b)]) rfl (Nat.le_of_ble_eq_true rfl) rfl (b_Bi_isZero_0 hk ⟨fun h => ?_, fun h => ?_⟩)
  · exact ⟨_, rfl, by rw [if_neg (fun e => h (by rw [h1, hz.mp e]; rfl))], rfl⟩
  · rw [h1] at h
    have : n = 0 := (nI_eq (b := 0) (by omega) (by omega)).mp h
    exact ⟨_, rfl, by rw [if_pos (hz.mpr this)], rfl⟩
theorem c_bitLength {E : En_t} {d b V K : Nat} {r : Bool} {σ : S_t} (hk : kindP b = 5) (h : BigAt σ b V r) (hK1 : 2 ^ K ≤ V) (hK2 : V < 2 ^ (K + 1)) : CI E (d + 1) m_Bi_bitLength [pv E b] σ (fun x σ' => x = nI (K + 1) ∧ σ' = σ) := by
  obtain ⟨n, h1, h2, h3, h4, h5⟩ := h
  have hV : 0 < V := Nat.lt_of_lt_of_le (pw_pos K) hK1
  have hn0 : n ≠ 0 := by rintro rfl; rw [lsum] at h3; omega
  obtain ⟨k, rfl⟩ : ∃ k, n = k + 1 := ⟨n - 1, by omega⟩
  have h4 : 2 ^ (32 * k) ≤ V := by rcases h4 with h | h
                                   · omega
                                   · simpa using h
  have hlt := lsum_lt (gI σ (b + 1)) k
  have hu := un_lt (gI σ (b + 1) k)
  rw [lsum] at h3
  have hd : V / 2 ^ (32 * k) = un (gI σ (b + 1) k) := by
    rw [← h3, Nat.mul_comm (un _), Nat.add_mul_div_left _ _ (pw_pos _), Nat.div_eq_of_lt hlt, Nat.zero_add]
  obtain ⟨q1, q2, q3⟩ := nlz_step hK1 hK2 h4
  rw [hd] at q2 q3
  have hL : K - 32 * k < 32 := nlz_small (k := 32) q2 hu
  refine CE.of (L := [(0, pv E b)]) rfl (Nat.le_of_ble_eq_true rfl) rfl (b_Bi_bitLength_0 hk ⟨fun _ => ⟨?_, ?_⟩, fun hh => ?_⟩)
  · rw [h1, nI_m1]; exact vin (by omega) (by omega)
  · rw [h1, nI_m1, nI_clamp (by omega), ← nI_un (gI σ (b + 1) k)]
    refine (c_nlz q2 q3 hL).mono (fun x s hx => ?_)
    obtain ⟨rfl, rfl⟩ := hx
    refine ⟨_, rfl, ?_, rfl⟩
    have e : (32 : Int32) * nI (k + 1) = nI (32 * (k + 1)) := pk_mul 32 (k + 1)
    rw [e, pk_sub (by omega)]
    congr 1; omega
  · exfalso
    rw [h1] at hh
    have := (nI_eq (a := k + 1) (b := 0) (by omega) (by omega)).mp hh
    omega
theorem c_bitLength0 {E : En_t} {d b : Nat} {r : Bool} {σ : S_t} (hk : kindP b = 5) (h : BigAt σ b 0 r) : CI E (d + 1) m_Bi_bitLength [pv E b] σ (fun x σ' => x = nI 0 ∧ σ' = σ) := by
  obtain ⟨n, h1, h2, h3, h4, h5⟩ := h
  have hn : n = 0 := by
    rcases h4 with h | h
    · exact h
    · have := pw_pos (32 * (n - 1)); omega
  subst hn
  refine CE.of (L := [(0, pv E b)]) rfl (Nat.le_of_ble_eq_true rfl) rfl (b_Bi_bitLength_0 hk ⟨fun hh => absurd h1 hh, fun hh => ⟨_, rfl, rfl, rfl⟩⟩)
theorem vin0 : vp_in (0 : Int32) 96 := vin (n := 0) (by decide) (by decide)
theorem vin1 : vp_in (1 : Int32) 96 := vin (n := 1) (by decide) (by decide)
theorem lsum_low' (f : Nat → Int32) : ∀ m : Nat, ∃ X, lsum f (m + 2) = un (f 0) + un (f 1) * 4294967296 + 18446744073709551616 * X
  | 0 => ⟨0, by
    rw [lsum, lsum, lsum, show (2 : Nat) ^ (32 * 0) = 1 by decide, show (2 : Nat) ^ (32 * (0 + 1)) = 4294967296 by decide]
    omega⟩
  | m + 1 => by
    obtain ⟨X, e⟩ := lsum_low' f m
    refine ⟨X + un (f (m + 2)) * 2 ^ (32 * m), ?_⟩
    rw [lsum, e, pw32, pw32]
    generalize 2 ^ (32 * m) = P
    have : un (f (m + 2)) * (4294967296 * (4294967296 * P)) = 18446744073709551616 * (un (f (m + 2)) * P) := by
      rw [← Nat.mul_assoc 4294967296, Nat.mul_left_comm]
    rw [this]
    omega
theorem lsum_low (f : Nat → Int32) {n : Nat} (h : 2 ≤ n) : ∃ X, lsum f n = un (f 0) + un (f 1) * 4294967296 + 18446744073709551616 * X := by
  obtain ⟨m, rfl⟩ : ∃ m, n = m + 2 := ⟨n - 2, by omega⟩
  exact lsum_low' f m
theorem c_low {E : En_t} {d b V : Nat} {r : Bool} {σ : S_t} (hk : kindP b = 5) (h : BigAt σ b V r) : CL E d m_Bi_low [pv E b] σ (fun x σ' => x = lN (V % 2 ^ 64) ∧ σ' = σ) := by
  obtain ⟨n, h1, h2, h3, h4, h5⟩ := h
  have hu0 := un_lt (gI σ (b + 1) 0)
  have hu1 := un_lt (gI σ (b + 1) 1)
  refine CE.of (L := [(0, pv E b)]) rfl (Nat.le_of_ble_eq_true rfl) rfl (b_Bi_low_0 hk ⟨fun hh => ?_, fun hh => ⟨vin0, ?_⟩⟩)
  · have hn : n = 0 := by
      rw [h1] at hh
      rcases Nat.eq_zero_or_pos n with g | g
      · exact g
      · exact absurd hh (nI_nle g (by omega))
    subst hn
    refine b_Bi_low_22 hk ⟨fun _ => ?_, fun hh => absurd (by rw [h1]; decide) hh⟩
    rw [lsum] at h3
    exact ⟨_, rfl, by rw [← h3]; rfl, rfl⟩
  · rw [tc0, and_low]
    refine b_Bi_low_22 hk ⟨fun h6 => ?_, fun h6 => ⟨vin1, ?_⟩⟩
    · have hn : n = 1 := by
        rw [h1] at h6 hh
        have a1 : n ≤ 1 := (nI_leI (b := 1) (by omega) (by omega)).mp h6
        have a2 : n ≠ 0 := by rintro rfl; exact hh (Int32.le_refl _)
        omega
      subst hn
      refine ⟨_, rfl, ?_, rfl⟩
      rw [← h3]; simp only [lsum]
      congr 1; omega
    · have hn : 2 ≤ n := by
        rw [h1] at h6
        rcases Nat.lt_or_ge n 2 with g | g
        · exact absurd ((nI_leI (b := 1) (by omega) (by omega)).mpr (by omega)) h6
        · exact g
      obtain ⟨X, e⟩ := lsum_low (gI σ (b + 1)) hn
      rw [tc1, shl32x]
      refine ⟨_, rfl, ?_, rfl⟩
      rw [g_or' (k := 32) (p := 4294967296) rfl hu0 (by omega), ← h3, e]
      congr 1; omega
theorem c_set {E : En_t} {d b V : Nat} {σ : S_t} (hk : kindP b = 5) (hV : V < 2 ^ 64) : CV E d m_Bi_set [pv E b, .long (lN V)] σ (fun σ' => Fr (BP b) σ σ' ∧ BigAt σ' b V false) := by
  refine CE.of (L := [(0, pv E b), (1, .long (lN V))]) rfl (Nat.le_of_ble_eq_true rfl) rfl (b_Bi_set_0 hk ⟨vin0, vin1, fun σ1 e1 => ⟨vin1, ?_⟩⟩)
  rw [shr32 hV, lN_low, lN_low, tc0, tc1, Nat.mod_eq_of_lt (show V / 2 ^ 32 < 4294967296 by omega)] at e1
  rw [tc0, tc1]
  have hF : Fr (BP b) σ σ1 := by rw [e1]; exact ((Fr.rf.si (Or.inr rfl)).si (Or.inr rfl))
  have g0 : gI σ1 (b + 1) 0 = nI (V % 4294967296) := by rw [e1, gI_sI_n (Or.inr (by decide)), gI_sI_s]
  have g1 : gI σ1 (b + 1) 1 = nI (V / 2 ^ 32) := by rw [e1, gI_sI_s]
  have z0 : un (gI σ1 (b + 1) 0) = V % 4294967296 := by rw [g0, un_nI (by omega)]
  have z1 : un (gI σ1 (b + 1) 1) = V / 2 ^ 32 := by rw [g1, un_nI (by omega)]
  have fin : ∀ m : Nat, m ≤ 2 → lsum (gI σ1 (b + 1)) m = V → (m = 0 ∨ 2 ^ (32 * (m - 1)) ≤ V) → Fr (BP b) σ (sI (sI σ1 b 1 (nI m)) b 2 0) ∧ BigAt (sI (sI σ1 b 1 (nI m)) b 2 0) b V false := by
    intro m hm hs hno
    refine ⟨(hF.si (Or.inl rfl)).si (Or.inl rfl), m, by rw [gI_sI_n (Or.inr (by decide)), gI_sI_s], by omega, ?_, hno, by rw [gI_sI_s]; rfl⟩
    rw [← hs]
    exact lsum_ext (fun j hj => by rw [gI_sI_n (Or.inl (by omega)), gI_sI_n (Or.inl (by omega))])
  refine ⟨fun h1 => ⟨vin0, fun h2 => ?_, fun h2 => ?_⟩, fun h1 => ?_⟩
  · have a1 := un_0.mpr h1
    have a2 := un_0.mpr h2
    exact ⟨rfl, fin 0 (by omega) (by rw [lsum]; omega) (Or.inl rfl)⟩
  · have a1 := un_0.mpr h1
    have a2 : un (gI σ1 (b + 1) 0) ≠ 0 := fun e => h2 (un_0.mp e)
    exact ⟨rfl, fin 1 (by omega) (by simp only [lsum]; omega) (Or.inr (by simp; omega))⟩
  · have a1 : un (gI σ1 (b + 1) 1) ≠ 0 := fun e => h1 (un_0.mp e)
    exact ⟨rfl, fin 2 (by omega) (by simp only [lsum]; omega) (Or.inr (by simp; omega))⟩
theorem c_drop {E : En_t} {d b V n : Nat} {r : Bool} {σ : S_t} (hk : kindP b = 5) (h1 : gI σ b 1 = nI n) (h2 : n ≤ 96) (h3 : lsum (gI σ (b + 1)) n = V) (h4 : n ≤ 1 ∨ 2 ^ (32 * (n - 2)) ≤ V) (h5 : gI σ b 2 = bI r) : CV E d m_Bi_dropZeroLimb [pv E b] σ (fun σ' => Fr (BP b) σ σ' ∧ BigAt σ' b V r) := by
  refine CE.of (L := [(0, pv E b)]) rfl (Nat.le_of_ble_eq_true rfl) rfl (b_Bi_dropZeroLimb_0 hk ⟨fun hh => ?_, fun hh => ?_⟩)
  · have hn : n = 0 := by
      rw [h1] at hh
      rcases Nat.eq_zero_or_pos n with g | g
      · exact g
      · exact absurd hh (nI_nle g (by omega))
    exact ⟨rfl, Fr.rf, n, h1, h2, h3, Or.inl hn, h5⟩
  · have hn0 : n ≠ 0 := by rintro rfl; exact hh (by rw [h1]; exact Int32.le_refl _)
    obtain ⟨k, rfl⟩ : ∃ k, n = k + 1 := ⟨n - 1, by omega⟩
    rw [h1, nI_m1, nI_clamp (by omega)]
    rw [lsum] at h3
    refine ⟨vin (by omega) (by omega), fun h6 => ?_, fun h6 => ?_⟩
    · refine ⟨rfl, Fr.rf, k + 1, h1, h2, by rw [lsum]; exact h3, Or.inr ?_, h5⟩
      have : 1 ≤ un (gI σ (b + 1) k) := Nat.pos_of_ne_zero (fun e => h6 (un_0.mp e))
      have := Nat.mul_le_mul_right (2 ^ (32 * k)) this
      simp only [Nat.add_sub_cancel]
      omega
    · have z := un_0.mpr h6
      rw [z, Nat.zero_mul, Nat.add_zero] at h3
      refine ⟨rfl, Fr.rf.si (Or.inl rfl), k, gI_sI_s _ _ _ _, by omega, ?_, ?_, by rw [gI_sI_n (Or.inr (by decide))]; exact h5⟩
      · rw [← h3]; exact lsum_ext (fun j hj => gI_sI_n (Or.inl (by omega)))
      · rcases h4 with h | h
        · exact Or.inl (by omega)
        · exact Or.inr (by simpa using h)
