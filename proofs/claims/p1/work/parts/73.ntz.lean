/-! numberOfTrailingZeros -/
def us (x : Int32) (k : Int32) : Int32 := (x.toUInt32 >>> (k.toUInt32 &&& Int32.toUInt32 31)).toInt32
def tz62 (y n : Int32) : Int32 := if y ≤ 4 then n + us y 1 else (n + 2) + us (us y 2) 1
def tz49 (y n : Int32) : Int32 := if y ≤ 16 then tz62 y n else tz62 (us y 4) (n + 4)
def tz34 (y n : Int32) : Int32 := if y ≤ 256 then tz49 y n else tz49 (us y 8) (n + 8)
def tz0 (y : Int32) : Int32 := if 0 < y then (if y ≤ 65536 then tz34 y 1 else tz34 (us y 16) (1 + 16)) else y &&& 32
theorem tz0_tab : ∀ e : Nat, e < 32 → tz0 (nI (2 ^ e - 1)) = nI e := by decide +kernel
theorem ntz_walk {E : En_t} {d : Nat} {σ : S_t} {x : Int32} : CI E d m_JIn_numberOfTrailingZeros [.int x] σ (fun r σ' => r = tz0 ((x ^^^ (-1 : Int32)) &&& (x - (1 : Int32))) ∧ σ' = σ) := by
  refine CE.of (L := [(0, .int x)]) rfl (Nat.le_of_ble_eq_true rfl) rfl (b_JIn_numberOfTrailingZeros_0 ?_)
  generalize (x ^^^ (-1 : Int32)) &&& (x - (1 : Int32)) = y
  have a62 : ∀ z n r, r = tz62 z n → JE E d m_JIn_numberOfTrailingZeros 62 [(0, .int z), (1, .int n)] [] σ (fun q σ' => ∃ s, q = some (.int s) ∧ s = r ∧ σ' = σ) := by
    intro z n r hr
    unfold tz62 at hr
    refine b_JIn_numberOfTrailingZeros_62 ⟨fun g => ⟨_, rfl, ?_, rfl⟩, fun g v1 hv => ⟨_, rfl, ?_, rfl⟩⟩
    · rw [if_pos g] at hr; rw [hr]; rfl
    · rw [if_neg g] at hr; rw [hr, hv]; rfl
  have a49 : ∀ z n r, r = tz49 z n → JE E d m_JIn_numberOfTrailingZeros 49 [(0, .int z), (1, .int n)] [] σ (fun q σ' => ∃ s, q = some (.int s) ∧ s = r ∧ σ' = σ) := by
    intro z n r hr
    unfold tz49 at hr
    refine b_JIn_numberOfTrailingZeros_49 ⟨fun g => ?_, fun g => ?_⟩
    · rw [if_pos g] at hr; exact a62 _ _ _ hr
    · rw [if_neg g] at hr; exact a62 _ _ _ hr
  have a34 : ∀ z n r, r = tz34 z n → JE E d m_JIn_numberOfTrailingZeros 34 [(0, .int z), (1, .int n)] [] σ (fun q σ' => ∃ s, q = some (.int s) ∧ s = r ∧ σ' = σ) := by
    intro z n r hr
    unfold tz34 at hr
    refine b_JIn_numberOfTrailingZeros_34 ⟨fun g => ?_, fun g => ?_⟩
    · rw [if_pos g] at hr; exact a49 _ _ _ hr
    · rw [if_neg g] at hr; exact a49 _ _ _ hr
  refine ⟨fun g => ⟨fun g2 => ?_, fun g2 v1 hv => ?_⟩, fun g => ⟨_, rfl, ?_, rfl⟩⟩
  · exact a34 _ _ _ (by unfold tz0; rw [if_pos g, if_pos g2])
  · exact a34 _ _ _ (by unfold tz0; rw [if_pos g, if_neg g2, hv]; rfl)
  · unfold tz0; rw [if_neg g]
theorem tz_bits {k e m : Nat} (hm : m = 2 ^ e * (2 * k + 1)) (h32 : m < 2 ^ 32) : (2 ^ 32 - (m + 1)) &&& (m - 1) = 2 ^ e - 1 := by
  have hp := pw_pos e
  have e0 : m = 2 ^ e * (2 * k + 1) + 0 := hm
  have e1 : m - 1 = 2 ^ e * (2 * k) + (2 ^ e - 1) := by
    rw [hm, Nat.mul_add, Nat.mul_one]; omega
  apply Nat.eq_of_testBit_eq
  intro i
  rw [Nat.testBit_and, Nat.testBit_two_pow_sub_succ h32, Nat.testBit_two_pow_sub_one, e1, Nat.testBit_two_pow_mul_add _ (by omega)]
  have hbm : m.testBit i = if i < e then (0 : Nat).testBit i else (2 * k + 1).testBit (i - e) := by
    rw [e0]; exact Nat.testBit_two_pow_mul_add _ hp i
  rw [hbm]
  by_cases h : i < e
  · rw [if_pos h, if_pos h, decide_eq_true h, Nat.testBit_two_pow_sub_one, decide_eq_true h, Nat.zero_testBit]
    have : i < 32 := by
      have h2 : 2 ^ e < 2 ^ 32 := Nat.lt_of_le_of_lt (by rw [hm]; exact Nat.le_mul_of_pos_right _ (by omega)) h32
      have := (Nat.pow_lt_pow_iff_right (a := 2) (by decide)).mp h2
      omega
    rw [decide_eq_true this]; rfl
  · rw [if_neg h, if_neg h, decide_eq_false h]
    rcases Nat.eq_zero_or_pos (i - e) with g | g
    · rw [g, Nat.testBit_zero, Nat.testBit_zero, decide_eq_true (show (2 * k + 1) % 2 = 1 by omega)]
      rw [Bool.not_true, Bool.and_false, Bool.false_and]
    · obtain ⟨t, ht⟩ : ∃ t, i - e = t + 1 := ⟨i - e - 1, by omega⟩
      rw [ht, Nat.testBit_succ, Nat.testBit_succ, show (2 * k + 1) / 2 = k by omega, show (2 * k) / 2 = k by omega]
      cases k.testBit t <;> simp
theorem tz_int {k e m : Nat} (hm : m = 2 ^ e * (2 * k + 1)) (h32 : m < 2 ^ 32) : (nI m ^^^ (-1 : Int32)) &&& (nI m - (1 : Int32)) = nI (2 ^ e - 1) := by
  have hm0 : 0 < m := by rw [hm]; exact Nat.mul_pos (pw_pos e) (by omega)
  apply Int32.toBitVec_inj.mp
  apply BitVec.eq_of_toNat_eq
  have a1 : (nI m - (1 : Int32)).toBitVec.toNat = m - 1 := by
    have : nI m - (1 : Int32) = nI (m - 1) := by
      obtain ⟨t, rfl⟩ : ∃ t, m = t + 1 := ⟨m - 1, by omega⟩
      exact nI_pred t
    rw [this]
    show (BitVec.ofNat 32 (m - 1)).toNat = m - 1
    rw [BitVec.toNat_ofNat]; exact Nat.mod_eq_of_lt (by omega)
  have a2 : (nI m ^^^ (-1 : Int32)).toBitVec.toNat = 2 ^ 32 - (m + 1) := by
    have : (nI m ^^^ (-1 : Int32)).toBitVec = ~~~ (BitVec.ofNat 32 m) := by
      show (BitVec.ofNat 32 m) ^^^ BitVec.allOnes 32 = _
      exact BitVec.xor_allOnes
    rw [this, BitVec.toNat_not, BitVec.toNat_ofNat, Nat.mod_eq_of_lt h32]
    omega
  have a3 : (nI (2 ^ e - 1)).toBitVec.toNat = 2 ^ e - 1 := by
    have h2 : 2 ^ e < 2 ^ 32 := Nat.lt_of_le_of_lt (by rw [hm]; exact Nat.le_mul_of_pos_right _ (by omega)) h32
    show (BitVec.ofNat 32 (2 ^ e - 1)).toNat = 2 ^ e - 1
    rw [BitVec.toNat_ofNat]; exact Nat.mod_eq_of_lt (by omega)
  rw [a3, ← tz_bits hm h32, ← a1, ← a2]
  rfl
theorem c_ntzI {E : En_t} {d : Nat} {σ : S_t} {k e m : Nat} (hm : m = 2 ^ e * (2 * k + 1)) (h32 : m < 2 ^ 32) : CI E d m_JIn_numberOfTrailingZeros [.int (nI m)] σ (fun r σ' => r = nI e ∧ σ' = σ) := by
  refine ntz_walk.mono (fun r σ' hq => ?_)
  rw [tz_int hm h32] at hq
  have h2 : 2 ^ e < 2 ^ 32 := Nat.lt_of_le_of_lt (by rw [hm]; exact Nat.le_mul_of_pos_right _ (by omega)) h32
  have := (Nat.pow_lt_pow_iff_right (a := 2) (by decide)).mp h2
  rw [tz0_tab e this] at hq
  exact hq
theorem odd_part : ∀ {f : Nat}, 0 < f → ∃ e k, f = 2 ^ e * (2 * k + 1) := by
  intro f
  induction f using Nat.strongRecOn with
  | _ f ih =>
    intro hf
    by_cases h : f % 2 = 1
    · exact ⟨0, f / 2, by rw [Nat.pow_zero, Nat.one_mul]; omega⟩
    · obtain ⟨e, k, h1⟩ := ih (f / 2) (by omega) (by omega)
      refine ⟨e + 1, k, ?_⟩
      rw [Nat.pow_succ, Nat.mul_right_comm, ← h1]
      omega
theorem c_ntzL {E : En_t} {d : Nat} {σ : S_t} {k e f : Nat} (hf : f = 2 ^ e * (2 * k + 1)) (h63 : f < 2 ^ 63) : CI E (d + 1) m_JLo_numberOfTrailingZeros [.long (lN f)] σ (fun r σ' => r = nI e ∧ σ' = σ) := by
  refine CE.of (L := [(0, .long (lN f))]) rfl (Nat.le_of_ble_eq_true rfl) rfl (b_JLo_numberOfTrailingZeros_0 ?_)
  rw [lN_low]
  have hhi : ((lN f).toUInt64 >>> ((32 : Int32).toInt64.toUInt64 &&& Int64.toUInt64 63)).toInt64 = lN (f / 2 ^ 32) := wb_shr (k := 32) (by omega) (by decide)
  rw [hhi, lN_i]
  rcases Nat.lt_or_ge e 32 with g | g
  · have h1 : f % 4294967296 = 2 ^ e * (2 * ((2 * k + 1) % 2 ^ (32 - e) / 2) + 1) := by
      have e1 : (4294967296 : Nat) = 2 ^ e * 2 ^ (32 - e) := by rw [← Nat.pow_add, show e + (32 - e) = 32 by omega]
      rw [hf, e1, Nat.mul_mod_mul_left]
      congr 1
      obtain ⟨t, ht⟩ : ∃ t, 32 - e = t + 1 := ⟨31 - e, by omega⟩
      rw [ht, Nat.pow_succ]
      have : (2 * k + 1) % (2 ^ t * 2) % 2 = 1 := by
        rw [Nat.mod_mul_left_mod]; omega
      omega
    refine ⟨fun _ => (c_ntzI h1 (by omega)).mono (fun r σ' hq => ⟨_, rfl, hq.1, hq.2⟩), fun q => ?_⟩
    exfalso
    have h2 : 0 < f % 4294967296 := by rw [h1]; exact Nat.mul_pos (pw_pos e) (by omega)
    have h3 : f % 4294967296 < 4294967296 := Nat.mod_lt _ (by decide)
    generalize f % 4294967296 = m at *
    have := congrArg (fun x : Int32 => x.toBitVec.toNat) q
    have a : (nI m).toBitVec.toNat = m := by
      show (BitVec.ofNat 32 m).toNat = m
      rw [BitVec.toNat_ofNat]; exact Nat.mod_eq_of_lt h3
    have b : (Int32.toBitVec 0).toNat = 0 := rfl
    have c : (nI m).toBitVec.toNat = (Int32.toBitVec 0).toNat := this
    rw [a, b] at c
    omega
  · obtain ⟨t, rfl⟩ : ∃ t, e = 32 + t := ⟨e - 32, by omega⟩
    have h1 : f = 4294967296 * (2 ^ t * (2 * k + 1)) := by
      rw [hf, Nat.pow_add, Nat.mul_assoc]
    have h2 : f % 4294967296 = 0 := by rw [h1]; exact Nat.mul_mod_right _ _
    have h3 : f / 2 ^ 32 = 2 ^ t * (2 * k + 1) := by rw [h1]; exact Nat.mul_div_cancel_left _ (by decide)
    rw [h2]
    refine ⟨fun q => absurd rfl q, fun _ => ?_⟩
    refine (c_ntzI h3 (by omega)).mono (fun r σ' hq => ⟨_, rfl, ?_, hq.2⟩)
    rw [hq.1]
    exact nI_add 32 t
