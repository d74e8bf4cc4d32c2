theorem n60B : ¬ BP 61 60 := by rintro (h | h) <;> exact absurd h (by decide)
theorem fa_fin {E : En_t} {d N a : Nat} {tz : Int} (σ0 : S_t) {τ : S_t} (ha : a ≤ 809) (hN : N < 10 ^ (810 - a)) (hF : Fs PB σ0 τ) (hg : ∀ k, a ≤ k → k < 810 → gI τ 60 k = nI (dgN N k)) :
    JE E (d + 1) m_Pr_findAllDigits 144 [(0, pv E 59), (5, .int (zI tz)), (6, .int (nI a))] [] τ (fun q σ' => q = none ∧ Fs PB σ0 σ' ∧ ∃ T c, PrAt σ' T c (c + tz) ∧ 1 ≤ c ∧ c ≤ 810 ∧ (T 0 ≠ 0 ∨ (N = 0 ∧ c = 1)) ∧ dval T c = N) := by
  have hd : ∀ k, dgN N k < 10 := fun k => Nat.mod_lt _ (by decide)
  refine b_Pr_findAllDigits_144 ((c_moveToFront (g := dgN N) ha (fun k k1 k2 => ⟨hg k k1 k2, hd k⟩)).mono (fun σ1 hq => ?_))
  obtain ⟨F1, s0, a1, a2, a3, a4, a5, a6⟩ := hq
  have hN2 := zr_top a1 a2 hN a3
  have hv := dv_all a2 hN2
  refine ⟨rfl, (hF.tr (F1.mono (fun p k h => Or.inl h))).si (Or.inl PM593), fun i => dgN N (s0 + i), 810 - s0, ⟨?_, ?_, ?_⟩, by omega, by omega, ?_, hv⟩
  · rw [gI_sI_n (Or.inr (by decide))]; exact a5
  · rw [gI_sI_s, a5, ← zI_nI, zI_add]
  · intro i hi
    rw [gI_sI_n (Or.inl (by decide))]
    exact ⟨a6 i hi, hd _⟩
  · rcases a4 with q | q
    · by_cases z : dgN N s0 = 0
      · refine Or.inr ⟨?_, by omega⟩
        rw [← hv, q]
        have e : dval (fun i => dgN N (809 + i)) (810 - 809) = 0 * 10 + dgN N (809 + 0) := rfl
        rw [q] at z
        rw [e, Nat.add_zero, z]
      · exact Or.inl z
    · exact Or.inl q
/-- the digits, from the last on -/
theorem fa_out {E : En_t} {d N : Nat} {tz : Int} {r : Bool} (σ0 : S_t) (hN : N < 10 ^ 809) :
    ∀ (i : Nat) (τ : S_t), i < 90 → Fs PB σ0 τ → BigAt τ 61 (N / 10 ^ (810 - 9 * (i + 1))) r → (∀ k, 9 * (i + 1) ≤ k → k < 810 → gI τ 60 k = nI (dgN N k)) →
    JE E (d + 1) m_Pr_findAllDigits 74 [(0, pv E 59), (5, .int (zI tz)), (6, .int (nI (9 * (i + 1))))] [] τ (fun q σ' => q = none ∧ Fs PB σ0 σ' ∧ ∃ T c, PrAt σ' T c (c + tz) ∧ 1 ≤ c ∧ c ≤ 810 ∧ (T 0 ≠ 0 ∨ (N = 0 ∧ c = 1)) ∧ dval T c = N) := by
  have step : ∀ (i : Nat) (τ : S_t), i < 90 → Fs PB σ0 τ → BigAt τ 61 (N / 10 ^ (810 - 9 * (i + 1))) r → (∀ k, 9 * (i + 1) ≤ k → k < 810 → gI τ 60 k = nI (dgN N k)) →
      (0 < i → ∀ τ2, Fs PB σ0 τ2 → BigAt τ2 61 (N / 10 ^ (810 - 9 * i)) r → (∀ k, 9 * i ≤ k → k < 810 → gI τ2 60 k = nI (dgN N k)) → JE E (d + 1) m_Pr_findAllDigits 74 [(0, pv E 59), (5, .int (zI tz)), (6, .int (nI (9 * i)))] [] τ2 (fun q σ' => q = none ∧ Fs PB σ0 σ' ∧ ∃ T c, PrAt σ' T c (c + tz) ∧ 1 ≤ c ∧ c ≤ 810 ∧ (T 0 ≠ 0 ∨ (N = 0 ∧ c = 1)) ∧ dval T c = N)) →
      JE E (d + 1) m_Pr_findAllDigits 74 [(0, pv E 59), (5, .int (zI tz)), (6, .int (nI (9 * (i + 1))))] [] τ (fun q σ' => q = none ∧ Fs PB σ0 σ' ∧ ∃ T c, PrAt σ' T c (c + tz) ∧ 1 ≤ c ∧ c ≤ 810 ∧ (T 0 ≠ 0 ∨ (N = 0 ∧ c = 1)) ∧ dval T c = N) := by
    intro i τ hi hF hB hg next
    refine b_Pr_findAllDigits_74 ((c_divide (dv := 1000000000) k61 hB (by decide) (by decide)).mono (fun x σ1 hq => ?_))
    obtain ⟨hx, F1, B1⟩ := hq
    rw [hx]
    rw [Nat.div_div_eq_div_mul, show (1000000000 : Nat) = 10 ^ 9 from rfl, ← Nat.pow_add, show 810 - 9 * (i + 1) + 9 = 810 - 9 * i by omega] at B1
    have G1 : Fs PB σ0 σ1 := hF.tr (Fr_Fs F1 (fun p k h => Or.inr h))
    have hin := fa_in (E := E) (d := d) (N := N) (a0 := 9 * (i + 1)) (W := N / 10 ^ (810 - 9 * (i + 1)) % 1000000000) (tz := tz) (Q := fun q σ' => q = none ∧ Fs PB σ0 σ' ∧ ∃ T c, PrAt σ' T c (c + tz) ∧ 1 ≤ c ∧ c ≤ 810 ∧ (T 0 ≠ 0 ∨ (N = 0 ∧ c = 1)) ∧ dval T c = N) σ1 (by omega) (by omega) rfl (fun τ2 F2 hB2 hg2 => ?_) 9 0 σ1 (by omega) Fs.rf (fun r V h => h) (fun k k1 k2 => by rw [F1.1 60 k n60B]; exact hg k k1 k2)
    · rw [Nat.pow_zero, Nat.div_one] at hin
      exact hin
    · have B2 := hB2 r _ B1
      rw [show 9 * (i + 1) - 9 = 9 * i by omega] at hg2 ⊢
      refine b_Pr_findAllDigits_129 ((c_isZero k61 B2).mono (fun y σ3 hq3 => ?_))
      rw [hq3.1, hq3.2]
      by_cases z : N / 10 ^ (810 - 9 * i) = 0
      · rw [if_pos z]
        exact ⟨fun _ => fa_fin σ0 (by omega) ((Nat.div_eq_zero_iff_lt (p10 _)).mp z) (G1.tr F2) hg2, fun q => absurd q (by decide)⟩
      · rw [if_neg z]
        refine ⟨fun q => absurd rfl q, fun _ => ?_⟩
        have hi0 : 0 < i := by
          rcases Nat.eq_zero_or_pos i with q | q
          · exfalso
            apply z
            rw [q]
            exact Nat.div_eq_of_lt (Nat.lt_of_lt_of_le hN (Nat.pow_le_pow_right (by decide) (by omega)))
          · exact q
        exact ⟨fun _ => next hi0 τ2 (G1.tr F2) B2 hg2, fun q => absurd (nI_lt (a := 0) (by omega) (by omega)) q⟩
  intro i
  induction i with
  | zero => exact fun τ hi hF hB hg => step 0 τ hi hF hB hg (fun q => absurd q (Nat.lt_irrefl 0))
  | succ i ih => exact fun τ hi hF hB hg => step (i + 1) τ hi hF hB hg (fun _ τ2 F2 B2 g2 => ih τ2 (by omega) F2 B2 g2)
theorem fd_sh {x e f : Nat} {t : Int} (hf : f = 2 ^ e * x) (h53 : f < 2 ^ 53) (ht : t ≤ 971 + e) : x * 2 ^ t.toNat < 2 ^ 1030 := by
  have h1 : x * 2 ^ t.toNat ≤ x * 2 ^ (971 + e) := Nat.mul_le_mul_left _ (Nat.pow_le_pow_right (by decide) (by omega))
  have h2 : x * 2 ^ (971 + e) = f * 2 ^ 971 := by rw [hf, Nat.pow_add]; generalize (2 : Nat) ^ 971 = A; ac_rfl
  have h3 : f * 2 ^ 971 < 2 ^ 53 * 2 ^ 971 := Nat.mul_lt_mul_of_pos_right h53 (pw_pos _)
  rw [← Nat.pow_add] at h3
  exact Nat.lt_of_lt_of_le (Nat.lt_of_le_of_lt (by rw [← h2]; exact h1) h3) (Nat.pow_le_pow_right (by decide) (by omega))
theorem mn_0 {t : Int} (h1 : -10000 ≤ t) (h2 : t ≤ 10000) : mnI (0 : Int32) (zI t) = zI (min 0 t) := by
  unfold mnI
  have c : zI t < (0 : Int32) ↔ t < 0 := zI_lt (b := 0) (by omega) (by omega) (by omega) (by omega)
  by_cases g : t < 0
  · rw [if_pos (c.mpr g)]; exact congrArg zI (by omega)
  · rw [if_neg (fun q => g (c.mp q)), show min 0 t = 0 by omega]; rfl
theorem b809 : 10 ^ 809 ≤ 2 ^ 3040 := by decide +kernel
theorem c_findAllDigits {E : En_t} {d b : Nat} {σ : S_t} (hfin : b < 9218868437227405312) : CV E (d + 3) m_Pr_findAllDigits [pv E 59, .long (lN (mB b)), .int (zI ((qB b : Int) - 1074))] σ (fun σ' => Fs PB σ σ' ∧ ∃ T c p, PrAt σ' T c p ∧ 1 ≤ c ∧ c ≤ 810 ∧ -3000 ≤ p ∧ p ≤ 3000 ∧ ((mB b = 0 ∧ c = 1 ∧ T 0 = 0 ∧ p = 1) ∨ (0 < mB b ∧ T 0 ≠ 0 ∧ SV (dval T c) c p = FV b))) := by
  have hm := mB_lt b
  have hq : qB b ≤ 2045 := by
    unfold qB
    rw [show (2 : Nat) ^ 52 = 4503599627370496 from rfl]
    split <;> omega
  refine CE.of (L := [(0, pv E 59), (1, .long (lN (mB b))), (3, .int (zI ((qB b : Int) - 1074)))]) rfl (Nat.le_of_ble_eq_true rfl) rfl (b_Pr_findAllDigits_0 ?_)
  have hz : lg_cmp (lN (mB b)) (0 : Int64) = 0 ↔ mB b = 0 := lg_eq (b := 0) (by omega) (by omega)
  rw [hz]
  -- from the power of ten on
  have run : ∀ (x : Nat) (e : Int) (t : Int), zI ((qB b : Int) - 1074) + zI e = zI t → -1074 ≤ t → t ≤ 1100 → x < 2 ^ 53 → x * 2 ^ t.toNat < 2 ^ 1030 → JE E (d + 3) m_Pr_findAllDigits 45 [(0, pv E 59), (3, .int (zI ((qB b : Int) - 1074))), (4, .int (zI e)), (5, .int (zI (min 0 t)))] [.long (lN x), pv E 61] σ (fun q σ' => q = none ∧ Fs PB σ σ' ∧ ∃ T c, PrAt σ' T c (c + min 0 t) ∧ 1 ≤ c ∧ c ≤ 810 ∧ (T 0 ≠ 0 ∨ (fdN x t = 0 ∧ c = 1)) ∧ dval T c = fdN x t) := by
    intro x e t het ht1 ht2 hx hsh
    refine b_Pr_findAllDigits_45 k61 ((c_set k61 (by omega)).mono (fun σ1 hq1 => ?_))
    rw [het]
    refine (c_shl k61 hq1.2 (by omega) (by omega) (Nat.lt_trans hsh (Nat.pow_lt_pow_right (by decide) (by decide)))).mono (fun σ2 hq2 => ?_)
    have en : -(zI (min 0 t)) = nI (-t).toNat := by
      have : -(zI (min 0 t)) = zI (-(min 0 t)) := (Int32.ofInt_neg _).symm
      rw [this, ← zI_nI]; exact congrArg zI (by omega)
    rw [en]
    have hN := fd_lt (x := x) (t := t) hx (by omega) (Or.inr hsh)
    refine (c_timesFive k61 hq2.2 (by omega) (Nat.lt_of_lt_of_le hN (Nat.le_trans b809 (Nat.pow_le_pow_right (by decide) (by decide))))).mono (fun σ3 hq3 => ?_)
    have F3 : Fs PB σ σ3 := Fr_Fs ((hq1.1.tr hq2.1).tr hq3.1) (fun p k h => Or.inr h)
    refine fa_out (N := fdN x t) (r := false) σ hN 89 σ3 (by omega) F3 ?_ (fun k k1 k2 => absurd k2 (by omega))
    rw [show 810 - 9 * (89 + 1) = 0 by omega, Nat.pow_zero, Nat.div_one]
    exact hq3.2
  by_cases h0 : mB b = 0
  · refine ⟨fun q => absurd h0 q, fun _ => b_Pr_findAllDigits_15 (fun r1 hr1 => ?_)⟩
    have en : -(zI ((qB b : Int) - 1074)) = zI (1074 - (qB b : Int)) := by
      have : -(zI ((qB b : Int) - 1074)) = zI (-((qB b : Int) - 1074)) := (Int32.ofInt_neg _).symm
      rw [this]; exact congrArg zI (by omega)
    rw [en] at hr1 ⊢
    have e0 : zI ((qB b : Int) - 1074) + zI (1074 - (qB b : Int)) = zI 0 := by rw [zI_add]; exact congrArg zI (by omega)
    rw [e0, mn_0 (by omega) (by omega)] at hr1
    rw [hz, hr1]
    refine ⟨fun q => absurd h0 q, fun _ => (run 0 _ 0 e0 (by omega) (by omega) (by omega) (by rw [Nat.zero_mul]; exact pw_pos _)).mono (fun q σ' hq' => ?_)⟩
    obtain ⟨a1, a2, T, c, a3, a4, a5, a6, a7⟩ := hq'
    have e1 : fdN 0 0 = 0 := rfl
    rw [e1] at a6 a7
    have hT0 : T 0 = 0 := by
      rcases Nat.eq_zero_or_pos (T 0) with z | z
      · exact z
      · have := dval_pos (f := T) (n := c) (k := 0) (by omega) (by omega)
        omega
    have hc : c = 1 := by
      rcases a6 with z | z
      · exact absurd hT0 z
      · exact z.2
    exact ⟨a1, a2, T, c, _, a3, a4, a5, by omega, by omega, Or.inl ⟨h0, hc, hT0, by omega⟩⟩
  · obtain ⟨e, k, hf⟩ := odd_part (f := mB b) (by omega)
    have he : e < 53 := by
      have h2 : 2 ^ e < 2 ^ 53 := Nat.lt_of_le_of_lt (by rw [hf]; exact Nat.le_mul_of_pos_right _ (by omega)) hm
      exact (Nat.pow_lt_pow_iff_right (a := 2) (by decide)).mp h2
    refine ⟨fun _ => (c_ntzL hf (by omega)).mono (fun x σ1 hq1 => ?_), fun q => absurd q h0⟩
    rw [hq1.1, hq1.2]
    refine b_Pr_findAllDigits_15 (fun r1 hr1 => ?_)
    have et : zI ((qB b : Int) - 1074) + zI (e : Int) = zI ((qB b : Int) - 1074 + e) := zI_add _ _
    have hx : mB b / 2 ^ e = 2 * k + 1 := by rw [hf]; exact Nat.mul_div_cancel_left _ (pw_pos e)
    have esh : ((lN (mB b)).toUInt64 >>> ((nI e).toInt64.toUInt64 &&& Int64.toUInt64 63)).toInt64 = lN (mB b / 2 ^ e) := wb_shr (by omega) (by omega)
    rw [esh, hx, hz]
    rw [← zI_nI] at hr1 ⊢
    rw [et, mn_0 (by omega) (by omega)] at hr1
    rw [hr1]
    have hxl : 2 * k + 1 < 2 ^ 53 := Nat.lt_of_le_of_lt (by rw [hf]; exact Nat.le_mul_of_pos_left _ (pw_pos e)) hm
    refine ⟨fun _ => (run (2 * k + 1) e _ et (by omega) (by omega) hxl (fd_sh hf hm (by omega))).mono (fun q σ' hq' => ?_), fun q => absurd q h0⟩
    obtain ⟨a1, a2, T, c, a3, a4, a5, a6, a7⟩ := hq'
    have hv := fd_val hf (t := (qB b : Int) - 1074 + e) rfl (by omega) (by omega)
    have hN0 : fdN (2 * k + 1) ((qB b : Int) - 1074 + e) ≠ 0 := by
      unfold fdN
      have := Nat.mul_pos (Nat.mul_pos (show 0 < 2 * k + 1 by omega) (pw_pos ((qB b : Int) - 1074 + e).toNat)) (Nat.pow_pos (n := (-((qB b : Int) - 1074 + e)).toNat) (show 0 < 5 by decide))
      omega
    refine ⟨a1, a2, T, c, _, a3, a4, a5, by omega, by omega, Or.inr ⟨by omega, ?_, ?_⟩⟩
    · rcases a6 with z | z
      · exact z
      · exact absurd z.1 hN0
    · unfold SV
      rw [a7, ← hv]
      congr 2
      omega
