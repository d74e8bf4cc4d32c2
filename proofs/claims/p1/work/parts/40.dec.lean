/-! the reference's decimals: digits at place 3, how many and where the point is in slots 6 and 7 of place 0 -/
def Fs (P : Nat → Nat → Prop) (σ σ' : S_t) : Prop := (∀ p k, ¬ P p k → gI σ' p k = gI σ p k) ∧ σ'.2 = σ.2
theorem Fs.rf {P : Nat → Nat → Prop} {σ : S_t} : Fs P σ σ := ⟨fun _ _ _ => rfl, rfl⟩
theorem Fs.tr {P : Nat → Nat → Prop} {σ σ1 σ2 : S_t} (h : Fs P σ σ1) (g : Fs P σ1 σ2) : Fs P σ σ2 := ⟨fun p k hp => (g.1 p k hp).trans (h.1 p k hp), g.2.trans h.2⟩
theorem Fs.si {P : Nat → Nat → Prop} {σ σ' : S_t} {p k : Nat} {v : Int32} (h : Fs P σ σ') (hp : P p k) : Fs P σ (sI σ' p k v) := ⟨fun q j hq => by
  rw [gI_sI_n]
  · exact h.1 q j hq
  · by_cases e : q = p
    · right; rintro rfl; rw [e] at hq; exact hq hp
    · exact Or.inl e, h.2⟩
theorem Fs.mono {P P' : Nat → Nat → Prop} {σ σ' : S_t} (h : Fs P σ σ') (hPQ : ∀ p k, P p k → P' p k) : Fs P' σ σ' := ⟨fun p k hp => h.1 p k (fun z => hp (hPQ p k z)), h.2⟩
def MP : Nat → Nat → Prop := fun p k => p = 3 ∨ p = 4 ∨ (p = 0 ∧ (k = 6 ∨ k = 7))
theorem MP3 {k : Nat} : MP 3 k := Or.inl rfl
theorem MP4 {k : Nat} : MP 4 k := Or.inr (Or.inl rfl)
theorem MP06 : MP 0 6 := Or.inr (Or.inr ⟨rfl, Or.inl rfl⟩)
theorem MP07 : MP 0 7 := Or.inr (Or.inr ⟨rfl, Or.inr rfl⟩)
/-- ints by their whole number -/
def zI (z : Int) : Int32 := Int32.ofInt z
theorem zI_nI (n : Nat) : zI (n : Int) = nI n := Int32.ofInt_eq_ofNat
theorem zI_toInt {z : Int} (h1 : -2147483648 ≤ z) (h2 : z < 2147483648) : (zI z).toInt = z := Int32.toInt_ofInt_of_le (by omega) (by omega)
theorem zI_add (a b : Int) : zI a + zI b = zI (a + b) := (Int32.ofInt_add a b).symm
theorem zI_sub (a b : Int) : zI a - zI b = zI (a - b) := (Int32.ofInt_sub a b).symm
theorem zI_lt {a b : Int} (h1 : -2147483648 ≤ a) (h2 : a < 2147483648) (h3 : -2147483648 ≤ b) (h4 : b < 2147483648) : zI a < zI b ↔ a < b := by rw [Int32.lt_iff_toInt_lt, zI_toInt h1 h2, zI_toInt h3 h4]
theorem zI_le {a b : Int} (h1 : -2147483648 ≤ a) (h2 : a < 2147483648) (h3 : -2147483648 ≤ b) (h4 : b < 2147483648) : zI a ≤ zI b ↔ a ≤ b := by rw [Int32.le_iff_toInt_le, zI_toInt h1 h2, zI_toInt h3 h4]
theorem zI_eq {a b : Int} (h1 : -2147483648 ≤ a) (h2 : a < 2147483648) (h3 : -2147483648 ≤ b) (h4 : b < 2147483648) : zI a = zI b ↔ a = b := by
  constructor
  · intro h
    have := congrArg Int32.toInt h
    rwa [zI_toInt h1 h2, zI_toInt h3 h4] at this
  · rintro rfl; rfl
def dval (f : Nat → Nat) : Nat → Nat
  | 0 => 0
  | n + 1 => dval f n * 10 + f n
theorem dval_ext {f g : Nat → Nat} : ∀ {n : Nat}, (∀ i, i < n → f i = g i) → dval f n = dval g n
  | 0, _ => rfl
  | n + 1, h => by rw [dval, dval, dval_ext (fun i hi => h i (by omega)), h n (by omega)]
theorem dval_app (f : Nat → Nat) (a : Nat) : ∀ b, dval f (a + b) = dval f a * 10 ^ b + dval (fun t => f (a + t)) b
  | 0 => by simp [dval]
  | b + 1 => by
    rw [← Nat.add_assoc, dval, dval, dval_app f a b, Nat.pow_succ]
    have : (dval f a * 10 ^ b + dval (fun t => f (a + t)) b) * 10 = dval f a * (10 ^ b * 10) + dval (fun t => f (a + t)) b * 10 := by rw [Nat.add_mul, Nat.mul_assoc]
    omega
theorem dval_cons (f : Nat → Nat) (b : Nat) : dval f (b + 1) = f 0 * 10 ^ b + dval (fun t => f (t + 1)) b := by
  have := dval_app f 1 b
  rw [Nat.add_comm] at this
  rw [this]
  have e : dval f 1 = f 0 := by simp [dval]
  rw [e]
  congr 1
  exact dval_ext (fun t _ => by rw [Nat.add_comm])
theorem dval_lt {f : Nat → Nat} : ∀ {n : Nat}, (∀ i, i < n → f i < 10) → dval f n < 10 ^ n
  | 0, _ => by simp [dval]
  | n + 1, h => by
    have h1 := dval_lt (n := n) (fun i hi => h i (by omega))
    have h2 := h n (by omega)
    rw [dval, Nat.pow_succ]
    omega
theorem dval_ge {f : Nat → Nat} {n : Nat} (h : f 0 ≠ 0) (hn : 0 < n) : 10 ^ (n - 1) ≤ dval f n := by
  obtain ⟨b, rfl⟩ : ∃ b, n = b + 1 := ⟨n - 1, by omega⟩
  rw [dval_cons]
  have : 1 * 10 ^ b ≤ f 0 * 10 ^ b := Nat.mul_le_mul_right _ (by omega)
  simp only [Nat.add_sub_cancel]
  omega
theorem p10 (n : Nat) : 0 < 10 ^ n := Nat.pow_pos (by decide)
def dg (σ : S_t) (k : Nat) : Nat := un (gI σ 3 k)
def DecAt (σ : S_t) (N n : Nat) (pt : Int) : Prop := gI σ 0 6 = nI n ∧ gI σ 0 7 = zI pt ∧ (∀ k, k < n → dg σ k < 10) ∧ dval (dg σ) n = N
/-- the value, times ten to the 20000 -/
def SV (N n : Nat) (pt : Int) : Nat := N * 10 ^ (pt - n + 20000).toNat
theorem SV_shift {N n j : Nat} {pt : Int} (h : -20000 ≤ pt - n - j) : SV (N * 10 ^ j) (n + j) pt = SV N n pt := by
  unfold SV
  rw [Nat.mul_assoc, ← Nat.pow_add]
  congr 2
  omega
theorem SV_shift2 {N n j : Nat} {pt : Int} (h : -20000 ≤ pt - n) : SV N (n + j) (pt + j) = SV N n pt := by
  unfold SV
  congr 2
  omega
theorem trim_loop {E : En_t} {d : Nat} {Q : Option Value → S_t → Prop} (σ0 : S_t) (N0 n0 : Nat) (pt : Int) (hQ : ∀ σ' N n, Fs MP σ0 σ' → (∀ k, gI σ' 3 k = gI σ0 3 k) → DecAt σ' N n (if n = 0 then 0 else pt) → n ≤ n0 → N * 10 ^ (n0 - n) = N0 → (n = 0 ∨ dg σ' (n - 1) ≠ 0) → Q none σ') :
    ∀ (n : Nat) (σ : S_t), n ≤ n0 → n ≤ 6000 → Fs MP σ0 σ → (∀ k, gI σ 3 k = gI σ0 3 k) → (∀ N, DecAt σ N n pt → N * 10 ^ (n0 - n) = N0) → (∃ N, DecAt σ N n pt) → JE E d m_Mo_trim 0 [(0, pv E 0)] [] σ Q := by
  intro n
  induction n with
  | zero =>
    intro σ hn h6 hF hrow hN ⟨N, hD⟩
    obtain ⟨h1, h2, h3, h4⟩ := id hD
    refine b_Mo_trim_0 ⟨fun _ => b_Mo_trim_34 ⟨fun h => absurd h1 h, fun _ => ?_⟩, fun h => absurd (by rw [h1]; exact Int32.le_refl _) h⟩
    refine hQ _ N 0 (hF.si MP07) (fun k => by rw [gI_sI_n (Or.inl (by decide))]; exact hrow k) ⟨by rw [gI_sI_n (Or.inr (by decide))]; exact h1, gI_sI_s _ _ _ _, fun k hk => absurd hk (by omega), ?_⟩ hn (hN N hD) (Or.inl rfl)
    rw [← h4]; rfl
  | succ n ih =>
    intro σ hn h6 hF hrow hN ⟨N, hD⟩
    obtain ⟨h1, h2, h3, h4⟩ := id hD
    have hne : ¬ gI σ 0 6 = 0 := by
      rw [h1]; exact nI_ne0 (by omega) (by omega)
    refine b_Mo_trim_0 ⟨fun h => absurd h (by rw [h1]; exact nI_nle (by omega) (by omega)), fun _ => ?_⟩
    rw [h1, nI_m1, nI_clamp (by omega)]
    refine ⟨vin (by omega) (by omega), fun h => ?_, fun h => ?_⟩
    · refine b_Mo_trim_34 ⟨fun _ => ?_, fun h => absurd h hne⟩
      exact hQ σ N (n + 1) hF hrow (by rw [if_neg (by omega)]; exact hD) hn (hN N hD) (Or.inr (fun e => h (un_0.mp e)))
    · have hz : dg σ n = 0 := un_0.mpr h
      rw [dval, hz, Nat.add_zero] at h4
      have hD' : DecAt (sI σ 0 6 (nI n)) (dval (dg σ) n) n pt := ⟨gI_sI_s _ _ _ _, by rw [gI_sI_n (Or.inr (by decide))]; exact h2, fun k hk => by unfold dg; rw [gI_sI_n (Or.inl (by decide))]; exact h3 k (by omega), dval_ext (fun k _ => by unfold dg; rw [gI_sI_n (Or.inl (by decide))])⟩
      refine ih _ (by omega) (by omega) (hF.si MP06) (fun k => by rw [gI_sI_n (Or.inl (by decide))]; exact hrow k) (fun M hM => ?_) ⟨_, hD'⟩
      have e : M = dval (dg σ) n := by rw [← hM.2.2.2]; exact hD'.2.2.2
      rw [e, ← hN N hD, ← h4, Nat.mul_assoc, ← Nat.pow_succ']
      congr 2; omega
theorem c_trim {E : En_t} {d N n : Nat} {pt : Int} {σ : S_t} (h : DecAt σ N n pt) (hn : n ≤ 6000) : CV E d m_Mo_trim [pv E 0] σ (fun σ' => Fs MP σ σ' ∧ (∀ k, gI σ' 3 k = gI σ 3 k) ∧ ∃ N' n', DecAt σ' N' n' (if n' = 0 then 0 else pt) ∧ n' ≤ n ∧ N' * 10 ^ (n - n') = N ∧ (n' = 0 ∨ dg σ' (n' - 1) ≠ 0)) := by
  refine CE.of (L := [(0, pv E 0)]) rfl (Nat.le_of_ble_eq_true rfl) rfl ?_
  exact trim_loop σ N n pt (fun σ' N' n' g1 g2 g3 g4 g5 g6 => ⟨rfl, g1, g2, N', n', g3, g4, g5, g6⟩) n σ (Nat.le_refl _) hn Fs.rf (fun _ => rfl) (fun M hM => by rw [Nat.sub_self, Nat.pow_zero, Nat.mul_one, ← hM.2.2.2, ← h.2.2.2]) ⟨N, h⟩
/-! doubled -/
theorem nI_l' (n : Nat) (h : n < 2 ^ 31) : (nI n).toInt64 = lN n := nI_l h
theorem ten64 : (10 : Int64) = lN 10 := rfl
theorem dbl_mul {E : En_t} {d : Nat} {Q : Option Value → S_t → Prop} (s n : Nat) (hs : s ≤ 20) (hn : n ≤ 6000) (f : Nat → Nat) (hf : ∀ k, k < n → f k < 10) (σ0 : S_t)
    (hX : ∀ σ c, Fs MP σ0 σ → (∀ k, gI σ 0 k = gI σ0 0 k) → c < 2 ^ s → (∀ k, k < n → dg σ k < 10) → dval (dg σ) n + c * 10 ^ n = dval f n * 2 ^ s → JE E (d + 1) m_Mo_doubled 59 [(0, pv E 0), (2, .long (lN c)), (4, .int (0 : Int32))] [] σ Q) :
    ∀ (i c : Nat) (σ : S_t) (x4 : Int32), i ≤ n → x4 = nI i - 1 → c < 2 ^ s → Fs MP σ0 σ → (∀ k, gI σ 0 k = gI σ0 0 k) → (∀ k, k < i → dg σ k = f k) → (∀ k, i ≤ k → k < n → dg σ k < 10) → dval (fun t => dg σ (i + t)) (n - i) + c * 10 ^ (n - i) = dval (fun t => f (i + t)) (n - i) * 2 ^ s →
    JE E (d + 1) m_Mo_doubled 10 [(0, pv E 0), (1, .int (nI s)), (2, .long (lN c)), (4, .int x4)] [] σ Q := by
  have hs2 : 2 ^ s ≤ 2 ^ 20 := Nat.pow_le_pow_right (by decide) hs
  intro i
  induction i with
  | zero =>
    intro c σ x4 hi ex hc hF h0 hlo hhi hsum
    refine b_Mo_doubled_10 ⟨fun _ => ?_, fun h => absurd (by rw [ex]; exact neg1_lt) h⟩
    refine hX σ c hF h0 hc (fun k hk => hhi k (by omega) hk) ?_
    simpa using hsum
  | succ i ih =>
    intro c σ x4 hi ex hc hF h0 hlo hhi hsum
    rw [nI_m1] at ex
    subst ex
    have hfi : f i < 10 := hf i (by omega)
    have hdi : dg σ i = f i := hlo i (by omega)
    have hlim : gI σ 3 i = nI (f i) := by rw [← nI_un (gI σ 3 i)]; exact congrArg nI hdi
    have hm : f i * 2 ^ s ≤ 9 * 2 ^ s := Nat.mul_le_mul_right _ (by omega)
    have hv : ((gI σ 3 i).toInt64 <<< ((nI s).toInt64 &&& 63)) + lN c = lN (f i * 2 ^ s + c) := by
      rw [hlim, nI_l (by omega), wb_shl _ (by omega), lN_add]
    refine b_Mo_doubled_10 ⟨fun h => absurd h (nI_pos (by omega)), fun _ => ⟨vin (by omega) (by omega), fun v1 hv1 => ⟨vin (by omega) (by omega), ?_⟩⟩⟩
    rw [nI_clamp (by omega), hv, ten64, pk_lDiv (by omega) (by omega) (by omega)] at hv1 ⊢
    generalize hw : f i * 2 ^ s + c = w at *
    have hsub : lN w - lN (w / 10) * lN 10 = lN (w % 10) := by
      rw [lN_mul, lN_sub (by omega)]; exact congrArg lN (by omega)
    rw [hsub] at hv1
    rw [hv1, lN_low, Nat.mod_eq_of_lt (by omega), sub1]
    have hne : ∀ k, k ≠ i → dg (sI σ 3 i (nI (w % 10))) k = dg σ k := fun k hk => by unfold dg; rw [gI_sI_n (Or.inr hk)]
    have heq : dg (sI σ 3 i (nI (w % 10))) i = w % 10 := by unfold dg; rw [gI_sI_s, un_nI (by omega)]
    refine ih (w / 10) _ _ (by omega) rfl (by omega) (hF.si MP3) (fun k => by rw [gI_sI_n (Or.inl (by decide))]; exact h0 k) (fun k hk => by rw [hne k (by omega)]; exact hlo k (by omega)) (fun k h1 h2 => ?_) ?_
    · by_cases e : k = i
      · subst e; rw [heq]; omega
      · rw [hne k e]; exact hhi k (by omega) h2
    · obtain ⟨m, hm⟩ : ∃ m, n - i = m + 1 := ⟨n - i - 1, by omega⟩
      have hm2 : n - (i + 1) = m := by omega
      rw [hm2] at hsum
      rw [hm, dval_cons, dval_cons, Nat.add_zero, heq]
      rw [dval_ext (f := fun t => dg (sI σ 3 i (nI (w % 10))) (i + (t + 1))) (g := fun t => dg σ (i + 1 + t)) (fun t _ => by rw [hne _ (by omega)]; congr 1; omega)]
      rw [dval_ext (f := fun t => f (i + (t + 1))) (g := fun t => f (i + 1 + t)) (fun t _ => by congr 1; omega)]
      rw [Nat.pow_succ, Nat.add_mul]
      generalize dval (fun t => dg σ (i + 1 + t)) m = A at *
      generalize dval (fun t => f (i + 1 + t)) m = B at *
      generalize 10 ^ m = P at *
      have e1 : f i * P * 2 ^ s = f i * 2 ^ s * P := by ac_rfl
      have e2 : (w % 10 + 10 * (w / 10)) * P = (f i * 2 ^ s + c) * P := by rw [Nat.mod_add_div, hw]
      rw [Nat.add_mul, Nat.add_mul] at e2
      have e3 : w / 10 * (P * 10) = 10 * (w / 10) * P := by ac_rfl
      omega
