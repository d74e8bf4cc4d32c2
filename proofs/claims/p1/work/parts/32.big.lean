/-! frames, limbs -/
def Fr (P : Nat → Prop) (σ σ' : S_t) : Prop := (∀ p k, ¬ P p → gI σ' p k = gI σ p k) ∧ σ'.2 = σ.2
theorem Fr.rf {P : Nat → Prop} {σ : S_t} : Fr P σ σ := ⟨fun _ _ _ => rfl, rfl⟩
theorem Fr.tr {P : Nat → Prop} {σ σ1 σ2 : S_t} (h : Fr P σ σ1) (g : Fr P σ1 σ2) : Fr P σ σ2 := ⟨fun p k hp => (g.1 p k hp).trans (h.1 p k hp), g.2.trans h.2⟩
theorem Fr.si {P : Nat → Prop} {σ σ' : S_t} {p k : Nat} {v : Int32} (h : Fr P σ σ') (hp : P p) : Fr P σ (sI σ' p k v) := ⟨fun q j hq => by rw [gI_sI_n (Or.inl (fun e => hq (by rw [e]; exact hp)))]; exact h.1 q j hq, h.2⟩
theorem Fr.mono {P P' : Nat → Prop} {σ σ' : S_t} (h : Fr P σ σ') (hPQ : ∀ p, P p → P' p) : Fr P' σ σ' := ⟨fun p k hp => h.1 p k (fun z => hp (hPQ p z)), h.2⟩
def un (x : Int32) : Nat := x.toBitVec.toNat
theorem un_lt (x : Int32) : un x < 4294967296 := x.toBitVec.isLt
theorem un_nI {n : Nat} (h : n < 4294967296) : un (nI n) = n := pk_tn h
theorem nI_un (x : Int32) : nI (un x) = x := by
  obtain ⟨n, hn, rfl⟩ := wb_of32 x
  rw [un_nI hn]
theorem un_0 {x : Int32} : un x = 0 ↔ x = 0 := by
  constructor
  · intro h; rw [← nI_un x, h]; rfl
  · rintro rfl; rfl
theorem nI_mod (n : Nat) : nI n = nI (n % 4294967296) := by
  apply Int32.toBitVec_inj.mp
  show BitVec.ofNat 32 n = BitVec.ofNat 32 (n % 4294967296)
  apply BitVec.eq_of_toNat_eq
  simp
theorem lN_low (n : Nat) : (lN n).toInt32 = nI (n % 4294967296) := by rw [lN_i, nI_mod]
theorem shr32 {n : Nat} (hn : n < 2 ^ 64) : ((lN n).toUInt64 >>> ((32 : Int32).toInt64.toUInt64 &&& Int64.toUInt64 63)).toInt64 = lN (n / 2 ^ 32) := wb_shr (k := 32) hn (by decide)
theorem shl32 (n : Nat) : lN n <<< ((32 : Int32).toInt64 &&& 63) = lN (n * 2 ^ 32) := wb_shl (k := 32) n (by decide)
theorem and_low (x : Int32) : x.toInt64 &&& (4294967295 : Int64) = lN (un x) := by
  apply wb_inj
  have h1 := un_lt x
  apply BitVec.eq_of_toNat_eq
  have e : (x.toInt64 &&& (4294967295 : Int64)).toBitVec = x.toInt64.toBitVec &&& (4294967295 : Int64).toBitVec := rfl
  have e2 : (4294967295 : Int64).toBitVec = BitVec.ofNat 64 (2 ^ 32 - 1) := rfl
  rw [e, e2, BitVec.toNat_and, BitVec.toNat_ofNat, Nat.mod_eq_of_lt (by decide), Nat.and_two_pow_sub_one_eq_mod, wb_tn (by omega)]
  have e3 : x.toInt64.toBitVec = x.toBitVec.signExtend 64 := by simp
  rw [e3, BitVec.toNat_signExtend]
  unfold un at h1 ⊢
  split <;> simp <;> omega
def lsum (f : Nat → Int32) : Nat → Nat
  | 0 => 0
  | n + 1 => lsum f n + un (f n) * 2 ^ (32 * n)
theorem lsum_ext {f g : Nat → Int32} : ∀ {n : Nat}, (∀ i, i < n → f i = g i) → lsum f n = lsum g n
  | 0, _ => rfl
  | n + 1, h => by rw [lsum, lsum, lsum_ext (fun i hi => h i (by omega)), h n (by omega)]
theorem pw32 (n : Nat) : 2 ^ (32 * (n + 1)) = 4294967296 * 2 ^ (32 * n) := by
  rw [Nat.mul_add, Nat.pow_add, Nat.mul_comm]
theorem pw_pos (n : Nat) : 0 < 2 ^ n := Nat.pow_pos (by decide)
theorem lsum_lt (f : Nat → Int32) : ∀ n, lsum f n < 2 ^ (32 * n)
  | 0 => Nat.zero_lt_one
  | n + 1 => by
    have h1 := lsum_lt f n
    have h2 := un_lt (f n)
    rw [lsum, pw32]
    have h3 : un (f n) * 2 ^ (32 * n) ≤ 4294967295 * 2 ^ (32 * n) := Nat.mul_le_mul_right _ (by omega)
    omega
theorem lsum_le (f : Nat → Int32) {m n : Nat} (h : m ≤ n) : lsum f m ≤ lsum f n := by
  induction n with
  | zero => have : m = 0 := by omega
            subst this; exact Nat.le_refl _
  | succ n ih =>
    rcases Nat.lt_or_ge m (n + 1) with g | g
    · rw [lsum]; have := ih (by omega); omega
    · have : m = n + 1 := by omega
      subst this; exact Nat.le_refl _
/-- changing the limb at i -/
theorem lsum_up {f g : Nat → Int32} {i n : Nat} (hi : i < n) (h : ∀ j, j ≠ i → g j = f j) : lsum g n + un (f i) * 2 ^ (32 * i) = lsum f n + un (g i) * 2 ^ (32 * i) := by
  induction n with
  | zero => omega
  | succ n ih =>
    rw [lsum, lsum]
    rcases Nat.lt_or_ge i n with q | q
    · have := ih q
      rw [h n (by omega)]
      omega
    · have : i = n := by omega
      subst this
      rw [lsum_ext (g := f) (fun j hj => h j (by omega))]
      omega
def BP (b : Nat) : Nat → Prop := fun p => p = b ∨ p = b + 1
def bI (r : Bool) : Int32 := if r then 1 else 0
/-- the big number at place b is V; r: something was lost -/
def BigAt (σ : S_t) (b V : Nat) (r : Bool) : Prop := ∃ n, gI σ b 1 = nI n ∧ n ≤ 96 ∧ lsum (gI σ (b + 1)) n = V ∧ (n = 0 ∨ 2 ^ (32 * (n - 1)) ≤ V) ∧ gI σ b 2 = bI r
theorem gI_row {σ : S_t} {p i : Nat} {v : Int32} : gI (sI σ p i v) p = fun j => if j = i then v else gI σ p j := by
  funext j; rw [gI_sI]; by_cases h : j = i <;> simp [h]
theorem vin {n N : Nat} (h : n < N) (hN : N ≤ 1000000) : vp_in (nI n) N := vp_in_nI h (by omega)
theorem mul_loop {E : En_t} {d b f : Nat} {Q : Option Value → S_t → Prop} (hk : kindP b = 5) (hf : f < 2 ^ 31) (T n : Nat) (r : Bool) (hn : n ≤ 96) (hT : T < 2 ^ 3072) (hno : n = 0 ∨ 2 ^ (32 * (n - 1)) ≤ T) (σ0 : S_t) (hQ : ∀ σ', Fr (BP b) σ0 σ' → BigAt σ' b T r → Q none σ') :
    ∀ (m i c : Nat) (σ : S_t), i + m = n → c < 2 ^ 31 → Fr (BP b) σ0 σ → gI σ b 1 = nI n → gI σ b 2 = bI r → lsum (gI σ (b + 1)) i + 2 ^ (32 * i) * c + f * (lsum (gI σ (b + 1)) n - lsum (gI σ (b + 1)) i) = T →
    JE E d m_Bi_multiply 6 [(0, pv E b), (1, .int (nI f)), (3, .long (lN c)), (5, .int (nI i))] [] σ Q := by
  intro m
  induction m with
  | zero =>
    intro i c σ him hc hF hcnt hr hs
    have hin : i = n := by omega
    subst hin
    rw [Nat.sub_self, Nat.mul_zero, Nat.add_zero] at hs
    refine b_Bi_multiply_6 hk ⟨fun _ => ⟨fun h0 => ?_, fun h0 => ⟨fun h1 => ?_, fun h1 => ⟨?_, ?_⟩⟩⟩, fun hh => absurd (by rw [hcnt]; exact Int32.le_refl _) hh⟩
    · have hc0 : c = 0 := (pk_lEQ (by omega) (by omega)).mp ((lg_cmp_eq _ _).mp h0)
      subst hc0
      exact hQ σ hF ⟨i, hcnt, hn, by omega, hno, hr⟩
    · exfalso
      have hc0 : c ≠ 0 := fun e => h0 ((lg_cmp_eq _ _).mpr (by rw [e]; rfl))
      have h96 : 96 ≤ i := by rw [hcnt] at h1; exact (nI_leI (a := 96) (by omega) (by omega)).mp h1
      have : i = 96 := by omega
      subst this
      have : 2 ^ (32 * 96) * 1 ≤ 2 ^ (32 * 96) * c := Nat.mul_le_mul_left _ (by omega)
      omega
    · have h96 : i < 96 := by
        rw [hcnt] at h1
        rcases Nat.lt_or_ge i 96 with g | g
        · exact g
        · exact absurd (nI_le g (by omega)) h1
      rw [hcnt]; exact vin h96 (by omega)
    · have h96 : i < 96 := by
        rw [hcnt] at h1
        rcases Nat.lt_or_ge i 96 with g | g
        · exact g
        · exact absurd (nI_le g (by omega)) h1
      have hc0 : c ≠ 0 := fun e => h0 ((lg_cmp_eq _ _).mpr (by rw [e]; rfl))
      rw [hcnt, nI_clamp (by omega), lN_low, Nat.mod_eq_of_lt (by omega), gI_sI_n (Or.inl (by omega)), hcnt, nI_1]
      refine hQ _ ((hF.si (Or.inr rfl)).si (Or.inl rfl)) ⟨i + 1, gI_sI_s _ _ _ _, by omega, ?_, Or.inr ?_, ?_⟩
      · rw [lsum]
        have e : ∀ j, gI (sI (sI σ (b + 1) i (nI c)) b 1 (nI (i + 1))) (b + 1) j = if j = i then nI c else gI σ (b + 1) j := by
          intro j; rw [gI_sI_n (Or.inl (by omega)), gI_row]
        rw [lsum_ext (g := gI σ (b + 1)) (fun j hj => by rw [e, if_neg (by omega)]), e, if_pos rfl, un_nI (by omega), Nat.mul_comm c]
        exact hs
      · have : 2 ^ (32 * i) * 1 ≤ 2 ^ (32 * i) * c := Nat.mul_le_mul_left _ (by omega)
        simp only [Nat.add_sub_cancel]
        omega
      · rw [gI_sI_n (Or.inr (by decide)), gI_sI_n (Or.inl (by omega))]; exact hr
  | succ m ih =>
    intro i c σ him hc hF hcnt hr hs
    have hi : i < n := by omega
    have hu := un_lt (gI σ (b + 1) i)
    refine b_Bi_multiply_6 hk ⟨fun hh => absurd hh (by rw [hcnt]; exact nI_ge hi (by omega)), fun _ => ⟨vin (by omega) (by omega), vin (by omega) (by omega), fun v1 hv1 => ?_⟩⟩
    rw [nI_clamp (by omega), and_low, nI_l (by omega), lN_mul, lN_add] at hv1 ⊢
    have hmul : un (gI σ (b + 1) i) * f ≤ 4294967295 * (2 ^ 31 - 1) := Nat.mul_le_mul (by omega) (by omega)
    rw [shr32 (by omega)] at hv1
    rw [lN_low, hv1, nI_1]
    refine ih (i + 1) _ _ (by omega) (by omega) (hF.si (Or.inr rfl)) (by rw [gI_sI_n (Or.inl (by omega))]; exact hcnt) (by rw [gI_sI_n (Or.inl (by omega))]; exact hr) ?_
    generalize hw : (c + un (gI σ (b + 1) i) * f) % 4294967296 = w
    generalize hc' : (c + un (gI σ (b + 1) i) * f) / 2 ^ 32 = c'
    have key : c + un (gI σ (b + 1) i) * f = w + 4294967296 * c' := by omega
    have hwl : w < 4294967296 := by omega
    have e1 : lsum (gI (sI σ (b + 1) i (nI w)) (b + 1)) (i + 1) = lsum (gI σ (b + 1)) i + w * 2 ^ (32 * i) := by
      rw [lsum, gI_sI_s, un_nI hwl, lsum_ext (g := gI σ (b + 1)) (fun j hj => gI_sI_n (Or.inr (by omega)))]
    have e2 := lsum_up (f := gI σ (b + 1)) (g := gI (sI σ (b + 1) i (nI w)) (b + 1)) hi (fun j hj => by rw [gI_row]; simp only [if_neg hj])
    have e3 : gI (sI σ (b + 1) i (nI w)) (b + 1) i = nI w := gI_sI_s _ _ _ _
    rw [e3, un_nI hwl] at e2
    have e4 := lsum_le (gI σ (b + 1)) (m := i + 1) (n := n) (by omega)
    rw [lsum] at e4
    rw [e1, pw32]
    generalize un (gI σ (b + 1) i) = u at *
    generalize 2 ^ (32 * i) = P at *
    generalize lsum (gI σ (b + 1)) i = A at *
    generalize lsum (gI σ (b + 1)) n = B at *
    generalize lsum (gI (sI σ (b + 1) i (nI w)) (b + 1)) n = B' at *
    obtain ⟨X, rfl⟩ : ∃ X, B = A + u * P + X := ⟨B - (A + u * P), by omega⟩
    have e5 : B' - (A + w * P) = X := by omega
    have e6 : A + u * P + X - A = u * P + X := by omega
    rw [e5]
    rw [e6, Nat.mul_add] at hs
    have e7 : P * (c + u * f) = P * (w + 4294967296 * c') := by rw [key]
    rw [Nat.mul_add, Nat.mul_add] at e7
    have e8 : P * (u * f) = f * (u * P) := by ac_rfl
    have e9 : P * (4294967296 * c') = 4294967296 * P * c' := by ac_rfl
    have e10 : P * w = w * P := by ac_rfl
    omega
theorem c_multiply {E : En_t} {d b f pl V : Nat} {r : Bool} {σ : S_t} (hk : kindP b = 5) (h : BigAt σ b V r) (hf0 : 0 < f) (hf : f < 2 ^ 31) (hp : pl < 2 ^ 31) (hT : V * f + pl < 2 ^ 3072) : CV E d m_Bi_multiply [pv E b, .int (nI f), .int (nI pl)] σ (fun σ' => Fr (BP b) σ σ' ∧ BigAt σ' b (V * f + pl) r) := by
  obtain ⟨n, h1, h2, h3, h4, h5⟩ := h
  refine CE.of (L := [(0, pv E b), (1, .int (nI f)), (2, .int (nI pl))]) rfl (Nat.le_of_ble_eq_true rfl) rfl (b_Bi_multiply_0 hk ?_)
  rw [nI_l (by omega)]
  refine mul_loop hk hf (V * f + pl) n r h2 hT ?_ σ (fun σ' g1 g2 => ⟨rfl, g1, g2⟩) n 0 pl σ (by omega) hp Fr.rf h1 h5 ?_
  · rcases h4 with h4 | h4
    · exact Or.inl h4
    · exact Or.inr (by have := Nat.le_mul_of_pos_right V hf0; omega)
  · rw [h3, lsum]
    simp only [Nat.mul_zero, Nat.pow_zero, Nat.one_mul, Nat.sub_zero, Nat.zero_add]
    rw [Nat.mul_comm]; omega
theorem nI_m1 (i : Nat) : nI (i + 1) - 1 = nI i := nI_pred i
theorem sub1 (x : Int32) : x + (-1) = x - 1 := by rw [Int32.sub_eq_add_neg]
theorem neg1_lt : nI 0 - 1 < 0 := by decide
theorem div_loop {E : En_t} {d b dv : Nat} {Q : Option Value → S_t → Prop} (hk : kindP b = 5) (hdv0 : 0 < dv) (hdv : dv < 2 ^ 31) (V n : Nat) (r : Bool) (hn : n ≤ 96) (hno : n = 0 ∨ 2 ^ (32 * (n - 1)) ≤ V) (σ0 : S_t) (hQ : ∀ σ', Fr (BP b) σ0 σ' → BigAt σ' b (V / dv) r → Q (some (.int (nI (V % dv)))) σ') :
    ∀ (i left : Nat) (σ : S_t) (x4 : Int32), i ≤ n → x4 = nI i - 1 → left < dv → Fr (BP b) σ0 σ → gI σ b 1 = nI n → gI σ b 2 = bI r → dv * (lsum (gI σ (b + 1)) n - lsum (gI σ (b + 1)) i) + left * 2 ^ (32 * i) + lsum (gI σ (b + 1)) i = V →
    JE E d m_Bi_divide 16 [(0, pv E b), (1, .int (nI dv)), (2, .long (lN left)), (4, .int x4)] [] σ Q := by
  intro i
  induction i with
  | zero =>
    intro left σ x4 hi ex hl hF hcnt hr hs
    rw [lsum, Nat.sub_zero, Nat.mul_zero, Nat.pow_zero, Nat.mul_one, Nat.add_zero] at hs
    have hq : V / dv = lsum (gI σ (b + 1)) n := by rw [← hs, Nat.mul_add_div hdv0, Nat.div_eq_of_lt hl, Nat.add_zero]
    have hm : V % dv = left := by rw [← hs, Nat.mul_add_mod, Nat.mod_eq_of_lt hl]
    have ha : (lN left).toInt32 = nI (V % dv) := by rw [lN_low, hm, Nat.mod_eq_of_lt (by omega)]
    refine b_Bi_divide_16 hk ⟨fun _ => ⟨fun h0 => ?_, fun h0 => ⟨?_, fun h1 => ?_, fun h1 => ?_⟩⟩, fun hh => absurd (by rw [ex]; exact neg1_lt) hh⟩
    · have hn0 : n = 0 := by
        rw [hcnt] at h0
        rcases Nat.eq_zero_or_pos n with g | g
        · exact g
        · exact absurd h0 (nI_nle g (by omega))
      rw [ha]
      exact hQ σ hF ⟨n, hcnt, hn, hq.symm, Or.inl hn0, hr⟩
    · have hn0 : 0 < n := Nat.pos_of_ne_zero (fun e => h0 (by rw [hcnt, e]; exact Int32.le_refl _))
      obtain ⟨k, rfl⟩ : ∃ k, n = k + 1 := ⟨n - 1, by omega⟩
      rw [hcnt, nI_m1]; exact vin (by omega) (by omega)
    · have hn0 : 0 < n := Nat.pos_of_ne_zero (fun e => h0 (by rw [hcnt, e]; exact Int32.le_refl _))
      obtain ⟨k, rfl⟩ : ∃ k, n = k + 1 := ⟨n - 1, by omega⟩
      rw [hcnt, nI_m1, nI_clamp (by omega)] at h1
      rw [ha]
      refine hQ σ hF ⟨k + 1, hcnt, hn, hq.symm, Or.inr ?_, hr⟩
      rw [hq, lsum]
      have : 1 ≤ un (gI σ (b + 1) k) := Nat.pos_of_ne_zero (fun e => h1 (un_0.mp e))
      have := Nat.mul_le_mul_right (2 ^ (32 * k)) this
      simp only [Nat.add_sub_cancel]
      omega
    · have hn0 : 0 < n := Nat.pos_of_ne_zero (fun e => h0 (by rw [hcnt, e]; exact Int32.le_refl _))
      obtain ⟨k, rfl⟩ : ∃ k, n = k + 1 := ⟨n - 1, by omega⟩
      rw [hcnt, nI_m1, nI_clamp (by omega)] at h1
      rw [ha, hcnt, nI_m1]
      have e1 : lsum (gI σ (b + 1)) (k + 1) = lsum (gI σ (b + 1)) k := by rw [lsum, h1]; show _ + 0 * _ = _; omega
      refine hQ _ (hF.si (Or.inl rfl)) ⟨k, gI_sI_s _ _ _ _, by omega, ?_, ?_, ?_⟩
      · rw [hq, e1]; exact lsum_ext (fun j hj => gI_sI_n (Or.inl (by omega)))
      · rcases Nat.eq_zero_or_pos k with g | g
        · exact Or.inl g
        · right
          obtain ⟨j, rfl⟩ : ∃ j, k = j + 1 := ⟨k - 1, by omega⟩
          have h6 : 2 ^ (32 * (j + 1)) ≤ V := by rcases hno with h | h
                                                 · omega
                                                 · simpa using h
          rw [Nat.le_div_iff_mul_le hdv0]
          rw [pw32] at h6
          simp only [Nat.add_sub_cancel]
          have h7 : 2 ^ (32 * j) * dv ≤ 2 ^ (32 * j) * 4294967296 := Nat.mul_le_mul_left _ (by omega)
          omega
      · rw [gI_sI_n (Or.inr (by decide))]; exact hr
  | succ i ih =>
    intro left σ x4 hi ex hl hF hcnt hr hs
    rw [nI_m1] at ex
    subst ex
    have hu := un_lt (gI σ (b + 1) i)
    have hdl : (nI dv).toInt64 = lN dv := nI_l (by omega)
    have hne : ¬ lN dv = 0 := fun e => by have := (pk_lEQ (a := dv) (b := 0) (by omega) (by omega)).mp e; omega
    refine b_Bi_divide_16 hk ⟨fun hh => absurd hh (nI_pos (by omega)), fun _ => ⟨vin (by omega) (by omega), fun v1 hv1 => ?_⟩⟩
    rw [nI_clamp (by omega), and_low, shl32, g_or (k := 32) (p := 2 ^ 32) rfl (by omega) (by omega)] at hv1
    rw [hdl, nI_clamp (by omega), sub1]
    generalize hw : left * 2 ^ 32 + un (gI σ (b + 1) i) = w at hv1
    have hwl : w < 2 ^ 63 := by omega
    have hq32 : w / dv < 4294967296 := by
      rw [Nat.div_lt_iff_lt_mul hdv0]
      have : left * 4294967296 ≤ (dv - 1) * 4294967296 := Nat.mul_le_mul_right _ (by omega)
      omega
    refine ⟨hne, vin (by omega) (by omega), hne, ?_⟩
    rw [hv1, pk_lDiv hwl hdv0 (by omega), lN_mul, lN_low, Nat.mod_eq_of_lt hq32]
    have hsub : lN w - lN (w / dv * dv) = lN (w % dv) := by
      rw [lN_sub (Nat.div_mul_le_self w dv)]
      congr 1
      have := Nat.div_add_mod w dv
      rw [Nat.mul_comm] at this
      omega
    rw [hsub]
    refine ih _ _ _ (by omega) rfl (Nat.mod_lt _ hdv0) (hF.si (Or.inr rfl)) (by rw [gI_sI_n (Or.inl (by omega))]; exact hcnt) (by rw [gI_sI_n (Or.inl (by omega))]; exact hr) ?_
    have key := Nat.div_add_mod w dv
    generalize hq' : w / dv = q at *
    generalize hm' : w % dv = m at *
    have e2 := lsum_up (f := gI σ (b + 1)) (g := gI (sI σ (b + 1) i (nI q)) (b + 1)) (i := i) (n := n) (by omega) (fun j hj => by rw [gI_row]; simp only [if_neg hj])
    have e3 : gI (sI σ (b + 1) i (nI q)) (b + 1) i = nI q := gI_sI_s _ _ _ _
    rw [e3, un_nI hq32] at e2
    have e1 : lsum (gI (sI σ (b + 1) i (nI q)) (b + 1)) i = lsum (gI σ (b + 1)) i := lsum_ext (fun j hj => by rw [gI_row]; simp only [if_neg (show j ≠ i by omega)])
    have e4 := lsum_le (gI σ (b + 1)) (m := i + 1) (n := n) (by omega)
    rw [lsum] at e4 hs
    rw [pw32] at hs
    rw [e1]
    generalize un (gI σ (b + 1) i) = u at *
    generalize 2 ^ (32 * i) = P at *
    generalize lsum (gI σ (b + 1)) i = A at *
    generalize lsum (gI σ (b + 1)) n = B at *
    generalize lsum (gI (sI σ (b + 1) i (nI q)) (b + 1)) n = B' at *
    obtain ⟨X, rfl⟩ : ∃ X, B = A + u * P + X := ⟨B - (A + u * P), by omega⟩
    have e5 : B' - A = q * P + X := by omega
    have e6 : A + u * P + X - (A + u * P) = X := by omega
    rw [e5, Nat.mul_add]
    rw [e6] at hs
    have e7 : (dv * q + m) * P = (left * 2 ^ 32 + u) * P := by rw [key, hw]
    rw [Nat.add_mul, Nat.add_mul] at e7
    have e8 : dv * (q * P) = dv * q * P := by ac_rfl
    have e9 : left * (4294967296 * P) = left * 2 ^ 32 * P := by rw [Nat.mul_assoc]
    omega
theorem c_divide {E : En_t} {d b dv V : Nat} {r : Bool} {σ : S_t} (hk : kindP b = 5) (h : BigAt σ b V r) (hdv0 : 0 < dv) (hdv : dv < 2 ^ 31) : CI E d m_Bi_divide [pv E b, .int (nI dv)] σ (fun x σ' => x = nI (V % dv) ∧ Fr (BP b) σ σ' ∧ BigAt σ' b (V / dv) r) := by
  obtain ⟨n, h1, h2, h3, h4, h5⟩ := h
  refine CE.of (L := [(0, pv E b), (1, .int (nI dv))]) rfl (Nat.le_of_ble_eq_true rfl) rfl (b_Bi_divide_0 hk ⟨fun _ => ?_, fun hh => absurd (nI_lt hdv0 (by omega)) hh⟩)
  rw [h1]
  refine div_loop hk hdv0 hdv V n r h2 h4 σ (fun σ' g1 g2 => ⟨_, rfl, rfl, g1, g2⟩) n 0 σ _ (Nat.le_refl _) rfl hdv0 Fr.rf h1 h5 ?_
  rw [h3, Nat.sub_self]; simp
