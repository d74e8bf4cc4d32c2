theorem tab5 : ∀ j, j < 14 → tabV 1 j = nI (5 ^ j) := by decide +kernel
theorem five_lt : ∀ j, j < 14 → 5 ^ j < 2 ^ 31 := by decide +kernel
theorem addn {a k : Nat} (h : k ≤ a) : nI a + (-nI k) = nI (a - k) := by rw [← Int32.sub_eq_add_neg, pk_sub h]
theorem addn_le {a k : Nat} (h : a ≤ k) (hk : k < 2 ^ 30) : nI a + (-nI k) ≤ 0 := by
  rw [← Int32.sub_eq_add_neg, Int32.le_iff_toInt_le, pk_sub_toInt (by omega) hk, Int32.toInt_zero]; omega
theorem nI_nle' {n : Nat} (h0 : 0 < n) (h : n < 2 ^ 31) : ¬ nI n ≤ 0 := nI_nle h0 h
theorem tf_loop {E : En_t} {d b : Nat} {Q : Option Value → S_t → Prop} (hk : kindP b = 5) (r : Bool) (σ0 : S_t) (T : Nat) (hT : T < 2 ^ 3072) (hQ : ∀ σ', Fr (BP b) σ0 σ' → BigAt σ' b T r → Q none σ') :
    ∀ (p V : Nat) (x2 : Int32) (σ : S_t), ((x2 ≤ 0 ∧ p = 0) ∨ (x2 = nI p ∧ 0 < p)) → p < 2 ^ 30 → BigAt σ b V r → Fr (BP b) σ0 σ → V * 5 ^ p = T → JE E (d + 1) m_Bi_timesFive 2 [(0, pv E b), (2, .int x2)] [] σ Q := by
  intro p
  induction p using Nat.strongRecOn with
  | _ p ih =>
    intro V x2 σ hx hp hB hF hV
    refine b_Bi_timesFive_2 hk ⟨fun h => ?_, fun h r1 e1 => ?_⟩
    · have : p = 0 := by
        rcases hx with h1 | h1
        · exact h1.2
        · exact absurd h (by rw [h1.1]; exact nI_nle h1.2 (by omega))
      subst this
      rw [Nat.pow_zero, Nat.mul_one] at hV
      subst hV
      exact hQ σ hF hB
    · have hx : x2 = nI p ∧ 0 < p := by
        rcases hx with h1 | h1
        · exact absurd h1.1 h
        · exact h1
      obtain ⟨rfl, hp0⟩ := hx
      have e1' : r1 = nI (min p 13) := by rw [e1]; exact mnI_nI (b := 13) (by omega) (by decide)
      have hm : min p 13 < 14 := by omega
      rw [e1', nI_clamp (by omega), tab5 _ hm]
      have hT2 : V * 5 ^ (min p 13) * 5 ^ (p - min p 13) = T := by
        rw [Nat.mul_assoc, ← Nat.pow_add, show min p 13 + (p - min p 13) = p by omega]; exact hV
      have hle : V * 5 ^ (min p 13) ≤ T := by rw [← hT2]; exact Nat.le_mul_of_pos_right _ (Nat.pow_pos (by decide))
      refine ⟨vin hm (by omega), (c_multiply (pl := 0) hk hB (Nat.pow_pos (by decide)) (five_lt _ hm) (by omega) (by omega)).mono (fun s hs => ?_)⟩
      obtain ⟨g1, g2⟩ := hs
      refine ih (p - 13) (by omega) (V * 5 ^ (min p 13)) _ s ?_ (by omega) g2 (hF.tr g1) ?_
      · rcases Nat.lt_or_ge 13 p with g | g
        · exact Or.inr ⟨addn (k := 13) (by omega), by omega⟩
        · exact Or.inl ⟨addn_le (k := 13) g (by omega), by omega⟩
      · rw [← hT2]; congr 2; omega
theorem c_timesFive {E : En_t} {d b V p : Nat} {r : Bool} {σ : S_t} (hk : kindP b = 5) (h : BigAt σ b V r) (hp : p < 2 ^ 30) (hT : V * 5 ^ p < 2 ^ 3072) : CV E (d + 1) m_Bi_timesFive [pv E b, .int (nI p)] σ (fun σ' => Fr (BP b) σ σ' ∧ BigAt σ' b (V * 5 ^ p) r) := by
  refine CE.of (L := [(0, pv E b), (1, .int (nI p))]) rfl (Nat.le_of_ble_eq_true rfl) rfl (b_Bi_timesFive_0 hk ?_)
  refine tf_loop hk r σ (V * 5 ^ p) hT (fun σ' g1 g2 => ⟨rfl, g1, g2⟩) p V _ σ ?_ hp h Fr.rf rfl
  rcases Nat.eq_zero_or_pos p with g | g
  · subst g; exact Or.inl ⟨Int32.le_refl _, rfl⟩
  · exact Or.inr ⟨rfl, g⟩
theorem BigAt.rest {σ : S_t} {b V : Nat} {r : Bool} (h : BigAt σ b V r) : BigAt (sI σ b 2 1) b V true := by
  obtain ⟨n, h1, h2, h3, h4, h5⟩ := h
  refine ⟨n, by rw [gI_sI_n (Or.inr (by decide))]; exact h1, h2, ?_, h4, gI_sI_s _ _ _ _⟩
  rw [← h3]; exact lsum_ext (fun j hj => gI_sI_n (Or.inl (by omega)))
theorem of_loop {E : En_t} {d b : Nat} {Q : Option Value → S_t → Prop} (hk : kindP b = 5) (σ0 : S_t) (T : Nat) (rT : Bool) (hQ : ∀ σ', Fr (BP b) σ0 σ' → BigAt σ' b T rT → Q none σ') :
    ∀ (p V : Nat) (r : Bool) (x2 : Int32) (σ : S_t), ((x2 ≤ 0 ∧ p = 0) ∨ (x2 = nI p ∧ 0 < p)) → p < 2 ^ 30 → BigAt σ b V r → Fr (BP b) σ0 σ → V / 5 ^ p = T → (r || decide (V % 5 ^ p ≠ 0)) = rT → JE E (d + 1) m_Bi_overFive 2 [(0, pv E b), (2, .int x2)] [] σ Q := by
  intro p
  induction p using Nat.strongRecOn with
  | _ p ih =>
    intro V r x2 σ hx hp hB hF hV hr
    refine b_Bi_overFive_2 hk ⟨fun h => ?_, fun h r1 e1 => ?_⟩
    · have : p = 0 := by
        rcases hx with h1 | h1
        · exact h1.2
        · exact absurd h (by rw [h1.1]; exact nI_nle h1.2 (by omega))
      subst this
      rw [Nat.pow_zero, Nat.div_one] at hV
      rw [Nat.pow_zero, Nat.mod_one] at hr
      simp at hr
      subst hV; subst hr
      exact hQ σ hF hB
    · have hx : x2 = nI p ∧ 0 < p := by
        rcases hx with h1 | h1
        · exact absurd h1.1 h
        · exact h1
      obtain ⟨rfl, hp0⟩ := hx
      have e1' : r1 = nI (min p 13) := by rw [e1]; exact mnI_nI (b := 13) (by omega) (by decide)
      have hm : min p 13 < 14 := by omega
      rw [e1', nI_clamp (by omega), tab5 _ hm]
      have hpw : 5 ^ (min p 13) * 5 ^ (p - min p 13) = 5 ^ p := by rw [← Nat.pow_add, show min p 13 + (p - min p 13) = p by omega]
      have hf0 : 0 < 5 ^ (min p 13) := Nat.pow_pos (by decide)
      have hfl := five_lt _ hm
      refine ⟨vin hm (by omega), (c_divide hk hB hf0 hfl).mono (fun x s hs => ?_)⟩
      obtain ⟨g0, g1, g2⟩ := hs
      have e2 : V / 5 ^ (min p 13) / 5 ^ (p - min p 13) = T := by rw [Nat.div_div_eq_div_mul, hpw]; exact hV
      have e3 : V % 5 ^ p = V % 5 ^ (min p 13) + 5 ^ (min p 13) * (V / 5 ^ (min p 13) % 5 ^ (p - min p 13)) := by rw [← hpw, Nat.mod_mul]
      have hx' : (nI p + (-13 : Int32) ≤ 0 ∧ p - 13 = 0) ∨ (nI p + (-13 : Int32) = nI (p - 13) ∧ 0 < p - 13) := by
        rcases Nat.lt_or_ge 13 p with g | g
        · exact Or.inr ⟨addn (k := 13) (by omega), by omega⟩
        · exact Or.inl ⟨addn_le (k := 13) g (by omega), by omega⟩
      have e4 : p - min p 13 = p - 13 := by omega
      rw [e4] at e2 e3
      have hmlt := Nat.mod_lt V hf0
      have hz : x = 0 ↔ V % 5 ^ (min p 13) = 0 := by rw [g0]; exact nI_eq (b := 0) (by omega) (by omega)
      refine ⟨fun hx0 => b_Bi_overFive_28 hk ?_, fun hx0 => b_Bi_overFive_28 hk ?_⟩
      · have hz := hz.mp hx0
        refine ih (p - 13) (by omega) _ r _ s hx' (by omega) g2 (hF.tr g1) e2 ?_
        rw [← hr, e3, hz, Nat.zero_add]
        congr 2
        simp
        rw [Nat.mul_eq_zero]
        constructor
        · intro h; exact fun q => h (by rcases q with q | q; exact absurd q (by omega); exact q)
        · intro h q; exact h (Or.inr q)
      · have hz : V % 5 ^ (min p 13) ≠ 0 := fun q => hx0 (hz.mpr q)
        refine ih (p - 13) (by omega) _ true _ _ hx' (by omega) g2.rest ((hF.tr g1).si (Or.inl rfl)) e2 ?_
        rw [← hr, Bool.true_or]
        have : V % 5 ^ p ≠ 0 := by omega
        simp [this]
theorem c_overFive {E : En_t} {d b V p : Nat} {r : Bool} {σ : S_t} (hk : kindP b = 5) (h : BigAt σ b V r) (hp : p < 2 ^ 30) : CV E (d + 1) m_Bi_overFive [pv E b, .int (nI p)] σ (fun σ' => Fr (BP b) σ σ' ∧ BigAt σ' b (V / 5 ^ p) (r || decide (V % 5 ^ p ≠ 0))) := by
  refine CE.of (L := [(0, pv E b), (1, .int (nI p))]) rfl (Nat.le_of_ble_eq_true rfl) rfl (b_Bi_overFive_0 hk ?_)
  refine of_loop hk σ _ _ (fun σ' g1 g2 => ⟨rfl, g1, g2⟩) p V r _ σ ?_ hp h Fr.rf rfl rfl
  rcases Nat.eq_zero_or_pos p with g | g
  · subst g; exact Or.inl ⟨Int32.le_refl _, rfl⟩
  · exact Or.inr ⟨rfl, g⟩
/-! shifts -/
def nsum (f : Nat → Nat) : Nat → Nat
  | 0 => 0
  | n + 1 => nsum f n + f n * 2 ^ (32 * n)
theorem lsum_nsum (f : Nat → Int32) : ∀ n, lsum f n = nsum (fun i => un (f i)) n
  | 0 => rfl
  | n + 1 => by rw [lsum, nsum, lsum_nsum f n]
theorem nsum_ext {f g : Nat → Nat} : ∀ {n : Nat}, (∀ i, i < n → f i = g i) → nsum f n = nsum g n
  | 0, _ => rfl
  | n + 1, h => by rw [nsum, nsum, nsum_ext (fun i hi => h i (by omega)), h n (by omega)]
theorem nsum_zero {f : Nat → Nat} : ∀ {n : Nat}, (∀ i, i < n → f i = 0) → nsum f n = 0
  | 0, _ => rfl
  | n + 1, h => by rw [nsum, nsum_zero (fun i hi => h i (by omega)), h n (by omega)]; simp
theorem nsum_split (f : Nat → Nat) (w : Nat) : ∀ m, nsum f (w + m) = nsum f w + 2 ^ (32 * w) * nsum (fun t => f (w + t)) m
  | 0 => by simp [nsum]
  | m + 1 => by
    rw [← Nat.add_assoc, nsum, nsum, nsum_split f w m, Nat.mul_add (2 ^ (32 * w)), Nat.mul_add 32, Nat.pow_add]
    have : f (w + m) * (2 ^ (32 * w) * 2 ^ (32 * m)) = 2 ^ (32 * w) * (f (w + m) * 2 ^ (32 * m)) := by ac_rfl
    omega
def sdN (a : Nat → Nat) (o t : Nat) : Nat := a t * 2 ^ o % 4294967296 + (if t = 0 then 0 else a (t - 1) * 2 ^ o / 4294967296)
theorem shl_sum (a : Nat → Nat) (o : Nat) : ∀ n, nsum (sdN a o) n + (if n = 0 then 0 else a (n - 1) * 2 ^ o / 4294967296) * 2 ^ (32 * n) = nsum a n * 2 ^ o
  | 0 => by simp [nsum]
  | n + 1 => by
    have ih := shl_sum a o n
    rw [nsum, nsum, Nat.add_mul, ← ih, pw32]
    simp only [sdN, Nat.add_sub_cancel, if_neg (show ¬ n + 1 = 0 by omega)]
    generalize (if n = 0 then 0 else a (n - 1) * 2 ^ o / 4294967296) = c
    generalize hP : 2 ^ (32 * n) = P
    have key := Nat.mod_add_div (a n * 2 ^ o) 4294967296
    generalize a n * 2 ^ o % 4294967296 = x at *
    generalize a n * 2 ^ o / 4294967296 = y at *
    have e : a n * P * 2 ^ o = (x + 4294967296 * y) * P := by rw [key]; ac_rfl
    rw [e, Nat.add_mul, Nat.add_mul]
    have : y * (4294967296 * P) = 4294967296 * y * P := by ac_rfl
    omega
def srN (a : Nat → Nat) (o t : Nat) : Nat := a t / 2 ^ o + a (t + 1) * 2 ^ (32 - o) % 4294967296
theorem shr_sum (a : Nat → Nat) {o : Nat} (ho : o < 32) : ∀ m, nsum a m + (a m % 2 ^ o) * 2 ^ (32 * m) = 2 ^ o * nsum (srN a o) m + a 0 % 2 ^ o
  | 0 => by simp [nsum]
  | m + 1 => by
    have ih := shr_sum a ho m
    have e1 : a (m + 1) * 2 ^ (32 - o) % 4294967296 = 2 ^ (32 - o) * (a (m + 1) % 2 ^ o) := by
      rw [show (4294967296 : Nat) = 2 ^ (32 - o) * 2 ^ o by rw [← Nat.pow_add, show 32 - o + o = 32 by omega], Nat.mul_comm (a (m + 1)), Nat.mul_mod_mul_left]
    have e2 : 2 ^ o * 2 ^ (32 - o) = 4294967296 := by rw [← Nat.pow_add, show o + (32 - o) = 32 by omega]
    have e3 : srN a o m = a m / 2 ^ o + 2 ^ (32 - o) * (a (m + 1) % 2 ^ o) := by unfold srN; rw [e1]
    rw [nsum, nsum, pw32, e3]
    have key := Nat.mod_add_div (a m) (2 ^ o)
    generalize a (m + 1) % 2 ^ o = z
    generalize 2 ^ (32 * m) = P at *
    generalize nsum a m = N at *
    generalize nsum (srN a o) m = S at *
    generalize a m % 2 ^ o = x at *
    generalize a m / 2 ^ o = q at *
    have k1 : a m * P = x * P + 2 ^ o * q * P := by rw [← key, Nat.add_mul]
    have k2 : 2 ^ o * (S + (q + 2 ^ (32 - o) * z) * P) = 2 ^ o * S + 2 ^ o * q * P + 4294967296 * z * P := by
      rw [← e2]; simp only [Nat.mul_add, Nat.add_mul]
      have : 2 ^ o * (q * P) = 2 ^ o * q * P := by ac_rfl
      have : 2 ^ o * (2 ^ (32 - o) * z * P) = 2 ^ o * 2 ^ (32 - o) * z * P := by ac_rfl
      omega
    have k3 : z * (4294967296 * P) = 4294967296 * z * P := by ac_rfl
    omega
theorem shr5 {s : Nat} (h : s < 2 ^ 31) : nI s >>> ((5 : Int32) &&& 31) = nI (s / 32) := pk_shrN (k := 5) h _ (by decide)
theorem and31 {s : Nat} (h : s < 2 ^ 31) : nI s &&& (31 : Int32) = nI (s % 32) := pk_andN (k := 5) (by omega) (by decide)
/-- the two halves of a shifted limb -/
theorem or_limb (x y : Int32) {o : Nat} (h0 : 0 < o) (ho : o < 32) : (x <<< (nI o &&& 31)) ||| (y.toUInt32 >>> (((32 : Int32) - nI o).toUInt32 &&& Int32.toUInt32 31)).toInt32 = nI (un x * 2 ^ o % 4294967296 + un y * 2 ^ o / 4294967296) := by
  have hx := un_lt x
  have hy := un_lt y
  have e0 : (32 : Int32) - nI o = nI (32 - o) := pk_sub (a := 32) (by omega)
  rw [e0, ushr_v y (by omega), shl_v x ho]
  have e1 : un x * 2 ^ o % 2 ^ 32 = 2 ^ o * (un x % 2 ^ (32 - o)) := by
    rw [show 2 ^ 32 = 2 ^ o * 2 ^ (32 - o) by rw [← Nat.pow_add, show o + (32 - o) = 32 by omega], Nat.mul_comm (un x), Nat.mul_mod_mul_left]
  have e2 : un y * 2 ^ o / 4294967296 = un y / 2 ^ (32 - o) := by
    rw [show (4294967296 : Nat) = 2 ^ (32 - o) * 2 ^ o by rw [← Nat.pow_add, show 32 - o + o = 32 by omega], Nat.mul_div_mul_right _ _ (pw_pos o)]
  have e3 : un y / 2 ^ (32 - o) < 2 ^ o := by
    rw [Nat.div_lt_iff_lt_mul (pw_pos _), ← Nat.pow_add, show o + (32 - o) = 32 by omega]; exact hy
  rw [show (4294967296 : Nat) = 2 ^ 32 from rfl] at *
  rw [e2, e1, fa_or_sum _ e3]
theorem or_limb2 (x y : Int32) {o : Nat} (h0 : 0 < o) (ho : o < 32) : (x.toUInt32 >>> ((nI o).toUInt32 &&& Int32.toUInt32 31)).toInt32 ||| (y <<< (((32 : Int32) - nI o) &&& 31)) = nI (un x / 2 ^ o + un y * 2 ^ (32 - o) % 4294967296) := by
  have hx := un_lt x
  have hy := un_lt y
  have e0 : (32 : Int32) - nI o = nI (32 - o) := pk_sub (a := 32) (by omega)
  rw [e0, ushr_v x ho, shl_v y (by omega)]
  have e1 : un y * 2 ^ (32 - o) % 2 ^ 32 = 2 ^ (32 - o) * (un y % 2 ^ o) := by
    rw [show 2 ^ 32 = 2 ^ (32 - o) * 2 ^ o by rw [← Nat.pow_add, show 32 - o + o = 32 by omega], Nat.mul_comm (un y), Nat.mul_mod_mul_left]
  have e3 : un x / 2 ^ o < 2 ^ (32 - o) := by
    rw [Nat.div_lt_iff_lt_mul (pw_pos _), ← Nat.pow_add, show 32 - o + o = 32 by omega]; exact hx
  rw [show (4294967296 : Nat) = 2 ^ 32 from rfl] at *
  rw [e1, fa_or, Nat.or_comm, ← fa_or, fa_or_sum _ e3, Nat.add_comm]
/-- shiftLeft's last loop: zeros below, then the count -/
theorem sl_zero {E : En_t} {d b : Nat} {Q : Option Value → S_t → Prop} (hk : kindP b = 5) (w n' V : Nat) (r : Bool) (hw : w < n') (hn : n' ≤ 96) (σ0 : S_t) (hQ : ∀ σ', Fr (BP b) σ0 σ' → BigAt σ' b V r → Q none σ') :
    ∀ (m i : Nat) (σ : S_t), i + m = w → Fr (BP b) σ0 σ → gI σ b 2 = bI r → (∀ j, j < i → gI σ (b + 1) j = 0) → 2 ^ (32 * w) * nsum (fun t => un (gI σ (b + 1) (w + t))) (n' - w) = V → (n' ≤ 1 ∨ 2 ^ (32 * (n' - 2)) ≤ V) →
    JE E (d + 1) m_Bi_shiftLeft 135 [(0, pv E b), (2, .int (nI w)), (4, .int (nI n')), (5, .int (nI i))] [] σ Q := by
  intro m
  induction m with
  | zero =>
    intro i σ him hF hr hz hs hno
    have : i = w := by omega
    subst this
    refine b_Bi_shiftLeft_135 hk ⟨fun _ => ?_, fun h => absurd (Int32.le_refl _) h⟩
    refine (c_drop (n := n') (V := V) (r := r) hk (gI_sI_s _ _ _ _) hn ?_ hno (by rw [gI_sI_n (Or.inr (by decide))]; exact hr)).mono (fun s hs => hQ s ((hF.si (Or.inl rfl)).tr hs.1) hs.2)
    rw [lsum_ext (g := gI σ (b + 1)) (fun j hj => gI_sI_n (Or.inl (by omega))), lsum_nsum]
    obtain ⟨q, rfl⟩ : ∃ q, n' = i + q := ⟨n' - i, by omega⟩
    rw [nsum_split, nsum_zero (fun j hj => by rw [hz j hj]; rfl), Nat.zero_add, ← hs]
    congr 2; omega
  | succ m ih =>
    intro i σ him hF hr hz hs hno
    refine b_Bi_shiftLeft_135 hk ⟨fun h => absurd h (nI_ge (by omega) (by omega)), fun _ => ⟨vin (by omega) (by omega), ?_⟩⟩
    rw [nI_clamp (by omega), nI_1]
    refine ih (i + 1) _ (by omega) (hF.si (Or.inr rfl)) (by rw [gI_sI_n (Or.inl (by omega))]; exact hr) (fun j hj => ?_) ?_ hno
    · rw [gI_sI]
      by_cases e : j = i
      · simp [e]
      · rw [if_neg (by omega)]; exact hz j (by omega)
    · rw [← hs]; congr 1; exact nsum_ext (fun t ht => by rw [gI_sI_n (Or.inr (by omega))])
theorem sl_loop {E : En_t} {d b : Nat} {Q : Option Value → S_t → Prop} (hk : kindP b = 5) (w o n V : Nat) (r : Bool) (ho : o < 32) (hn0 : 0 < n) (hn : n + w + 1 ≤ 96) (a : Nat → Int32) (ha : a n = 0) (hV : lsum a n = V) (hno : 2 ^ (32 * (n - 1)) ≤ V) (σ0 : S_t) (hQ : ∀ σ', Fr (BP b) σ0 σ' → BigAt σ' b (V * 2 ^ (32 * w + o)) r → Q none σ') :
    ∀ (k : Nat) (σ : S_t) (x5 : Int32), k ≤ n + 1 → x5 = nI (w + k) - 1 → Fr (BP b) σ0 σ → gI σ b 2 = bI r → (∀ j, j < w + k → gI σ (b + 1) j = a j) → (∀ t, k ≤ t → t ≤ n → gI σ (b + 1) (w + t) = nI (sdN (fun i => un (a i)) o t)) →
    JE E (d + 1) m_Bi_shiftLeft 54 [(0, pv E b), (2, .int (nI w)), (3, .int (nI o)), (4, .int (nI (n + w + 1))), (5, .int x5)] [] σ Q := by
  intro k
  induction k with
  | zero =>
    intro σ x5 hkn ex hF hr hlo hhi
    have hlt : x5 < nI w := by
      rw [ex, Nat.add_zero, Int32.lt_iff_toInt_lt]
      have : (nI w - 1).toInt = (w : Int) - 1 := pk_sub_toInt (a := w) (b := 1) (by omega) (by omega)
      rw [this, nI_toInt (by omega)]; omega
    refine b_Bi_shiftLeft_54 hk ⟨fun _ => ?_, fun h => absurd hlt h⟩
    refine sl_zero hk w (n + w + 1) (V * 2 ^ (32 * w + o)) r (by omega) hn σ0 hQ w 0 σ (by omega) hF hr (fun j hj => absurd hj (by omega)) ?_ (Or.inr ?_)
    · rw [show n + w + 1 - w = n + 1 by omega]
      have hb : ∀ t, sdN (fun i => un (a i)) o t < 4294967296 := by
        intro t
        unfold sdN
        have h1 : un (a t) * 2 ^ o % 4294967296 = 2 ^ o * (un (a t) % 2 ^ (32 - o)) := by
          rw [show (4294967296 : Nat) = 2 ^ o * 2 ^ (32 - o) by rw [← Nat.pow_add, show o + (32 - o) = 32 by omega], Nat.mul_comm (un _), Nat.mul_mod_mul_left]
        have h2 : (if t = 0 then 0 else un (a (t - 1)) * 2 ^ o / 4294967296) < 2 ^ o := by
          split
          · exact pw_pos o
          · rw [Nat.div_lt_iff_lt_mul (by decide)]
            have := Nat.mul_lt_mul_of_pos_right (un_lt (a (t - 1))) (pw_pos o)
            rw [Nat.mul_comm (2 ^ o)]; exact this
        have h3 : un (a t) % 2 ^ (32 - o) + 1 ≤ 2 ^ (32 - o) := Nat.mod_lt _ (pw_pos _)
        have h4 := Nat.mul_le_mul_left (2 ^ o) h3
        rw [← Nat.pow_add, show o + (32 - o) = 32 by omega, Nat.mul_add] at h4
        show un (a t) * 2 ^ o % 4294967296 + (if t = 0 then 0 else un (a (t - 1)) * 2 ^ o / 4294967296) < _
        rw [h1]
        omega
      rw [nsum_ext (g := sdN (fun i => un (a i)) o) (fun t ht => by rw [hhi t (by omega) (by omega), un_nI (hb t)])]
      have hs := shl_sum (fun i => un (a i)) o (n + 1)
      simp only [if_neg (show ¬ n + 1 = 0 by omega), Nat.add_sub_cancel] at hs
      rw [ha] at hs
      have z : un (0 : Int32) = 0 := rfl
      rw [z, Nat.zero_mul, Nat.zero_div, Nat.zero_mul, Nat.add_zero] at hs
      rw [hs, nsum, ha, z, Nat.zero_mul, Nat.add_zero, ← lsum_nsum, hV, Nat.pow_add]
      ac_rfl
    · rw [show n + w + 1 - 2 = (n - 1) + w by omega, Nat.mul_add, Nat.pow_add, Nat.pow_add]
      have h1 : 1 ≤ 2 ^ o := pw_pos o
      have h2 := Nat.mul_le_mul_right (2 ^ (32 * w)) hno
      have h3 := Nat.mul_le_mul_left (V * 2 ^ (32 * w)) h1
      rw [Nat.mul_one, Nat.mul_assoc] at h3
      omega
  | succ k ih =>
    intro σ x5 hkn ex hF hr hlo hhi
    rw [← Nat.add_assoc, nI_m1] at ex
    subst ex
    have hge : ¬ nI (w + k) < nI w := nI_nlt (by omega) (by omega)
    have hsub : nI (w + k) - nI w = nI k := by rw [pk_sub (by omega)]; congr 1; omega
    have hcur : gI σ (b + 1) k = a k := hlo k (by omega)
    -- the step behind the two roads
    have fin : ∀ v : Int32, v = nI (sdN (fun i => un (a i)) o k) → JE E (d + 1) m_Bi_shiftLeft 125 [(0, pv E b), (2, .int (nI w)), (3, .int (nI o)), (4, .int (nI (n + w + 1))), (5, .int (nI (w + k)))] [.int v, .int (nI (w + k)), pv E (b + 1)] σ Q := by
      intro v hv
      have ak := ak_Bi_0 hk
      refine b_Bi_shiftLeft_125 hk ak.1 ⟨by rw [ak.2]; exact vin (by omega) (by omega), ?_⟩
      rw [nI_clamp (by omega), sub1]
      refine ih _ _ (by omega) rfl (hF.si (Or.inr rfl)) (by rw [gI_sI_n (Or.inl (by omega))]; exact hr) (fun j hj => ?_) (fun t h1 h2 => ?_)
      · rw [gI_sI_n (Or.inr (by omega))]; exact hlo j (by omega)
      · by_cases e : t = k
        · subst e; rw [gI_sI_s]; exact hv
        · rw [gI_sI_n (Or.inr (by omega))]; exact hhi t (by omega) h2
    have z0 : ∀ c : Nat, c = 0 → sdN (fun i => un (a i)) o k = un (a k) * 2 ^ o % 4294967296 + c → nI (un (a k) * 2 ^ o % 2 ^ 32) = nI (sdN (fun i => un (a i)) o k) := by
      intro c hc e; rw [e, hc, Nat.add_zero]
    refine b_Bi_shiftLeft_54 hk ⟨fun h => absurd h hge, fun _ => ⟨by rw [hsub]; exact vin (by omega) (by omega), fun h0 => ?_, fun h0 => ⟨fun h1 => ?_, fun h1 => ?_⟩⟩⟩
    · -- nothing odd
      have : o = 0 := by
        rcases Nat.eq_zero_or_pos o with g | g
        · exact g
        · exact absurd h0 (nI_nle g (by omega))
      subst this
      rw [hsub, nI_clamp (by omega), hcur, shl_v _ (by omega)]
      refine b_Bi_shiftLeft_87 hk (b_Bi_shiftLeft_88 hk ⟨fun _ => fin _ ?_, fun h => absurd rfl h⟩)
      refine z0 _ ?_ rfl
      split
      · rfl
      · have := un_lt (a (k - 1)); simp; omega
    · have hk0 : k = 0 := by
        have : w + k ≤ w := (nI_leI (by omega) (by omega)).mp h1
        omega
      subst hk0
      rw [hsub, nI_clamp (by omega), hcur, shl_v _ (by omega)]
      refine b_Bi_shiftLeft_87 hk (b_Bi_shiftLeft_88 hk ⟨fun _ => fin _ ?_, fun h => absurd rfl h⟩)
      exact z0 _ (if_pos rfl) rfl
    · have hk0 : 0 < k := by
        rcases Nat.eq_zero_or_pos k with g | g
        · subst g; exact absurd (Int32.le_refl _) h1
        · exact g
      have ho0 : 0 < o := by
        rcases Nat.eq_zero_or_pos o with g | g
        · subst g; exact absurd (Int32.le_refl _) h0
        · exact g
      have hk1 : nI k - 1 = nI (k - 1) := pk_sub (b := 1) (by omega)
      rw [hsub, nI_clamp (by omega), hcur]
      refine b_Bi_shiftLeft_88 hk ⟨fun h => absurd h (by decide), fun _ => ⟨by rw [hsub, hk1]; exact vin (by omega) (by omega), fun v1 hv1 => ?_⟩⟩
      rw [hsub, hk1, nI_clamp (by omega), hlo (k - 1) (by omega)] at hv1
      refine fin _ ?_
      rw [hv1, or_limb _ _ ho0 ho]
      unfold sdN
      rw [if_neg (by omega)]
theorem c_shiftLeft {E : En_t} {d b V s : Nat} {r : Bool} {σ : S_t} (hk : kindP b = 5) (h : BigAt σ b V r) (hs : s < 2 ^ 30) (hT : V * 2 ^ s < 2 ^ 3040) : CV E (d + 1) m_Bi_shiftLeft [pv E b, .int (nI s)] σ (fun σ' => Fr (BP b) σ σ' ∧ BigAt σ' b (V * 2 ^ s) r) := by
  obtain ⟨n, h1, h2, h3, h4, h5⟩ := h
  refine CE.of (L := [(0, pv E b), (1, .int (nI s))]) rfl (Nat.le_of_ble_eq_true rfl) rfl (b_Bi_shiftLeft_0 hk ⟨fun h0 => ?_, fun h0 => ⟨fun h6 => ?_, fun h6 => ?_⟩⟩)
  · have : n = 0 := by rw [h1] at h0; exact (nI_eq (b := 0) (by omega) (by omega)).mp h0
    subst this
    rw [lsum] at h3; subst h3
    exact ⟨rfl, Fr.rf, 0, h1, h2, by rw [lsum, Nat.zero_mul], Or.inl rfl, h5⟩
  · have : s = 0 := by
      rcases Nat.eq_zero_or_pos s with g | g
      · exact g
      · exact absurd h6 (nI_nle g (by omega))
    subst this
    exact ⟨rfl, Fr.rf, n, h1, h2, by rw [h3]; simp, by simpa using h4, h5⟩
  · have hn0 : n ≠ 0 := by rintro rfl; exact h0 (by rw [h1]; rfl)
    have h4 : 2 ^ (32 * (n - 1)) ≤ V := by rcases h4 with h | h
                                           · exact absurd h hn0
                                           · exact h
    have hw : n + s / 32 + 1 ≤ 96 := by
      have h7 : 2 ^ (32 * (n - 1)) * 2 ^ (32 * (s / 32)) ≤ V * 2 ^ s := Nat.mul_le_mul h4 (Nat.pow_le_pow_right (by decide) (by omega))
      rw [← Nat.pow_add] at h7
      have h8 := Nat.lt_of_le_of_lt h7 hT
      have := (Nat.pow_lt_pow_iff_right (a := 2) (by decide)).mp h8
      omega
    have e1 : nI n + nI (s / 32) + 1 = nI (n + s / 32 + 1) := by rw [nI_add, nI_1]
    rw [h1, shr5 (by omega), and31 (by omega), e1, nI_m1]
    refine ⟨fun _ => ⟨vin (by omega) (by omega), ?_⟩, fun h => absurd (nI_le (b := 96) hw (by decide)) h⟩
    rw [nI_clamp (by omega)]
    refine sl_loop hk (s / 32) (s % 32) n V r (by omega) (by omega) hw (gI (sI σ (b + 1) n 0) (b + 1)) (gI_sI_s _ _ _ _) ?_ h4 σ (fun σ' g1 g2 => ⟨rfl, g1, ?_⟩) (n + 1) _ _ (by omega) ?_ (Fr.rf.si (Or.inr rfl)) (by rw [gI_sI_n (Or.inl (by omega))]; exact h5) (fun j _ => rfl) (fun t h1 h2 => absurd h1 (by omega))
    · rw [← h3]; exact lsum_ext (fun j hj => gI_sI_n (Or.inr (by omega)))
    · rw [← Nat.add_assoc, nI_m1, Nat.add_comm n]
    · rw [show 32 * (s / 32) + s % 32 = s by omega] at g2; exact g2
