/-- shiftRight's last loop -/
theorem sr_loop {E : En_t} {d b : Nat} {Q : Option Value → S_t → Prop} (hk : kindP b = 5) (w o c T : Nat) (r : Bool) (ho : o < 32) (hc : c + w ≤ 96) (g : Nat → Int32) (a : Nat → Nat) (ha1 : ∀ t, t < c → a t = un (g (w + t))) (ha2 : a c = 0) (hT : nsum (srN a o) c = T) (hno : c ≤ 1 ∨ 2 ^ (32 * (c - 2)) ≤ T) (σ0 : S_t) (hQ : ∀ σ', Fr (BP b) σ0 σ' → BigAt σ' b T r → Q none σ') :
    ∀ (m i : Nat) (σ : S_t), i + m = c → Fr (BP b) σ0 σ → gI σ b 1 = nI c → gI σ b 2 = bI r → (∀ j, j < i → gI σ (b + 1) j = nI (srN a o j)) → (∀ j, i ≤ j → gI σ (b + 1) j = g j) →
    JE E (d + 1) m_Bi_shiftRight 102 [(0, pv E b), (2, .int (nI w)), (3, .int (nI o)), (4, .int (nI i))] [] σ Q := by
  have hb : ∀ t, t < c → srN a o t < 4294967296 := by
    intro t ht
    have h1 : a t < 4294967296 := by rw [ha1 t ht]; exact un_lt _
    unfold srN
    have e1 : a (t + 1) * 2 ^ (32 - o) % 4294967296 = 2 ^ (32 - o) * (a (t + 1) % 2 ^ o) := by
      rw [show (4294967296 : Nat) = 2 ^ (32 - o) * 2 ^ o by rw [← Nat.pow_add, show 32 - o + o = 32 by omega], Nat.mul_comm (a (t + 1)), Nat.mul_mod_mul_left]
    have e3 : a t / 2 ^ o < 2 ^ (32 - o) := by
      rw [Nat.div_lt_iff_lt_mul (pw_pos _), ← Nat.pow_add, show 32 - o + o = 32 by omega]; exact h1
    have h3 : a (t + 1) % 2 ^ o + 1 ≤ 2 ^ o := Nat.mod_lt _ (pw_pos _)
    have h4 := Nat.mul_le_mul_left (2 ^ (32 - o)) h3
    rw [← Nat.pow_add, show 32 - o + o = 32 by omega, Nat.mul_add] at h4
    rw [e1]
    omega
  intro m
  induction m with
  | zero =>
    intro i σ him hF hcnt hr hlo hhi
    have : i = c := by omega
    subst this
    refine b_Bi_shiftRight_102 hk ⟨fun _ => ?_, fun h => absurd (by rw [hcnt]; exact Int32.le_refl _) h⟩
    refine (c_drop (n := i) (V := T) (r := r) hk hcnt (by omega) ?_ hno hr).mono (fun s hs => hQ s (hF.tr hs.1) hs.2)
    rw [lsum_nsum, ← hT]
    exact nsum_ext (fun j hj => by rw [hlo j hj, un_nI (hb j hj)])
  | succ m ih =>
    intro i σ him hF hcnt hr hlo hhi
    have hic : i < c := by omega
    have fin : ∀ v : Int32, v = nI (srN a o i) → JE E (d + 1) m_Bi_shiftRight 181 [(0, pv E b), (2, .int (nI w)), (3, .int (nI o)), (4, .int (nI i))] [.int v, .int (nI i), pv E (b + 1)] σ Q := by
      intro v hv
      have ak := ak_Bi_0 hk
      refine b_Bi_shiftRight_181 hk ak.1 ⟨by rw [ak.2]; exact vin (by omega) (by omega), ?_⟩
      rw [nI_clamp (by omega), nI_1]
      refine ih (i + 1) _ (by omega) (hF.si (Or.inr rfl)) (by rw [gI_sI_n (Or.inl (by omega))]; exact hcnt) (by rw [gI_sI_n (Or.inl (by omega))]; exact hr) (fun j hj => ?_) (fun j hj => ?_)
      · by_cases e : j = i
        · subst e; rw [gI_sI_s]; exact hv
        · rw [gI_sI_n (Or.inr e)]; exact hlo j (by omega)
      · rw [gI_sI_n (Or.inr (by omega))]; exact hhi j (by omega)
    have eiw : nI i + nI w = nI (w + i) := by rw [nI_add, Nat.add_comm]
    have hcur : gI σ (b + 1) (w + i) = g (w + i) := hhi _ (by omega)
    have hsv := ushr_v (g (w + i)) ho
    rw [← ha1 i hic] at hsv
    refine b_Bi_shiftRight_102 hk ⟨fun h => absurd h (by rw [hcnt]; exact nI_ge hic (by omega)), fun _ => ⟨by rw [eiw]; exact vin (by omega) (by omega), fun h0 => ?_, fun h0 => ⟨fun h1 => ?_, fun h1 => ?_⟩⟩⟩
    · have : o = 0 := by
        rcases Nat.eq_zero_or_pos o with q | q
        · exact q
        · exact absurd h0 (nI_nle q (by omega))
      subst this
      rw [eiw, nI_clamp (by omega), hcur, hsv]
      refine b_Bi_shiftRight_143 hk (b_Bi_shiftRight_144 hk ⟨fun _ => fin _ ?_, fun h => absurd rfl h⟩)
      unfold srN
      rw [show a (i + 1) * 2 ^ (32 - 0) % 4294967296 = 0 by simp, Nat.add_zero]
    · have hl : i + 1 = c := by
        have e : nI c - 1 = nI (c - 1) := pk_sub (b := 1) (by omega)
        rw [hcnt, e] at h1
        have := (nI_leI (by omega) (by omega)).mp h1
        omega
      rw [eiw, nI_clamp (by omega), hcur, hsv]
      refine b_Bi_shiftRight_143 hk (b_Bi_shiftRight_144 hk ⟨fun _ => fin _ ?_, fun h => absurd rfl h⟩)
      unfold srN
      rw [hl, ha2, Nat.zero_mul, Nat.zero_mod, Nat.add_zero]
    · have hl : i + 1 < c := by
        have e : nI c - 1 = nI (c - 1) := pk_sub (b := 1) (by omega)
        rw [hcnt, e] at h1
        rcases Nat.lt_or_ge i (c - 1) with q | q
        · omega
        · exact absurd (nI_le q (by omega)) h1
      have ho0 : 0 < o := by
        rcases Nat.eq_zero_or_pos o with q | q
        · subst q; exact absurd (Int32.le_refl _) h0
        · exact q
      rw [eiw, nI_clamp (by omega), hcur]
      refine b_Bi_shiftRight_144 hk ⟨fun h => absurd h (by decide), fun _ => ⟨by rw [eiw, nI_1]; exact vin (by omega) (by omega), ?_⟩⟩
      rw [eiw, nI_1, nI_clamp (by omega), hhi _ (by omega), or_limb2 _ _ ho0 ho]
      refine fin _ ?_
      unfold srN
      rw [ha1 i hic, ha1 (i + 1) hl, ← Nat.add_assoc]
/-- shiftRight's first loop: is anything lost? -/
theorem sr_first {E : En_t} {d b : Nat} {Q : Option Value → S_t → Prop} (hk : kindP b = 5) (w n : Nat) (x3 : Int32) (hw : w ≤ n) (hn : n ≤ 96) (g : Nat → Int32) (r : Bool) (σ0 : S_t)
    (hX : ∀ σ, Fr (BP b) σ0 σ → gI σ b 1 = nI n → gI σ (b + 1) = g → gI σ b 2 = bI (r || decide (lsum g w ≠ 0)) → JE E (d + 1) m_Bi_shiftRight 24 [(0, pv E b), (2, .int (nI w)), (3, .int x3), (4, .int (nI w))] [] σ Q) :
    ∀ (m i : Nat) (σ : S_t), i + m = w → Fr (BP b) σ0 σ → gI σ b 1 = nI n → gI σ (b + 1) = g → gI σ b 2 = bI (r || decide (lsum g i ≠ 0)) → JE E (d + 1) m_Bi_shiftRight 24 [(0, pv E b), (2, .int (nI w)), (3, .int x3), (4, .int (nI i))] [] σ Q := by
  intro m
  induction m with
  | zero =>
    intro i σ him hF hc hg hr
    have : i = w := by omega
    subst this
    exact hX σ hF hc hg hr
  | succ m ih =>
    intro i σ him hF hc hg hr
    have hstep : ∀ v : Bool, v = (r || decide (lsum g (i + 1) ≠ 0)) → JE E (d + 1) m_Bi_shiftRight 53 [(0, pv E b), (2, .int (nI w)), (3, .int x3), (4, .int (nI i))] [.int (bI v), pv E b] σ Q := by
      intro v hv
      refine b_Bi_shiftRight_53 hk hk ⟨by cases v <;> simp [bI], ?_⟩
      rw [nI_1]
      refine ih (i + 1) _ (by omega) (hF.si (Or.inl rfl)) (by rw [gI_sI_n (Or.inr (by decide))]; exact hc) ?_ (by rw [gI_sI_s, hv])
      rw [← hg]; funext j; exact gI_sI_n (Or.inl (by omega))
    have hls : lsum g (i + 1) = 0 ↔ lsum g i = 0 ∧ g i = 0 := by
      rw [lsum, Nat.add_eq_zero_iff, Nat.mul_eq_zero, un_0]
      have := pw_pos (32 * i)
      constructor
      · rintro ⟨q1, q2 | q2⟩
        · exact ⟨q1, q2⟩
        · omega
      · rintro ⟨q1, q2⟩; exact ⟨q1, Or.inl q2⟩
    refine b_Bi_shiftRight_24 hk ⟨fun h => absurd h (nI_ge (by omega) (by omega)), fun _ => ⟨fun h0 => ?_, fun h0 => ⟨vin (by omega) (by omega), fun h1 => ?_, fun h1 => ?_⟩⟩⟩
    · refine b_Bi_shiftRight_48 hk hk (hstep true ?_)
      rw [hr] at h0
      have : (r || decide (lsum g i ≠ 0)) = true := by
        cases hh : (r || decide (lsum g i ≠ 0)) with
        | true => rfl
        | false => rw [hh] at h0; exact absurd rfl h0
      cases r with
      | true => rfl
      | false =>
        simp at this ⊢
        exact fun q => this (hls.mp q).1
    · rw [nI_clamp (by omega), hg] at h1
      refine hstep false ?_
      rw [hr] at h0
      have : (r || decide (lsum g i ≠ 0)) = false := by
        cases hh : (r || decide (lsum g i ≠ 0)) with
        | true => rw [hh] at h0; exact absurd h0 (by decide)
        | false => rfl
      simp at this
      simp [this.1]
      exact hls.mpr ⟨this.2, h1⟩
    · rw [nI_clamp (by omega), hg] at h1
      refine b_Bi_shiftRight_48 hk hk (hstep true ?_)
      have : lsum g (i + 1) ≠ 0 := fun q => h1 (hls.mp q).2
      simp [this]
theorem mask_v {o : Nat} (ho : o < 32) (x : Int32) : x &&& (((1 : Int32) <<< (nI o &&& 31)) - 1) = nI (un x % 2 ^ o) := by
  have e : ((1 : Int32) <<< (nI o &&& 31)) - 1 = nI (2 ^ o - 1) := by
    have h1 : (1 : Int32) <<< (nI o &&& 31) = nI (2 ^ o) := by
      rw [shl_v _ ho]
      have : un (1 : Int32) = 1 := rfl
      have h2 : 2 ^ o < 2 ^ 32 := Nat.pow_lt_pow_right (by decide) ho
      rw [this, Nat.one_mul, Nat.mod_eq_of_lt h2]
    rw [h1]
    exact pk_sub (b := 1) (pw_pos o)
  rw [e]
  conv => lhs; rw [← nI_un x]
  exact fa_mask (un x) o
theorem c_shiftRight {E : En_t} {d b V s : Nat} {r : Bool} {σ : S_t} (hk : kindP b = 5) (h : BigAt σ b V r) (hs : s < 2 ^ 30) : CV E (d + 1) m_Bi_shiftRight [pv E b, .int (nI s)] σ (fun σ' => Fr (BP b) σ σ' ∧ BigAt σ' b (V / 2 ^ s) (r || decide (V % 2 ^ s ≠ 0))) := by
  obtain ⟨n, h1, h2, h3, h4, h5⟩ := h
  refine CE.of (L := [(0, pv E b), (1, .int (nI s))]) rfl (Nat.le_of_ble_eq_true rfl) rfl (b_Bi_shiftRight_0 hk ⟨fun h0 r1 e1 => ?_, fun h0 => ?_⟩)
  · have hs0 : 0 < s := by
      rcases Nat.eq_zero_or_pos s with g | g
      · subst g; exact absurd h0 (by decide)
      · exact g
    rw [shr5 (by omega), h1, mnI_nI (by omega) (by omega)] at e1
    subst e1
    rw [and31 (by omega)]
    generalize hw : min (s / 32) n = w
    generalize hoe : s % 32 = o
    have ho : o < 32 := by omega
    generalize hg : gI σ (b + 1) = g
    rw [hg] at h3
    refine sr_first hk w n _ (by omega) h2 g r σ (fun σ1 hF hc hg1 hr => ?_) w 0 σ (by omega) Fr.rf h1 hg (by rw [h5, lsum]; simp)
    -- what is above
    have hsplit : V = lsum g w + 2 ^ (32 * w) * nsum (fun t => un (g (w + t))) (n - w) := by
      rw [← h3, lsum_nsum, lsum_nsum]
      have := nsum_split (fun i => un (g i)) w (n - w)
      rw [show w + (n - w) = n by omega] at this
      exact this
    have hlow := lsum_lt g w
    generalize hHi : nsum (fun t => un (g (w + t))) (n - w) = Hi at hsplit
    have hdiv : V / 2 ^ (32 * w) = Hi := by rw [hsplit, Nat.add_mul_div_left _ _ (pw_pos _), Nat.div_eq_of_lt hlow, Nat.zero_add]
    have hmod : V % 2 ^ (32 * w) = lsum g w := by rw [hsplit, Nat.add_mul_mod_self_left, Nat.mod_eq_of_lt hlow]
    let a : Nat → Nat := fun t => if t < n - w then un (g (w + t)) else 0
    have haH : nsum a (n - w) = Hi := by rw [← hHi]; exact nsum_ext (fun t ht => by simp only [a, if_pos ht])
    have hsr := shr_sum a ho (n - w)
    have hac : a (n - w) = 0 := by simp only [a]; rw [if_neg (by omega)]
    rw [hac, Nat.zero_mod, Nat.zero_mul, Nat.add_zero, haH] at hsr
    have hmlt : a 0 % 2 ^ o < 2 ^ o := Nat.mod_lt _ (pw_pos o)
    have hT : nsum (srN a o) (n - w) = Hi / 2 ^ o := by
      rw [hsr, Nat.mul_add_div (pw_pos o), Nat.div_eq_of_lt hmlt, Nat.add_zero]
    have hm0 : Hi % 2 ^ o = a 0 % 2 ^ o := by rw [hsr, Nat.mul_add_mod, Nat.mod_eq_of_lt hmlt]
    -- the whole shift
    have hfin : V / 2 ^ s = Hi / 2 ^ o ∧ (V % 2 ^ s ≠ 0 ↔ (lsum g w ≠ 0 ∨ Hi % 2 ^ o ≠ 0)) := by
      rcases Nat.lt_or_ge n (s / 32) with q | q
      · have hwn : w = n := by omega
        have hHi0 : Hi = 0 := by rw [← hHi, hwn, Nat.sub_self]; rfl
        have hVl : V < 2 ^ s := by
          rw [← h3]
          exact Nat.lt_of_lt_of_le (lsum_lt g n) (Nat.pow_le_pow_right (by decide) (by omega))
        rw [Nat.div_eq_of_lt hVl, Nat.mod_eq_of_lt hVl, hHi0, Nat.zero_div, Nat.zero_mod]
        refine ⟨rfl, ?_⟩
        rw [hwn, h3]
        simp
      · have hwn : w = s / 32 := by omega
        have hse : 2 ^ s = 2 ^ (32 * w) * 2 ^ o := by rw [← Nat.pow_add]; congr 1; omega
        rw [hse, ← Nat.div_div_eq_div_mul, hdiv, Nat.mod_mul, hmod, hdiv]
        refine ⟨rfl, ?_⟩
        have := pw_pos (32 * w)
        rw [Ne, Nat.add_eq_zero_iff, Nat.mul_eq_zero]
        constructor
        · intro q
          by_cases q1 : lsum g w = 0
          · exact Or.inr (fun q2 => q ⟨q1, Or.inr q2⟩)
          · exact Or.inl q1
        · rintro (q | q) ⟨q1, q2⟩
          · exact q q1
          · rcases q2 with q2 | q2
            · omega
            · exact q q2
    have hno : n - w ≤ 1 ∨ 2 ^ (32 * (n - w - 2)) ≤ Hi / 2 ^ o := by
      rcases Nat.lt_or_ge 1 (n - w) with q | q
      · right
        have h6 : 2 ^ (32 * (n - 1)) ≤ V := by
          rcases h4 with q2 | q2
          · omega
          · exact q2
        have h7 : 2 ^ (32 * (n - w - 1)) ≤ Hi := by
          rw [← hdiv, Nat.le_div_iff_mul_le (pw_pos _), ← Nat.pow_add, show 32 * (n - w - 1) + 32 * w = 32 * (n - 1) by omega]; exact h6
        rw [Nat.le_div_iff_mul_le (pw_pos o), ← Nat.pow_add]
        exact Nat.le_trans (Nat.pow_le_pow_right (by decide) (by omega)) h7
      · exact Or.inl q
    have hcnt' : gI (sI σ1 b 1 (gI σ1 b 1 - nI w)) b 1 = nI (n - w) := by rw [gI_sI_s, hc, pk_sub (by omega)]
    have hrow : ∀ v, gI (sI σ1 b 1 v) (b + 1) = g := by intro v; rw [← hg1]; funext j; exact gI_sI_n (Or.inl (by omega))
    have hrow2 : ∀ v u, gI (sI (sI σ1 b 1 v) b 2 u) (b + 1) = g := by intro v u; rw [← hrow v]; funext j; exact gI_sI_n (Or.inl (by omega))
    have hr' : ∀ v, gI (sI σ1 b 1 v) b 2 = bI (r || decide (lsum g w ≠ 0)) := by intro v; rw [gI_sI_n (Or.inr (by decide))]; exact hr
    -- the last loop from a state with the flag as it must be
    have last : ∀ σ2 : S_t, Fr (BP b) σ σ2 → gI σ2 b 1 = nI (n - w) → gI σ2 (b + 1) = g → gI σ2 b 2 = bI (r || decide (V % 2 ^ s ≠ 0)) → JE E (d + 1) m_Bi_shiftRight 99 [(0, pv E b), (2, .int (nI w)), (3, .int (nI o))] [] σ2 (fun r' σ' => r' = none ∧ Fr (BP b) σ σ' ∧ BigAt σ' b (V / 2 ^ s) (r || decide (V % 2 ^ s ≠ 0))) := by
      intro σ2 f1 f2 f3 f4
      refine b_Bi_shiftRight_99 hk ?_
      refine sr_loop hk w o (n - w) (V / 2 ^ s) _ ho (by omega) g a (fun t ht => by simp only [a, if_pos ht]) hac (by rw [hT, hfin.1]) (by rw [hfin.1]; exact hno) σ (fun σ' g1 g2 => ⟨rfl, g1, g2⟩) (n - w) 0 σ2 (by omega) f1 f2 f4 (fun j hj => absurd hj (by omega)) (fun j _ => by rw [f3])
    refine b_Bi_shiftRight_24 hk ⟨fun _ => ⟨fun h6 => ?_, fun h6 => ⟨vin ?_ (by omega), fun v1 hv1 => ⟨fun h7 => ?_, fun h7 => ?_⟩⟩⟩, fun hh => absurd (Int32.le_refl _) hh⟩
    · refine last _ (hF.si (Or.inl rfl)) hcnt' (hrow _) ?_
      rw [hr']
      congr 2
      have hn0 : n - w = 0 := by
        rw [hcnt'] at h6
        rcases Nat.eq_zero_or_pos (n - w) with q | q
        · exact q
        · exact absurd h6 (nI_nle q (by omega))
      have hHi0 : Hi = 0 := by rw [← hHi, hn0]; rfl
      have := hfin.2
      rw [hHi0, Nat.zero_mod] at this
      simp only [ne_eq, not_true_eq_false, or_false] at this
      simp only [ne_eq, decide_not, Bool.not_eq_eq_eq_not, this]
    · have : n - w ≠ 0 := fun q => h6 (by rw [hcnt', q]; exact Int32.le_refl _)
      omega
    · have hn0 : n - w ≠ 0 := fun q => h6 (by rw [hcnt', q]; exact Int32.le_refl _)
      rw [hrow, nI_clamp (by omega), mask_v ho] at hv1
      have ha0 : a 0 = un (g w) := by simp only [a]; rw [if_pos (by omega), Nat.add_zero]
      rw [← ha0, ← hm0] at hv1
      have hz : Hi % 2 ^ o = 0 := by
        rw [hv1] at h7
        have hl : Hi % 2 ^ o < 2 ^ 31 := Nat.lt_of_lt_of_le (Nat.mod_lt _ (pw_pos o)) (Nat.pow_le_pow_right (by decide) (by omega))
        exact (nI_eq (b := 0) hl (by omega)).mp h7
      refine last _ (hF.si (Or.inl rfl)) hcnt' (hrow _) ?_
      rw [hr']
      congr 2
      have := hfin.2
      rw [hz] at this
      simp only [ne_eq, not_true_eq_false, or_false] at this
      simp [this]
    · have hn0 : n - w ≠ 0 := fun q => h6 (by rw [hcnt', q]; exact Int32.le_refl _)
      rw [hrow, nI_clamp (by omega), mask_v ho] at hv1
      have ha0 : a 0 = un (g w) := by simp only [a]; rw [if_pos (by omega), Nat.add_zero]
      rw [← ha0, ← hm0] at hv1
      have hz : Hi % 2 ^ o ≠ 0 := fun q => h7 (by rw [hv1, q]; rfl)
      refine last _ ((hF.si (Or.inl rfl)).si (Or.inl rfl)) (by rw [gI_sI_n (Or.inr (by decide))]; exact hcnt') (hrow2 _ _) ?_
      rw [gI_sI_s]
      have := hfin.2.mpr (Or.inr hz)
      simp [this, bI]
  · have hs0 : s = 0 := by
      rcases Nat.eq_zero_or_pos s with g | g
      · exact g
      · exact absurd (nI_lt g (by omega)) h0
    subst hs0
    refine ⟨rfl, Fr.rf, n, h1, h2, by rw [h3]; simp, by simpa using h4, ?_⟩
    rw [h5, Nat.pow_zero, Nat.mod_one]; simp
