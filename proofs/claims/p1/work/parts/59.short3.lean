/-! the shortest digits, said of the value alone -/
def upz (V Z : Nat) : Prop := 10 ^ Z < 2 * (V % 10 ^ Z) ∨ (10 ^ Z = 2 * (V % 10 ^ Z) ∧ V / 10 ^ Z % 2 = 1)
def Upz (V b Z : Nat) (up : Bool) : Prop :=
  (up = true ∧ RdB (cz V Z true) b ∧ ¬ RdB (cz V Z false) b) ∨ (up = false ∧ RdB (cz V Z false) b ∧ ¬ RdB (cz V Z true) b) ∨
  (RdB (cz V Z false) b ∧ RdB (cz V Z true) b ∧ (up = true ↔ upz V Z))
def Shrt (V b Z : Nat) (up : Bool) : Prop := 10 ^ Z ≤ V ∧ OKz V b Z ∧ (∀ Z', Z < Z' → 10 ^ Z' ≤ V → ¬ OKz V b Z') ∧ Upz V b Z up
theorem Shrt_uniq {V b Z Z' : Nat} {up up' : Bool} (h : Shrt V b Z up) (h' : Shrt V b Z' up') : Z = Z' ∧ up = up' := by
  have hZ : Z = Z' := by
    rcases Nat.lt_trichotomy Z Z' with g | g | g
    · exact absurd h'.2.1 (h.2.2.1 Z' g h'.1)
    · exact g
    · exact absurd h.2.1 (h'.2.2.1 Z g h.1)
  subst hZ
  refine ⟨rfl, ?_⟩
  rcases h.2.2.2 with ⟨a1, a2, a3⟩ | ⟨a1, a2, a3⟩ | ⟨a1, a2, a3⟩ <;> rcases h'.2.2.2 with ⟨c1, c2, c3⟩ | ⟨c1, c2, c3⟩ | ⟨c1, c2, c3⟩
  · rw [a1, c1]
  · exact absurd c2 a3
  · exact absurd c1 a3
  · exact absurd a2 c3
  · rw [a1, c1]
  · exact absurd c2 a3
  · exact absurd a1 c3
  · exact absurd a2 c3
  · rw [Bool.eq_iff_iff, a3, c3]
theorem dm_of {A R s : Nat} (hR : R < s) : (A * s + R) / s = A ∧ (A * s + R) % s = R := by
  constructor
  · rw [Nat.mul_comm, Nat.mul_add_div (by omega), Nat.div_eq_of_lt hR, Nat.add_zero]
  · rw [Nat.mul_comm, Nat.mul_add_mod, Nat.mod_eq_of_lt hR]
theorem dig_z {F : Nat → Nat} {n j V : Nat} {pt : Int} (hF : ∀ k, k < n → F k < 10) (hl : F (n - 1) ≠ 0) (hn0 : 0 < n) (hj : 1 ≤ j) (hz : -20000 ≤ pt - n) (hz2 : -20000 ≤ pt - j) (hV : SV (dval F n) n pt = V) :
    dval (fz F n) j = V / 10 ^ (pt - j + 20000).toNat ∧ ((5 < fz F n j ∨ (fz F n j = 5 ∧ n ≠ j + 1) ∨ (fz F n j = 5 ∧ n = j + 1 ∧ fz F n (j - 1) % 2 = 1)) ↔ upz V (pt - j + 20000).toNat) := by
  unfold SV at hV
  rcases Nat.lt_or_ge j n with g | g
  · obtain ⟨m, rfl⟩ : ∃ m, n = j + (m + 1) := ⟨n - j - 1, by omega⟩
    have e0 : (pt - j + 20000).toNat = m + 1 + (pt - ((j + (m + 1) : Nat) : Int) + 20000).toNat := by omega
    rw [e0]
    generalize (pt - ((j + (m + 1) : Nat) : Int) + 20000).toNat = e at *
    have eA : dval (fz F (j + (m + 1))) j = dval F j := dval_ext (fun i hi => if_pos (by omega))
    have hR := dval_lt (f := fun t => F (j + t)) (n := m + 1) (fun k hk => hF (j + k) (by omega))
    have hR1 : dval (fun t => F (j + t)) (m + 1) = F j * 10 ^ m + dval (fun t => F (j + (t + 1))) m := dval_cons (fun t => F (j + t)) m
    have hR2 := dval_lt (f := fun t => F (j + (t + 1))) (n := m) (fun k hk => hF (j + (k + 1)) (by omega))
    have hR3 : m ≠ 0 → 0 < dval (fun t => F (j + (t + 1))) m := fun hm => dval_pos (k := m - 1) (by omega) (by
      show F (j + (m - 1 + 1)) ≠ 0
      rw [show j + (m - 1 + 1) = j + (m + 1) - 1 by omega]; exact hl)
    rw [dval_app, Nat.add_mul, Nat.mul_assoc, ← Nat.pow_add] at hV
    have hRe : dval (fun t => F (j + t)) (m + 1) * 10 ^ e < 10 ^ (m + 1 + e) := by
      rw [Nat.pow_add]; exact Nat.mul_lt_mul_of_pos_right hR (p10 e)
    obtain ⟨d1, d2⟩ := dm_of (A := dval F j) hRe
    rw [hV] at d1 d2
    refine ⟨by rw [eA, d1], ?_⟩
    unfold upz
    rw [d1, d2]
    have ej : fz F (j + (m + 1)) j = F j := if_pos (by omega)
    have ej1 : fz F (j + (m + 1)) (j - 1) = F (j - 1) := if_pos (by omega)
    rw [ej, ej1]
    have epar : dval F j % 2 = F (j - 1) % 2 := by
      obtain ⟨i, rfl⟩ : ∃ i, j = i + 1 := ⟨j - 1, by omega⟩
      show (dval F i * 10 + F i) % 2 = _
      rw [Nat.add_sub_cancel]; omega
    rw [epar]
    have ep : 10 ^ (m + 1 + e) = 10 ^ (m + 1) * 10 ^ e := Nat.pow_add _ _ _
    rw [ep, ← Nat.mul_assoc]
    have he := p10 e
    rw [Nat.mul_lt_mul_right he, Nat.mul_right_cancel_iff he, hR1, Nat.pow_succ]
    have hm0 : m = 0 → 10 ^ m = 1 ∧ dval (fun t => F (j + (t + 1))) m = 0 := fun z => by subst z; exact ⟨rfl, rfl⟩
    have hx := hF j (by omega)
    generalize dval (fun t => F (j + (t + 1))) m = R' at *
    have hn1 : j + (m + 1) = j + 1 ↔ m = 0 := by omega
    generalize hP : 10 ^ m = P at *
    clear hRe d1 d2 eA ep hR hR1 ej ej1 epar hV hP he
    have h10 : F j = 0 ∨ F j = 1 ∨ F j = 2 ∨ F j = 3 ∨ F j = 4 ∨ F j = 5 ∨ F j = 6 ∨ F j = 7 ∨ F j = 8 ∨ F j = 9 := by omega
    generalize F j = x at *
    generalize F (j - 1) % 2 = y at *
    rw [Ne, hn1]
    rcases Nat.eq_zero_or_pos m with z | z
    · obtain ⟨p1, p2⟩ := hm0 z
      rw [p1, p2]
      simp only [z, not_true_eq_false, and_false, false_or, true_and]
      omega
    · have z' : m ≠ 0 := by omega
      have h3 := hR3 z'
      simp only [z', not_false_eq_true, and_true, false_and, and_false, or_false]
      rcases h10 with h | h | h | h | h | h | h | h | h | h <;> subst h <;> omega
  · obtain ⟨m, rfl⟩ : ∃ m, j = n + m := ⟨j - n, by omega⟩
    have e0 : (pt - n + 20000).toNat = m + (pt - ((n + m : Nat) : Int) + 20000).toNat := by omega
    rw [e0] at hV
    generalize (pt - ((n + m : Nat) : Int) + 20000).toNat = e at *
    rw [Nat.pow_add, ← Nat.mul_assoc, ← fz_val] at hV
    rw [← hV, Nat.mul_div_cancel _ (p10 e)]
    refine ⟨rfl, ?_⟩
    unfold upz
    rw [Nat.mul_mod_left]
    have ej : fz F n (n + m) = 0 := if_neg (by omega)
    rw [ej]
    have := p10 e
    omega
theorem fvb_aux (m q u T a c e g : Nat) (hm : m < 2 ^ a) (hq : q ≤ c) (hT : u * 2 ^ e = T) (hac : a + c = g + e) (hu : 0 < u) : m * 2 ^ q * u < 2 ^ g * T := by
  have h1 : m * 2 ^ q ≤ m * 2 ^ c := Nat.mul_le_mul_left _ (Nat.pow_le_pow_right (by decide) hq)
  have h2 : m * 2 ^ c < 2 ^ a * 2 ^ c := Nat.mul_lt_mul_of_pos_right hm (pw_pos c)
  have h3 := Nat.mul_lt_mul_of_pos_right (Nat.lt_of_le_of_lt h1 h2) hu
  rw [← Nat.pow_add, hac, Nat.pow_add] at h3
  rw [← hT]
  have e3 : 2 ^ g * 2 ^ e * u = 2 ^ g * (u * 2 ^ e) := by ac_rfl
  rw [e3] at h3
  exact h3
theorem p1024 : 2 ^ 1024 ≤ 10 ^ 309 := by decide +kernel
theorem FV_hi {b : Nat} (h : b / 2 ^ 52 ≤ 2046) : FV b < 10 ^ (20000 + 309) := by
  have hq : qB b ≤ 2045 := by
    unfold qB
    rw [show (2 : Nat) ^ 52 = 4503599627370496 from rfl] at *
    split <;> omega
  have h1 := fvb_aux (mB b) (qB b) U0 TK 53 2045 1074 1024 (mB_lt b) hq U0_TK rfl U0_pos
  rw [tk_up]
  unfold FV
  refine Nat.lt_of_lt_of_le h1 ?_
  rw [Nat.mul_comm]
  exact Nat.mul_le_mul_left _ p1024
theorem U0_lo : 10 ^ (750 + 18926) < U0 := by
  have h := five1074.1
  unfold U0
  rw [Nat.pow_add]
  refine Nat.mul_lt_mul_of_pos_right ?_ (p10 _)
  rw [show 750 = 749 + 1 from rfl, Nat.pow_succ]
  have := p10 749
  generalize 10 ^ 749 = A at *
  generalize 5 ^ 1074 = B at *
  omega
theorem FV_lo {b : Nat} (hb : 0 < b) : 10 ^ (750 + 18926) < FV b := by
  obtain ⟨e, rfl⟩ : ∃ e, b = e + 1 := ⟨b - 1, (Nat.succ_pred_eq_of_pos hb).symm⟩
  rw [FV_succ]
  refine Nat.lt_of_lt_of_le U0_lo (Nat.le_trans (Nat.le_mul_of_pos_left _ (pw_pos (qB e))) (Nat.le_add_left _ _))
def MS : Nat → Nat → Prop := fun p k => MK p k ∨ MR p k
theorem p10_lt {a b : Nat} (h : 10 ^ a < 10 ^ b) : a < b := (Nat.pow_lt_pow_iff_right (a := 10) (by decide)).mp h
/-- where the point of a number stands -/
theorem pt_of {F : Nat → Nat} {n b : Nat} {pt : Int} (hb : 0 < b) (hfin : b / 2 ^ 52 ≤ 2046) (hF : ∀ k, k < n → F k < 10) (h0 : F 0 ≠ 0) (hn0 : 0 < n) (hn : n ≤ 1100) (hV : SV (dval F n) n pt = FV b) (hp : -8000 ≤ pt) (hp2 : pt ≤ 8000) : -324 < pt ∧ pt ≤ 309 ∧ 10 ^ (pt - 1 + 20000).toNat ≤ FV b ∧ FV b < 10 ^ (pt + 20000).toNat := by
  have h1 := SVd_lo (p := pt) h0 hn0 (by omega)
  have h2 := SVd_hi (p := pt) hF (by omega)
  rw [hV] at h1 h2
  have a1 := p10_lt (Nat.lt_trans (FV_lo hb) h2)
  have a2 := p10_lt (Nat.lt_of_le_of_lt h1 (FV_hi hfin))
  exact ⟨by omega, by omega, h1, h2⟩
theorem c_shortest {E : En_t} {d b : Nat} {σ : S_t} (hb : 0 < b) (hb2 : b < 9218868437227405312) : CV E (d + 5) m_Mo_shortest [pv E 0, .long (lN b)] σ (fun σ' => Fs MS σ σ' ∧ ∃ Z up, Shrt (FV b) b Z up ∧ ShR σ' (cz (FV b) Z up)) := by
  have hfin : b / 2 ^ 52 ≤ 2046 := by rw [show (2 : Nat) ^ 52 = 4503599627370496 from rfl]; omega
  have hb63 : b < 2 ^ 63 := by omega
  refine CE.of (L := [(0, pv E 0), (1, .long (lN b))]) rfl (Nat.le_of_ble_eq_true rfl) rfl (b_Mo_shortest_0 ((c_keepExact hb63 hfin).mono (fun σ1 hq => ?_)))
  obtain ⟨F1, F, n, pt, hE, hn, hc⟩ := hq
  have hpos := FV_pos hb
  rcases hc with ⟨z, -, -⟩ | ⟨hm, hn0, h0, hl, hV, hp1, hp2⟩
  · exfalso
    unfold FV at hpos
    rw [z, Nat.zero_mul, Nat.zero_mul] at hpos
    exact Nat.lt_irrefl _ hpos
  · have hF : ∀ k, k < n → F k < 10 := fun k hk => (hE.2.2 k hk).2
    obtain ⟨q1, q2, q3, q4⟩ := pt_of hb hfin hF h0 hn0 hn hV hp1 hp2
    have key : ∀ j, 1 ≤ j → j ≤ 17 → (∀ up, cd F n pt j up = cz (FV b) (pt - j + 20000).toNat up) ∧ ((5 < fz F n j ∨ (fz F n j = 5 ∧ n ≠ j + 1) ∨ (fz F n j = 5 ∧ n = j + 1 ∧ fz F n (j - 1) % 2 = 1)) ↔ upz (FV b) (pt - j + 20000).toNat) := by
      intro j hj hj2
      obtain ⟨k1, k2⟩ := dig_z (j := j) hF hl hn0 hj (by omega) (by omega) hV
      refine ⟨fun up => ?_, k2⟩
      unfold cd cz SV
      rw [k1]
    have suf : ∀ j, 1 ≤ j → j ≤ 17 → (Suf F n pt b j ↔ OKz (FV b) b (pt - j + 20000).toNat) := by
      intro j hj hj2
      unfold Suf OKz
      rw [(key j hj hj2).1, (key j hj hj2).1]
    have hmono : ∀ i k, 1 ≤ i → i ≤ k → k ≤ 17 → Suf F n pt b i → Suf F n pt b k := by
      intro i k hi hik hk hs
      rw [suf k (by omega) hk]
      rw [suf i hi (by omega)] at hs
      refine OKz_downs hb hb2 (k - i) ?_
      rw [show (pt - k + 20000).toNat + (k - i) = (pt - i + 20000).toNat by omega]
      exact hs
    have fin : ∀ m, 1 ≤ m → m ≤ 17 → Suf F n pt b m → JE E (d + 5) m_Mo_shortest 25 [(0, pv E 0), (1, .long (lN b)), (3, .int (1 : Int32))] [.int (nI m)] σ1 (fun r σ' => r = none ∧ Fs MS σ σ' ∧ ∃ Z up, Shrt (FV b) b Z up ∧ ShR σ' (cz (FV b) Z up)) := by
      intro m hm1 hm2 hS
      refine b_Mo_shortest_25 (sh_loop σ1 hn0 hn h0 (by omega) (by omega) hb63 hmono ?_ 17 1 m σ1 (by omega) Fs.rf hE (by omega) hm1 hm2 (fun i h1 h2 => by omega) hS)
      intro σ' j up g1 g2 g3 g4
      obtain ⟨l1, l2, l3, l4⟩ := g2
      obtain ⟨k1, k2⟩ := key j l1 l2
      refine ⟨rfl, (F1.mono (fun p k h => Or.inl h)).tr (g1.mono (fun p k h => Or.inr h)), (pt - j + 20000).toNat, up, ⟨?_, ?_, ?_, ?_⟩, ?_⟩
      · exact Nat.le_trans (Nat.pow_le_pow_right (by decide) (by omega)) q3
      · exact (suf j l1 l2).mp l3
      · intro Z' hZ hle hok
        have a1 := p10_lt (Nat.lt_of_le_of_lt hle q4)
        have ez : (pt - ((pt + 20000 - Z').toNat : Int) + 20000).toNat = Z' := by omega
        have hs := (suf (pt + 20000 - Z').toNat (by omega) (by omega)).mpr (by rw [ez]; exact hok)
        exact l4 _ (by omega) (by omega) hs
      · unfold Upper at g3
        rw [k1, k1, k2] at g3
        exact g3
      · rw [← k1]; exact g4
    refine ⟨fun h => fin 17 (by omega) (by omega) ?_, fun h => ?_⟩
    · rw [suf 17 (by omega) (by omega)]
      refine ok17 hb hb2 ?_
      rw [show 10000000000000000 = 10 ^ 16 from rfl, ← Nat.pow_add, show 16 + (pt - ((17 : Nat) : Int) + 20000).toNat = (pt - 1 + 20000).toNat by omega]
      exact q3
    · rw [hE.1] at h ⊢
      have hn17 : n < 17 := by
        rcases Nat.lt_or_ge n 17 with g | g
        · exact g
        · exact absurd (nI_le (a := 17) g (by omega)) h
      refine fin n hn0 (by omega) (Or.inl ?_)
      have e : cd F n pt n false = FV b := by
        rw [← hV]
        unfold cd bN
        rw [if_neg (by decide), Nat.add_zero]
        have : dval (fz F n) n = dval F n := dval_ext (fun i hi => if_pos hi)
        rw [this]
      rw [e]
      exact RdB_self hb hb2
