/-! exactly(bits): all the digits of a number -/
def mB (b : Nat) : Nat := if b / 2 ^ 52 = 0 then b % 2 ^ 52 else b % 2 ^ 52 + 2 ^ 52
/-- the power of two, 0 .. 2045, above the least -/
def qB (b : Nat) : Nat := (if b / 2 ^ 52 = 0 then 1 else b / 2 ^ 52) - 1
def U0 : Nat := 5 ^ 1074 * 10 ^ 18926
theorem U0_TK : U0 * 2 ^ 1074 = TK := by
  have : (5 : Nat) ^ 1074 * 2 ^ 1074 = 10 ^ 1074 := by rw [← Nat.mul_pow]
  have e : U0 * 2 ^ 1074 = 5 ^ 1074 * 2 ^ 1074 * 10 ^ 18926 := by unfold U0; rw [Nat.mul_right_comm]
  rw [e, this, ← Nat.pow_add]
  exact tk_of (by omega)
theorem U0_pos : 0 < U0 := Nat.mul_pos (Nat.pow_pos (by decide)) (p10 _)
/-- the number's value, times ten to the 20000 -/
def FV (b : Nat) : Nat := mB b * 2 ^ qB b * U0
theorem mB_lt (b : Nat) : mB b < 2 ^ 53 := by unfold mB; split <;> omega
theorem lN_cmp0 {a : Nat} (h : a < 2 ^ 63) : lg_cmp (lN a) (0 : Int64) ≤ 0 ↔ a = 0 := by
  rw [lg_cmp_le]
  have := pk_lLE (a := a) (b := 0) h (by omega)
  constructor
  · intro q; have := this.mp q; omega
  · intro q; exact this.mpr (by omega)
theorem ex_loop {E : En_t} {d : Nat} {Q : Option Value → S_t → Prop} (m ex : Nat) (hm : m < 2 ^ 53) (σ0 : S_t)
    (hX : ∀ σ t, Fs MP σ0 σ → gI σ 0 6 = nI t → t ≤ 16 → (∀ k, k < t → dg σ k < 10) → dval (dg σ) t = m → (t = 0 ∨ dg σ 0 ≠ 0) → CV E d m_Mo_trim [pv E 0] (sI σ 0 7 (gI σ 0 6)) (fun σ1 => (¬ nI ex = 0 → JE E (d + 1) m_Mo_exactly 127 [(0, pv E 0)] [.int (nI ex)] σ1 Q) ∧ (nI ex = 0 → JE E (d + 1) m_Mo_exactly 127 [(0, pv E 0)] [.int (1 : Int32)] σ1 Q))) :
    ∀ (j t : Nat) (σ : S_t), j ≤ 16 → t + j ≤ 16 → Fs MP σ0 σ → gI σ 0 6 = nI t → (∀ k, k < t → dg σ k < 10) → dval (dg σ) t = m / 10 ^ j → (t = 0 ∨ dg σ 0 ≠ 0) →
    JE E (d + 1) m_Mo_exactly 42 [(0, pv E 0), (3, .int (nI ex)), (4, .long (lN m)), (6, .long (lN (if j = 0 then 0 else 10 ^ (j - 1)))), (8, .int (if t = 0 then 1 else 0))] [] σ Q := by
  intro j
  induction j with
  | zero =>
    intro t σ hj ht hF h6 hd hv hl
    rw [if_pos rfl]
    refine b_Mo_exactly_42 ⟨fun _ => ?_, fun h => absurd ((lN_cmp0 (by omega)).mpr rfl) h⟩
    rw [Nat.pow_zero, Nat.div_one] at hv
    exact hX σ t hF h6 (by omega) hd hv hl
  | succ j ih =>
    intro t σ hj ht hF h6 hd hv hl
    rw [if_neg (by omega), Nat.add_sub_cancel]
    have hb : 10 ^ j ≤ 10 ^ 15 := Nat.pow_le_pow_right (by decide) (by omega)
    have hb0 := p10 j
    generalize hd' : m / 10 ^ j % 10 = g
    have hg : g < 10 := by omega
    have hstep : m / 10 ^ j = dval (dg σ) t * 10 + g := by
      rw [hv, Nat.pow_succ, ← Nat.div_div_eq_div_mul, ← hd']
      omega
    have e1 : (lN m / lN (10 ^ j) - lN m / lN (10 ^ j) / (10 : Int64) * (10 : Int64)).toInt32 = nI g := by
      have hq : m / 10 ^ j < 2 ^ 53 := Nat.lt_of_le_of_lt (Nat.div_le_self _ _) hm
      rw [pk_lDiv (by omega) hb0 (by omega), ten64, pk_lDiv (by omega) (by omega) (by omega), lN_mul, lN_sub (by omega), lN_low]
      congr 1; omega
    have hnext : lN (10 ^ j) / (10 : Int64) = lN (if j = 0 then 0 else 10 ^ (j - 1)) := by
      rw [ten64, pk_lDiv (by omega) (by omega) (by omega)]
      congr 1
      split
      · rename_i q; subst q; rfl
      · rename_i q
        obtain ⟨i, rfl⟩ : ∃ i, j = i + 1 := ⟨j - 1, by omega⟩
        rw [Nat.pow_succ, Nat.mul_div_cancel _ (by decide), Nat.add_sub_cancel]
    refine b_Mo_exactly_42 ⟨fun h => absurd ((lN_cmp0 (by omega)).mp h) (by omega), fun _ => ⟨fun q => ?_, ?_⟩⟩
    · have := (pk_lEQ (a := 10 ^ j) (b := 0) (by omega) (by omega)).mp q; omega
    · rw [e1]
      have put : (t = 0 → g ≠ 0) → JE E (d + 1) m_Mo_exactly 71 [(0, pv E 0), (3, .int (nI ex)), (4, .long (lN m)), (6, .long (lN (10 ^ j))), (9, .int (nI g))] [] σ Q := by
        intro hne
        refine b_Mo_exactly_71 ⟨by rw [h6]; exact vin (by omega) (by omega), ?_⟩
        rw [h6, nI_clamp (by omega), gI_sI_n (Or.inl (by decide)), h6, nI_1]
        refine b_Mo_exactly_95 ?_
        rw [hnext]
        have hdn : ∀ k, k ≠ t → dg (sI (sI σ 3 t (nI g)) 0 6 (nI (t + 1))) k = dg σ k := fun k hk => by unfold dg; rw [gI_sI_n (Or.inl (by decide)), gI_sI_n (Or.inr hk)]
        have hde : dg (sI (sI σ 3 t (nI g)) 0 6 (nI (t + 1))) t = g := by unfold dg; rw [gI_sI_n (Or.inl (by decide)), gI_sI_s, un_nI (by omega)]
        have := ih (t + 1) (sI (sI σ 3 t (nI g)) 0 6 (nI (t + 1))) (by omega) (by omega) ((hF.si MP3).si MP06) (gI_sI_s _ _ _ _) (fun k hk => ?_) ?_ ?_
        · rw [if_neg (show ¬ t + 1 = 0 by omega)] at this; exact this
        · by_cases q : k = t
          · subst q; rw [hde]; exact hg
          · rw [hdn k q]; exact hd k (by omega)
        · rw [dval, hde, dval_ext (g := dg σ) (fun k hk => hdn k (by omega)), hstep]
        · right
          by_cases q : t = 0
          · subst q; rw [hde]; exact hne rfl
          · rw [hdn 0 (by omega)]
            rcases hl with w | w
            · exact absurd w q
            · exact w
      refine ⟨fun h8 => put (fun q => ?_), fun h8 => ⟨fun h9 => ?_, fun h9 => put (fun _ q => h9 (by rw [q]; exact Int32.le_refl _))⟩⟩
      · rw [if_pos q] at h8; exact absurd h8 (by decide)
      · have ht0 : t = 0 := by
          by_cases q : t = 0
          · exact q
          · rw [if_neg q] at h8; exact absurd rfl h8
        have hg0 : g = 0 := by
          rcases Nat.eq_zero_or_pos g with q | q
          · exact q
          · exact absurd h9 (nI_nle q (by omega))
        subst ht0
        refine b_Mo_exactly_95 ?_
        rw [hnext]
        exact ih 0 σ (by omega) (by omega) hF h6 hd (by rw [hstep, hg0]; simp [dval]) (Or.inl rfl)
/-- x has b's bits, its sign aside -/
def SgX (x : Int64) (b : Nat) : Prop := ((x.toUInt64 >>> ((52 : Int32).toInt64.toUInt64 &&& Int64.toUInt64 63)).toInt64 &&& (2047 : Int64)).toInt32 = nI (b / 2 ^ 52) ∧ x &&& (4503599627370495 : Int64) = lN (b % 2 ^ 52)
theorem SgX_0 {b : Nat} (hb : b < 2 ^ 63) (hfin : b / 2 ^ 52 ≤ 2046) : SgX (lN b) b := by
  refine ⟨?_, wb_mask (k := 52) (by omega) (by decide)⟩
  have a1 : ((lN b).toUInt64 >>> ((52 : Int32).toInt64.toUInt64 &&& Int64.toUInt64 63)).toInt64 = lN (b / 2 ^ 52) := wb_shr (k := 52) (by omega) (by decide)
  have a2 : lN (b / 2 ^ 52) &&& (2047 : Int64) = lN (b / 2 ^ 52 % 2 ^ 11) := wb_mask (k := 11) (by omega) (by decide)
  rw [a1, a2, lN_low]
  congr 1; omega
theorem sg_ar {b : Nat} (hb : b < 9223372036854775808) (h2 : b / 4503599627370496 ≤ 2046) : (b + 9223372036854775808) / 4503599627370496 % 2048 % 4294967296 = b / 4503599627370496 := by omega
theorem sg_ar2 (b : Nat) : (b + 9223372036854775808) % 4503599627370496 = b % 4503599627370496 := by omega
theorem SgX_1 {b : Nat} (hb : b < 2 ^ 63) (hfin : b / 2 ^ 52 ≤ 2046) : SgX (lN (b + 9223372036854775808)) b := by
  constructor
  · have a1 : ((lN (b + 9223372036854775808)).toUInt64 >>> ((52 : Int32).toInt64.toUInt64 &&& Int64.toUInt64 63)).toInt64 = lN ((b + 9223372036854775808) / 2 ^ 52) := wb_shr (k := 52) (by omega) (by decide)
    have a2 : lN ((b + 9223372036854775808) / 2 ^ 52) &&& (2047 : Int64) = lN ((b + 9223372036854775808) / 2 ^ 52 % 2 ^ 11) := wb_mask (k := 11) (by omega) (by decide)
    rw [a1, a2, lN_low]
    exact congrArg nI (sg_ar hb hfin)
  · have a2 : lN (b + 9223372036854775808) &&& (4503599627370495 : Int64) = lN ((b + 9223372036854775808) % 2 ^ 52) := wb_mask (k := 52) (by omega) (by decide)
    rw [a2]
    exact congrArg lN (sg_ar2 b)
theorem c_exactlyX {E : En_t} {d b : Nat} {x : Int64} {σ : S_t} (hx : SgX x b) (hb : b < 2 ^ 63) (hfin : b / 2 ^ 52 ≤ 2046) : CV E (d + 3) m_Mo_exactly [pv E 0, .long x] σ (fun σ' => Fs MP σ σ' ∧ ((mB b = 0 ∧ DecAt σ' 0 0 0) ∨ (0 < mB b ∧ ∃ N n pt, Nrm σ' N n pt ∧ SV N n pt = FV b ∧ n ≤ 1100 ∧ -8000 ≤ pt ∧ pt ≤ 8000))) := by
  obtain ⟨e1, e2⟩ := hx
  generalize hex : b / 2 ^ 52 = ex at *
  have e3 : lN (b % 2 ^ 52) ||| (4503599627370496 : Int64) = lN (b % 2 ^ 52 + 1 * 2 ^ 52) := g_or' (k := 52) (p := 2 ^ 52) (b := 1) rfl (by omega) (by omega)
  refine CE.of (L := [(0, pv E 0), (1, .long x)]) rfl (Nat.le_of_ble_eq_true rfl) rfl ?_
  have main : JE E (d + 3) m_Mo_exactly 29 [(0, pv E 0), (3, .int (nI ex)), (4, .long (lN (mB b)))] [] σ (fun r σ' => r = none ∧ Fs MP σ σ' ∧ ((mB b = 0 ∧ DecAt σ' 0 0 0) ∨ (0 < mB b ∧ ∃ N n pt, Nrm σ' N n pt ∧ SV N n pt = FV b ∧ n ≤ 1100 ∧ -8000 ≤ pt ∧ pt ≤ 8000))) := by
    refine b_Mo_exactly_29 ?_
    refine ex_loop (mB b) ex (mB_lt b) σ (fun σ1 t F1 h6 ht hd hv hl => ?_) 16 0 _ (by omega) (by omega) (Fs.rf.si MP06) (gI_sI_s _ _ _ _) (fun k hk => absurd hk (by omega)) ?_ (Or.inl rfl)
    · have hdg : ∀ k, dg (sI σ1 0 7 (gI σ1 0 6)) k = dg σ1 k := by intro k; unfold dg; rw [gI_sI_n (Or.inl (by decide))]
      have D : DecAt (sI σ1 0 7 (gI σ1 0 6)) (mB b) t (t : Int) := ⟨by rw [gI_sI_n (Or.inr (by decide))]; exact h6, by rw [gI_sI_s, h6, zI_nI], fun k hk => by rw [hdg]; exact hd k hk, by rw [← hv]; exact dval_ext (fun k _ => hdg k)⟩
      refine (c_trim D (by omega)).mono (fun σ2 hq => ?_)
      obtain ⟨F2, row2, N', n', D2, hle, hmul, hlast⟩ := hq
      have F12 : Fs MP σ σ2 := (F1.si MP07).tr F2
      -- the power of two
      have pow : ∀ s0 : Nat, s0 = qB b + 1 → JE E (d + 3) m_Mo_exactly 127 [(0, pv E 0)] [.int (nI s0)] σ2 (fun r σ' => r = none ∧ Fs MP σ σ' ∧ ((mB b = 0 ∧ DecAt σ' 0 0 0) ∨ (0 < mB b ∧ ∃ N n pt, Nrm σ' N n pt ∧ SV N n pt = FV b ∧ n ≤ 1100 ∧ -8000 ≤ pt ∧ pt ≤ 8000))) := by
        intro s0 hs0
        have hq : qB b ≤ 2045 := by unfold qB; rw [hex]; split <;> omega
        have e4 : nI s0 - (1075 : Int32) = zI ((s0 : Int) - 1075) := by
          have : (1075 : Int32) = zI 1075 := rfl
          rw [this, ← zI_nI, zI_sub]
        by_cases hm0 : mB b = 0
        · have hn0 : n' = 0 := by
            have : t = 0 := by
              rcases hl with q | q
              · exact q
              · rcases Nat.eq_zero_or_pos t with z | z
                · exact z
                · have := dval_pos z q; omega
            omega
          subst hn0
          rw [if_pos rfl] at D2
          have hN0 : N' = 0 := by rw [← D2.2.2.2]; rfl
          rw [hN0] at D2
          refine b_Mo_exactly_127 ⟨fun h => ?_, fun h => ?_⟩
          · rw [e4]
            refine CE.of (L := [(0, pv E 0), (1, _)]) rfl (Nat.le_of_ble_eq_true rfl) rfl (b_Mo_halvedBy_0 (b_Mo_halvedBy_2 ⟨fun _ => ⟨rfl, rfl, F12, Or.inl ⟨hm0, D2⟩⟩, fun _ => ⟨fun _ => ⟨rfl, rfl, F12, Or.inl ⟨hm0, D2⟩⟩, fun z => absurd (by rw [D2.1]; exact Int32.le_refl _) z⟩⟩))
          · refine CE.of (L := [(0, pv E 0), (1, _)]) rfl (Nat.le_of_ble_eq_true rfl) rfl (b_Mo_doubledBy_0 (b_Mo_doubledBy_2 ⟨fun _ => ⟨rfl, rfl, F12, Or.inl ⟨hm0, D2⟩⟩, fun _ => ⟨fun _ => ⟨rfl, rfl, F12, Or.inl ⟨hm0, D2⟩⟩, fun z => absurd (by rw [D2.1]; exact Int32.le_refl _) z⟩⟩))
        · have hlead : dg (sI σ1 0 7 (gI σ1 0 6)) 0 ≠ 0 := by
            rw [hdg]
            rcases hl with q | q
            · subst q; rw [dval] at hv; omega
            · exact q
          obtain ⟨q1, q2⟩ := trim_nrm row2 hlead (by omega) D2 hle hmul hlast (by omega)
          have hval : SV N' n' (t : Int) = mB b * TK := by
            rw [q2]; unfold SV
            rw [show ((t : Int) - t + 20000).toNat = 20000 by omega]; rfl
          have hFV : FV b * 2 ^ 1074 = mB b * TK * 2 ^ qB b := by
            unfold FV
            rw [← U0_TK]; generalize U0 = u0; generalize (2 : Nat) ^ 1074 = A; ac_rfl
          refine b_Mo_exactly_127 ⟨fun h => ?_, fun h => ?_⟩
          · rw [e4] at h ⊢
            have h : (s0 : Int) - 1075 ≤ 0 := (zI_le (b := 0) (by omega) (by omega) (by omega) (by omega)).mp h
            have e5 : -(zI ((s0 : Int) - 1075)) = nI (1075 - s0) := by
              have : -(zI ((s0 : Int) - 1075)) = zI (-((s0 : Int) - 1075)) := (Int32.ofInt_neg _).symm
              rw [this, ← zI_nI]; exact congrArg zI (by omega)
            rw [e5]
            refine (c_halvedBy q1 (by omega) (by omega) (by omega)).mono (fun σ3 hq => ?_)
            obtain ⟨F3, N3, n3, p3, g1, g2, g3, g4, g5⟩ := hq
            refine ⟨rfl, F12.tr F3, Or.inr ⟨by omega, N3, n3, p3, g1, ?_, by omega, by omega, by omega⟩⟩
            refine Nat.eq_of_mul_eq_mul_right (pw_pos (1075 - s0)) ?_
            rw [g2, hval]
            refine Nat.eq_of_mul_eq_mul_right (pw_pos (qB b)) ?_
            rw [← hFV, Nat.mul_assoc, ← Nat.pow_add]
            exact p2c _ _ (by omega) _
          · rw [e4] at h ⊢
            have h : 0 < (s0 : Int) - 1075 := by
              rcases Int.lt_or_le 0 ((s0 : Int) - 1075) with g | g
              · exact g
              · exact absurd ((zI_le (b := 0) (by omega) (by omega) (by omega) (by omega)).mpr g) h
            have e5 : zI ((s0 : Int) - 1075) = nI (s0 - 1075) := by rw [← zI_nI]; exact congrArg zI (by omega)
            rw [e5]
            refine (c_doubledBy q1 (by omega) (by omega) (by omega)).mono (fun σ3 hq => ?_)
            obtain ⟨F3, N3, n3, p3, g1, g2, g3, g4, g5⟩ := hq
            refine ⟨rfl, F12.tr F3, Or.inr ⟨by omega, N3, n3, p3, g1, ?_, by omega, by omega, by omega⟩⟩
            refine Nat.eq_of_mul_eq_mul_right (pw_pos 1074) ?_
            rw [g2, hval, hFV, Nat.mul_assoc, ← Nat.pow_add]
            exact p2c _ _ (by omega) _
      refine ⟨fun h => ?_, fun h => ?_⟩
      · have : ex ≠ 0 := fun q => h (by rw [q]; rfl)
        exact pow ex (by unfold qB; rw [hex, if_neg this]; omega)
      · have : ex = 0 := (nI_eq (b := 0) (by omega) (by omega)).mp h
        exact pow 1 (by unfold qB; rw [hex, if_pos this])
    · rw [dval]
      have := mB_lt b
      rw [Nat.div_eq_of_lt (by omega)]
  refine b_Mo_exactly_0 ?_
  rw [e1, e2, e3]
  refine ⟨fun h => ?_, fun h => ?_⟩
  · have : ex = 0 := by
      rcases Nat.eq_zero_or_pos ex with q | q
      · exact q
      · exact absurd h (nI_nle q (by omega))
    have e5 : mB b = b % 2 ^ 52 := by unfold mB; rw [hex, if_pos this]
    rw [← e5]; exact main
  · have : ex ≠ 0 := by rintro rfl; exact h (Int32.le_refl _)
    have e5 : mB b = b % 2 ^ 52 + 1 * 2 ^ 52 := by unfold mB; rw [hex, if_neg this]
    rw [← e5]; exact main
theorem c_exactly {E : En_t} {d b : Nat} {σ : S_t} (hb : b < 2 ^ 63) (hfin : b / 2 ^ 52 ≤ 2046) : CV E (d + 3) m_Mo_exactly [pv E 0, .long (lN b)] σ (fun σ' => Fs MP σ σ' ∧ ((mB b = 0 ∧ DecAt σ' 0 0 0) ∨ (0 < mB b ∧ ∃ N n pt, Nrm σ' N n pt ∧ SV N n pt = FV b ∧ n ≤ 1100 ∧ -8000 ≤ pt ∧ pt ≤ 8000))) := c_exactlyX (SgX_0 hb hfin) hb hfin
