/-! the shortest digits of a number: what both sides look for -/
theorem TK_le : TK ≤ 2 ^ 70000 := by
  have h : ∀ n, 10 ^ (2 * n) ≤ 2 ^ (7 * n) := fun n => by
    rw [Nat.pow_mul, Nat.pow_mul]; exact Nat.pow_le_pow_left (by decide) n
  have h1 := h 10000
  rw [tk_of (show 2 * 10000 = 20000 from rfl), show 7 * 10000 = 70000 from rfl] at h1
  exact h1
theorem RdB_iff2 {X b : Nat} (hb : 0 < b) (hb2 : b < 9218868437227405312) (hX : 0 < X) : RdB X b ↔ InvL X b ∧ InvU X b :=
  RdB_iff hb hb2 hX (Nat.le_trans TK_le (Nat.le_mul_of_pos_left _ hX))
theorem RdB_pos {X b : Nat} (h : RdB X b) : 0 < X := by
  obtain ⟨L, hl, -⟩ := h
  rcases Nat.eq_zero_or_pos X with g | g
  · have := hl.1
    rw [g, Nat.zero_mul] at this
    exact absurd (Nat.lt_of_lt_of_le (Nat.mul_pos TK_pos (pw_pos _)) this) (Nat.lt_irrefl _)
  · exact g
theorem InvL.mono {X Y b : Nat} (h : InvL X b) (hXY : X ≤ Y) : InvL Y b := by
  unfold InvL at *
  generalize FV (b - 1) + FV b = A at *
  omega
theorem InvU.mono {X Y b : Nat} (h : InvU X b) (hXY : Y ≤ X) : InvU Y b := by
  unfold InvU at *
  generalize FV b + FV (b + 1) = A at *
  omega
theorem RdB_conv {A M C b : Nat} (hb : 0 < b) (hb2 : b < 9218868437227405312) (h1 : RdB A b) (h2 : RdB C b) (g1 : A ≤ M) (g2 : M ≤ C) : RdB M b :=
  (RdB_iff2 hb hb2 (Nat.lt_of_lt_of_le (RdB_pos h1) g1)).mpr ⟨(RdB_lo h1 hb).mono g1, (RdB_hi h2 hb2).mono g2⟩
theorem FV_pos {b : Nat} (hb : 0 < b) : 0 < FV b := by
  obtain ⟨e, rfl⟩ : ∃ e, b = e + 1 := ⟨b - 1, (Nat.succ_pred_eq_of_pos hb).symm⟩
  exact Nat.lt_of_le_of_lt (Nat.zero_le _) (FV_lt e)
theorem FV_up (b : Nat) : ∃ D, 0 < D ∧ FV (b + 1) = FV b + D ∧ FV b = mB b * D ∧ D = 2 ^ qB b * U0 := by
  refine ⟨2 ^ qB b * U0, Nat.mul_pos (pw_pos _) U0_pos, FV_succ b, ?_, rfl⟩
  unfold FV
  exact Nat.mul_assoc _ _ _
theorem w17_arith {V m D F s : Nat} (h1 : V ≤ m * D) (hm : m ≤ 9007199254740992) (h2 : 10000000000000000 * s ≤ V) (hs : 0 < s) (_ : F = F) : s < D := by
  rcases Nat.lt_or_ge s D with g | g
  · exact g
  · have h3 : m * D ≤ 9007199254740992 * s := Nat.mul_le_mul hm g
    omega
theorem RdB_self {b : Nat} (hb : 0 < b) (hb2 : b < 9218868437227405312) : RdB (FV b) b := by
  refine (RdB_iff2 hb hb2 (FV_pos hb)).mpr ⟨Or.inl ?_, Or.inl ?_⟩
  · obtain ⟨e, rfl⟩ : ∃ e, b = e + 1 := ⟨b - 1, (Nat.succ_pred_eq_of_pos hb).symm⟩
    have := FV_lt e
    rw [Nat.add_sub_cancel]
    generalize FV e = A at *
    generalize FV (e + 1) = C at *
    omega
  · have := FV_lt b
    generalize FV b = A at *
    generalize FV (b + 1) = C at *
    omega
/-- the candidates at a power of ten, the lower or the upper one -/
def cz (V Z : Nat) (up : Bool) : Nat := (V / 10 ^ Z + bN up) * 10 ^ Z
def OKz (V b Z : Nat) : Prop := RdB (cz V Z false) b ∨ RdB (cz V Z true) b
theorem cz_le (V Z : Nat) : cz V Z false ≤ V := by
  unfold cz bN
  exact Nat.div_mul_le_self _ _
theorem cz_lt (V Z : Nat) : V < cz V Z true := by
  unfold cz bN
  have := Nat.lt_div_mul_add (a := V) (p10 Z)
  rw [if_pos rfl, Nat.add_mul, Nat.one_mul]
  exact this
theorem cz_down (V Z : Nat) : cz V (Z + 1) false ≤ cz V Z false := by
  unfold cz bN
  simp only [Bool.false_eq_true, if_false, Nat.add_zero]
  rw [Nat.pow_succ, ← Nat.div_div_eq_div_mul, Nat.mul_comm (10 ^ Z) 10, ← Nat.mul_assoc]
  exact Nat.mul_le_mul_right _ (Nat.div_mul_le_self _ _)
theorem cz_up (V Z : Nat) : cz V Z true ≤ cz V (Z + 1) true := by
  unfold cz bN
  rw [if_pos rfl, Nat.pow_succ, ← Nat.div_div_eq_div_mul, Nat.mul_comm (10 ^ Z) 10, ← Nat.mul_assoc]
  refine Nat.mul_le_mul_right _ ?_
  generalize V / 10 ^ Z = q
  omega
theorem OKz_down {b Z : Nat} (hb : 0 < b) (hb2 : b < 9218868437227405312) (h : OKz (FV b) b (Z + 1)) : OKz (FV b) b Z := by
  rcases h with h | h
  · exact Or.inl (RdB_conv hb hb2 h (RdB_self hb hb2) (cz_down _ _) (cz_le _ _))
  · exact Or.inr (RdB_conv hb hb2 (RdB_self hb hb2) h (Nat.le_of_lt (cz_lt _ _)) (cz_up _ _))
theorem OKz_downs {b Z : Nat} (hb : 0 < b) (hb2 : b < 9218868437227405312) : ∀ k, OKz (FV b) b (Z + k) → OKz (FV b) b Z
  | 0, h => h
  | k + 1, h => OKz_downs hb hb2 k (OKz_down hb hb2 h)
theorem ok17_arith {V Fp Fn b s q r Dm Dp : Nat} (h1 : V = Fp + Dm) (h2 : Fn = V + Dp) (hq : V = q * s + r) (hr : r < s) (g1 : s < Dm) (g2 : s < Dp) :
    (2 * r ≤ s ∧ Fp + V < 2 * (q * s) ∧ 2 * (q * s) < V + Fn) ∨ (Fp + V < 2 * ((q + 1) * s) ∧ 2 * ((q + 1) * s) < V + Fn) := by
  rw [Nat.add_mul, Nat.one_mul]
  generalize q * s = A at *
  omega
theorem ok17 {b Z : Nat} (hb : 0 < b) (hb2 : b < 9218868437227405312) (h : 10000000000000000 * 10 ^ Z ≤ FV b) : OKz (FV b) b Z := by
  obtain ⟨e, he⟩ : ∃ e, b = e + 1 := ⟨b - 1, (Nat.succ_pred_eq_of_pos hb).symm⟩
  obtain ⟨Dp, p0, p1, p2, -⟩ := FV_up b
  obtain ⟨Dm, m0, m1, m2, -⟩ := FV_up e
  rw [← he] at m1
  have hmp := mB_lt b
  have hmm := mB_lt e
  have gp : 10 ^ Z < Dp := w17_arith (F := 0) (Nat.le_of_eq p2) (Nat.le_of_lt hmp) h (p10 _) rfl
  have gm : 10 ^ Z < Dm := w17_arith (F := 0) (m := mB e + 1) (by rw [m1, Nat.succ_mul, ← m2]; exact Nat.le_refl _) hmm h (p10 _) rfl
  have hdm := Nat.div_add_mod (FV b) (10 ^ Z)
  rw [Nat.mul_comm] at hdm
  have hr := Nat.mod_lt (FV b) (p10 Z)
  have hV := FV_pos hb
  have he1 : b - 1 = e := by rw [he]; rfl
  rcases ok17_arith (b := b) m1 p1 hdm.symm hr gm gp with ⟨z0, z1, z2⟩ | ⟨z1, z2⟩
  · left
    have e0 : cz (FV b) Z false = FV b / 10 ^ Z * 10 ^ Z := rfl
    rw [e0]
    refine (RdB_iff2 hb hb2 ?_).mpr ⟨Or.inl (by rw [he1]; exact z1), Or.inl z2⟩
    rcases Nat.eq_zero_or_pos (FV b / 10 ^ Z * 10 ^ Z) with g | g
    · rw [g, Nat.mul_zero] at z1; exact absurd z1 (Nat.not_lt_zero _)
    · exact g
  · right
    have e0 : cz (FV b) Z true = (FV b / 10 ^ Z + 1) * 10 ^ Z := rfl
    rw [e0]
    exact (RdB_iff2 hb hb2 (Nat.mul_pos (Nat.succ_pos _) (p10 _))).mpr ⟨Or.inl (by rw [he1]; exact z1), Or.inl z2⟩
theorem five1074 : 49 * 10 ^ 749 < 5 ^ 1074 ∧ 5 ^ 1074 < 50 * 10 ^ 749 := by decide +kernel
theorem U0_near : ∃ k, 49 * 10 ^ k < U0 ∧ U0 < 50 * 10 ^ k := by
  refine ⟨749 + 18926, ?_⟩
  have h := five1074
  unfold U0
  rw [Nat.pow_add, ← Nat.mul_assoc, ← Nat.mul_assoc]
  generalize 10 ^ 749 = A at *
  generalize 5 ^ 1074 = B at *
  have := p10 18926
  generalize 10 ^ 18926 = C at *
  exact ⟨Nat.mul_lt_mul_of_pos_right h.1 this, Nat.mul_lt_mul_of_pos_right h.2 this⟩
theorem top_arith {a V D m t u : Nat} (ht : 0 < t) (ha : a = 10 * t ∨ a = 100 * t) (u1 : 49 * t < u) (u2 : u < 50 * t) (hD : D = u) (hV : V = m * D) (hm : m ≤ 9) (h1 : 20 * a ≤ 2 * V + D) (h2 : 2 * V ≤ 19 * a) : False := by
  subst hD
  have hm' : m = 0 ∨ m = 1 ∨ m = 2 ∨ m = 3 ∨ m = 4 ∨ m = 5 ∨ m = 6 ∨ m = 7 ∨ m = 8 ∨ m = 9 := by omega
  rcases hm' with h | h | h | h | h | h | h | h | h | h <;> subst h <;> rcases ha with h | h <;> omega
theorem p10_cmp {P k : Nat} {c : Nat} (h : 10 ^ P < 1000 * 10 ^ k) (h2 : 10 ^ k < 10 ^ P) (_ : c = c) : 10 ^ P = 10 * 10 ^ k ∨ 10 ^ P = 100 * 10 ^ k := by
  have e : 1000 * 10 ^ k = 10 ^ (k + 3) := by rw [Nat.pow_add, Nat.mul_comm]
  rw [e] at h
  have a1 := (Nat.pow_lt_pow_iff_right (a := 10) (by decide)).mp h
  have a2 := (Nat.pow_lt_pow_iff_right (a := 10) (by decide)).mp h2
  rcases Nat.lt_or_ge P (k + 2) with g | g
  · left
    have : P = k + 1 := by omega
    rw [this, Nat.pow_succ, Nat.mul_comm]
  · right
    have : P = k + 2 := by omega
    rw [this, Nat.pow_add, Nat.mul_comm]
theorem top_m {a V D m : Nat} (hD : 0 < D) (hV : V = m * D) (h1 : V < 10 * a) (h2 : a ≤ D) : m ≤ 9 := by
  rcases Nat.lt_or_ge 9 m with g | g
  · have : 10 * D ≤ m * D := Nat.mul_le_mul_right _ g
    omega
  · exact g
/-- if the next power of ten is read as b, it is nearer than half a step -/
theorem top_ok {b P : Nat} (hb : 0 < b) (hb2 : b < 9218868437227405312) (h1 : 10 ^ P ≤ FV b) (h2 : FV b < 10 ^ (P + 1)) (h : RdB (10 ^ (P + 1)) b) : 2 * 10 ^ (P + 1) < 2 * FV b + 10 ^ P := by
  have hi := RdB_hi h hb2
  obtain ⟨D, p0, p1, p2, p3⟩ := FV_up b
  have e : 10 ^ (P + 1) = 10 * 10 ^ P := by rw [Nat.pow_succ, Nat.mul_comm]
  have hle : 2 * (10 * 10 ^ P) ≤ 2 * FV b + D := by
    unfold InvU at hi
    rw [e] at hi
    generalize 10 ^ P = a at *
    generalize FV b = V at *
    generalize FV (b + 1) = W at *
    clear p2 p3
    omega
  rw [e] at h2 ⊢
  rcases Nat.lt_or_ge (2 * (10 * 10 ^ P)) (2 * FV b + 10 ^ P) with g | g
  · exact g
  exfalso
  have haD : 10 ^ P ≤ D := by
    generalize 10 ^ P = a at *
    generalize FV b = V at *
    clear p2 p3 hi h
    omega
  have hm := top_m p0 p2 h2 haD
  have hq : b / 2 ^ 52 = 0 := by
    unfold mB at hm
    split at hm
    · assumption
    · exfalso; clear p2 p3 hi h; have := (pw_pos 52); rw [show (2 : Nat) ^ 52 = 4503599627370496 from rfl] at hm; omega
  have hD : D = U0 := by
    rw [p3]
    unfold qB
    rw [hq, if_pos rfl, Nat.sub_self, Nat.pow_zero, Nat.one_mul]
  obtain ⟨k, u1, u2⟩ := U0_near
  have hk := p10 k
  have hVle : FV b ≤ 9 * U0 := by rw [p2, hD]; exact Nat.mul_le_mul_right _ hm
  have hV0 : U0 ≤ FV b := by
    rw [p2, hD]
    refine Nat.le_mul_of_pos_left _ ?_
    rcases Nat.eq_zero_or_pos (mB b) with z | z
    · rw [z, Nat.zero_mul] at p2
      exact absurd (FV_pos hb) (by rw [p2]; exact Nat.lt_irrefl _)
    · exact z
  have hA : 10 ^ P = 10 * 10 ^ k ∨ 10 ^ P = 100 * 10 ^ k := by
    refine p10_cmp (c := 0) ?_ ?_ rfl
    · generalize 10 ^ P = a at *
      generalize 10 ^ k = t at *
      generalize FV b = V at *
      generalize U0 = u at *
      clear p2 p3 hi h hD
      omega
    · generalize 10 ^ P = a at *
      generalize 10 ^ k = t at *
      generalize FV b = V at *
      generalize U0 = u at *
      clear p2 p3 hi h hD
      omega
  refine top_arith hk hA u1 u2 hD p2 hm ?_ ?_
  · rw [show (20 : Nat) = 2 * 10 from rfl, Nat.mul_assoc]; exact hle
  · generalize 10 ^ P = a at *
    generalize FV b = V at *
    clear p2 p3 hi h hD
    omega
