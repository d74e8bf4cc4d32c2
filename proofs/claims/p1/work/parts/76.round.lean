/-! round: what is to be written -/
def pd (T : Nat → Nat) (c i : Nat) : Nat := if i < c then T i else 0
def upD (D : Nat → Nat) (n : Nat) : Prop := 5 < D n ∨ (D n = 5 ∧ ((∃ i, n < i ∧ D i ≠ 0) ∨ D (n - 1) % 2 = 1))
def RndR (D : Nat → Nat) (n : Nat) (R : Nat → Nat) (dp : Nat) : Prop :=
  (∃ k, k < n ∧ D k ≠ 9 ∧ (∀ i, k < i → i < n → D i = 9) ∧ dp = 0 ∧ ∀ i, i < n → R i = upT D k i) ∨ ((∀ i, i < n → D i = 9) ∧ dp = 1 ∧ ∀ i, i < n → R i = if i = 0 then 1 else 0)
def Rnd (D : Nat → Nat) (n : Nat) (R : Nat → Nat) (dp : Nat) : Prop := (¬ upD D n ∧ dp = 0 ∧ ∀ i, i < n → R i = D i) ∨ (upD D n ∧ RndR D n R dp)
theorem RndR_uniq {D R R' : Nat → Nat} {n dp dp' : Nat} (h : RndR D n R dp) (h' : RndR D n R' dp') : dp = dp' ∧ ∀ i, i < n → R i = R' i := by
  rcases h with ⟨k, a1, a2, a3, a4, a5⟩ | ⟨a1, a2, a3⟩
  · rcases h' with ⟨k', b1, b2, b3, b4, b5⟩ | ⟨b1, b2, b3⟩
    · have : k = k' := by
        rcases Nat.lt_trichotomy k k' with q | q | q
        · exact absurd (a3 k' q b1) b2
        · exact q
        · exact absurd (b3 k q a1) a2
      subst this
      exact ⟨by omega, fun i hi => by rw [a5 i hi, b5 i hi]⟩
    · exact absurd (b1 k a1) a2
  · rcases h' with ⟨k', b1, b2, b3, b4, b5⟩ | ⟨b1, b2, b3⟩
    · exact absurd (a1 k' b1) b2
    · exact ⟨by omega, fun i hi => by rw [a3 i hi, b3 i hi]⟩
theorem Rnd_uniq {D R R' : Nat → Nat} {n dp dp' : Nat} (h : Rnd D n R dp) (h' : Rnd D n R' dp') : dp = dp' ∧ ∀ i, i < n → R i = R' i := by
  rcases h with ⟨a1, a2, a3⟩ | ⟨a1, a2⟩
  · rcases h' with ⟨b1, b2, b3⟩ | ⟨b1, b2⟩
    · exact ⟨by omega, fun i hi => by rw [a3 i hi, b3 i hi]⟩
    · exact absurd b1 a1
  · rcases h' with ⟨b1, b2, b3⟩ | ⟨b1, b2⟩
    · exact absurd a1 b1
    · exact RndR_uniq a2 b2
def DecB (b : Nat) (D : Nat → Nat) (p : Int) : Prop :=
  (mB b = 0 ∧ (∀ i, D i = 0) ∧ p = 1) ∨ (0 < mB b ∧ (∀ i, D i < 10) ∧ D 0 ≠ 0 ∧ -8000 ≤ p ∧ p ≤ 8000 ∧ ∃ N, 1 ≤ N ∧ N ≤ 2000 ∧ (∀ i, N ≤ i → D i = 0) ∧ SV (dval D N) N p = FV b)
theorem SV_pad {D : Nat → Nat} {N M : Nat} {p : Int} (hNM : N ≤ M) (h0 : ∀ i, N ≤ i → D i = 0) (hp : -20000 ≤ p - M) : SV (dval D M) M p = SV (dval D N) N p := by
  obtain ⟨j, rfl⟩ : ∃ j, M = N + j := ⟨M - N, by omega⟩
  rw [dval_app, dval_zero (fun i _ => h0 (N + i) (by omega)), Nat.add_zero]
  exact SV_shift (by omega)
theorem DecB_uniq {b : Nat} {D D' : Nat → Nat} {p p' : Int} (h : DecB b D p) (h' : DecB b D' p') : p = p' ∧ D = D' := by
  rcases h with ⟨a0, a1, a2⟩ | ⟨a0, a1, a2, a3, a4, N, a5, a6, a7, a8⟩
  · rcases h' with ⟨b0, b1, b2⟩ | ⟨b0, _⟩
    · exact ⟨by omega, funext (fun i => by rw [a1, b1])⟩
    · omega
  · rcases h' with ⟨b0, b1, b2⟩ | ⟨b0, b1, b2, b3, b4, N', b5, b6, b7, b8⟩
    · omega
    · have c1 := SVd_lo (p := p) a2 a5 (by omega)
      have c2 := SVd_hi (p := p) (fun k (_ : k < N) => a1 k) (by omega)
      have d1 := SVd_lo (p := p') b2 b5 (by omega)
      have d2 := SVd_hi (p := p') (fun k (_ : k < N') => b1 k) (by omega)
      rw [a8] at c1 c2
      rw [b8] at d1 d2
      have e1 := p10_lt (Nat.lt_of_le_of_lt c1 d2)
      have e2 := p10_lt (Nat.lt_of_le_of_lt d1 c2)
      have hp : p = p' := by omega
      subst hp
      refine ⟨rfl, funext (fun i => ?_)⟩
      have f1 := SV_pad (M := N + N') (p := p) (by omega) a7 (by omega)
      have f2 := SV_pad (M := N + N') (p := p) (by omega) b7 (by omega)
      have f3 : SV (dval D (N + N')) (N + N') p = SV (dval D' (N + N')) (N + N') p := by rw [f1, f2, a8, b8]
      unfold SV at f3
      have f4 := Nat.eq_of_mul_eq_mul_right (p10 _) f3
      rcases Nat.lt_or_ge i (N + N') with q | q
      · exact dval_inj (fun i _ => a1 i) (fun i _ => b1 i) f4 i q
      · rw [a7 i (by omega), b7 i (by omega)]
def RnL (B n : Nat) (l : List Nat) : Prop := ∃ D p R dp, DecB (B % 2 ^ 63) D p ∧ Rnd D n R dp ∧ l = (if B < 2 ^ 63 then [] else [45]) ++ (dgL R n n ++ pwL (p + dp))
theorem dgL_ext {T S : Nat → Nat} {n : Nat} (h : ∀ i, i < n → T i = S i) : dgL T n n = dgL S n n := gl_ext (fun i hi => by unfold dgF; rw [h i hi])
theorem RnL_uniq {B n : Nat} {l l' : List Nat} (h : RnL B n l) (h' : RnL B n l') : l = l' := by
  obtain ⟨D, p, R, dp, a1, a2, rfl⟩ := h
  obtain ⟨D', p', R', dp', b1, b2, rfl⟩ := h'
  obtain ⟨rfl, rfl⟩ := DecB_uniq a1 b1
  obtain ⟨rfl, hR⟩ := Rnd_uniq a2 b2
  rw [dgL_ext hR]
/-! the class's isUpper, cutTo, putRounded, round -/
theorem c_isUpper {E : En_t} {d n c : Nat} {T : Nat → Nat} {p : Int} {σ : S_t} (hP : PrAt σ T c p) (hn : 1 ≤ n) (hnc : n < c) (hc : c ≤ 810) : CI E d m_Pr_isUpper [pv E 59, .int (nI n)] σ (fun x σ' => σ' = σ ∧ ∃ u : Bool, x = bI u ∧ (u = true ↔ upD (pd T c) n)) := by
  have pn : ∀ i, i < c → pd T c i = T i := fun i hi => by unfold pd; rw [if_pos hi]
  refine CE.of (L := [(0, pv E 59), (1, .int (nI n))]) rfl (Nat.le_of_ble_eq_true rfl) rfl (b_Pr_isUpper_0 ?_)
  rw [nI_clamp (by omega), (hP.2.2 n hnc).1]
  have hTn := (hP.2.2 n hnc).2
  have e5 : nI (T n) = (5 : Int32) ↔ T n = 5 := nI_eq (b := 5) (by omega) (by omega)
  have l5 : nI (T n) ≤ (5 : Int32) ↔ T n ≤ 5 := nI_leI (b := 5) (by omega) (by omega)
  rw [e5, l5]
  refine ⟨vin (by omega) (by omega), fun h5 => ?_, fun h5 => ⟨vin (by omega) (by omega), fun h => ⟨_, rfl, rfl, false, rfl, ?_⟩, fun h => ⟨_, rfl, rfl, true, rfl, ?_⟩⟩⟩
  · have loop : ∀ (m j : Nat), n < j → j + m = c → (∀ i, n < i → i < j → T i = 0) → JE E d m_Pr_isUpper 30 [(0, pv E 59), (1, .int (nI n)), (2, .int (nI j))] [] σ (fun r σ' => ∃ x, r = some (.int x) ∧ σ' = σ ∧ ∃ u : Bool, x = bI u ∧ (u = true ↔ upD (pd T c) n)) := by
      intro m
      induction m with
      | zero =>
        intro j hj hjc hz
        have : j = c := by omega
        subst this
        refine b_Pr_isUpper_30 ?_
        rw [hP.1]
        refine ⟨fun _ => ?_, fun q => absurd (Int32.le_refl _) q⟩
        have e1 : nI n - (1 : Int32) = nI (n - 1) := by
          obtain ⟨t, rfl⟩ : ∃ t, n = t + 1 := ⟨n - 1, by omega⟩
          exact nI_pred t
        rw [e1, nI_clamp (by omega), (hP.2.2 (n - 1) (by omega)).1]
        have hb := (hP.2.2 (n - 1) (by omega)).2
        have e2 : nI (T (n - 1)) &&& (1 : Int32) = nI (T (n - 1) % 2) := by
          have : ∀ x : Nat, x < 10 → nI x &&& (1 : Int32) = nI (x % 2) := by decide +kernel
          exact this _ hb
        have e3 : nI (T (n - 1) % 2) = 0 ↔ T (n - 1) % 2 = 0 := nI_eq (b := 0) (by omega) (by omega)
        rw [e2, e3]
        have hno : ¬ ∃ i, n < i ∧ pd T j i ≠ 0 := by
          rintro ⟨i, i1, i2⟩
          unfold pd at i2
          by_cases q : i < j
          · rw [if_pos q] at i2; exact i2 (hz i i1 q)
          · rw [if_neg q] at i2; exact i2 rfl
        refine ⟨vin (by omega) (by omega), fun q => ⟨_, rfl, rfl, false, rfl, ?_⟩, fun q => ⟨_, rfl, rfl, true, rfl, ?_⟩⟩
        · refine ⟨fun z => absurd z (by decide), fun z => ?_⟩
          unfold upD at z
          rw [pn n hnc, pn (n - 1) (by omega)] at z
          rcases z with z | ⟨_, z | z⟩
          · omega
          · exact absurd z hno
          · omega
        · refine ⟨fun _ => ?_, fun _ => rfl⟩
          unfold upD
          rw [pn n hnc, pn (n - 1) (by omega)]
          exact Or.inr ⟨h5, Or.inr (by omega)⟩
      | succ m ih =>
        intro j hj hjc hz
        refine b_Pr_isUpper_30 ?_
        rw [hP.1]
        refine ⟨fun q => absurd q (nI_ge (by omega) (by omega)), fun _ => ?_⟩
        have hTj := (hP.2.2 j (by omega)).2
        rw [nI_clamp (by omega), (hP.2.2 j (by omega)).1]
        have e3 : nI (T j) = 0 ↔ T j = 0 := nI_eq (b := 0) (by omega) (by omega)
        rw [e3, nI_1]
        refine ⟨vin (by omega) (by omega), fun q => ih (j + 1) (by omega) (by omega) (fun i i1 i2 => ?_), fun q => ⟨_, rfl, rfl, true, rfl, ?_⟩⟩
        · rcases Nat.lt_or_ge i j with z | z
          · exact hz i i1 z
          · rw [show i = j by omega]; exact q
        · refine ⟨fun _ => ?_, fun _ => rfl⟩
          unfold upD
          rw [pn n hnc]
          exact Or.inr ⟨h5, Or.inl ⟨j, hj, by rw [pn j (by omega)]; exact q⟩⟩
    rw [nI_1]
    exact loop (c - (n + 1)) (n + 1) (by omega) (by omega) (fun i i1 i2 => absurd i1 (by omega))
  · refine ⟨fun z => absurd z (by decide), fun z => ?_⟩
    unfold upD at z
    rw [pn n hnc] at z
    omega
  · refine ⟨fun _ => ?_, fun _ => rfl⟩
    unfold upD
    rw [pn n hnc]
    exact Or.inl (by omega)
theorem c_cutTo {E : En_t} {d n c : Nat} {T : Nat → Nat} {p : Int} {σ : S_t} (hP : PrAt σ T c p) (hn : 1 ≤ n) (hnc : n < c) (hc : c ≤ 810) : CV E (d + 1) m_Pr_cutTo [pv E 59, .int (nI n)] σ (fun σ' => Fs PM σ σ' ∧ ∃ (R : Nat → Nat) (dp : Nat), PrAt σ' R n (p + dp) ∧ Rnd (pd T c) n R dp ∧ dp ≤ 1) := by
  have pn : ∀ i, i < c → pd T c i = T i := fun i hi => by unfold pd; rw [if_pos hi]
  have pl : ∀ i, pd T c i < 10 := fun i => by
    unfold pd
    by_cases q : i < c
    · rw [if_pos q]; exact (hP.2.2 i q).2
    · rw [if_neg q]; decide
  refine CE.of (L := [(0, pv E 59), (1, .int (nI n))]) rfl (Nat.le_of_ble_eq_true rfl) rfl (b_Pr_cutTo_0 ((c_isUpper hP hn hnc hc).mono (fun x σ1 hq => ?_)))
  obtain ⟨hs, u, hx, hu⟩ := hq
  rw [hs, hx]
  have P0 : ∀ i, i < n → gI (sI σ 59 2 (nI n)) 60 i = nI (pd T c i) := fun i hi => by
    rw [gI_sI_n (Or.inl (by decide)), pn i (by omega)]; exact (hP.2.2 i (by omega)).1
  have e1 : nI n - (1 : Int32) = zI ((n : Int) - 1) := by rw [← zI_nI, show (1 : Int32) = zI 1 from rfl, zI_sub]
  rw [e1]
  -- the end
  have done : ∀ (τ : S_t) (R : Nat → Nat), Fs PM σ τ → gI τ 59 2 = nI n → gI τ 59 3 = zI p → (∀ i, i < n → gI τ 60 i = nI (R i) ∧ R i < 10) → Rnd (pd T c) n R 0 → JE E (d + 1) m_Pr_cutTo 69 [(0, pv E 59), (2, .int (0 : Int32))] [] τ (fun r σ' => r = none ∧ Fs PM σ σ' ∧ ∃ (R : Nat → Nat) (dp : Nat), PrAt σ' R n (p + dp) ∧ Rnd (pd T c) n R dp ∧ dp ≤ 1) := by
    intro τ R hF h2 h3 hR hRn
    refine b_Pr_cutTo_69 ⟨fun _ => ⟨rfl, hF, R, 0, ⟨h2, by rw [h3]; exact congrArg zI (by omega), hR⟩, hRn, by omega⟩, fun q => absurd rfl q⟩
  have F0 : Fs PM σ (sI σ 59 2 (nI n)) := Fs.rf.si PM592
  cases u
  · have hnu : ¬ upD (pd T c) n := fun z => absurd (hu.mpr z) (by decide)
    have fin := done (sI σ 59 2 (nI n)) (pd T c) F0 (gI_sI_s _ _ _ _) (by rw [gI_sI_n (Or.inr (by decide))]; exact hP.2.1) (fun i hi => ⟨P0 i hi, pl i⟩) (Or.inl ⟨hnu, rfl, fun _ _ => rfl⟩)
    exact b_Pr_cutTo_15 ⟨fun _ => fin, fun _ => ⟨fun _ => fin, fun q => absurd rfl q⟩⟩
  · have hup : upD (pd T c) n := hu.mp rfl
    have loop : ∀ (i : Nat) (τ : S_t), i ≤ n → Fs PM σ τ → gI τ 59 2 = nI n → gI τ 59 3 = zI p → (∀ k, k < i → gI τ 60 k = nI (pd T c k)) → (∀ k, i ≤ k → k < n → gI τ 60 k = 0 ∧ pd T c k = 9) →
        JE E (d + 1) m_Pr_cutTo 15 [(0, pv E 59), (2, .int (bI true)), (3, .int (zI ((i : Int) - 1)))] [] τ (fun r σ' => r = none ∧ Fs PM σ σ' ∧ ∃ (R : Nat → Nat) (dp : Nat), PrAt σ' R n (p + dp) ∧ Rnd (pd T c) n R dp ∧ dp ≤ 1) := by
      intro i
      induction i with
      | zero =>
        intro τ _ hF h2 h3 hlo hhi
        refine b_Pr_cutTo_15 ⟨fun _ => b_Pr_cutTo_69 ⟨fun q => absurd q (by decide), fun _ => ⟨vin (n := 0) (by omega) (by omega), fun σ2 hσ2 => ?_⟩⟩, fun q => absurd ?_ q⟩
        · subst hσ2
          have z0 : (0 : Int32).toNatClampNeg = 0 := rfl
          have n1 : vp_nar .byte (1 : Int32) = nI 1 := nar_small (n := 1) (by decide)
          rw [z0, n1]
          refine ⟨rfl, (hF.si PM60).si PM593, fun i => if i = 0 then 1 else 0, 1, ⟨?_, ?_, fun i hi => ?_⟩, Or.inr ⟨hup, Or.inr ⟨fun i hi => (hhi i (by omega) hi).2, rfl, fun _ _ => rfl⟩⟩, by omega⟩
          · rw [gI_sI_n (Or.inr (by decide)), gI_sI_n (Or.inl (by decide))]; exact h2
          · rw [gI_sI_s, gI_sI_n (Or.inl (by decide)), h3, show (1 : Int32) = zI 1 from rfl, zI_add]; rfl
          · rw [gI_sI_n (Or.inl (by decide))]
            by_cases q : i = 0
            · subst q; exact ⟨gI_sI_s _ _ _ _, by decide⟩
            · rw [gI_sI_n (Or.inr q), (hhi i (by omega) hi).1]
              show (0 : Int32) = nI (if i = 0 then 1 else 0) ∧ (if i = 0 then 1 else 0) < 10
              rw [if_neg q]; exact ⟨rfl, by decide⟩
        · exact (zI_lt (b := 0) (by omega) (by omega) (by omega) (by omega)).mpr (by omega)
      | succ i ih =>
        intro τ hi hF h2 h3 hlo hhi
        have ei : zI (((i + 1 : Nat) : Int) - 1) = nI i := by rw [← zI_nI]; exact congrArg zI (by omega)
        rw [ei]
        have e9 : nI (pd T c i) = (9 : Int32) ↔ pd T c i = 9 := by
          have := pl i
          exact nI_eq (b := 9) (by omega) (by omega)
        have ed : nI i + (-1 : Int32) = zI ((i : Int) - 1) := by
          rw [← zI_nI, show (-1 : Int32) = zI (-1) from rfl, zI_add]; exact congrArg zI (by omega)
        refine b_Pr_cutTo_15 ⟨fun q => absurd q (nI_pos (by omega)), fun _ => ⟨fun q => absurd q (by decide), fun _ => ⟨vin (by omega) (by omega), ?_⟩⟩⟩
        rw [nI_clamp (by omega), hlo i (by omega), e9]
        refine ⟨fun q => b_Pr_cutTo_39 ⟨fun _ => ⟨vin (by omega) (by omega), ?_⟩, fun z => absurd rfl z⟩, fun q => b_Pr_cutTo_39 ⟨fun z => absurd z (by decide), fun _ => ?_⟩⟩
        · rw [nI_clamp (by omega), hlo i (by omega), nI_1]
          refine b_Pr_cutTo_62 (q2 := 60) rfl ⟨show vp_in (nI i) 810 from vin (by omega) (by decide), ?_⟩
          have hpl := pl i
          rw [nI_clamp (by omega), nar_small2 (by omega), ed]
          have fin := done (sI τ 60 i (nI (pd T c i + 1))) (upT (pd T c) i) (hF.si PM60) (by rw [gI_sI_n (Or.inl (by decide))]; exact h2) (by rw [gI_sI_n (Or.inl (by decide))]; exact h3) (fun k hk => ?_) (Or.inr ⟨hup, Or.inl ⟨i, by omega, q, fun k k1 k2 => (hhi k (by omega) k2).2, rfl, fun _ _ => rfl⟩⟩)
          · exact b_Pr_cutTo_15 ⟨fun _ => fin, fun _ => ⟨fun _ => fin, fun z => absurd rfl z⟩⟩
          · rcases Nat.lt_trichotomy k i with z | z | z
            · rw [gI_sI_n (Or.inr (by omega)), upT_lt z]; exact ⟨hlo k (by omega), pl k⟩
            · subst z; rw [gI_sI_s, upT_eq]; exact ⟨rfl, by omega⟩
            · rw [gI_sI_n (Or.inr (by omega)), upT_gt z]; exact ⟨(hhi k (by omega) hk).1, by decide⟩
        · refine b_Pr_cutTo_62 (q2 := 60) rfl ⟨show vp_in (nI i) 810 from vin (by omega) (by decide), ?_⟩
          have n0 : vp_nar .byte (0 : Int32) = 0 := nar_small (n := 0) (by decide)
          rw [nI_clamp (by omega), n0, ed]
          refine ih _ (by omega) (hF.si PM60) (by rw [gI_sI_n (Or.inl (by decide))]; exact h2) (by rw [gI_sI_n (Or.inl (by decide))]; exact h3) (fun k hk => ?_) (fun k k1 k2 => ?_)
          · rw [gI_sI_n (Or.inr (by omega))]; exact hlo k (by omega)
          · by_cases z : k = i
            · subst z; exact ⟨gI_sI_s _ _ _ _, q⟩
            · rw [gI_sI_n (Or.inr z)]; exact hhi k (by omega) k2
    exact loop n _ (Nat.le_refl _) F0 (gI_sI_s _ _ _ _) (by rw [gI_sI_n (Or.inr (by decide))]; exact hP.2.1) P0 (fun k k1 k2 => absurd k1 (by omega))
