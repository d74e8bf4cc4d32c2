/-! keepExact, take(n, up), reads -/
def ExAt (σ : S_t) (F : Nat → Nat) (n : Nat) (pt : Int) : Prop := gI σ 0 13 = nI n ∧ gI σ 0 14 = zI pt ∧ ∀ k, k < n → gI σ 5 k = nI (F k) ∧ F k < 10
/-- what keepExact may change -/
def MK : Nat → Nat → Prop := fun p k => MP p k ∨ p = 5 ∨ (p = 0 ∧ (k = 13 ∨ k = 14))
/-- what take may change -/
def MT : Nat → Nat → Prop := fun p k => p = 6 ∨ (p = 0 ∧ (k = 15 ∨ k = 16))
/-- what reads may change -/
def MR : Nat → Nat → Prop := fun p k => MP p k ∨ MT p k
theorem ExAt.fr {σ σ' : S_t} {F : Nat → Nat} {n : Nat} {pt : Int} (h : ExAt σ F n pt) (hF : Fs MR σ σ') : ExAt σ' F n pt := by
  have a : ∀ p k, ¬ MR p k → gI σ' p k = gI σ p k := hF.1
  have n13 : ¬ MR 0 13 := by unfold MR MP MT; omega
  have n14 : ¬ MR 0 14 := by unfold MR MP MT; omega
  have n5 : ∀ k, ¬ MR 5 k := by intro k; unfold MR MP MT; omega
  exact ⟨by rw [a _ _ n13]; exact h.1, by rw [a _ _ n14]; exact h.2.1, fun k hk => by rw [a _ _ (n5 k)]; exact h.2.2 k hk⟩
theorem c_keepExactX {E : En_t} {d b : Nat} {x : Int64} {σ : S_t} (hx : SgX x b) (hb : b < 2 ^ 63) (hfin : b / 2 ^ 52 ≤ 2046) : CV E (d + 4) m_Mo_keepExact [pv E 0, .long x] σ (fun σ' => Fs MK σ σ' ∧ ∃ F n pt, ExAt σ' F n pt ∧ n ≤ 1100 ∧ ((mB b = 0 ∧ n = 0 ∧ pt = 0) ∨ (0 < mB b ∧ 0 < n ∧ F 0 ≠ 0 ∧ F (n - 1) ≠ 0 ∧ SV (dval F n) n pt = FV b ∧ -8000 ≤ pt ∧ pt ≤ 8000))) := by
  refine CE.of (L := [(0, pv E 0), (1, .long x)]) rfl (Nat.le_of_ble_eq_true rfl) rfl (b_Mo_keepExact_0 ((c_exactlyX hx hb hfin).mono (fun σ1 hq => ?_)))
  obtain ⟨F1, hq⟩ := hq
  -- what exactly left
  obtain ⟨N, n, pt, hD, hn, hrest⟩ : ∃ N n pt, DecAt σ1 N n pt ∧ n ≤ 1100 ∧ ((mB b = 0 ∧ n = 0 ∧ pt = 0) ∨ (0 < mB b ∧ 0 < n ∧ dg σ1 0 ≠ 0 ∧ dg σ1 (n - 1) ≠ 0 ∧ SV (dval (dg σ1) n) n pt = FV b ∧ -8000 ≤ pt ∧ pt ≤ 8000)) := by
    rcases hq with ⟨q1, q2⟩ | ⟨q1, N, n, pt, q2, q3, q4, q5, q6⟩
    · exact ⟨0, 0, 0, q2, by omega, Or.inl ⟨q1, rfl, rfl⟩⟩
    · exact ⟨N, n, pt, q2.1, q4, Or.inr ⟨q1, q2.2.1, q2.2.2.1, q2.2.2.2, by rw [q2.1.2.2.2]; exact q3, q5, q6⟩⟩
  obtain ⟨h6, h7, hdig, hval⟩ := hD
  rw [h6, gI_sI_n (Or.inr (by decide)), h7]
  have FK : Fs MK σ σ1 := F1.mono (fun p k h => Or.inl h)
  have m13 : MK 0 13 := Or.inr (Or.inr ⟨rfl, Or.inl rfl⟩)
  have m14 : MK 0 14 := Or.inr (Or.inr ⟨rfl, Or.inr rfl⟩)
  have m5 : ∀ k, MK 5 k := fun k => Or.inr (Or.inl rfl)
  have loop : ∀ (m i : Nat) (τ : S_t), i + m = n → Fs MK σ τ → gI τ 0 6 = nI n → gI τ 0 13 = nI n → gI τ 0 14 = zI pt → (∀ k, gI τ 3 k = gI σ1 3 k) → (∀ k, k < i → gI τ 5 k = nI (dg σ1 k)) →
      JE E (d + 4) m_Mo_keepExact 23 [(0, pv E 0), (3, .int (nI i))] [] τ (fun r σ' => r = none ∧ Fs MK σ σ' ∧ ∃ F n pt, ExAt σ' F n pt ∧ n ≤ 1100 ∧ ((mB b = 0 ∧ n = 0 ∧ pt = 0) ∨ (0 < mB b ∧ 0 < n ∧ F 0 ≠ 0 ∧ F (n - 1) ≠ 0 ∧ SV (dval F n) n pt = FV b ∧ -8000 ≤ pt ∧ pt ≤ 8000))) := by
    intro m
    induction m with
    | zero =>
      intro i τ him hF a6 a13 a14 a3 a5
      have : i = n := by omega
      subst this
      exact b_Mo_keepExact_23 ⟨fun _ => ⟨rfl, hF, dg σ1, i, pt, ⟨a13, a14, fun k hk => ⟨a5 k hk, hdig k hk⟩⟩, hn, hrest⟩, fun h => absurd (by rw [a6]; exact Int32.le_refl _) h⟩
    | succ m ih =>
      intro i τ him hF a6 a13 a14 a3 a5
      refine b_Mo_keepExact_23 ⟨fun h => absurd h (by rw [a6]; exact nI_ge (by omega) (by omega)), fun _ => ⟨vin (by omega) (by omega), vin (by omega) (by omega), ?_⟩⟩
      rw [nI_clamp (by omega), nI_1]
      refine ih (i + 1) _ (by omega) (hF.si (m5 i)) (by rw [gI_sI_n (Or.inl (by decide))]; exact a6) (by rw [gI_sI_n (Or.inl (by decide))]; exact a13) (by rw [gI_sI_n (Or.inl (by decide))]; exact a14) (fun k => by rw [gI_sI_n (Or.inl (by decide))]; exact a3 k) (fun k hk => ?_)
      by_cases q : k = i
      · subst q; rw [gI_sI_s, a3]; exact (nI_un _).symm
      · rw [gI_sI_n (Or.inr q)]; exact a5 k (by omega)
  refine loop n 0 _ (by omega) ((FK.si m13).si m14) ?_ ?_ (gI_sI_s _ _ _ _) (fun k => ?_) (fun k hk => absurd hk (by omega))
  · rw [gI_sI_n (Or.inr (by decide)), gI_sI_n (Or.inr (by decide))]; exact h6
  · rw [gI_sI_n (Or.inr (by decide)), gI_sI_s]
  · rw [gI_sI_n (Or.inl (by decide)), gI_sI_n (Or.inl (by decide))]
theorem c_keepExact {E : En_t} {d b : Nat} {σ : S_t} (hb : b < 2 ^ 63) (hfin : b / 2 ^ 52 ≤ 2046) : CV E (d + 4) m_Mo_keepExact [pv E 0, .long (lN b)] σ (fun σ' => Fs MK σ σ' ∧ ∃ F n pt, ExAt σ' F n pt ∧ n ≤ 1100 ∧ ((mB b = 0 ∧ n = 0 ∧ pt = 0) ∨ (0 < mB b ∧ 0 < n ∧ F 0 ≠ 0 ∧ F (n - 1) ≠ 0 ∧ SV (dval F n) n pt = FV b ∧ -8000 ≤ pt ∧ pt ≤ 8000))) := c_keepExactX (SgX_0 hb hfin) hb hfin
theorem nines : ∀ m, dval (fun _ => 9) m + 1 = 10 ^ m
  | 0 => rfl
  | m + 1 => by
    have := nines m
    rw [dval, Nat.pow_succ]
    omega
def upT (f : Nat → Nat) (i k : Nat) : Nat := if k < i then f k else if k = i then f i + 1 else 0
theorem upT_lt {f : Nat → Nat} {i k : Nat} (h : k < i) : upT f i k = f k := by unfold upT; rw [if_pos h]
theorem upT_eq (f : Nat → Nat) (i : Nat) : upT f i i = f i + 1 := by unfold upT; rw [if_neg (Nat.lt_irrefl _), if_pos rfl]
theorem upT_gt {f : Nat → Nat} {i k : Nat} (h : i < k) : upT f i k = 0 := by unfold upT; rw [if_neg (by omega), if_neg (by omega)]
theorem dval_upT (f : Nat → Nat) (i e : Nat) : dval (upT f i) (i + 1 + e) = (dval f i * 10 + f i + 1) * 10 ^ e := by
  rw [dval_app, dval_zero (f := fun t => upT f i (i + 1 + t)) (fun t _ => upT_gt (by omega)), Nat.add_zero, dval, dval_ext (g := f) (fun k hk => upT_lt hk), upT_eq, Nat.add_assoc]
def bN (u : Bool) : Nat := if u then 1 else 0
/-- the digits that take keeps: the first j, and one more at the last of them if up -/
def TrAt (σ : S_t) (M j : Nat) (pt : Int) : Prop := gI σ 0 15 = nI j ∧ ∃ (T : Nat → Nat) (p' : Int), gI σ 0 16 = zI p' ∧ (∀ k, k < j → gI σ 6 k = nI (T k) ∧ T k < 10) ∧ T 0 ≠ 0 ∧ ((M < 10 ^ j ∧ p' = pt ∧ dval T j = M) ∨ (M = 10 ^ j ∧ p' = pt + 1 ∧ dval T j = 10 ^ (j - 1)))
theorem MT6 {k : Nat} : MT 6 k := Or.inl rfl
theorem c_take2 {E : En_t} {d n j : Nat} {F : Nat → Nat} {pt : Int} {up : Bool} {σ : S_t} (hE : ExAt σ F n pt) (hn0 : 0 < n) (hn : n ≤ 1100) (h0 : F 0 ≠ 0) (hj0 : 1 ≤ j) (hj : j ≤ 17) : CV E d m_Mo_take_IZ [pv E 0, .int (nI j), .int (bI up)] σ (fun σ' => Fs MT σ σ' ∧ TrAt σ' (dval (fz F n) j + bN up) j pt) := by
  refine CE.of (L := [(0, pv E 0), (1, .int (nI j)), (2, .int (bI up))]) rfl (Nat.le_of_ble_eq_true rfl) rfl (b_Mo_take_IZ_0 ?_)
  rw [gI_sI_n (Or.inr (by decide)), hE.2.1]
  have m15 : MT 0 15 := Or.inr ⟨rfl, Or.inl rfl⟩
  have m16 : MT 0 16 := Or.inr ⟨rfl, Or.inr rfl⟩
  have hfz : ∀ k, fz F n k < 10 := by
    intro k; unfold fz; split
    · rename_i q; exact (hE.2.2 k q).2
    · omega
  have hz0 : fz F n 0 ≠ 0 := by unfold fz; rw [if_pos hn0]; exact h0
  have hM := dval_lt (f := fz F n) (n := j) (fun k _ => hfz k)
  have fin : ∀ τ : S_t, Fs MT σ τ → gI τ 0 15 = nI j → gI τ 0 16 = zI pt → (∀ k, k < j → gI τ 6 k = nI (fz F n k)) → (¬ bI up = 0 → JE E d m_Mo_take_IZ 59 [(0, pv E 0), (3, .int (nI j - 1))] [] τ (fun r σ' => r = none ∧ Fs MT σ σ' ∧ TrAt σ' (dval (fz F n) j + bN up) j pt)) ∧ (bI up = 0 → (none : Option Value) = none ∧ Fs MT σ τ ∧ TrAt τ (dval (fz F n) j + bN up) j pt) := by
    intro τ hF a15 a16 a6
    refine ⟨fun hu => ?_, fun hu => ⟨rfl, hF, a15, fz F n, pt, a16, fun k hk => ⟨a6 k hk, hfz k⟩, hz0, Or.inl ?_⟩⟩
    · have hup : up = true := (bI_1 up).mp hu
      subst hup
      show JE _ _ _ _ _ _ _ (fun r σ' => r = none ∧ Fs MT σ σ' ∧ TrAt σ' (dval (fz F n) j + 1) j pt)
      have loop : ∀ (i : Nat) (ρ : S_t) (x3 : Int32), i ≤ j → x3 = nI i - 1 → Fs MT σ ρ → gI ρ 0 15 = nI j → gI ρ 0 16 = zI pt → (∀ k, k < i → gI ρ 6 k = nI (fz F n k)) → (∀ k, i ≤ k → k < j → gI ρ 6 k = nI 0 ∧ fz F n k = 9) → JE E d m_Mo_take_IZ 59 [(0, pv E 0), (3, .int x3)] [] ρ (fun r σ' => r = none ∧ Fs MT σ σ' ∧ TrAt σ' (dval (fz F n) j + 1) j pt) := by
        intro i
        induction i with
        | zero =>
          intro ρ x3 hi ex hF b15 b16 blo bhi
          have hneg : x3 < 0 := by rw [ex]; exact neg1_lt
          refine b_Mo_take_IZ_59 ⟨fun _ => b_Mo_take_IZ_87 ⟨fun _ => ⟨vin (n := 0) (by decide) (by decide), ?_⟩, fun h => absurd hneg h⟩, fun h => absurd hneg h⟩
          have e16 : gI (sI ρ 6 (0 : Int32).toNatClampNeg 1) 0 16 + (1 : Int32) = zI (pt + 1) := by
            have : (1 : Int32) = zI 1 := rfl
            rw [gI_sI_n (Or.inl (by decide)), b16, this, zI_add]
          rw [e16, tc0]
          refine ⟨rfl, (hF.si MT6).si m16, ?_, fun k => if k = 0 then 1 else 0, pt + 1, gI_sI_s _ _ _ _, fun k hk => ?_, by simp, Or.inr ⟨?_, rfl, ?_⟩⟩
          · rw [gI_sI_n (Or.inr (by decide)), gI_sI_n (Or.inl (by decide))]; exact b15
          · rw [gI_sI_n (Or.inl (by decide))]
            by_cases q : k = 0
            · subst q; rw [gI_sI_s]; exact ⟨rfl, by simp⟩
            · rw [gI_sI_n (Or.inr q), (bhi k (by omega) hk).1]; simp [q]
          · have : dval (fz F n) j = dval (fun _ => 9) j := dval_ext (fun k hk => (bhi k (by omega) hk).2)
            rw [this, nines]
          · obtain ⟨i', rfl⟩ : ∃ i', j = i' + 1 := ⟨j - 1, by omega⟩
            rw [dval_cons, dval_zero (fun k _ => by simp)]
            simp
        | succ i ih =>
          intro ρ x3 hi ex hF b15 b16 blo bhi
          rw [nI_m1] at ex
          subst ex
          have hi6 := blo i (by omega)
          have hfi := hfz i
          refine b_Mo_take_IZ_59 ⟨fun h => absurd h (nI_pos (by omega)), fun _ => ⟨vin (by omega) (by omega), fun h9 => ?_, fun h9 => ⟨vin (by omega) (by omega), ?_⟩⟩⟩
          · rw [nI_clamp (by omega), hi6] at h9
            have h9 : fz F n i ≠ 9 := fun q => h9 (by rw [q]; rfl)
            refine b_Mo_take_IZ_87 ⟨fun h => absurd h (nI_pos (by omega)), fun _ => ⟨vin (by omega) (by omega), vin (by omega) (by omega), ?_⟩⟩
            rw [nI_clamp (by omega), hi6, nI_1]
            refine ⟨rfl, hF.si MT6, ?_, upT (fz F n) i, pt, ?_, fun k hk => ?_, ?_, Or.inl ⟨?_, rfl, ?_⟩⟩
            · rw [gI_sI_n (Or.inl (by decide))]; exact b15
            · rw [gI_sI_n (Or.inl (by decide))]; exact b16
            · by_cases q : k = i
              · subst q; rw [gI_sI_s, upT_eq]; exact ⟨rfl, by omega⟩
              · rw [gI_sI_n (Or.inr q)]
                rcases Nat.lt_or_ge k i with g | g
                · rw [blo k (by omega), upT_lt g]; exact ⟨rfl, hfz k⟩
                · rw [(bhi k (by omega) hk).1, upT_gt (by omega)]; exact ⟨rfl, by omega⟩
            · rcases Nat.eq_zero_or_pos i with g | g
              · subst g; rw [upT_eq]; omega
              · rw [upT_lt g]; exact hz0
            all_goals
              obtain ⟨e', he'⟩ : ∃ e', j = (i + 1) + e' := ⟨j - (i + 1), by omega⟩
              have s1 := dval_app (fz F n) (i + 1) e'
              rw [← he', dval_ext (f := fun t => fz F n (i + 1 + t)) (g := fun _ => 9) (fun t ht => (bhi (i + 1 + t) (by omega) (by omega)).2), dval] at s1
              have s2 := nines e'
              have hA := dval_lt (f := fz F n) (n := i) (fun k _ => hfz k)
            · rw [s1, he', Nat.pow_add, Nat.pow_succ]
              have : (dval (fz F n) i * 10 + fz F n i + 1) * 10 ^ e' ≤ 10 ^ i * 10 * 10 ^ e' - 10 ^ e' ∨ dval (fz F n) i * 10 + fz F n i + 1 < 10 ^ i * 10 := Or.inr (by omega)
              have h3 : dval (fz F n) i * 10 + fz F n i + 1 < 10 ^ i * 10 := by omega
              have h4 := Nat.mul_lt_mul_of_pos_right h3 (p10 e')
              rw [Nat.add_mul, Nat.one_mul] at h4
              omega
            · rw [he', dval_upT, ← he', s1, Nat.add_mul (dval (fz F n) i * 10 + fz F n i) 1, Nat.one_mul]
              omega
          · rw [nI_clamp (by omega), hi6] at h9
            have h9 : fz F n i = 9 := (nI_eq (b := 9) (by omega) (by omega)).mp h9
            rw [nI_clamp (by omega), sub1]
            refine ih _ _ (by omega) rfl (hF.si MT6) (by rw [gI_sI_n (Or.inl (by decide))]; exact b15) (by rw [gI_sI_n (Or.inl (by decide))]; exact b16) (fun k hk => by rw [gI_sI_n (Or.inr (by omega))]; exact blo k (by omega)) (fun k h1 h2 => ?_)
            by_cases q : k = i
            · subst q; exact ⟨gI_sI_s _ _ _ _, h9⟩
            · rw [gI_sI_n (Or.inr q)]; exact bhi k (by omega) h2
      exact loop j τ _ (Nat.le_refl _) rfl hF a15 a16 a6 (fun k q1 q2 => absurd q1 (by omega))
    · have hup : up = false := by
        cases up with
        | false => rfl
        | true => exact absurd hu (by decide)
      subst hup
      exact ⟨hM, rfl, rfl⟩
  have loop : ∀ (m i : Nat) (τ : S_t), i + m = j → Fs MT σ τ → gI τ 0 15 = nI j → gI τ 0 16 = zI pt → (∀ k, k < i → gI τ 6 k = nI (fz F n k)) → JE E d m_Mo_take_IZ 15 [(0, pv E 0), (1, .int (nI j)), (2, .int (bI up)), (3, .int (nI i))] [] τ (fun r σ' => r = none ∧ Fs MT σ σ' ∧ TrAt σ' (dval (fz F n) j + bN up) j pt) := by
    intro m
    induction m with
    | zero =>
      intro i τ him hF a15 a16 a6
      have : i = j := by omega
      subst this
      obtain ⟨q1, q2⟩ := fin τ hF a15 a16 a6
      exact b_Mo_take_IZ_15 ⟨fun _ => ⟨q1, q2⟩, fun h => absurd (Int32.le_refl _) h⟩
    | succ m ih =>
      intro i τ him hF a15 a16 a6
      have a13 : gI τ 0 13 = nI n := by rw [hF.1 0 13 (by unfold MT; omega)]; exact hE.1
      have nxt : ∀ v : Int32, v = nI (fz F n i) → JE E d m_Mo_take_IZ 43 [(0, pv E 0), (1, .int (nI j)), (2, .int (bI up)), (3, .int (nI i))] [.int v, .int (nI i), pv E 6] τ (fun r σ' => r = none ∧ Fs MT σ σ' ∧ TrAt σ' (dval (fz F n) j + bN up) j pt) := by
        intro v hv
        refine b_Mo_take_IZ_43 rfl ⟨vin (N := lenP 6) (by show i < 20; omega) (by decide), ?_⟩
        rw [nI_clamp (by omega), nI_1]
        refine ih (i + 1) _ (by omega) (hF.si MT6) (by rw [gI_sI_n (Or.inl (by decide))]; exact a15) (by rw [gI_sI_n (Or.inl (by decide))]; exact a16) (fun k hk => ?_)
        by_cases q : k = i
        · subst q; rw [gI_sI_s]; exact hv
        · rw [gI_sI_n (Or.inr q)]; exact a6 k (by omega)
      refine b_Mo_take_IZ_15 ⟨fun h => absurd h (nI_ge (by omega) (by omega)), fun _ => ⟨fun h => nxt _ ?_, fun h => ⟨vin (by omega) (by omega), nxt _ ?_⟩⟩⟩
      · have : n ≤ i := by rw [a13] at h; exact (nI_leI (by omega) (by omega)).mp h
        unfold fz; rw [if_neg (by omega)]; rfl
      · have hin : i < n := by
          rw [a13] at h
          rcases Nat.lt_or_ge i n with g | g
          · exact g
          · exact absurd (nI_le g (by omega)) h
        rw [nI_clamp (by omega), hF.1 5 i (by unfold MT; omega), (hE.2.2 i hin).1]
        unfold fz; rw [if_pos hin]
  exact loop j 0 _ (by omega) ((Fs.rf.si m15).si m16) (by rw [gI_sI_n (Or.inr (by decide)), gI_sI_s]) (gI_sI_s _ _ _ _) (fun k hk => absurd hk (by omega))
