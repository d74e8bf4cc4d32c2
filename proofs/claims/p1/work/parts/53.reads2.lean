theorem c_reads {E : En_t} {d n j b : Nat} {F : Nat → Nat} {pt : Int} {up : Bool} {σ : S_t} (hE : ExAt σ F n pt) (hn0 : 0 < n) (hn : n ≤ 1100) (h0 : F 0 ≠ 0) (hj0 : 1 ≤ j) (hj : j ≤ 17) (hp1 : -335 ≤ pt) (hp2 : pt ≤ 315) (hb : b < 2 ^ 63) :
    CI E (d + 4) m_Mo_reads [pv E 0, .int (nI j), .int (bI up), .long (lN b)] σ (fun r σ' => Fs MR σ σ' ∧ ((r = 1 ∧ RdB (SV (dval (fz F n) j + bN up) j pt) b) ∨ (r = 0 ∧ ¬ RdB (SV (dval (fz F n) j + bN up) j pt) b))) := by
  refine CE.of (L := [(0, pv E 0), (1, .int (nI j)), (2, .int (bI up)), (3, .long (lN b))]) rfl (Nat.le_of_ble_eq_true rfl) rfl (b_Mo_reads_0 ((c_take2 hE hn0 hn h0 hj0 hj).mono (fun σ1 hq => ?_)))
  obtain ⟨F1, a15, T, p', a16, aT, aT0, aV⟩ := hq
  generalize hM : dval (fz F n) j + bN up = M at *
  have hSV : SV (dval T j) j p' = SV M j pt := by
    rcases aV with ⟨-, q1, q2⟩ | ⟨q0, q1, q2⟩
    · rw [q1, q2]
    · rw [q1, q2, q0]
      unfold SV
      rw [← Nat.pow_add, ← Nat.pow_add]
      exact congrArg (fun k => 10 ^ k) (by omega)
  have hp' : -335 ≤ p' ∧ p' ≤ 316 := by rcases aV with ⟨-, q1, -⟩ | ⟨-, q1, -⟩ <;> omega
  have FR : Fs MR σ σ1 := F1.mono (fun p k h => Or.inr h)
  have r3 : ∀ k, MR 3 k := fun k => Or.inl MP3
  rw [a15, gI_sI_n (Or.inr (by decide)), a16]
  have loop : ∀ (m i : Nat) (τ : S_t), i + m = j → Fs MR σ τ → gI τ 0 6 = nI j → gI τ 0 7 = zI p' → (∀ k, gI τ 6 k = gI σ1 6 k) → (∀ k, k < i → gI τ 3 k = nI (T k)) →
      JE E (d + 4) m_Mo_reads 25 [(0, pv E 0), (3, .long (lN b)), (5, .int (nI i))] [] τ (fun r σ' => ∃ x, r = some (.int x) ∧ Fs MR σ σ' ∧ ((x = 1 ∧ RdB (SV M j pt) b) ∨ (x = 0 ∧ ¬ RdB (SV M j pt) b))) := by
    intro m
    induction m with
    | zero =>
      intro i τ him hF b6 b7 b6r b3
      have : i = j := by omega
      subst this
      have hdg : ∀ k, k < i → dg τ k = T k := fun k hk => by
        unfold dg; rw [b3 k hk, un_nI (by have := (aT k hk).2; omega)]
      have D : DecAt τ (dval T i) i p' := ⟨b6, b7, fun k hk => by rw [hdg k hk]; exact (aT k hk).2, dval_ext hdg⟩
      refine b_Mo_reads_25 ⟨fun _ => ?_, fun h => absurd (by rw [b6]; exact Int32.le_refl _) h⟩
      refine (c_nearest D (Or.inr (by rw [hdg 0 (by omega)]; exact aT0)) (by omega) (by omega) (by omega)).mono (fun x τ2 hq => ?_)
      obtain ⟨F2, hq⟩ := hq
      have F3 : Fs MR σ τ2 := hF.tr (F2.mono (fun p k h => Or.inl h))
      obtain ⟨B, hB, hx⟩ : ∃ B, RdB (SV M i pt) B ∧ x = lN B := by
        rcases hq with ⟨q, -⟩ | ⟨-, ⟨q, -⟩ | ⟨q, -⟩ | ⟨-, -, B, q1, q2⟩⟩
        · omega
        · omega
        · omega
        · exact ⟨B, by rw [← hSV]; exact q1, q2⟩
      have hBl := RdB_lt hB
      rw [hx]
      refine ⟨fun h => ⟨_, rfl, F3, Or.inr ⟨rfl, fun w => ?_⟩⟩, fun h => ⟨_, rfl, F3, Or.inl ⟨rfl, ?_⟩⟩⟩
      · have := RdB_uniq hB w
        subst this
        exact h ((lg_cmp_eq _ _).mpr rfl)
      · have := (pk_lEQ hBl hb).mp ((lg_cmp_eq _ _).mp h)
        rw [← this]; exact hB
    | succ m ih =>
      intro i τ him hF b6 b7 b6r b3
      refine b_Mo_reads_25 ⟨fun h => absurd h (by rw [b6]; exact nI_ge (by omega) (by omega)), fun _ => ⟨vin (by omega) (by omega), vin (by omega) (by omega), ?_⟩⟩
      rw [nI_clamp (by omega), nI_1]
      refine ih (i + 1) _ (by omega) (hF.si (r3 i)) (by rw [gI_sI_n (Or.inl (by decide))]; exact b6) (by rw [gI_sI_n (Or.inl (by decide))]; exact b7) (fun k => by rw [gI_sI_n (Or.inl (by decide))]; exact b6r k) (fun k hk => ?_)
      by_cases q : k = i
      · subst q; rw [gI_sI_s, b6r]; exact (aT k (by omega)).1
      · rw [gI_sI_n (Or.inr q)]; exact b3 k (by omega)
  refine loop j 0 _ (by omega) ((FR.si (Or.inl MP06)).si (Or.inl MP07)) ?_ (gI_sI_s _ _ _ _) (fun k => ?_) (fun k hk => absurd hk (by omega))
  · rw [gI_sI_n (Or.inr (by decide)), gI_sI_s]
  · rw [gI_sI_n (Or.inl (by decide)), gI_sI_n (Or.inl (by decide))]
/-! what the shortest digits of a number are -/
/-- the candidate of j digits, the lower or the upper one -/
def cd (F : Nat → Nat) (n : Nat) (pt : Int) (j : Nat) (up : Bool) : Nat := SV (dval (fz F n) j + bN up) j pt
/-- j digits suffice -/
def Suf (F : Nat → Nat) (n : Nat) (pt : Int) (b j : Nat) : Prop := RdB (cd F n pt j false) b ∨ RdB (cd F n pt j true) b
/-- the least number of digits -/
def Least (F : Nat → Nat) (n : Nat) (pt : Int) (b j : Nat) : Prop := 1 ≤ j ∧ j ≤ 17 ∧ Suf F n pt b j ∧ ∀ i, 1 ≤ i → i < j → ¬ Suf F n pt b i
/-- whether the upper one is taken -/
def Upper (F : Nat → Nat) (n : Nat) (pt : Int) (b j : Nat) (up : Bool) : Prop :=
  (up = true ∧ RdB (cd F n pt j true) b ∧ ¬ RdB (cd F n pt j false) b) ∨ (up = false ∧ RdB (cd F n pt j false) b ∧ ¬ RdB (cd F n pt j true) b) ∨
  (RdB (cd F n pt j false) b ∧ RdB (cd F n pt j true) b ∧ (up = true ↔ (5 < fz F n j ∨ (fz F n j = 5 ∧ n ≠ j + 1) ∨ (fz F n j = 5 ∧ n = j + 1 ∧ fz F n (j - 1) % 2 = 1))))
