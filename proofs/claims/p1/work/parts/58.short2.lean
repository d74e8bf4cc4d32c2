/-! the reference's shortest -/
def ShR (σ : S_t) (W : Nat) : Prop := ∃ (T : Nat → Nat) (k : Nat) (p : Int), gI σ 0 15 = nI k ∧ gI σ 0 16 = zI p ∧ (∀ i, i < k → gI σ 6 i = nI (T i) ∧ T i < 10) ∧ 1 ≤ k ∧ k ≤ 17 ∧ T 0 ≠ 0 ∧ T (k - 1) ≠ 0 ∧ SV (dval T k) k p = W ∧ -340 ≤ p ∧ p ≤ 320
theorem MR015 : MR 0 15 := Or.inr (Or.inr ⟨rfl, Or.inl rfl⟩)
theorem sh_strip {E : En_t} {d : Nat} {Q : Option Value → S_t → Prop} (σ0 : S_t) (W : Nat) (T : Nat → Nat) (p : Int) (hT0 : T 0 ≠ 0) (hp1 : -340 ≤ p) (hp2 : p ≤ 320) (hQ : ∀ σ', Fs MR σ0 σ' → ShR σ' W → Q none σ') :
    ∀ (k : Nat) (σ : S_t), Fs MR σ0 σ → gI σ 0 15 = nI (k + 1) → gI σ 0 16 = zI p → (∀ i, i < k + 1 → gI σ 6 i = nI (T i) ∧ T i < 10) → k + 1 ≤ 17 → SV (dval T (k + 1)) (k + 1) p = W → JE E (d + 1) m_Mo_shortest 196 [(0, pv E 0)] [] σ Q := by
  intro k
  induction k with
  | zero =>
    intro σ hF h15 h16 hT hk hW
    refine b_Mo_shortest_196 ⟨fun _ => hQ σ hF ⟨T, 1, p, h15, h16, hT, by omega, by omega, hT0, hT0, hW, hp1, hp2⟩, fun h => absurd (by rw [h15]; exact Int32.le_refl _) h⟩
  | succ k ih =>
    intro σ hF h15 h16 hT hk hW
    have e1 : gI σ 0 15 - (1 : Int32) = nI (k + 1) := by rw [h15]; exact nI_pred _
    refine b_Mo_shortest_196 ⟨fun h => absurd h (by rw [h15]; exact nI_ge (a := 1) (by omega) (by omega)), fun _ => ?_⟩
    rw [e1, nI_clamp (by omega), (hT (k + 1) (by omega)).1]
    refine ⟨vin (by omega) (by omega), fun h => hQ σ hF ⟨T, k + 2, p, h15, h16, hT, by omega, by omega, hT0, ?_, hW, hp1, hp2⟩, fun h => ?_⟩
    · intro z
      rw [show k + 2 - 1 = k + 1 by omega] at z
      exact h (by rw [z]; rfl)
    · have z : T (k + 1) = 0 := (nI_eq (b := 0) (by have := (hT (k + 1) (by omega)).2; omega) (by omega)).mp h
      refine ih _ (hF.si MR015) (gI_sI_s _ _ _ _) (by rw [gI_sI_n (Or.inr (by decide))]; exact h16) (fun i hi => by rw [gI_sI_n (Or.inl (by decide))]; exact hT i (by omega)) (by omega) ?_
      rw [← hW]
      have := SV_shift (N := dval T (k + 1)) (n := k + 1) (j := 1) (pt := p) (by omega)
      rw [← this]
      have e2 : dval T (k + 1 + 1) = dval T (k + 1) * 10 ^ 1 := by show dval T (k + 1) * 10 + T (k + 1) = _; rw [z]; rfl
      rw [e2]
theorem Fs_MT_MR {σ σ' : S_t} (h : Fs MT σ σ') : Fs MR σ σ' := h.mono (fun _ _ q => Or.inr q)
theorem sh_189 {E : En_t} {d n j : Nat} {F : Nat → Nat} {pt : Int} {up : Bool} {Q : Option Value → S_t → Prop} (σ0 : S_t) {σ : S_t} (hF0 : Fs MR σ0 σ) (hE : ExAt σ F n pt) (hn0 : 0 < n) (hn : n ≤ 1100) (h0 : F 0 ≠ 0) (hj0 : 1 ≤ j) (hj : j ≤ 17) (hp1 : -335 ≤ pt) (hp2 : pt ≤ 315) (hQ : ∀ σ', Fs MR σ0 σ' → ShR σ' (cd F n pt j up) → Q none σ') :
    JE E (d + 1) m_Mo_shortest 189 [(0, pv E 0), (3, .int (nI j)), (6, .int (bI up))] [] σ Q := by
  refine b_Mo_shortest_189 ((c_take2 hE hn0 hn h0 hj0 hj).mono (fun σ1 hq => ?_))
  obtain ⟨F1, a15, T, p', a16, aT, aT0, aV⟩ := hq
  obtain ⟨k, rfl⟩ : ∃ k, j = k + 1 := ⟨j - 1, by omega⟩
  refine sh_strip σ0 (cd F n pt (k + 1) up) T p' aT0 ?_ ?_ hQ k σ1 (hF0.tr (Fs_MT_MR F1)) a15 a16 aT hj ?_
  · rcases aV with ⟨-, q, -⟩ | ⟨-, q, -⟩ <;> omega
  · rcases aV with ⟨-, q, -⟩ | ⟨-, q, -⟩ <;> omega
  · unfold cd
    rcases aV with ⟨-, q1, q2⟩ | ⟨q0, q1, q2⟩
    · rw [q1, q2]
    · rw [q1, q2, q0]
      unfold SV
      rw [← Nat.pow_add, ← Nat.pow_add]
      exact congrArg (fun k => 10 ^ k) (by omega)
theorem nI_half {x : Nat} (h : x < 10) : nI x - nI x / (2 : Int32) * (2 : Int32) = nI (x % 2) := by
  have h10 : x = 0 ∨ x = 1 ∨ x = 2 ∨ x = 3 ∨ x = 4 ∨ x = 5 ∨ x = 6 ∨ x = 7 ∨ x = 8 ∨ x = 9 := by omega
  rcases h10 with h | h | h | h | h | h | h | h | h | h <;> subst h <;> decide
theorem fz_lt {F : Nat → Nat} {n : Nat} (h : ∀ k, k < n → F k < 10) (k : Nat) : fz F n k < 10 := by
  unfold fz
  split
  · exact h k (by assumption)
  · omega
theorem sh_last {E : En_t} {d n j b : Nat} {F : Nat → Nat} {pt : Int} {Q : Option Value → S_t → Prop} (σ0 : S_t) {σ : S_t} (hF0 : Fs MR σ0 σ) (hE : ExAt σ F n pt) (hn0 : 0 < n) (hn : n ≤ 1100) (h0 : F 0 ≠ 0) (hj0 : 1 ≤ j) (hj : j ≤ 17) (hp1 : -335 ≤ pt) (hp2 : pt ≤ 315) (hb : b < 2 ^ 63) (hS : Suf F n pt b j)
    (hQ : ∀ σ' up, Fs MR σ0 σ' → Upper F n pt b j up → ShR σ' (cd F n pt j up) → Q none σ') :
    JE E (d + 5) m_Mo_shortest 27 [(0, pv E 0), (1, .long (lN b)), (3, .int (nI j)), (4, .int (nI j))] [] σ Q := by
  have hj1 : j ≤ n ∨ n < j := by omega
  refine b_Mo_shortest_27 ⟨fun _ => ?_, fun h => absurd (Int32.le_refl _) h⟩
  refine (c_reads (up := false) hE hn0 hn h0 hj0 hj hp1 hp2 hb).mono (fun r2 σ1 hq1 => ?_)
  obtain ⟨F1, R1⟩ := hq1
  have E1 := hE.fr F1
  refine (c_reads (up := true) E1 hn0 hn h0 hj0 hj hp1 hp2 hb).mono (fun r4 σ2 hq2 => ?_)
  obtain ⟨F2, R2⟩ := hq2
  have E2 := E1.fr F2
  have hF2 := (hF0.tr F1).tr F2
  have go : ∀ up, Upper F n pt b j up → JE E (d + 5) m_Mo_shortest 189 [(0, pv E 0), (3, .int (nI j)), (6, .int (bI up))] [] σ2 Q := fun up hU =>
    sh_189 σ0 hF2 E2 hn0 hn h0 hj0 hj hp1 hp2 (fun σ' g1 g2 => hQ σ' up g1 hU g2)
  rcases R1 with ⟨a1, a2⟩ | ⟨a1, a2⟩
  · rcases R2 with ⟨c1, c2⟩ | ⟨c1, c2⟩
    · subst a1 c1
      refine ⟨fun h => absurd h (by decide), fun _ => ⟨fun h => absurd h (by decide), fun _ => ?_⟩⟩
      have hfz := fz_lt (fun k hk => (E2.2.2 k hk).2)
      have go2 : ∀ up : Bool, (up = true ↔ (5 < fz F n j ∨ (fz F n j = 5 ∧ n ≠ j + 1) ∨ (fz F n j = 5 ∧ n = j + 1 ∧ fz F n (j - 1) % 2 = 1))) → JE E (d + 5) m_Mo_shortest 187 [(0, pv E 0), (3, .int (nI j))] [.int (bI up)] σ2 Q := fun up hU =>
        b_Mo_shortest_187 (go up (Or.inr (Or.inr ⟨a2, c2, hU⟩)))
      have h124 : JE E (d + 5) m_Mo_shortest 124 [(0, pv E 0), (3, .int (nI j))] [.int (nI (fz F n j))] σ2 Q := by
        have hx := hfz j
        have e5 : nI (fz F n j) = (5 : Int32) ↔ fz F n j = 5 := nI_eq (b := 5) (by omega) (by omega)
        have en : gI σ2 0 13 = nI j + (1 : Int32) ↔ n = j + 1 := by rw [E2.1, nI_1]; exact nI_eq (by omega) (by omega)
        have notHalf : ¬ (fz F n j = 5 ∧ n = j + 1) → JE E (d + 5) m_Mo_shortest 147 [(0, pv E 0), (3, .int (nI j)), (7, .int (nI (fz F n j)))] [.int (0 : Int32)] σ2 Q := by
          intro hno
          refine b_Mo_shortest_147 ⟨fun _ => ⟨fun h => go2 false ?_, fun h => go2 true ?_⟩, fun h => absurd rfl h⟩
          · have := (nI_ltI (b := 5) (by omega) (by omega)).mp h
            constructor
            · intro z; cases z
            · rintro (z | z | z) <;> omega
          · have : ¬ fz F n j < 5 := fun z => h (nI_lt (b := 5) z (by omega))
            refine ⟨fun _ => ?_, fun _ => rfl⟩
            omega
        refine b_Mo_shortest_124 ⟨fun h => b_Mo_shortest_146 (notHalf (fun z => h (e5.mpr z.1))), fun h => ⟨fun h2 => b_Mo_shortest_146 (notHalf (fun z => h2 (en.mpr z.2))), fun h2 => ?_⟩⟩
        have z1 := e5.mp h
        have z2 := en.mp h2
        refine b_Mo_shortest_147 ⟨fun h => absurd h (by decide), fun _ => ?_⟩
        rw [show nI j - (1 : Int32) = nI (j - 1) from pk_sub (b := 1) (by omega), nI_clamp (by omega), (E2.2.2 (j - 1) (by omega)).1]
        have ej : fz F n (j - 1) = F (j - 1) := if_pos (by omega)
        have hl := (E2.2.2 (j - 1) (by omega)).2
        refine ⟨vin (by omega) (by omega), fun v1 hv => ?_⟩
        rw [nI_half hl] at hv
        have e1 : v1 = (1 : Int32) ↔ F (j - 1) % 2 = 1 := by rw [hv]; exact nI_eq (b := 1) (by omega) (by omega)
        refine ⟨fun q => go2 false ?_, fun q => go2 true ?_⟩
        · rw [e1] at q
          constructor
          · intro z; cases z
          · rintro (z | z | z)
            · omega
            · omega
            · rw [ej] at z; exact absurd z.2.2 q
        · rw [e1] at q
          exact ⟨fun _ => Or.inr (Or.inr ⟨z1, z2, by rw [ej]; exact q⟩), fun _ => rfl⟩
      refine ⟨fun h => ?_, fun h => ⟨vin (by omega) (by omega), ?_⟩⟩
      · rw [E2.1] at h
        have := (nI_leI (by omega) (by omega)).mp h
        have ez : fz F n j = 0 := if_neg (by omega)
        rw [ez] at h124
        exact h124
      · rw [E2.1] at h
        have hjn : j < n := by
          rcases Nat.lt_or_ge j n with g | g
          · exact g
          · exact absurd (nI_le g (by omega)) h
        have ez : fz F n j = F j := if_pos hjn
        rw [nI_clamp (by omega), (E2.2.2 j hjn).1, ← ez]
        exact h124
    · subst a1 c1
      refine ⟨fun h => absurd h (by decide), fun _ => ⟨fun _ => ?_, fun h => absurd rfl h⟩⟩
      exact go false (Or.inr (Or.inl ⟨rfl, a2, c2⟩))
  · rcases R2 with ⟨c1, c2⟩ | ⟨c1, c2⟩
    · subst a1 c1
      refine ⟨fun _ => ?_, fun h => absurd rfl h⟩
      exact go true (Or.inl ⟨rfl, c2, a2⟩)
    · rcases hS with q | q
      · exact absurd q a2
      · exact absurd q c2
theorem sh_loop {E : En_t} {d n b : Nat} {F : Nat → Nat} {pt : Int} {Q : Option Value → S_t → Prop} (σ0 : S_t) (hn0 : 0 < n) (hn : n ≤ 1100) (h0 : F 0 ≠ 0) (hp1 : -335 ≤ pt) (hp2 : pt ≤ 315) (hb : b < 2 ^ 63) (hmono : ∀ i k, 1 ≤ i → i ≤ k → k ≤ 17 → Suf F n pt b i → Suf F n pt b k)
    (hQ : ∀ σ' j up, Fs MR σ0 σ' → Least F n pt b j → Upper F n pt b j up → ShR σ' (cd F n pt j up) → Q none σ') :
    ∀ (s l m : Nat) (σ : S_t), m - l ≤ s → Fs MR σ0 σ → ExAt σ F n pt → 1 ≤ l → l ≤ m → m ≤ 17 → (∀ i, 1 ≤ i → i < l → ¬ Suf F n pt b i) → Suf F n pt b m → JE E (d + 5) m_Mo_shortest 27 [(0, pv E 0), (1, .long (lN b)), (3, .int (nI l)), (4, .int (nI m))] [] σ Q := by
  intro s
  induction s with
  | zero =>
    intro l m σ hs hF hE hl hlm hm hno hS
    have : m = l := by omega
    subst this
    exact sh_last σ0 hF hE hn0 hn h0 hl hm hp1 hp2 hb hS (fun σ' up g1 g2 g3 => hQ σ' m up g1 ⟨hl, hm, hS, hno⟩ g2 g3)
  | succ s ih =>
    intro l m σ hs hF hE hl hlm hm hno hS
    by_cases hml : m = l
    · subst hml
      exact sh_last σ0 hF hE hn0 hn h0 hl hm hp1 hp2 hb hS (fun σ' up g1 g2 g3 => hQ σ' m up g1 ⟨hl, hm, hS, hno⟩ g2 g3)
    · have eh : (nI l + nI m) / (2 : Int32) = nI ((l + m) / 2) := by rw [nI_add]; exact pk_div (d := 2) (by omega) (by omega) (by omega)
      refine b_Mo_shortest_27 ⟨fun h => absurd h (nI_ge (by omega) (by omega)), fun _ => ?_⟩
      rw [eh]
      generalize hk : (l + m) / 2 = k
      have hk1 : l ≤ k := by omega
      have hk2 : k < m := by omega
      refine (c_reads (up := false) hE hn0 hn h0 (by omega) (by omega) hp1 hp2 hb).mono (fun r6 σ1 hq1 => ?_)
      obtain ⟨F1, R1⟩ := hq1
      have E1 := hE.fr F1
      have less : ∀ τ, Fs MR σ0 τ → ExAt τ F n pt → Suf F n pt b k → JE E (d + 5) m_Mo_shortest 63 [(0, pv E 0), (1, .long (lN b)), (3, .int (nI l)), (5, .int (nI k))] [] τ Q := fun τ g1 g2 g3 =>
        b_Mo_shortest_63 (b_Mo_shortest_75 (ih l k τ (by omega) g1 g2 hl hk1 (by omega) hno g3))
      rcases R1 with ⟨a1, a2⟩ | ⟨a1, a2⟩
      · subst a1
        exact ⟨fun _ => less σ1 (hF.tr F1) E1 (Or.inl a2), fun h => absurd h (by decide)⟩
      · subst a1
        refine ⟨fun h => absurd rfl h, fun _ => ?_⟩
        refine (c_reads (up := true) E1 hn0 hn h0 (by omega) (by omega) hp1 hp2 hb).mono (fun r8 σ2 hq2 => ?_)
        obtain ⟨F2, R2⟩ := hq2
        have E2 := E1.fr F2
        rcases R2 with ⟨c1, c2⟩ | ⟨c1, c2⟩
        · subst c1
          exact ⟨fun h => absurd h (by decide), fun _ => less σ2 ((hF.tr F1).tr F2) E2 (Or.inr c2)⟩
        · subst c1
          refine ⟨fun _ => ?_, fun h => absurd rfl h⟩
          rw [nI_1]
          have nok : ¬ Suf F n pt b k := by rintro (q | q); exact a2 q; exact c2 q
          refine b_Mo_shortest_75 (ih (k + 1) m σ2 (by omega) ((hF.tr F1).tr F2) E2 (by omega) (by omega) hm (fun i hi hik hs => nok (hmono i k hi (by omega) (by omega) hs)) hS)
