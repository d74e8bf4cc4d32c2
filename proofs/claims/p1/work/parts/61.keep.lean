/-! the printer's digits: place 60, how many and where the point is in slots 2 and 3 of place 59 -/
def PM : Nat → Nat → Prop := fun p k => p = 60 ∨ (p = 59 ∧ (k = 2 ∨ k = 3))
theorem PM60 {k : Nat} : PM 60 k := Or.inl rfl
theorem PM592 : PM 59 2 := Or.inr ⟨rfl, Or.inl rfl⟩
theorem PM593 : PM 59 3 := Or.inr ⟨rfl, Or.inr rfl⟩
def PrAt (σ : S_t) (T : Nat → Nat) (c : Nat) (p : Int) : Prop := gI σ 59 2 = nI c ∧ gI σ 59 3 = zI p ∧ ∀ i, i < c → gI σ 60 i = nI (T i) ∧ T i < 10
theorem nar_small {n : Nat} (h : n < 128) : vp_nar .byte (nI n) = nI n := by rw [vp_nar_byte]; exact fa_byte_small h
theorem nar_small2 {n : Nat} (h : n < 128) : vp_nar .byte (nI n).toInt8.toInt32 = nI n := by rw [fa_byte_small h]; exact nar_small h
theorem mv_copy {E : En_t} {d : Nat} {Q : Option Value → S_t → Prop} (σ0 : S_t) (g : Nat → Nat) (s0 : Nat) (hs : s0 ≤ 809) (hg : ∀ k, s0 ≤ k → k < 810 → g k < 10)
    (hQ : ∀ σ', Fs PM σ0 σ' → gI σ' 59 2 = nI (810 - s0) → (∀ i, i < 810 - s0 → gI σ' 60 i = nI (g (s0 + i))) → Q none σ') :
    ∀ (m i : Nat) (σ : S_t), i + m = 810 - s0 → Fs PM σ0 σ → gI σ 59 2 = nI (810 - s0) → (∀ k, k < i → gI σ 60 k = nI (g (s0 + k))) → (∀ k, i ≤ k → s0 ≤ k → k < 810 → gI σ 60 k = nI (g k)) → JE E d m_Pr_moveToFront 35 [(0, pv E 59), (2, .int (nI s0)), (3, .int (nI i))] [] σ Q := by
  intro m
  induction m with
  | zero =>
    intro i σ hm hF h2 hlo hhi
    have hi : i = 810 - s0 := by omega
    subst hi
    exact b_Pr_moveToFront_35 ⟨fun _ => hQ σ hF h2 hlo, fun h => absurd (by rw [h2]; exact Int32.le_refl _) h⟩
  | succ m ih =>
    intro i σ hm hF h2 hlo hhi
    refine b_Pr_moveToFront_35 ⟨fun h => absurd h (by rw [h2]; exact nI_ge (by omega) (by omega)), fun _ => ?_⟩
    rw [nI_add, nI_clamp (by omega), nI_clamp (by omega), hhi (s0 + i) (by omega) (by omega) (by omega), nar_small (by have := hg (s0 + i) (by omega) (by omega); omega), nI_1]
    refine ⟨vin (by omega) (by omega), vin (by omega) (by omega), ih (i + 1) _ (by omega) (hF.si PM60) (by rw [gI_sI_n (Or.inl (by decide))]; exact h2) (fun k hk => ?_) (fun k hk hk2 hk3 => ?_)⟩
    · by_cases e : k = i
      · subst e; exact gI_sI_s _ _ _ _
      · rw [gI_sI_n (Or.inr e)]; exact hlo k (by omega)
    · rw [gI_sI_n (Or.inr (by omega))]; exact hhi k (by omega) hk2 hk3
theorem c_moveToFront {E : En_t} {d fr : Nat} {g : Nat → Nat} {σ : S_t} (hfr : fr ≤ 809) (hg : ∀ k, fr ≤ k → k < 810 → gI σ 60 k = nI (g k) ∧ g k < 10) :
    CV E d m_Pr_moveToFront [pv E 59, .int (nI fr)] σ (fun σ' => Fs PM σ σ' ∧ ∃ s0, fr ≤ s0 ∧ s0 ≤ 809 ∧ (∀ k, fr ≤ k → k < s0 → g k = 0) ∧ (s0 = 809 ∨ g s0 ≠ 0) ∧ gI σ' 59 2 = nI (810 - s0) ∧ (∀ i, i < 810 - s0 → gI σ' 60 i = nI (g (s0 + i)))) := by
  refine CE.of (L := [(0, pv E 59), (1, .int (nI fr))]) rfl (Nat.le_of_ble_eq_true rfl) rfl (b_Pr_moveToFront_0 ?_)
  have fin : ∀ s0, fr ≤ s0 → s0 ≤ 809 → (∀ k, fr ≤ k → k < s0 → g k = 0) → (s0 = 809 ∨ g s0 ≠ 0) → JE E d m_Pr_moveToFront 24 [(0, pv E 59), (2, .int (nI s0))] [] σ (fun r σ' => r = none ∧ Fs PM σ σ' ∧ ∃ s0, fr ≤ s0 ∧ s0 ≤ 809 ∧ (∀ k, fr ≤ k → k < s0 → g k = 0) ∧ (s0 = 809 ∨ g s0 ≠ 0) ∧ gI σ' 59 2 = nI (810 - s0) ∧ (∀ i, i < 810 - s0 → gI σ' 60 i = nI (g (s0 + i)))) := by
    intro s0 h1 h2 h3 h4
    refine b_Pr_moveToFront_24 ?_
    rw [show (810 : Int32) - nI s0 = nI (810 - s0) from pk_sub (a := 810) (by omega)]
    refine mv_copy σ g s0 h2 (fun k k1 k2 => (hg k (by omega) k2).2) (fun σ' g1 g2 g3 => ⟨rfl, g1, s0, h1, h2, h3, h4, g2, g3⟩) (810 - s0) 0 _ (by omega) (Fs.rf.si PM592) (gI_sI_s _ _ _ _) (fun k hk => absurd hk (by omega)) (fun k _ k1 k2 => ?_)
    rw [gI_sI_n (Or.inl (by decide))]
    exact (hg k (by omega) k2).1
  have loop : ∀ (m s : Nat), s + m = 809 → fr ≤ s → (∀ k, fr ≤ k → k < s → g k = 0) → JE E d m_Pr_moveToFront 2 [(0, pv E 59), (2, .int (nI s))] [] σ (fun r σ' => r = none ∧ Fs PM σ σ' ∧ ∃ s0, fr ≤ s0 ∧ s0 ≤ 809 ∧ (∀ k, fr ≤ k → k < s0 → g k = 0) ∧ (s0 = 809 ∨ g s0 ≠ 0) ∧ gI σ' 59 2 = nI (810 - s0) ∧ (∀ i, i < 810 - s0 → gI σ' 60 i = nI (g (s0 + i)))) := by
    intro m
    induction m with
    | zero =>
      intro s hs h1 h2
      have : s = 809 := by omega
      subst this
      exact b_Pr_moveToFront_2 ⟨fun _ => fin 809 h1 (by omega) h2 (Or.inl rfl), fun h => absurd (Int32.le_refl _) h⟩
    | succ m ih =>
      intro s hs h1 h2
      refine b_Pr_moveToFront_2 ⟨fun h => absurd h (nI_ge (b := 809) (by omega) (by omega)), fun _ => ?_⟩
      rw [nI_clamp (by omega), (hg s h1 (by omega)).1]
      have hlt := (hg s h1 (by omega)).2
      refine ⟨vin (by omega) (by omega), fun h => fin s h1 (by omega) h2 (Or.inr (fun z => h (by rw [z]; rfl))), fun h => ?_⟩
      rw [nI_1]
      have z : g s = 0 := (nI_eq (b := 0) (by omega) (by omega)).mp h
      refine ih (s + 1) (by omega) (by omega) (fun k k1 k2 => ?_)
      by_cases e : k = s
      · rw [e]; exact z
      · exact h2 k k1 (by omega)
  exact loop (809 - fr) fr (by omega) (Nat.le_refl _) (fun k k1 k2 => absurd k2 (by omega))
theorem lN_dig {w : Nat} (hw : w < 2 ^ 63) : ((lN w - lN w / (10 : Int64) * (10 : Int64)).toInt32).toInt8.toInt32 = nI (w % 10) ∧ lN w / (10 : Int64) = lN (w / 10) := by
  have e1 : lN w / (10 : Int64) = lN (w / 10) := pk_lDiv (b := 10) hw (by decide) (by decide)
  refine ⟨?_, e1⟩
  have e2 : lN (w / 10) * (10 : Int64) = lN (w / 10 * 10) := lN_mul _ 10
  rw [e1, e2, lN_sub (by omega), lN_i, show w - w / 10 * 10 = w % 10 by omega]
  exact fa_byte_small (by omega)
theorem c_keepDigits {E : En_t} {d w : Nat} {tz : Int} {σ : S_t} (hw0 : 0 < w) (hw : w < 9000000000000000000) :
    CV E (d + 1) m_Pr_keepDigits [pv E 59, .long (lN w), .int (zI tz)] σ (fun σ' => Fs PM σ σ' ∧ ∃ T c, PrAt σ' T c (c + tz) ∧ 1 ≤ c ∧ c ≤ 19 ∧ T 0 ≠ 0 ∧ dval T c = w) := by
  refine CE.of (L := [(0, pv E 59), (1, .long (lN w)), (3, .int (zI tz))]) rfl (Nat.le_of_ble_eq_true rfl) rfl (b_Pr_keepDigits_0 ?_)
  have loop : ∀ (v c : Nat) (f : Nat → Nat) (τ : S_t), Fs PM σ τ → c ≤ 19 → (∀ t, t < c → gI τ 60 (810 - c + t) = nI (f t) ∧ f t < 10) → w = v * 10 ^ c + dval f c → (v = 0 → 0 < c ∧ f 0 ≠ 0) →
      JE E (d + 1) m_Pr_keepDigits 8 [(0, pv E 59), (3, .int (zI tz)), (4, .long (lN v)), (6, .int (nI (810 - c)))] [] τ (fun r σ' => r = none ∧ Fs PM σ σ' ∧ ∃ T c, PrAt σ' T c (c + tz) ∧ 1 ≤ c ∧ c ≤ 19 ∧ T 0 ≠ 0 ∧ dval T c = w) := by
    intro v
    induction v using Nat.strongRecOn with
    | _ v ih =>
      intro c f τ hF hc hf hW hz
      have hvw : v ≤ w := by
        rw [hW]; exact Nat.le_trans (Nat.le_mul_of_pos_right _ (p10 c)) (Nat.le_add_right _ _)
      refine b_Pr_keepDigits_8 ⟨fun h => ?_, fun h => ⟨fun h2 => absurd h2 (nI_nle (by omega) (by omega)), fun _ => ?_⟩⟩
      · have hv : v = 0 := (lN_cmp0 (by omega)).mp h
        subst hv
        obtain ⟨hc0, hf0⟩ := hz rfl
        refine b_Pr_keepDigits_49 ((c_moveToFront (g := fun k => f (k - (810 - c))) (by omega) (fun k k1 k2 => ?_)).mono (fun σ1 hq => ?_))
        · have := hf (k - (810 - c)) (by omega)
          rw [show 810 - c + (k - (810 - c)) = k by omega] at this
          exact this
        · obtain ⟨F1, s0, a1, a2, a3, a4, a5, a6⟩ := hq
          have hs0 : s0 = 810 - c := by
            rcases Nat.lt_or_ge (810 - c) s0 with g | g
            · have := a3 (810 - c) (Nat.le_refl _) g
              rw [Nat.sub_self] at this
              exact absurd this hf0
            · omega
          subst hs0
          have e2 : gI σ1 59 2 = nI c := by rw [a5]; congr 1; omega
          refine ⟨rfl, (hF.tr F1).si PM593, f, c, ⟨?_, ?_, ?_⟩, hc0, hc, hf0, ?_⟩
          · rw [gI_sI_n (Or.inr (by decide))]; exact e2
          · rw [gI_sI_s, e2, ← zI_nI, zI_add]
          · intro i hi
            rw [gI_sI_n (Or.inl (by decide)), a6 i (by omega)]
            rw [show 810 - c + i - (810 - c) = i by omega]
            exact ⟨rfl, (hf i hi).2⟩
          · rw [hW, Nat.zero_mul, Nat.zero_add]
      · have hv0 : 0 < v := by
          rcases Nat.eq_zero_or_pos v with z | z
          · exact absurd ((lN_cmp0 (by omega)).mpr z) h
          · exact z
        have hc19 : c < 19 := by
          have h1 : 1 * 10 ^ c ≤ v * 10 ^ c := Nat.mul_le_mul_right _ hv0
          have h2 : 10 ^ c < 10 ^ 19 := by omega
          exact p10_lt h2
        obtain ⟨e1, e2⟩ := lN_dig (w := v) (by omega)
        have e3 : nI (810 - c) + (-1 : Int32) = nI (810 - (c + 1)) := by
          have := addn (a := 810 - c) (k := 1) (by omega)
          rw [show 810 - (c + 1) = 810 - c - 1 by omega, ← this]; rfl
        rw [e1, e2, e3, nI_clamp (by omega), nar_small (by omega)]
        refine ⟨vin (by omega) (by omega), ih (v / 10) (by omega) (c + 1) (fun t => if t = 0 then v % 10 else f (t - 1)) _ (hF.si PM60) (by omega) (fun t ht => ?_) ?_ (fun z => ?_)⟩
        · by_cases q : t = 0
          · subst q
            rw [if_pos rfl]
            exact ⟨gI_sI_s _ _ _ _, by omega⟩
          · rw [if_neg q, gI_sI_n (Or.inr (by omega)), show 810 - (c + 1) + t = 810 - c + (t - 1) by omega]
            exact hf (t - 1) (by omega)
        · rw [dval_cons, Nat.pow_succ]
          have e4 : dval (fun t => if t + 1 = 0 then v % 10 else f (t + 1 - 1)) c = dval f c := dval_ext (fun i hi => by rw [if_neg (by omega)]; rfl)
          rw [if_pos rfl, e4, hW]
          have e5 : v / 10 * (10 ^ c * 10) + (v % 10) * 10 ^ c = v * 10 ^ c := by
            have := Nat.div_add_mod v 10
            have e6 : v / 10 * (10 ^ c * 10) = 10 * (v / 10) * 10 ^ c := by generalize 10 ^ c = P; ac_rfl
            rw [e6, ← Nat.add_mul, this]
          omega
        · refine ⟨by omega, ?_⟩
          rw [if_pos rfl]
          omega
  exact loop w 0 (fun _ => 0) σ Fs.rf (by omega) (fun t ht => absurd ht (by omega)) (by rw [Nat.pow_zero, Nat.mul_one]; rfl) (fun z => by omega)
theorem c_isUpperNearer {E : En_t} {d A step lesser : Nat} {r : Bool} {σ : S_t} (hr : gI σ 61 2 = bI r) (hA : A < 2 ^ 63) (hs : step < 2 ^ 63) (hl : lesser < 2 ^ 63) :
    CI E d m_Pr_isUpperNearer [pv E 59, .long (lN A), .long (lN step), .long (lN lesser)] σ (fun x σ' => σ' = σ ∧ x = bI (decide (step / 2 < A ∨ (A = step / 2 ∧ (r = true ∨ lesser % 2 = 1))))) := by
  refine CE.of (L := [(0, pv E 59), (1, .long (lN A)), (3, .long (lN step)), (5, .long (lN lesser))]) rfl (Nat.le_of_ble_eq_true rfl) rfl (b_Pr_isUpperNearer_0 ?_)
  have eh : lN step / (2 : Int64) = lN (step / 2) := pk_lDiv (b := 2) hs (by decide) (by decide)
  rw [eh]
  have hyes : ∀ (P : Prop) [Decidable P], P → (1 : Int32) = bI (decide P) := fun P _ h => by rw [decide_eq_true h]; rfl
  have hno : ∀ (P : Prop) [Decidable P], ¬ P → (0 : Int32) = bI (decide P) := fun P _ h => by rw [decide_eq_false h]; rfl
  have heq : lg_cmp (lN A) (lN (step / 2)) = 0 ↔ A = step / 2 := by rw [lg_cmp_eq]; exact pk_lEQ hA (by omega)
  have hle : lg_cmp (lN A) (lN (step / 2)) ≤ 0 ↔ A ≤ step / 2 := by rw [lg_cmp_le]; exact pk_lLE hA (by omega)
  have hod : lg_cmp (lN lesser &&& (1 : Int64)) (0 : Int64) = 0 ↔ lesser % 2 = 0 := by
    rw [and1_l (by omega), lg_cmp_eq]; exact pk_lEQ (b := 0) (by omega) (by omega)
  rw [heq, hle, hod, hr]
  refine ⟨fun h => ⟨fun h2 => ?_, fun h2 => ⟨fun h3 => ?_, fun h3 => ?_⟩⟩, fun h => ⟨fun h2 => ?_, fun h2 => ?_⟩⟩
  · exact b_Pr_isUpperNearer_46 ⟨_, rfl, rfl, hyes _ (Or.inr ⟨h, Or.inl ((bI_1 r).mp h2)⟩)⟩
  · refine ⟨_, rfl, rfl, hno _ ?_⟩
    rintro (z | ⟨z, z2 | z2⟩)
    · omega
    · rw [z2] at h2; exact absurd h2 (by decide)
    · omega
  · exact b_Pr_isUpperNearer_46 ⟨_, rfl, rfl, hyes _ (Or.inr ⟨h, Or.inr (by omega)⟩)⟩
  · exact ⟨_, rfl, rfl, hno _ (by omega)⟩
  · exact ⟨_, rfl, rfl, hyes _ (by omega)⟩
