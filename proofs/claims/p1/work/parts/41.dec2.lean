def lsd (f : Nat → Nat) : Nat → Nat
  | 0 => 0
  | n + 1 => lsd f n + f n * 10 ^ n
theorem lsd_ext {f g : Nat → Nat} : ∀ {n : Nat}, (∀ i, i < n → f i = g i) → lsd f n = lsd g n
  | 0, _ => rfl
  | n + 1, h => by rw [lsd, lsd, lsd_ext (fun i hi => h i (by omega)), h n (by omega)]
theorem dval_rev (f : Nat → Nat) : ∀ e, dval (fun k => f (e - 1 - k)) e = lsd f e
  | 0 => rfl
  | e + 1 => by
    rw [dval_cons, lsd, ← dval_rev f e]
    simp only [Nat.add_sub_cancel, Nat.sub_zero]
    rw [Nat.add_comm]
    congr 1
    exact dval_ext (fun t ht => by congr 1; omega)
theorem dbl_carry {E : En_t} {d : Nat} {Q : Option Value → S_t → Prop} (C : Nat) (σ0 : S_t)
    (hX : ∀ σ e, Fs MP σ0 σ → (∀ k, gI σ 0 k = gI σ0 0 k) → (∀ k, gI σ 3 k = gI σ0 3 k) → (∀ t, t < e → un (gI σ 4 t) < 10) → lsd (fun t => un (gI σ 4 t)) e = C → e ≤ 7 → (e = 0 ∨ un (gI σ 4 (e - 1)) ≠ 0) → JE E (d + 1) m_Mo_doubled 98 [(0, pv E 0), (4, .int (nI e)), (5, .int (gI σ 0 6 - 1))] [] σ Q) :
    ∀ (m j c : Nat) (σ : S_t), j + m ≤ 7 → c < 10 ^ m → Fs MP σ0 σ → (∀ k, gI σ 0 k = gI σ0 0 k) → (∀ k, gI σ 3 k = gI σ0 3 k) → (∀ t, t < j → un (gI σ 4 t) < 10) → lsd (fun t => un (gI σ 4 t)) j + c * 10 ^ j = C → (j = 0 ∨ c ≠ 0 ∨ un (gI σ 4 (j - 1)) ≠ 0) →
    JE E (d + 1) m_Mo_doubled 59 [(0, pv E 0), (2, .long (lN c)), (4, .int (nI j))] [] σ Q := by
  have exit0 : ∀ (j : Nat) (σ : S_t), j ≤ 7 → Fs MP σ0 σ → (∀ k, gI σ 0 k = gI σ0 0 k) → (∀ k, gI σ 3 k = gI σ0 3 k) → (∀ t, t < j → un (gI σ 4 t) < 10) → lsd (fun t => un (gI σ 4 t)) j + 0 * 10 ^ j = C → (j = 0 ∨ (0 : Nat) ≠ 0 ∨ un (gI σ 4 (j - 1)) ≠ 0) →
      JE E (d + 1) m_Mo_doubled 59 [(0, pv E 0), (2, .long (lN 0)), (4, .int (nI j))] [] σ Q := by
    intro j σ hj hF h0 h3 h4 hs hl
    refine b_Mo_doubled_59 ⟨fun _ => hX σ j hF h0 h3 h4 (by omega) hj ?_, fun h => absurd ((lg_cmp_le _ _).mpr (Int64.le_refl _)) h⟩
    rcases hl with h | h | h
    · exact Or.inl h
    · exact absurd rfl h
    · exact Or.inr h
  intro m
  induction m with
  | zero =>
    intro j c σ hj hc hF h0 h3 h4 hs hl
    have : c = 0 := by simpa using hc
    subst this
    exact exit0 j σ (by omega) hF h0 h3 h4 hs hl
  | succ m ih =>
    intro j c σ hj hc hF h0 h3 h4 hs hl
    by_cases hc0 : c = 0
    · subst hc0
      exact exit0 j σ (by omega) hF h0 h3 h4 hs hl
    · have hcl : c < 10000000 := Nat.lt_of_lt_of_le hc (Nat.le_trans (Nat.pow_le_pow_right (by decide) (show m + 1 ≤ 7 by omega)) (by decide))
      refine b_Mo_doubled_59 ⟨fun h => ?_, fun _ => ⟨vin (by omega) (by omega), ?_⟩⟩
      · exfalso
        have := (lg_cmp_le _ _).mp h
        have := (pk_lLE (a := c) (b := 0) (by omega) (by omega)).mp this
        omega
      · rw [ten64, pk_lDiv (by omega) (by omega) (by omega), lN_mul, lN_sub (by omega), lN_low, nI_clamp (by omega), nI_1, show c - c / 10 * 10 = c % 10 by omega, Nat.mod_eq_of_lt (show c % 10 < 4294967296 by omega)]
        have hne : ∀ k, k ≠ j → gI (sI σ 4 j (nI (c % 10))) 4 k = gI σ 4 k := fun k hk => gI_sI_n (Or.inr hk)
        have heq : un (gI (sI σ 4 j (nI (c % 10))) 4 j) = c % 10 := by rw [gI_sI_s, un_nI (by omega)]
        refine ih (j + 1) (c / 10) _ (by omega) (by rw [Nat.pow_succ] at hc; omega) (hF.si MP4) (fun k => by rw [gI_sI_n (Or.inl (by decide))]; exact h0 k) (fun k => by rw [gI_sI_n (Or.inl (by decide))]; exact h3 k) (fun t ht => ?_) ?_ ?_
        · by_cases e : t = j
          · subst e; rw [heq]; omega
          · rw [hne t e]; exact h4 t (by omega)
        · rw [lsd, lsd_ext (g := fun t => un (gI σ 4 t)) (fun t ht => by rw [hne t (by omega)]), Nat.pow_succ, heq, ← hs]
          generalize 10 ^ j = P
          have e1 : (c % 10 + 10 * (c / 10)) * P = c * P := by rw [Nat.mod_add_div]
          rw [Nat.add_mul] at e1
          have e2 : c / 10 * (P * 10) = 10 * (c / 10) * P := by ac_rfl
          omega
        · by_cases q : c / 10 = 0
          · right; right; simp only [Nat.add_sub_cancel]; rw [heq]; omega
          · exact Or.inr (Or.inl q)
theorem dbl_shift {E : En_t} {d : Nat} {Q : Option Value → S_t → Prop} (n e : Nat) (hn : n + e ≤ 6000) (g : Nat → Int32) (σ0 : S_t)
    (hX : ∀ σ, Fs MP σ0 σ → (∀ k, gI σ 0 k = gI σ0 0 k) → (∀ k, gI σ 4 k = gI σ0 4 k) → (∀ k, k < n → gI σ 3 (e + k) = g k) → JE E (d + 1) m_Mo_doubled 129 [(0, pv E 0), (4, .int (nI e)), (5, .int (0 : Int32))] [] σ Q) :
    ∀ (i : Nat) (σ : S_t) (x5 : Int32), i ≤ n → x5 = nI i - 1 → Fs MP σ0 σ → (∀ k, gI σ 0 k = gI σ0 0 k) → (∀ k, gI σ 4 k = gI σ0 4 k) → (∀ k, k < i → gI σ 3 k = g k) → (∀ k, i ≤ k → k < n → gI σ 3 (e + k) = g k) →
    JE E (d + 1) m_Mo_doubled 98 [(0, pv E 0), (4, .int (nI e)), (5, .int x5)] [] σ Q := by
  intro i
  induction i with
  | zero =>
    intro σ x5 hi ex hF h0 h4 hlo hhi
    refine b_Mo_doubled_98 ⟨fun _ => hX σ hF h0 h4 (fun k hk => hhi k (by omega) hk), fun h => absurd (by rw [ex]; exact neg1_lt) h⟩
  | succ i ih =>
    intro σ x5 hi ex hF h0 h4 hlo hhi
    rw [nI_m1] at ex
    subst ex
    have eie : nI i + nI e = nI (e + i) := by rw [nI_add, Nat.add_comm]
    refine b_Mo_doubled_98 ⟨fun h => absurd h (nI_pos (by omega)), fun _ => ⟨vin (by omega) (by omega), by rw [eie]; exact vin (by omega) (by omega), ?_⟩⟩
    rw [eie, nI_clamp (by omega), nI_clamp (by omega), sub1]
    refine ih _ _ (by omega) rfl (hF.si MP3) (fun k => by rw [gI_sI_n (Or.inl (by decide))]; exact h0 k) (fun k => by rw [gI_sI_n (Or.inl (by decide))]; exact h4 k) (fun k hk => ?_) (fun k h1 h2 => ?_)
    · rw [gI_sI_n (Or.inr (by omega))]; exact hlo k (by omega)
    · by_cases q : k = i
      · subst q; rw [gI_sI_s]; exact hlo k (by omega)
      · rw [gI_sI_n (Or.inr (by omega))]; exact hhi k (by omega) h2
theorem dbl_copy {E : En_t} {d : Nat} {Q : Option Value → S_t → Prop} (n e : Nat) (he : e ≤ 7) (hn : n + e ≤ 6000) (g mo : Nat → Int32) (σ0 : S_t)
    (hX : ∀ σ, Fs MP σ0 σ → (∀ k, gI σ 0 k = gI σ0 0 k) → (∀ k, k < n → gI σ 3 (e + k) = g k) → (∀ k, k < e → gI σ 3 k = mo (e - 1 - k)) → CV E d m_Mo_trim [pv E 0] (sI (sI σ 0 6 (gI σ 0 6 + nI e)) 0 7 (gI (sI σ 0 6 (gI σ 0 6 + nI e)) 0 7 + nI e)) (fun σ1 => Q none σ1)) :
    ∀ (m i : Nat) (σ : S_t), i + m = e → Fs MP σ0 σ → (∀ k, gI σ 0 k = gI σ0 0 k) → (∀ k, gI σ 4 k = mo k) → (∀ k, k < n → gI σ 3 (e + k) = g k) → (∀ k, k < i → gI σ 3 k = mo (e - 1 - k)) →
    JE E (d + 1) m_Mo_doubled 129 [(0, pv E 0), (4, .int (nI e)), (5, .int (nI i))] [] σ Q := by
  intro m
  induction m with
  | zero =>
    intro i σ him hF h0 h4 hhi hlo
    have : i = e := by omega
    subst this
    exact b_Mo_doubled_129 ⟨fun _ => hX σ hF h0 hhi hlo, fun h => absurd (Int32.le_refl _) h⟩
  | succ m ih =>
    intro i σ him hF h0 h4 hhi hlo
    have e1 : nI e - 1 - nI i = nI (e - 1 - i) := by
      have : nI e - 1 = nI (e - 1) := pk_sub (b := 1) (by omega)
      rw [this, pk_sub (by omega)]
    refine b_Mo_doubled_129 ⟨fun h => absurd h (nI_ge (by omega) (by omega)), fun _ => ⟨by rw [e1]; exact vin (by omega) (by omega), vin (by omega) (by omega), ?_⟩⟩
    rw [e1, nI_clamp (by omega), nI_clamp (by omega), nI_1]
    refine ih (i + 1) _ (by omega) (hF.si MP3) (fun k => by rw [gI_sI_n (Or.inl (by decide))]; exact h0 k) (fun k => by rw [gI_sI_n (Or.inl (by decide))]; exact h4 k) (fun k hk => by rw [gI_sI_n (Or.inr (by omega))]; exact hhi k hk) (fun k hk => ?_)
    by_cases q : k = i
    · subst q; rw [gI_sI_s]; exact h4 _
    · rw [gI_sI_n (Or.inr q)]; exact hlo k (by omega)
/-- a decimal without zeros at either end -/
def Nrm (σ : S_t) (N n : Nat) (pt : Int) : Prop := DecAt σ N n pt ∧ 0 < n ∧ dg σ 0 ≠ 0 ∧ dg σ (n - 1) ≠ 0
theorem Nrm.lo {σ : S_t} {N n : Nat} {pt : Int} (h : Nrm σ N n pt) : 10 ^ (n - 1) ≤ N := by rw [← h.1.2.2.2]; exact dval_ge h.2.2.1 h.2.1
theorem Nrm.hi {σ : S_t} {N n : Nat} {pt : Int} (h : Nrm σ N n pt) : N < 10 ^ n := by rw [← h.1.2.2.2]; exact dval_lt h.1.2.2.1
theorem lead_of {f : Nat → Nat} {n : Nat} (hf : ∀ k, k < n → f k < 10) (hn : 0 < n) (h : 10 ^ (n - 1) ≤ dval f n) : f 0 ≠ 0 := by
  intro e
  obtain ⟨b, rfl⟩ : ∃ b, n = b + 1 := ⟨n - 1, by omega⟩
  rw [dval_cons, e, Nat.zero_mul, Nat.zero_add, Nat.add_sub_cancel] at h
  have := dval_lt (f := fun t => f (t + 1)) (n := b) (fun k hk => hf (k + 1) (by omega))
  omega
/-- what trim leaves of a decimal that isn't 0 and begins with no 0 -/
theorem trim_nrm {σ σ' : S_t} {N n N' n' : Nat} {pt : Int} (hrow : ∀ k, gI σ' 3 k = gI σ 3 k) (hl : dg σ 0 ≠ 0) (hN : 0 < N) (h1 : DecAt σ' N' n' (if n' = 0 then 0 else pt)) (h2 : n' ≤ n) (h3 : N' * 10 ^ (n - n') = N) (h4 : n' = 0 ∨ dg σ' (n' - 1) ≠ 0) (hp : -20000 ≤ pt - n) : Nrm σ' N' n' pt ∧ SV N' n' pt = SV N n pt := by
  have hn0 : n' ≠ 0 := by
    rintro rfl
    have := h1.2.2.2
    rw [dval] at this
    rw [← this, Nat.zero_mul] at h3
    omega
  rw [if_neg hn0] at h1
  refine ⟨⟨h1, by omega, by unfold dg; rw [hrow]; exact hl, ?_⟩, ?_⟩
  · rcases h4 with h | h
    · exact absurd h hn0
    · exact h
  · rw [← h3]
    obtain ⟨j, rfl⟩ : ∃ j, n = n' + j := ⟨n - n', by omega⟩
    rw [Nat.add_sub_cancel_left]
    exact (SV_shift (by omega)).symm
theorem c_doubled {E : En_t} {d N n s : Nat} {pt : Int} {σ : S_t} (h : Nrm σ N n pt) (hs0 : 1 ≤ s) (hs : s ≤ 20) (hn : n + s ≤ 5980) (hp1 : -10000 ≤ pt) (hp2 : pt ≤ 10000) : CV E (d + 1) m_Mo_doubled [pv E 0, .int (nI s)] σ (fun σ' => Fs MP σ σ' ∧ ∃ N' n' pt', Nrm σ' N' n' pt' ∧ SV N' n' pt' = SV N n pt * 2 ^ s ∧ n' ≤ n + s ∧ pt ≤ pt' ∧ pt' ≤ pt + 7) := by
  have hlo := h.lo
  obtain ⟨⟨h1, h2, h3, h4⟩, hn0, hl, hlast⟩ := h
  have hs2 : 2 ^ s ≤ 2 ^ 20 := Nat.pow_le_pow_right (by decide) hs
  have hNpos : 0 < N := Nat.lt_of_lt_of_le (p10 _) hlo
  refine CE.of (L := [(0, pv E 0), (1, .int (nI s))]) rfl (Nat.le_of_ble_eq_true rfl) rfl (b_Mo_doubled_0 ?_)
  rw [h1]
  refine dbl_mul s n hs (by omega) (dg σ) h3 σ (fun σ1 c F1 z1 hc d1 s1 => ?_) n 0 σ _ (Nat.le_refl _) rfl (pw_pos s) Fs.rf (fun _ => rfl) (fun _ _ => rfl) (fun k q1 q2 => absurd q1 (by omega)) (by rw [Nat.sub_self]; simp [dval])
  rw [h4] at s1
  refine dbl_carry c σ1 (fun σ2 e F2 z2 r2 d2 s2 he7 hel => ?_) 7 0 c σ1 (by omega) (by omega) Fs.rf (fun _ => rfl) (fun _ => rfl) (fun t ht => absurd ht (by omega)) (by simp [lsd]) (Or.inl rfl)
  have hes : e ≤ s := by
    rcases hel with q | q
    · omega
    · rcases Nat.lt_or_ge s e with g | g
      · exfalso
        obtain ⟨e', rfl⟩ : ∃ e', e = e' + 1 := ⟨e - 1, by omega⟩
        rw [lsd] at s2
        simp only [Nat.add_sub_cancel] at q
        have q1 : 1 * 10 ^ e' ≤ un (gI σ2 4 e') * 10 ^ e' := Nat.mul_le_mul_right _ (by omega)
        have q2 : 2 ^ s ≤ 10 ^ e' := Nat.le_trans (Nat.pow_le_pow_right (by decide) (by omega)) (Nat.pow_le_pow_left (by decide) e')
        omega
      · exact g
  have e6 : gI σ2 0 6 = nI n := by rw [z2, z1, h1]
  rw [e6]
  refine dbl_shift n e (by omega) (gI σ2 3) σ2 (fun σ3 F3 z3 m3 d3 => ?_) n σ2 _ (Nat.le_refl _) rfl Fs.rf (fun _ => rfl) (fun _ => rfl) (fun _ _ => rfl) (fun k q1 q2 => absurd q1 (by omega))
  refine dbl_copy n e he7 (by omega) (gI σ2 3) (gI σ2 4) σ3 (fun σ4 F4 z4 d4 c4 => ?_) e 0 σ3 (by omega) Fs.rf (fun _ => rfl) (fun k => m3 k) d3 (fun k hk => absurd hk (by omega))
  -- the digits as they stand
  have e64 : gI σ4 0 6 = nI n := by rw [z4, z3, e6]
  have e74 : gI σ4 0 7 = zI pt := by rw [z4, z3, z2, z1, h2]
  have D : DecAt (sI (sI σ4 0 6 (gI σ4 0 6 + nI e)) 0 7 (gI (sI σ4 0 6 (gI σ4 0 6 + nI e)) 0 7 + nI e)) (N * 2 ^ s) (e + n) (pt + e) ∧ dg (sI (sI σ4 0 6 (gI σ4 0 6 + nI e)) 0 7 (gI (sI σ4 0 6 (gI σ4 0 6 + nI e)) 0 7 + nI e)) 0 ≠ 0 := by
    have hdg : ∀ k, dg (sI (sI σ4 0 6 (gI σ4 0 6 + nI e)) 0 7 (gI (sI σ4 0 6 (gI σ4 0 6 + nI e)) 0 7 + nI e)) k = un (gI σ4 3 k) := by
      intro k; unfold dg; rw [gI_sI_n (Or.inl (by decide)), gI_sI_n (Or.inl (by decide))]
    have hsmall : ∀ k, k < e + n → un (gI σ4 3 k) < 10 := by
      intro k hk
      rcases Nat.lt_or_ge k e with g | g
      · rw [c4 k g]; exact d2 _ (by omega)
      · have := d4 (k - e) (by omega)
        rw [show e + (k - e) = k by omega] at this
        rw [this, r2]; exact d1 (k - e) (by omega)
    have hval : dval (fun k => un (gI σ4 3 k)) (e + n) = N * 2 ^ s := by
      rw [dval_app, ← s1, dval_ext (f := fun k => un (gI σ4 3 k)) (g := fun k => un (gI σ2 4 (e - 1 - k))) (fun k hk => by rw [c4 k hk]), dval_rev (fun k => un (gI σ2 4 k)), s2]
      rw [dval_ext (f := fun t => un (gI σ4 3 (e + t))) (g := dg σ1) (fun k hk => by rw [d4 k hk, r2]; rfl)]
      omega
    refine ⟨⟨?_, ?_, fun k hk => by rw [hdg]; exact hsmall k hk, ?_⟩, ?_⟩
    · rw [gI_sI_n (Or.inr (by decide)), gI_sI_s, e64, nI_add, Nat.add_comm]
    · rw [gI_sI_s, gI_sI_n (Or.inr (by decide)), e74, ← zI_nI, zI_add]
    · rw [← hval]; exact dval_ext (fun k _ => hdg k)
    · rw [hdg]
      rcases hel with q | q
      · subst q
        refine lead_of (f := fun k => un (gI σ4 3 k)) (n := n) (fun k hk => hsmall k (by omega)) hn0 ?_
        rw [Nat.zero_add] at hval
        rw [hval]
        have := Nat.le_mul_of_pos_right N (pw_pos s)
        omega
      · rcases Nat.eq_zero_or_pos e with g | g
        · subst g
          refine lead_of (f := fun k => un (gI σ4 3 k)) (n := n) (fun k hk => hsmall k (by omega)) hn0 ?_
          rw [Nat.zero_add] at hval
          rw [hval]
          have := Nat.le_mul_of_pos_right N (pw_pos s)
          omega
        · rw [c4 0 g]; exact q
  generalize hσ5 : sI (sI σ4 0 6 (gI σ4 0 6 + nI e)) 0 7 (gI (sI σ4 0 6 (gI σ4 0 6 + nI e)) 0 7 + nI e) = σ5 at D ⊢
  have F5 : Fs MP σ σ5 := by
    rw [← hσ5]
    exact ((((F1.tr F2).tr F3).tr F4).si MP06).si MP07
  refine (c_trim D.1 (by omega)).mono (fun σ6 hq => ?_)
  obtain ⟨F6, row6, N', n', D6, hle, hmul, hlast'⟩ := hq
  have hM : 0 < N * 2 ^ s := Nat.mul_pos hNpos (pw_pos s)
  obtain ⟨q1, q2⟩ := trim_nrm row6 D.2 hM D6 hle hmul hlast' (by omega)
  refine ⟨rfl, F5.tr F6, N', n', pt + e, q1, ?_, by omega, by omega, by omega⟩
  rw [q2, Nat.add_comm e n, SV_shift2 (by omega)]
  unfold SV
  ac_rfl
