theorem tab10 : ∀ j, j < 10 → tabV 0 j = nI (10 ^ j) := by decide +kernel
theorem ten_lt : ∀ j, j < 10 → 10 ^ j < 2 ^ 31 := by decide +kernel
/-- the digits that the class has scanned -/
def NumAt (σ : S_t) (f : Nat → Nat) (c : Nat) (p : Int) (cut neg : Bool) : Prop := gI σ 55 2 = nI c ∧ gI σ 55 3 = zI p ∧ gI σ 55 4 = bI cut ∧ gI σ 55 5 = bI neg ∧ ∀ k, k < c → gI σ 56 k = nI (f k) ∧ f k < 10
theorem NumAt.fr {σ σ' : S_t} {f : Nat → Nat} {c : Nat} {p : Int} {cut neg : Bool} (h : NumAt σ f c p cut neg) (hF : Fr (BP 57) σ σ') : NumAt σ' f c p cut neg := by
  have a : ∀ q k, q ≠ 57 → q ≠ 58 → gI σ' q k = gI σ q k := fun q k h1 h2 => hF.1 q k (by rintro (z | z); exact h1 z; exact h2 z)
  obtain ⟨h1, h2, h3, h4, h5⟩ := h
  exact ⟨by rw [a _ _ (by decide) (by decide)]; exact h1, by rw [a _ _ (by decide) (by decide)]; exact h2, by rw [a _ _ (by decide) (by decide)]; exact h3, by rw [a _ _ (by decide) (by decide)]; exact h4, fun k hk => by rw [a _ _ (by decide) (by decide)]; exact h5 k hk⟩
theorem ld_inner {E : En_t} {d : Nat} {Q : Option Value → S_t → Prop} {σ : S_t} (f : Nat → Nat) (c : Nat) (p : Int) (cut neg : Bool) (hN : NumAt σ f c p cut neg) (hc : c ≤ 800) (i e : Nat) (hie : i ≤ e) (he : e ≤ c) (he9 : e ≤ i + 9)
    (hX : JE E (d + 1) m_Nu_loadDigits 35 [(0, pv E 55), (1, .int (nI i)), (2, .int (nI e)), (3, .int (nI (dval (fun t => f (i + t)) (e - i)))), (4, .int (nI e))] [] σ Q) :
    ∀ (m j : Nat), j + m = e → i ≤ j → JE E (d + 1) m_Nu_loadDigits 35 [(0, pv E 55), (1, .int (nI i)), (2, .int (nI e)), (3, .int (nI (dval (fun t => f (i + t)) (j - i)))), (4, .int (nI j))] [] σ Q := by
  intro m
  induction m with
  | zero =>
    intro j hj hij
    have : j = e := by omega
    subst this
    exact hX
  | succ m ih =>
    intro j hj hij
    obtain ⟨g1, g2⟩ := hN.2.2.2.2 j (by omega)
    refine b_Nu_loadDigits_35 ⟨fun h => absurd h (nI_ge (by omega) (by omega)), fun _ => ⟨vin (by omega) (by omega), ?_⟩⟩
    have e1 : (10 : Int32) * nI (dval (fun t => f (i + t)) (j - i)) + gI σ 56 j = nI (dval (fun t => f (i + t)) (j + 1 - i)) := by
      have e2 : (10 : Int32) * nI (dval (fun t => f (i + t)) (j - i)) = nI (10 * dval (fun t => f (i + t)) (j - i)) := pk_mul 10 _
      rw [e2, g1, nI_add, show j + 1 - i = (j - i) + 1 by omega, dval, show i + (j - i) = j by omega, Nat.mul_comm]
    rw [nI_clamp (by omega), e1, nI_1]
    exact ih (j + 1) (by omega) (by omega)
theorem ld_loop {E : En_t} {d : Nat} {Q : Option Value → S_t → Prop} (σ0 : S_t) (f : Nat → Nat) (c : Nat) (p : Int) (cut neg : Bool) (hc : c ≤ 800) (hQ : ∀ σ', Fr (BP 57) σ0 σ' → BigAt σ' 57 (dval f c) cut → Q none σ') (hN0 : NumAt σ0 f c p cut neg) :
    ∀ (m i : Nat) (σ : S_t), c ≤ i + 9 * m → i ≤ c + 9 → Fr (BP 57) σ0 σ → (∃ r, BigAt σ 57 (dval f (min i c)) r) → JE E (d + 2) m_Nu_loadDigits 10 [(0, pv E 55), (1, .int (nI i))] [] σ Q := by
  have fin : ∀ (i : Nat) (σ : S_t), c ≤ i → i ≤ c + 9 → Fr (BP 57) σ0 σ → (∃ r, BigAt σ 57 (dval f (min i c)) r) → JE E (d + 2) m_Nu_loadDigits 10 [(0, pv E 55), (1, .int (nI i))] [] σ Q := by
    intro i σ hi hi2 hF ⟨r, hB⟩
    have hN := hN0.fr hF
    rw [Nat.min_eq_right hi] at hB
    refine b_Nu_loadDigits_10 ⟨fun _ => ⟨by rw [hN.2.2.1]; cases cut <;> simp [bI], ?_⟩, fun h => absurd (by rw [hN.1]; exact nI_le hi (by omega)) h⟩
    rw [hN.2.2.1]
    obtain ⟨n, a1, a2, a3, a4, a5⟩ := hB
    refine hQ _ (hF.si (Or.inl rfl)) ⟨n, by rw [gI_sI_n (Or.inr (by decide))]; exact a1, a2, ?_, a4, gI_sI_s _ _ _ _⟩
    rw [← a3]; exact lsum_ext (fun j hj => gI_sI_n (Or.inl (by decide)))
  intro m
  induction m with
  | zero => intro i σ h1 h2 hF hB; exact fin i σ (by omega) h2 hF hB
  | succ m ih =>
    intro i σ h1 h2 hF hB
    rcases Nat.lt_or_ge i c with g | g
    · obtain ⟨r, hB⟩ := hB
      have hN := hN0.fr hF
      rw [Nat.min_eq_left (by omega)] at hB
      refine b_Nu_loadDigits_10 ⟨fun h => absurd h (by rw [hN.1]; exact nI_ge g (by omega)), fun _ r1 e1 => ?_⟩
      have e9 : nI i + (9 : Int32) = nI (i + 9) := nI_add i 9
      rw [hN.1, e9, mnI_nI (by omega) (by omega)] at e1
      subst e1
      generalize he : min c (i + 9) = e
      refine ld_inner f c p cut neg hN hc i e (by omega) (by omega) (by omega) ?_ (e - i) i (by omega) (Nat.le_refl _) |> fun h => by rw [Nat.sub_self] at h; exact h
      have hsub : nI e - nI i = nI (e - i) := pk_sub (by omega)
      refine b_Nu_loadDigits_35 ⟨fun _ => ?_, fun h => absurd (Int32.le_refl _) h⟩
      rw [hsub, nI_clamp (by omega), tab10 _ (by omega), e9]
      refine ⟨vin (by omega) (by omega), ?_⟩
      have hch : dval (fun t => f (i + t)) (e - i) < 10 ^ (e - i) := dval_lt (fun k hk => (hN.2.2.2.2 (i + k) (by omega)).2)
      have h9 := ten_lt (e - i) (by omega)
      have hval : dval f i * 10 ^ (e - i) + dval (fun t => f (i + t)) (e - i) = dval f e := by
        have := dval_app f i (e - i)
        rw [show i + (e - i) = e by omega] at this
        exact this.symm
      have hlt : dval f e < 2 ^ 3072 := by
        have a1 : dval f e < 10 ^ e := dval_lt (fun k hk => (hN.2.2.2.2 k (by omega)).2)
        have a2 : 10 ^ e ≤ 10 ^ 800 := Nat.pow_le_pow_right (by decide) (by omega)
        have a3 : (10 : Nat) ^ 800 < 2 ^ 3072 := by decide +kernel
        omega
      refine (c_multiply k57 hB (p10 _) h9 (by omega) (by rw [hval]; exact hlt)).mono (fun σ1 hq => ?_)
      obtain ⟨F1, B1⟩ := hq
      rw [hval] at B1
      refine ih (i + 9) σ1 (by omega) (by omega) (hF.tr F1) ⟨r, ?_⟩
      rw [Nat.min_comm, he]; exact B1
    · exact fin i σ g h2 hF hB
theorem c_loadDigits {E : En_t} {d c : Nat} {f : Nat → Nat} {p : Int} {cut neg : Bool} {σ : S_t} (hN : NumAt σ f c p cut neg) (hc : c ≤ 800) : CV E (d + 2) m_Nu_loadDigits [pv E 55] σ (fun σ' => Fr (BP 57) σ σ' ∧ BigAt σ' 57 (dval f c) cut) := by
  refine CE.of (L := [(0, pv E 55)]) rfl (Nat.le_of_ble_eq_true rfl) rfl (b_Nu_loadDigits_0 ((c_set (V := 0) k57 (by decide)).mono (fun σ1 hq => ?_)))
  obtain ⟨F1, B1⟩ := hq
  exact ld_loop σ f c p cut neg hc (fun σ' g1 g2 => ⟨rfl, g1, g2⟩) hN 100 0 σ1 (by omega) (by omega) F1 ⟨false, by rw [Nat.min_eq_left (by omega)]; exact B1⟩
theorem c_bitsOfFives {E : En_t} {d k : Nat} {σ : S_t} (hk : k < 2000) : CI E d m_Nu_bitsOfFives [.int (nI k)] σ (fun x σ' => x = nI (k * 2378 / 1024 + 1) ∧ σ' = σ) := by
  refine CE.of (L := [(0, .int (nI k))]) rfl (Nat.le_of_ble_eq_true rfl) rfl (b_Nu_bitsOfFives_0 ⟨_, rfl, ?_, rfl⟩)
  have e1 : nI k * (2378 : Int32) = nI (k * 2378) := pk_mul k 2378
  have e2 : nI (k * 2378) >>> ((10 : Int32) &&& 31) = nI (k * 2378 / 2 ^ 10) := pk_shrN (k := 10) (by omega) _ (by decide)
  rw [e1, e2, nI_1]
