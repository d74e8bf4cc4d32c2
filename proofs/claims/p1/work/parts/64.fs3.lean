/-! findShortest: its walk -/
def PB : Nat → Nat → Prop := fun p k => PM p k ∨ BP 61 p
def ShP (σ : S_t) (W : Nat) : Prop := ∃ (T : Nat → Nat) (c : Nat) (p : Int), PrAt σ T c p ∧ 1 ≤ c ∧ c ≤ 19 ∧ T 0 ≠ 0 ∧ T (c - 1) ≠ 0 ∧ SV (dval T c) c p = W ∧ -400 ≤ p ∧ p ≤ 400
theorem Fr_Fs {P : Nat → Prop} {P' : Nat → Nat → Prop} {σ σ' : S_t} (h : Fr P σ σ') (hP : ∀ p k, P p → P' p k) : Fs P' σ σ' := ⟨fun p k hp => h.1 p k (fun z => hp (hP p k z)), h.2⟩
theorem dval_last {f : Nat → Nat} {c : Nat} (hc : 1 ≤ c) (h : dval f c % 10 ≠ 0) : f (c - 1) ≠ 0 := by
  obtain ⟨n, rfl⟩ : ∃ n, c = n + 1 := ⟨c - 1, by omega⟩
  have e : dval f (n + 1) = dval f n * 10 + f n := rfl
  rw [e] at h
  rw [show n + 1 - 1 = n by omega]
  omega
/-- what findShortest keeps at its first hit -/
theorem fs_shrt {b z : Nat} {T : Int} (hb : 0 < b) (hb2 : b < 9218868437227405312) (hz1 : 1 ≤ z) (hz : z ≤ 18) (hT : -345 ≤ T ∧ T ≤ 300) (hV1 : 100000000000000000 * Gz T ≤ FV b) (hV2 : FV b < 2000000000000000000 * Gz T)
    (hi : ∀ z', z < z' → z' ≤ 18 → ¬ OKz (FV b) b ((20000 + T).toNat + z')) {up : Bool} (hu : Upz (FV b) b ((20000 + T).toNat + z) up) :
    (FV b / 10 ^ ((20000 + T).toNat + z) + bN up) % 10 ≠ 0 ∧ ∃ Z' up', Shrt (FV b) b Z' up' ∧ cz (FV b) Z' up' = cz (FV b) ((20000 + T).toNat + z) up := by
  have hR : RdB (cz (FV b) ((20000 + T).toNat + z) up) b := by
    rcases hu with ⟨a1, a2, a3⟩ | ⟨a1, a2, a3⟩ | ⟨a1, a2, a3⟩
    · rw [a1]; exact a2
    · rw [a1]; exact a2
    · cases up; exact a1; exact a2
  have hok : OKz (FV b) b ((20000 + T).toNat + z) := by cases up; exact Or.inl hR; exact Or.inr hR
  have hG := Gz_pos T
  have hge : Gz T = 10 ^ (20000 + T).toNat := rfl
  have hw : (FV b / 10 ^ ((20000 + T).toNat + z) + bN up) % 10 ≠ 0 := by
    intro h
    have e := w10_aux h
    rcases Nat.lt_or_ge z 18 with g | g
    · apply hi (z + 1) (by omega) (by omega)
      rw [← e, Nat.add_assoc] at hR
      cases up; exact Or.inl hR; exact Or.inr hR
    · have hz18 : z = 18 := by omega
      have hp := RdB_pos hR
      have h2 : FV b / 10 ^ ((20000 + T).toNat + z) < 2 := by
        rw [Nat.div_lt_iff_lt_mul (p10 _), hz18, Nat.pow_add, ← hge, show (10 : Nat) ^ 18 = 1000000000000000000 from rfl]
        generalize FV b = A at *
        generalize Gz T = G at *
        omega
      have h3 : bN up ≤ 1 := by cases up <;> decide
      unfold cz at hp
      generalize FV b / 10 ^ ((20000 + T).toNat + z) = q at *
      have h4 : q + bN up = 0 := by omega
      rw [h4, Nat.zero_mul] at hp
      exact absurd hp (Nat.lt_irrefl 0)
  refine ⟨hw, ?_⟩
  have hmax : ∀ Z', (20000 + T).toNat + z < Z' → 10 ^ Z' ≤ FV b → ¬ OKz (FV b) b Z' := by
    intro Z' h1 h2
    have h3 : 10 ^ Z' < 10 ^ ((20000 + T).toNat + 19) := by
      rw [Nat.pow_add, ← hge, show (10 : Nat) ^ 19 = 10000000000000000000 from rfl]
      refine Nat.lt_of_le_of_lt h2 ?_
      generalize FV b = A at *
      generalize Gz T = G at *
      omega
    have h4 := p10_lt h3
    have := hi (Z' - (20000 + T).toNat) (by omega) (by omega)
    rw [show (20000 + T).toNat + (Z' - (20000 + T).toNat) = Z' by omega] at this
    exact this
  rcases Nat.lt_or_ge (FV b) (10 ^ ((20000 + T).toNat + z)) with g | g
  · have hz18 : z = 18 := by
      rcases Nat.lt_or_ge z 18 with q | q
      · exfalso
        have : 10 ^ ((20000 + T).toNat + z) ≤ 10 ^ ((20000 + T).toNat + 17) := Nat.pow_le_pow_right (by decide) (by omega)
        rw [Nat.pow_add _ _ 17, ← hge, show (10 : Nat) ^ 17 = 100000000000000000 from rfl] at this
        generalize FV b = A at *
        generalize Gz T = G at *
        generalize 10 ^ ((20000 + T).toNat + z) = B at *
        omega
      · omega
    subst hz18
    have e0 : FV b / 10 ^ ((20000 + T).toNat + 18) = 0 := Nat.div_eq_of_lt g
    have hup : up = true := by
      cases up
      · have hp := RdB_pos hR
        unfold cz at hp
        rw [e0] at hp
        exact absurd hp (by rw [show 0 + bN false = 0 from rfl, Nat.zero_mul]; exact Nat.lt_irrefl 0)
      · rfl
    subst hup
    have ez : cz (FV b) ((20000 + T).toNat + 18) true = 10 ^ ((20000 + T).toNat + 17 + 1) := by
      unfold cz
      rw [e0, show 0 + bN true = 1 from rfl, Nat.one_mul]
    rw [ez] at hR ⊢
    have hlo : 10 ^ ((20000 + T).toNat + 17) ≤ FV b := by
      rw [Nat.pow_add, ← hge, show (10 : Nat) ^ 17 = 100000000000000000 from rfl, Nat.mul_comm]
      exact hV1
    have ht := top_ok hb hb2 hlo g hR
    have hp := p10 ((20000 + T).toNat + 17)
    have hs : 10 ^ ((20000 + T).toNat + 17 + 1) = 10 ^ ((20000 + T).toNat + 17) * 10 := Nat.pow_succ ..
    have g' : FV b < 10 ^ ((20000 + T).toNat + 17 + 1) := g
    have hq : FV b / 10 ^ ((20000 + T).toNat + 17) = 9 ∧ 10 ^ ((20000 + T).toNat + 17) < 2 * (FV b % 10 ^ ((20000 + T).toNat + 17)) := by
      have hd := Nat.div_add_mod (FV b) (10 ^ ((20000 + T).toNat + 17))
      have hm := Nat.mod_lt (FV b) hp
      rw [hs] at ht g'
      generalize FV b / 10 ^ ((20000 + T).toNat + 17) = q at *
      generalize FV b % 10 ^ ((20000 + T).toNat + 17) = r at *
      generalize FV b = A at *
      generalize 10 ^ ((20000 + T).toNat + 17) = B at *
      have h9 : q = 9 := by
        rcases Nat.lt_trichotomy q 9 with y | y | y
        · have := Nat.mul_le_mul_left B (show q ≤ 8 by omega); omega
        · exact y
        · have := Nat.mul_le_mul_left B (show 10 ≤ q by omega); omega
      subst h9
      exact ⟨rfl, by omega⟩
    have ec : cz (FV b) ((20000 + T).toNat + 17) true = 10 ^ ((20000 + T).toNat + 17 + 1) := by
      unfold cz
      rw [hq.1, hs, Nat.mul_comm]; rfl
    refine ⟨(20000 + T).toNat + 17, true, ⟨hlo, ?_, ?_, ?_⟩, ec⟩
    · exact Or.inr (by rw [ec]; exact hR)
    · intro Z' h1 h2
      exfalso
      have := p10_lt (Nat.lt_of_le_of_lt h2 g')
      omega
    · by_cases hd : RdB (cz (FV b) ((20000 + T).toNat + 17) false) b
      · refine Or.inr (Or.inr ⟨hd, by rw [ec]; exact hR, ?_⟩)
        exact ⟨fun _ => Or.inl hq.2, fun _ => rfl⟩
      · exact Or.inl ⟨rfl, by rw [ec]; exact hR, hd⟩
  · exact ⟨(20000 + T).toNat + z, up, ⟨g, hok, hmax, hu⟩, rfl⟩
