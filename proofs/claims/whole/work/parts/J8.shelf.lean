/-! document: the shelves, where the draft may be anything -/
def ShE (p k : Nat) : Prop := (8 ≤ p ∧ p ≤ 27) ∨ p = 40 ∨ p = 50 ∨ (72 ≤ p ∧ p < 180)
def MkE (M : Nat → Nat → Prop) (t : Nat) (to : Option Nat) : Prop := ∀ p k, M p k → ShE p k → (∃ i, to = some i ∧ MSv i p k) ∨ MoC 8 p k ∨ TPl t p k
theorem Shv_keepE {M : Nat → Nat → Prop} {σ τ : S_t} {π : Nat → Nat} (hw : Wrd σ) (hP : Pm σ π) (hS : ∀ i, i < 8 → ShO σ i (tr (π i))) (hM : MkE M (tr (π 8)) none) (hF : Fg M σ τ) : Shv τ := by
  have key : ∀ p k, ShE p k → ¬ MoC 8 p k → ¬ TPl (tr (π 8)) p k → gI τ p k = gI σ p k ∧ gL τ p k = gL σ p k := fun p k h1 h2 h3 => by
    have : ¬ M p k := fun z => by
      rcases hM p k z h1 with ⟨_, q, _⟩ | q | q
      · cases q
      · exact h2 q
      · exact h3 q
    exact ⟨hF.1 p k this, hF.2.1 p k this⟩
  refine ⟨fun k hk => ?_, π, Pm_fr hF.2.2 hP, fun i hi => ShO_fr (key 8 i (Or.inl ⟨by omega, by omega⟩) (by unfold MoC; omega) (by unfold TPl tr; omega)).1 (fun p k hm => key p k ?_ ?_ ?_) (fun p k h1 h2 => key p k ?_ ?_ ?_) (hS i hi)⟩
  · rw [(key 40 k (Or.inr (Or.inl rfl)) (by unfold MoC; omega) (by unfold TPl tr; omega)).1]; exact hw k hk
  · unfold MoC at hm; unfold ShE; omega
  · unfold MoC at hm ⊢; omega
  · unfold MoC at hm; unfold TPl tr; omega
  · have := hP.1 i (by omega)
    unfold tr at h1 h2; unfold ShE; omega
  · unfold tr at h1; unfold MoC; omega
  · have hne : π 8 ≠ π i := fun z => by have := hP.2.1 8 i (by omega) (by omega) z; omega
    exact fun z => (tr_apart hne).2 p k z ⟨h1, h2⟩
theorem Shv_putE {M : Nat → Nat → Prop} {σ τ : S_t} {π : Nat → Nat} {to : Nat} {D : List Row} (hw : Wrd σ) (hP : Pm σ π) (hS : ∀ i, i < 8 → ShO σ i (tr (π i))) (hto : to < 8) (hM : MkE M (tr (π 8)) (some to)) (hF : Fg M (swp σ (π to) (π 8) to) τ) (hW : WfD D) (hMo : MoR τ to D) (h8 : gI τ 8 to = 1) (hT : TrD τ (tr (π 8)) D) : Shv τ := by
  have key : ∀ p k, ShE p k → ¬ MSv to p k → ¬ MoC 8 p k → ¬ TPl (tr (π 8)) p k → gI τ p k = gI σ p k ∧ gL τ p k = gL σ p k := fun p k h1 h0 h2 h3 => by
    have : ¬ M p k := fun z => by
      rcases hM p k z h1 with ⟨i, q, w⟩ | q | q
      · cases q; exact h0 w
      · exact h2 q
      · exact h3 q
    exact ⟨hF.1 p k this, hF.2.1 p k this⟩
  have gr : ∀ p k, gR τ p k = if p = 49 ∧ k = 9 then some (tr (π to)) else if p = 50 ∧ k = to then some (tr (π 8)) else gR σ p k := fun p k => gR_2 hF.2.2 p k
  refine ⟨fun k hk => ?_, fun i => if i = to then π 8 else if i = 8 then π to else π i, ⟨fun i hi => ?_, fun i j hi hj e => ?_, fun i hi => ?_, ?_⟩, fun i hi => ?_⟩
  · rw [(key 40 k (Or.inr (Or.inl rfl)) (by unfold MSv MoC; omega) (by unfold MoC; omega) (by unfold TPl tr; omega)).1]; exact hw k hk
  · have h1 := hP.1 i hi
    have h2 := hP.1 8 (by omega)
    have h3 := hP.1 to (by omega)
    show (if i = to then π 8 else if i = 8 then π to else π i) < 9
    (repeat' split) <;> omega
  · have e' : (if i = to then π 8 else if i = 8 then π to else π i) = (if j = to then π 8 else if j = 8 then π to else π j) := e
    have q1 := hP.2.1 8 to (by omega) (by omega)
    have q2 := hP.2.1 8 j (by omega) (by omega)
    have q3 := hP.2.1 to 8 (by omega) (by omega)
    have q4 := hP.2.1 to j (by omega) (by omega)
    have q5 := hP.2.1 i 8 (by omega) (by omega)
    have q6 := hP.2.1 i to (by omega) (by omega)
    have q7 := hP.2.1 i j (by omega) (by omega)
    clear e
    by_cases a : i = to <;> by_cases b : j = to
    · omega
    · rw [if_pos a, if_neg b] at e'
      by_cases c : j = 8
      · rw [if_pos c] at e'; have := q1 e'; omega
      · rw [if_neg c] at e'; have := q2 e'; omega
    · rw [if_neg a, if_pos b] at e'
      by_cases c : i = 8
      · rw [if_pos c] at e'; have := q3 e'; omega
      · rw [if_neg c] at e'; have := q5 e'; omega
    · rw [if_neg a, if_neg b] at e'
      by_cases c : i = 8 <;> by_cases c' : j = 8
      · omega
      · rw [if_pos c, if_neg c'] at e'; have := q4 e'; omega
      · rw [if_neg c, if_pos c'] at e'; have := q6 e'; omega
      · rw [if_neg c, if_neg c'] at e'; exact q7 e'
  · show gR τ 50 i = some (tr (if i = to then π 8 else if i = 8 then π to else π i))
    rw [gr, if_neg (by omega)]
    by_cases a : i = to
    · rw [if_pos ⟨rfl, a⟩, if_pos a]
    · rw [if_neg (fun z => a z.2), if_neg a, if_neg (by omega)]; exact hP.2.2.1 i hi
  · show gR τ 49 9 = some (tr (if 8 = to then π 8 else if 8 = 8 then π to else π 8))
    rw [gr, if_pos ⟨rfl, rfl⟩, if_neg (by omega), if_pos rfl]
  · show ShO τ i (tr (if i = to then π 8 else if i = 8 then π to else π i))
    by_cases a : i = to
    · subst a
      rw [if_pos rfl]
      exact Or.inr ⟨h8, D, hW, hMo, hT⟩
    · rw [if_neg a, if_neg (by omega)]
      have hne : π 8 ≠ π i := fun z => by have := hP.2.1 8 i (by omega) (by omega) z; omega
      refine ShO_fr (key 8 i (Or.inl ⟨by omega, by omega⟩) (by unfold MSv MoC; omega) (by unfold MoC; omega) (by unfold TPl tr; omega)).1 (fun p k hm => key p k ?_ ?_ ?_ ?_) (fun p k h1 h2 => key p k ?_ ?_ ?_ ?_) (hS i hi)
      · unfold MoC at hm; unfold ShE; omega
      · unfold MoC at hm; unfold MSv MoC; omega
      · unfold MoC at hm ⊢; omega
      · unfold MoC at hm; unfold TPl tr; omega
      · have := hP.1 i (by omega)
        unfold tr at h1 h2; unfold ShE; omega
      · unfold tr at h1; unfold MSv MoC; omega
      · unfold tr at h1; unfold MoC; omega
      · exact fun z => (tr_apart hne).2 p k z ⟨h1, h2⟩
