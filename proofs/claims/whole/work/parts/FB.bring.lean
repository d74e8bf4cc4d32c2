/-- the spare tree comes to a shelf -/
def swp (σ : S_t) (a b to : Nat) : S_t := sR (sR σ 50 to (some (tr b))) 49 9 (some (tr a))
theorem Fg_swp {M : Nat → Nat → Prop} {σ σ' : S_t} {a b to : Nat} (h : Fg M σ σ') : Fg M (swp σ a b to) (swp σ' a b to) := ⟨h.1, h.2.1, by
  show (sR (sR σ' 50 to (some (tr b))) 49 9 (some (tr a))).2.2 = (sR (sR σ 50 to (some (tr b))) 49 9 (some (tr a))).2.2
  funext p k
  show (if p = 49 ∧ k = 9 then (some (tr a)) else if p = 50 ∧ k = to then (some (tr b)) else σ'.2.2 p k) = (if p = 49 ∧ k = 9 then (some (tr a)) else if p = 50 ∧ k = to then (some (tr b)) else σ.2.2 p k)
  rw [h.2.2]⟩
theorem c_bring {E : En_t} {d a b to : Nat} {S : Option (List Row)} {σ : S_t} (ha : a < 9) (hb : b < 9) (hto : to < 8) (r1 : gR σ 50 to = some (tr a)) (r2 : gR σ 49 9 = some (tr b)) (hT : TrB σ (tr b) S) : CI E (d + 1) m_Cp_bringIfItFits [pv E 49, .int (nI to)] σ (fun r σ' => (S = none ∧ r = -1 ∧ σ' = σ) ∨ (∃ D, S = some D ∧ r = nI D.length ∧ WfR D ∧ Fg (TPl (tr b)) (swp σ a b to) σ' ∧ TrD σ' (tr b) D)) := by
  have ka := kind_tr a (by omega)
  have kb := kind_tr b (by omega)
  refine CE.of (L := [(0, pv E 49), (1, .int (nI to))]) rfl (Nat.le_of_ble_eq_true rfl) rfl (b_Cp_bringIfItFits_0 ⟨_, r2, kb, ?_⟩)
  cases S with
  | none =>
    have h14 : gI σ (tr b) 14 = 1 := hT
    exact ⟨fun _ => ⟨_, rfl, Or.inl ⟨rfl, rfl, rfl⟩⟩, fun q => absurd q (by rw [h14]; decide)⟩
  | some D =>
    obtain ⟨hR, hW⟩ : TrR σ (tr b) D ∧ WfR D := hT
    refine ⟨fun q => absurd hR.2.2.2.1 q, fun _ => c_isShC.mono (fun r σ1 hq => ?_)⟩
    obtain ⟨rfl, hq⟩ := hq
    rcases hq with ⟨_, h⟩ | ⟨rfl, _⟩
    · exact absurd h (x_sh hto rfl)
    refine ⟨fun _ => ⟨_, r2, kb, (c_measure (by omega) hW hR).mono (fun σ2 hq => ?_)⟩, fun q => absurd q (by decide)⟩
    obtain ⟨hF, hD⟩ := hq
    have cl : (nI to).toNatClampNeg = to := nI_clamp (by omega)
    refine CE.of (L := [(0, pv E 49), (1, .int (nI to))]) rfl (Nat.le_of_ble_eq_true rfl) rfl (b_Cp_bringSpareTo_0 ?_)
    rw [cl]
    refine ⟨vin hto (by decide), tr a, by rw [gR_2 hF.2.2]; exact r1, ka, tr b, by rw [gR_2 hF.2.2]; exact r2, kb, vin hto (by decide), rfl, vin hto (by decide), ?_⟩
    refine ⟨tr b, ?_, kb, _, rfl, Or.inr ⟨D, rfl, hD.1.2.2.1, hW, ?_, ?_⟩⟩
    · rw [gR_sR_n (Or.inl (by decide))]; exact gR_sR_s _ _ _ _
    · exact Fg_swp (hF.mono (fun p k z => ⟨by omega, by omega⟩))
    · exact TrD_fr (fun p k _ _ => ⟨rfl, rfl⟩) hD
/-- where the making of a document may write -/
def MkW (M : Nat → Nat → Prop) (t : Nat) (to : Option Nat) : Prop := ∀ p k, M p k → ShD p k → (∃ i, to = some i ∧ MSv i p k) ∨ MoC 8 p k ∨ TPl t p k
theorem Shv_keep {M : Nat → Nat → Prop} {σ τ : S_t} {π : Nat → Nat} (hw : Wrd σ) (hP : Pm σ π) (hS : ∀ i, i < 8 → ShO σ i (tr (π i))) (hM : MkW M (tr (π 8)) none) (hF : Fg M σ τ) : Shv τ := by
  have key : ∀ p k, ShD p k → ¬ MoC 8 p k → ¬ TPl (tr (π 8)) p k → gI τ p k = gI σ p k ∧ gL τ p k = gL σ p k := fun p k h1 h2 h3 => by
    have : ¬ M p k := fun z => by
      rcases hM p k z h1 with ⟨_, q, _⟩ | q | q
      · cases q
      · exact h2 q
      · exact h3 q
    exact ⟨hF.1 p k this, hF.2.1 p k this⟩
  refine ⟨fun k hk => ?_, π, Pm_fr hF.2.2 hP, fun i hi => ShO_fr (key 8 i (Or.inl ⟨by omega, by omega⟩) (by unfold MoC; omega) (by unfold TPl tr; omega)).1 (fun p k hm => key p k ?_ ?_ ?_) (fun p k h1 h2 => key p k ?_ ?_ ?_) (hS i hi)⟩
  · rw [(key 40 k (Or.inr (Or.inl rfl)) (by unfold MoC; omega) (by unfold TPl tr; omega)).1]; exact hw k hk
  · unfold MoC at hm; unfold ShD; omega
  · unfold MoC at hm ⊢; omega
  · unfold MoC at hm; unfold TPl tr; omega
  · unfold tr at h1; unfold ShD; omega
  · unfold tr at h1; unfold MoC; omega
  · have hne : π 8 ≠ π i := fun z => by have := hP.2.1 8 i (by omega) (by omega) z; omega
    exact fun z => (tr_apart hne).2 p k z ⟨h1, h2⟩
theorem Shv_put {M : Nat → Nat → Prop} {σ τ : S_t} {π : Nat → Nat} {to : Nat} {D : List Row} (hw : Wrd σ) (hP : Pm σ π) (hS : ∀ i, i < 8 → ShO σ i (tr (π i))) (hto : to < 8) (hM : MkW M (tr (π 8)) (some to)) (hF : Fg M (swp σ (π to) (π 8) to) τ) (hW : WfD D) (hMo : MoR τ to D) (h8 : gI τ 8 to = 1) (hT : TrD τ (tr (π 8)) D) : Shv τ := by
  have key : ∀ p k, ShD p k → ¬ MSv to p k → ¬ MoC 8 p k → ¬ TPl (tr (π 8)) p k → gI τ p k = gI σ p k ∧ gL τ p k = gL σ p k := fun p k h1 h0 h2 h3 => by
    have : ¬ M p k := fun z => by
      rcases hM p k z h1 with ⟨i, q, w⟩ | q | q
      · cases q; exact h0 w
      · exact h2 q
      · exact h3 q
    exact ⟨hF.1 p k this, hF.2.1 p k this⟩
  have gr : ∀ p k, gR τ p k = if p = 49 ∧ k = 9 then some (tr (π to)) else if p = 50 ∧ k = to then some (tr (π 8)) else gR σ p k := fun p k => gR_2 hF.2.2 p k
  refine ⟨fun k hk => ?_, fun i => if i = to then π 8 else if i = 8 then π to else π i, ⟨fun i hi => ?_, fun i j hi hj e => ?_, fun i hi => ?_, ?_⟩, fun i hi => ?_⟩
  · rw [(key 40 k (Or.inr (Or.inl rfl)) (by unfold MSv MoC; omega) (by unfold MoC; omega) (by unfold TPl tr; omega)).1]; exact hw k hk
  · have h1 := hP.1 i hi
    have h2 := hP.1 8 (by omega)
    have h3 := hP.1 to (by omega)
    show (if i = to then π 8 else if i = 8 then π to else π i) < 9
    (repeat' split) <;> omega
  · have e' : (if i = to then π 8 else if i = 8 then π to else π i) = (if j = to then π 8 else if j = 8 then π to else π j) := e
    have q1 := hP.2.1 8 to (by omega) (by omega)
    have q2 := hP.2.1 8 j (by omega) (by omega)
    have q3 := hP.2.1 to 8 (by omega) (by omega)
    have q4 := hP.2.1 to j (by omega) (by omega)
    have q5 := hP.2.1 i 8 (by omega) (by omega)
    have q6 := hP.2.1 i to (by omega) (by omega)
    have q7 := hP.2.1 i j (by omega) (by omega)
    clear e
    by_cases a : i = to <;> by_cases b : j = to
    · omega
    · rw [if_pos a, if_neg b] at e'
      by_cases c : j = 8
      · rw [if_pos c] at e'; have := q1 e'; omega
      · rw [if_neg c] at e'; have := q2 e'; omega
    · rw [if_neg a, if_pos b] at e'
      by_cases c : i = 8
      · rw [if_pos c] at e'; have := q3 e'; omega
      · rw [if_neg c] at e'; have := q5 e'; omega
    · rw [if_neg a, if_neg b] at e'
      by_cases c : i = 8 <;> by_cases c' : j = 8
      · omega
      · rw [if_pos c, if_neg c'] at e'; have := q4 e'; omega
      · rw [if_neg c, if_pos c'] at e'; have := q6 e'; omega
      · rw [if_neg c, if_neg c'] at e'; exact q7 e'
  · show gR τ 50 i = some (tr (if i = to then π 8 else if i = 8 then π to else π i))
    rw [gr, if_neg (by omega)]
    by_cases a : i = to
    · rw [if_pos ⟨rfl, a⟩, if_pos a]
    · rw [if_neg (fun z => a z.2), if_neg a, if_neg (by omega)]; exact hP.2.2.1 i hi
  · show gR τ 49 9 = some (tr (if 8 = to then π 8 else if 8 = 8 then π to else π 8))
    rw [gr, if_pos ⟨rfl, rfl⟩, if_neg (by omega), if_pos rfl]
  · show ShO τ i (tr (if i = to then π 8 else if i = 8 then π to else π i))
    by_cases a : i = to
    · subst a
      rw [if_pos rfl]
      exact Or.inr ⟨h8, D, hW, hMo, hT⟩
    · rw [if_neg a, if_neg (by omega)]
      have hne : π 8 ≠ π i := fun z => by have := hP.2.1 8 i (by omega) (by omega) z; omega
      refine ShO_fr (key 8 i (Or.inl ⟨by omega, by omega⟩) (by unfold MSv MoC; omega) (by unfold MoC; omega) (by unfold TPl tr; omega)).1 (fun p k hm => key p k ?_ ?_ ?_ ?_) (fun p k h1 h2 => key p k ?_ ?_ ?_ ?_) (hS i hi)
      · unfold MoC at hm; unfold ShD; omega
      · unfold MoC at hm; unfold MSv MoC; omega
      · unfold MoC at hm ⊢; omega
      · unfold MoC at hm; unfold TPl tr; omega
      · unfold tr at h1; unfold ShD; omega
      · unfold tr at h1; unfold MSv MoC; omega
      · unfold tr at h1; unfold MoC; omega
      · exact fun z => (tr_apart hne).2 p k z ⟨h1, h2⟩
/-- what is neither tape nor output nor place -/
def FreeT (M : Nat → Nat → Prop) : Prop := ∀ p k, M p k → p ≠ 1 ∧ p ≠ 2 ∧ p ≠ 52 ∧ p ≠ 53 ∧ p ≠ 54 ∧ ¬ (p = 0 ∧ (k = 1 ∨ k = 3 ∨ k = 4 ∨ k = 42)) ∧ ¬ (p = 51 ∧ k = 1) ∧ ¬ (p = 49 ∧ k = 10)
theorem Sim_of {Sh Sh' : S_t → Prop} {σ τ : S_t} {M : Nat → Nat → Prop} (hI : Sim Sh σ) (hM : FreeT M) (hF : ∀ p k, ¬ M p k → gI τ p k = gI σ p k) (hs : Sh' τ) : Sim Sh' τ := by
  obtain ⟨tp, o, t1, t2, t3, t4, o1, o2, o3, pl, _⟩ := hI
  have key : ∀ p k, (p = 1 ∨ p = 2 ∨ p = 52 ∨ p = 53 ∨ p = 54 ∨ (p = 0 ∧ (k = 1 ∨ k = 3 ∨ k = 4 ∨ k = 42)) ∨ (p = 51 ∧ k = 1) ∨ (p = 49 ∧ k = 10)) → gI τ p k = gI σ p k := fun p k h => hF p k (fun z => by
    obtain ⟨a1, a2, a3, a4, a5, a6, a7, a8⟩ := hM p k z
    rcases h with h | h | h | h | h | h | h | h
    · exact a1 h
    · exact a2 h
    · exact a3 h
    · exact a4 h
    · exact a5 h
    · exact a6 h
    · exact a7 h
    · exact a8 h)
  refine ⟨tp, o, ⟨by rw [key 0 1 (by omega)]; exact t1.1, fun k hk => by rw [key 1 k (by omega)]; exact t1.2 k hk⟩, ⟨by rw [key 51 1 (by omega)]; exact t2.1, fun k hk => by rw [key 52 k (by omega)]; exact t2.2 k hk⟩, t3, t4, ⟨by rw [key 0 3 (by omega)]; exact o1.1, by rw [key 0 4 (by omega)]; exact o1.2.1, fun k hk => by rw [key 2 k (by omega)]; exact o1.2.2 k hk⟩, ⟨by rw [key 53 1 (by omega)]; exact o2.1, o2.2.1, fun k hk => by rw [key 54 k (by omega)]; exact o2.2.2 k hk⟩, o3, ?_, hs⟩
  rw [key 0 42 (by omega), key 49 10 (by omega)]; exact pl
theorem TrR_nil {σ : S_t} {t : Nat} (h1 : gI σ t 11 = 0) (h2 : gI σ t 12 = 0) (h3 : gI σ t 13 = 0) (h4 : gI σ t 14 = 0) : TrR σ t [] := ⟨h1, h2, h3, h4, fun k hk => absurd hk (Nat.not_lt_zero k)⟩
theorem MoR_nil {σ : S_t} {s : Nat} (h1 : gI σ 9 s = 0) (h2 : gI σ 10 s = 0) (h3 : gI σ 11 s = 0) (h4 : gI σ 12 s = 0) : MoR σ s [] := ⟨h1, h2, h3, 0, Nat.le_refl _, h4, fun k hk => absurd hk (Nat.not_lt_zero k)⟩
theorem WfR_nil : WfR [] := ⟨⟨fun h => absurd h (Nat.lt_irrefl 0), fun k _ h => absurd h (Nat.not_lt_zero _)⟩, fun k hk => absurd hk (Nat.not_lt_zero k), fun k _ hk => absurd hk (Nat.not_lt_zero k), fun h => absurd h (Nat.lt_irrefl 0), Nat.zero_le _, Nat.zero_le _⟩
/-- the model begins a document -/
theorem c_begin {E : En_t} {d : Nat} {σ : S_t} : CV E d m_Mo_beginMade [pv E 0] σ (fun σ' => Fg MMk σ σ' ∧ MoB σ' (some [])) := by
  have in8 : vp_in (8 : Int32) 9 := vin (show 8 < 9 by decide) (by decide)
  refine CE.of (L := [(0, pv E 0)]) rfl (Nat.le_of_ble_eq_true rfl) rfl (b_Mo_beginMade_0 ⟨in8, in8, in8, in8, fun σ1 e1 => ⟨rfl, ?_, ?_⟩⟩)
  · rw [e1]
    exact ((((Fg.rf.si (Or.inl (Or.inl ⟨by decide, by decide, rfl⟩))).si (Or.inl (Or.inl ⟨by decide, by decide, rfl⟩))).si (Or.inl (Or.inl ⟨by decide, by decide, rfl⟩))).si (Or.inl (Or.inl ⟨by decide, by decide, rfl⟩))).si (Or.inr (Or.inr ⟨rfl, rfl⟩))
  · rw [e1]
    exact ⟨rfl, MoR_nil rfl rfl rfl rfl, fun h => absurd h (Nat.lt_irrefl 0), WfR_nil⟩
