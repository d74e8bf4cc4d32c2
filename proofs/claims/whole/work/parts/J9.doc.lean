/-! document -/
theorem ruA_f {l : List Nat} {num : Nat → Option Nat × Nat} : ∀ {n : Nat} {s : St} {f : Nat × Nat}, ruA l num n s = some (Sum.inl f) → 1 ≤ f.1 ∧ f.1 ≤ 5 := by
  intro n
  induction n with
  | zero =>
    intro s f h
    have h' : (if s.2.1 = 7 then some (Sum.inr s) else none) = some (Sum.inl f) := h
    by_cases h7 : s.2.1 = 7
    · rw [if_pos h7] at h'; cases h'
    · rw [if_neg h7] at h'; cases h'
  | succ n ih =>
    intro s f h
    have h' : (if s.2.1 = 7 then some (Sum.inr s) else match stA l num s with | Sum.inl f => some (Sum.inl f) | Sum.inr s' => ruA l num n s') = some (Sum.inl f) := by rw [← h]; show _ = (if _ then _ else _); split <;> first | rfl | (cases stA l num s <;> rfl)
    by_cases h7 : s.2.1 = 7
    · rw [if_pos h7] at h'; cases h'
    · rw [if_neg h7] at h'
      cases hs : stA l num s with
      | inl g =>
        rw [hs] at h'
        have : g = f := Sum.inl.inj (Option.some.inj h')
        rw [← this]
        exact stA_f hs
      | inr s' => rw [hs] at h'; exact ih h'
theorem fnA_f {l : List Nat} {z : Rz} {f : Nat × Nat} (hz : ∀ g, z = Sum.inl g → 1 ≤ g.1 ∧ g.1 ≤ 5) (h : fnA l z = Sum.inl f) : 1 ≤ f.1 ∧ f.1 ≤ 5 := by
  cases z with
  | inl g =>
    have : g = f := Sum.inl.inj h
    rw [← this]; exact hz g rfl
  | inr s =>
    have h' : (if bk l s.1 < l.length then Sum.inl (1, bk l s.1) else Sum.inr s) = (Sum.inl f : Rz) := h
    by_cases q : bk l s.1 < l.length
    · rw [if_pos q] at h'
      have : (1, bk l s.1) = f := Sum.inl.inj h'
      rw [← this]
      exact ⟨Nat.le_refl _, by show 1 ≤ 5; decide⟩
    · rw [if_neg q] at h'; cases h'
theorem fnA_r {l : List Nat} {z : Rz} {s : St} (h : fnA l z = Sum.inr s) : z = Sum.inr s := by
  cases z with
  | inl g => cases h
  | inr s' =>
    have h' : (if bk l s'.1 < l.length then Sum.inl (1, bk l s'.1) else Sum.inr s') = (Sum.inr s : Rz) := h
    by_cases q : bk l s'.1 < l.length
    · rw [if_pos q] at h'; cases h'
    · rw [if_neg q] at h'; rw [Sum.inr.inj h']
/-- where the class writes -/
def MD1 (t : Nat) : Nat → Nat → Prop := fun p k => MRe p k ∨ AM t p k ∨ (p = 49 ∧ k = 10) ∨ (p = 51 ∧ (k = 1 ∨ k = 2))
def MD2 (t to : Nat) : Nat → Nat → Prop := fun p k => MD1 t p k ∨ MRm p k ∨ (p = 0 ∧ k = 1) ∨ MWk p k ∨ MSv to p k
theorem Sim_doc {M : Nat → Nat → Prop} {σ τ : S_t} (hI : Sim Shv σ) (hF : ∀ p k, ¬ M p k → gI τ p k = gI σ p k) (hM : ∀ p k, M p k → p ≠ 2 ∧ p ≠ 53 ∧ p ≠ 54 ∧ ¬ (p = 0 ∧ (k = 3 ∨ k = 4))) (h1 : gI τ 0 1 = 0) (h2 : gI τ 51 1 = 0) (h3 : gI τ 0 42 = gI τ 49 10) (hs : Shv τ) : Sim Shv τ := by
  obtain ⟨tp, o, t1, t2, t3, t4, o1, o2, o3, pl, _⟩ := hI
  have key : ∀ p k, (p = 2 ∨ p = 53 ∨ p = 54 ∨ (p = 0 ∧ (k = 3 ∨ k = 4))) → gI τ p k = gI σ p k := fun p k h => hF p k (fun z => by have := hM p k z; omega)
  exact ⟨[], o, ⟨h1, fun k hk => absurd hk (Nat.not_lt_zero k)⟩, ⟨h2, fun k hk => absurd hk (Nat.not_lt_zero k)⟩, Nat.zero_le _, fun x hx => absurd hx List.not_mem_nil, ⟨by rw [key 0 3 (by omega)]; exact o1.1, by rw [key 0 4 (by omega)]; exact o1.2.1, fun k hk => by rw [key 2 k (by omega)]; exact o1.2.2 k hk⟩, ⟨by rw [key 53 1 (by omega)]; exact o2.1, o2.2.1, fun k hk => by rw [key 54 k (by omega)]; exact o2.2.2 k hk⟩, o3, h3, hs⟩
theorem MD2_free {t to p k : Nat} (ht : 72 ≤ t ∧ t ≤ 168) (h : MD2 t to p k) : p ≠ 2 ∧ p ≠ 53 ∧ p ≠ 54 ∧ ¬ (p = 0 ∧ (k = 3 ∨ k = 4)) := by
  unfold MD2 MD1 MRe AM TPl MRm MWk MKr MMk MSv MoC at h; omega
theorem MD2_E {t to : Nat} (ht : 72 ≤ t ∧ t ≤ 168) : MkE (MD2 t to) t (some to) := fun p k h hE => by
  rcases h with h | h | h | h | h
  · rcases h with h | h | h | h
    · exfalso; unfold MRe at h; unfold ShE at hE; omega
    · rcases h with h | h
      · exact Or.inr (Or.inr h)
      · exfalso; unfold ShE at hE; omega
    · exfalso; unfold ShE at hE; omega
    · exfalso; unfold ShE at hE; omega
  · exfalso; unfold MRm at h; unfold ShE at hE; omega
  · exfalso; unfold ShE at hE; omega
  · rcases h with h | h
    · rcases h with h | h
      · rcases h with h | h
        · exact Or.inr (Or.inl h)
        · exfalso; unfold ShE at hE; omega
      · exfalso; unfold ShE at hE; omega
    · exfalso; unfold ShE at hE; omega
  · exact Or.inl ⟨to, rfl, h⟩
theorem op_document (E : En_t) : Op_7 E 40 (Sim Shv) (Sim Shv) := by
  intro a0 σ hI
  have hSh := Sim_Shv hI
  obtain ⟨tp, o, t1, t2, t3, t4, o1, o2, o3, pl, _⟩ := id hI
  obtain ⟨hw, π, hP, hS⟩ := id hSh
  have p8 := hP.1 8 (by omega)
  have k8 := kind_tr (π 8) (by omega)
  have ht : 72 ≤ tr (π 8) ∧ tr (π 8) ≤ 168 := by unfold tr; omega
  obtain ⟨num, nO, nS⟩ := num_ex tp
  have tcm : ∀ {τ : S_t}, (∀ k, gI τ 1 k = gI σ 1 k) → TcM τ tp := fun {τ} h k hk => by rw [h]; exact t1.2 k hk
  -- the model, from any state that the class leaves
  have model : ∀ (v : Int32) (to : Nat) (z : Rz) (τ : S_t), to < 8 → ruA tp num 4001 s0A = some z → (∀ s, z = Sum.inr s → InS tp s ∧ s.2.1 = 7) → (∀ p k, ¬ MD1 (tr (π 8)) p k → gI τ p k = gI σ p k ∧ gL τ p k = gL σ p k) → gI τ 51 1 = 0 → (match fnA tp z with | Sum.inl f => v = nI f.1 ∧ gI τ 49 10 = nI f.2 ∧ τ.2.2 = σ.2.2 ∧ (∀ p k, AM (tr (π 8)) p k → gI τ p k = gI σ p k ∧ gL τ p k = gL σ p k) | Sum.inr s => v = 0 ∧ gI τ 49 10 = -1 ∧ τ.2.2 = (swp σ (π to) (π 8) to).2.2 ∧ TrD τ (tr (π 8)) (rws s.2.2.2.1 (prE s.2.2.2.1 0)) ∧ WfD (rws s.2.2.2.1 (prE s.2.2.2.1 0))) → CI E 40 m_Mo_document [pv E 0, .int (nI to)] τ (fun r2 σ2 => v = r2 ∧ Sim Shv σ2) := by
    intro v to z τ hto hz hzs hF h51 hv
    have n1 : ∀ p k, p ≤ 48 → gI τ p k = gI σ p k ∧ gL τ p k = gL σ p k := fun p k h => hF p k (by unfold MD1 MRe AM TPl; omega)
    refine CE.of (L := [(0, pv E 0), (1, .int (nI to))]) rfl (Nat.le_of_ble_eq_true rfl) rfl (b_Mo_document_0 (d := 39) (c_isShM.mono (fun r2 σ1 hq => ?_)))
    obtain ⟨hσ, hq⟩ := hq
    subst hσ
    rcases hq with ⟨_, h⟩ | ⟨rfl, _⟩
    · exact absurd h (x_sh hto rfl)
    refine ⟨fun _ => ?_, fun q => absurd q (by decide)⟩
    rw [(n1 0 1 (by omega)).1, t1.1]
    have F0 : Fg (fun p k => p = 0 ∧ k = 1) σ1 (sI σ1 0 1 (0 : Int32)) := Fg.rf.si ⟨rfl, rfl⟩
    refine (c_readM (d := 33) (num := num) (fun k hk => by rw [F0.1 40 k (by omega), (n1 40 k (by omega)).1]; exact hw k hk) (tcm (fun k => by rw [F0.1 1 k (by omega), (n1 1 k (by omega)).1])) t4 t3 nO nS).mono (fun r4 σ3 hq => ?_)
    obtain ⟨F3, z', hz', _, hR⟩ := hq
    have : z = z' := Option.some.inj (hz.symm.trans hz')
    subst this
    have g3 : ∀ p k, ¬ MRm p k → ¬ (p = 0 ∧ k = 1) → gI σ3 p k = gI σ1 p k ∧ gL σ3 p k = gL σ1 p k := fun p k a b => ⟨by rw [F3.1 p k a, F0.1 p k b], by rw [F3.2.1 p k a, F0.2.1 p k b]⟩
    have z01 : gI σ3 0 1 = 0 := by rw [F3.1 0 1 (by unfold MRm; omega), gI_sI_s]
    cases hfn : fnA tp z with
    | inl f =>
      rw [hfn] at hv hR
      obtain ⟨v1, v2, v3, v4⟩ := hv
      obtain ⟨rfl, r1, r2⟩ := hR
      refine ⟨fun q => absurd rfl q, fun _ => ⟨_, rfl, by rw [v1, r1], ?_⟩⟩
      have cell : ∀ p k, ¬ (MRe p k ∨ (p = 49 ∧ k = 10) ∨ (p = 51 ∧ (k = 1 ∨ k = 2)) ∨ MRm p k ∨ (p = 0 ∧ k = 1)) → gI σ3 p k = gI σ p k ∧ gL σ3 p k = gL σ p k := fun p k h => by
        obtain ⟨a, b⟩ := g3 p k (fun y => h (Or.inr (Or.inr (Or.inr (Or.inl y))))) (fun y => h (Or.inr (Or.inr (Or.inr (Or.inr y)))))
        by_cases c : AM (tr (π 8)) p k
        · exact ⟨a.trans (v4 p k c).1, b.trans (v4 p k c).2⟩
        · obtain ⟨e, f⟩ := hF p k (fun y => by
            unfold MD1 at y
            rcases y with y | y | y | y
            · exact h (Or.inl y)
            · exact c y
            · exact h (Or.inr (Or.inl y))
            · exact h (Or.inr (Or.inr (Or.inl y))))
          exact ⟨a.trans e, b.trans f⟩
      have FF : Fg (fun p k => MRe p k ∨ (p = 49 ∧ k = 10) ∨ (p = 51 ∧ (k = 1 ∨ k = 2)) ∨ MRm p k ∨ (p = 0 ∧ k = 1)) σ σ3 := ⟨fun p k h => (cell p k h).1, fun p k h => (cell p k h).2, by rw [F3.2.2, F0.2.2, v3]⟩
      refine Sim_doc hI FF.1 (fun p k y => by unfold MRe MRm at y; omega) z01 ?_ ?_ (Shv_keepE hw hP hS (M := fun p k => MRe p k ∨ (p = 49 ∧ k = 10) ∨ (p = 51 ∧ (k = 1 ∨ k = 2)) ∨ MRm p k ∨ (p = 0 ∧ k = 1)) (fun p k y hE => by exfalso; unfold MRe MRm at y; unfold ShE at hE; omega) FF)
      · rw [(g3 51 1 (by unfold MRm; omega) (by omega)).1]; exact h51
      · rw [r2, (g3 49 10 (by unfold MRm; omega) (by omega)).1, v2]
    | inr s =>
      rw [hfn] at hv hR
      obtain ⟨v1, v2, v3, v4, v5⟩ := hv
      obtain ⟨rfl, r0, r1, r2⟩ := hR
      obtain ⟨hIn, h7⟩ := hzs s (fnA_r hfn)
      obtain ⟨i1, i2, i3, i4, i5, i6, i7, i8, i9⟩ := hIn
      have hpos : 0 < s.2.2.2.1.1 := by
        rw [h7] at i8
        unfold wOk at i8
        simp at i8
        exact i8.2
      refine ⟨fun _ => ?_, fun q => absurd q (by decide)⟩
      refine (c_makeReadM (d := 31) i3 hpos (by omega) (by omega) r2).mono (fun σ5 hq => ?_)
      obtain ⟨F5, B5⟩ := hq
      refine (c_shelve (d := 39) hto B5.2.2.2 B5.2.1).mono (fun σ6 hq => ⟨_, rfl, v1, ?_⟩)
      obtain ⟨F6, M6, e8⟩ := hq
      have cell : ∀ p k, ¬ (MRm p k ∨ (p = 0 ∧ k = 1) ∨ MWk p k ∨ MSv to p k) → gI σ6 p k = gI σ1 p k ∧ gL σ6 p k = gL σ1 p k := fun p k h => by
        obtain ⟨a, b⟩ := g3 p k (fun y => h (Or.inl y)) (fun y => h (Or.inr (Or.inl y)))
        have c1 : ¬ MWk p k := fun y => h (Or.inr (Or.inr (Or.inl y)))
        have c2 : ¬ MSv to p k := fun y => h (Or.inr (Or.inr (Or.inr y)))
        exact ⟨by rw [F6.1 p k c2, F5.1 p k c1]; exact a, by rw [F6.2.1 p k c2, F5.2.1 p k c1]; exact b⟩
      have FF : Fg (MD2 (tr (π 8)) to) (swp σ (π to) (π 8) to) σ6 := by
        refine ⟨fun p k h => ?_, fun p k h => ?_, ?_⟩
        · have h' : ¬ (MRm p k ∨ (p = 0 ∧ k = 1) ∨ MWk p k ∨ MSv to p k) := fun y => h (Or.inr y)
          rw [(cell p k h').1, (hF p k (fun y => h (Or.inl y))).1]; rfl
        · have h' : ¬ (MRm p k ∨ (p = 0 ∧ k = 1) ∨ MWk p k ∨ MSv to p k) := fun y => h (Or.inr y)
          rw [(cell p k h').2, (hF p k (fun y => h (Or.inl y))).2]; rfl
        · rw [F6.2.2, F5.2.2, F3.2.2, F0.2.2, v3]
      have T6 : TrD σ6 (tr (π 8)) (rws s.2.2.2.1 (prE s.2.2.2.1 0)) := TrD_fr (fun p k a b => cell p k (by unfold MRm MWk MKr MMk MSv MoC; omega)) v4
      have s42 : gI σ6 0 42 = -1 := by rw [F6.1 0 42 (by unfold MSv MoC; omega), F5.1 0 42 (by unfold MWk MKr MMk MoC; omega)]; exact r1
      refine Sim_doc (M := MD2 (tr (π 8)) to) hI (fun p k h => FF.1 p k h) (fun p k y => MD2_free ht y) ?_ ?_ ?_ (Shv_putE hw hP hS hto (MD2_E ht) FF v5 M6 e8 T6)
      · rw [F6.1 0 1 (by unfold MSv MoC; omega), F5.1 0 1 (by unfold MWk MKr MMk MoC; omega)]; exact z01
      · rw [(cell 51 1 (by unfold MRm MWk MKr MMk MSv MoC; omega)).1]; exact h51
      · rw [s42, (cell 49 10 (by unfold MRm MWk MKr MMk MSv MoC; omega)).1, v2]
  refine CE.of (L := [(0, pv E 49), (1, .int a0)]) rfl (Nat.le_of_ble_eq_true rfl) rfl (b_Cp_document_0 (d := 39) (c_isShC.mono (fun r σ1 hq => ?_)))
  obtain ⟨hσ, hq⟩ := hq
  subst hσ
  rcases hq with ⟨rfl, hn⟩ | ⟨rfl, to, hto, rfl⟩
  · refine ⟨fun q => absurd rfl q, fun _ => ⟨_, rfl, ?_⟩⟩
    refine CE.of (L := [(0, pv E 0), (1, .int a0)]) rfl (Nat.le_of_ble_eq_true rfl) rfl (b_Mo_document_0 (d := 39) (c_isShM.mono (fun r2 σ2 hq => ?_)))
    obtain ⟨hσ, hq⟩ := hq
    subst hσ
    rcases hq with ⟨rfl, _⟩ | ⟨rfl, i, hi, hx⟩
    · exact ⟨fun q => absurd rfl q, fun _ => ⟨_, rfl, rfl, hI⟩⟩
    · exact absurd hn (x_sh hi hx)
  refine ⟨fun _ => ⟨tr (π 8), hP.2.2.2, k8, ?_⟩, fun q => absurd q (by decide)⟩
  have hct : (nI to).toNatClampNeg = to := nI_clamp (by omega)
  have pto := hP.1 to (by omega)
  refine CE.of (L := [(0, pv E 63), (1, pv E (tr (π 8)))]) rfl (Nat.le_of_ble_eq_true rfl) rfl (c_readC (d := 30) k8 t2 t4 t3 nO nS (fun z τ hz hzs hF hR => ?_))
  -- behind the reading
  have mre : ∀ p k, MRe p k → MD1 (tr (π 8)) p k := fun p k h => Or.inl h
  cases hfn : fnA tp z with
  | inl f =>
    rw [hfn] at hR
    obtain ⟨f1, f5⟩ := fnA_f (fun g hg => ruA_f (by rw [hz, hg])) hfn
    obtain ⟨r1, r2⟩ := hR
    have hne : ¬ gI τ 63 13 = 0 := by rw [r1]; intro y; have := (nI_is0 f.1 (by omega)).mp y; omega
    refine b_Re_read_130 (d := 38) k8 ⟨fun _ => ⟨_, rfl, ?_⟩, fun y => absurd y hne⟩
    refine ⟨fun _ => ?_, fun y => absurd y hne⟩
    refine b_Cp_document_37 (d := 39) (c_clearT.mono (fun σ2 hq => ?_))
    obtain ⟨F2, C2⟩ := hq
    refine ⟨fun _ => ⟨_, rfl, ?_⟩, fun y => absurd y hne⟩
    have A1 : Fg (fun p k => MRe p k ∨ (p = 49 ∧ k = 10) ∨ (p = 51 ∧ (k = 1 ∨ k = 2))) σ1 τ := hF.mono (fun p k y => Or.inl y)
    have FF : Fg (fun p k => MRe p k ∨ (p = 49 ∧ k = 10) ∨ (p = 51 ∧ (k = 1 ∨ k = 2))) σ1 σ2 := (A1.si (Or.inr (Or.inl ⟨rfl, rfl⟩))).tr (F2.mono (fun p k y => Or.inr (Or.inr y)))
    refine model _ to z σ2 hto hz hzs (fun p k h => ?_) C2.1 ?_
    · have : ¬ (MRe p k ∨ (p = 49 ∧ k = 10) ∨ (p = 51 ∧ (k = 1 ∨ k = 2))) := fun y => h (y.elim Or.inl (fun x => x.elim (fun w => Or.inr (Or.inr (Or.inl w))) (fun w => Or.inr (Or.inr (Or.inr w)))))
      exact ⟨FF.1 p k this, FF.2.1 p k this⟩
    · rw [hfn]
      refine ⟨r1, ?_, FF.2.2, fun p k h => ?_⟩
      · rw [F2.1 49 10 (by omega), gI_sI_s]; exact r2
      · have : ¬ (MRe p k ∨ (p = 49 ∧ k = 10) ∨ (p = 51 ∧ (k = 1 ∨ k = 2))) := by unfold AM TPl at h; unfold MRe; omega
        exact ⟨FF.1 p k this, FF.2.1 p k this⟩
  | inr s =>
    rw [hfn] at hR
    obtain ⟨r1, r2⟩ := hR
    obtain ⟨hIn, h7⟩ := hzs s (fnA_r hfn)
    obtain ⟨i1, i2, i3, i4, i5, i6, i7, i8, i9⟩ := hIn
    have hpos : 0 < s.2.2.2.1.1 := by
      rw [h7] at i8
      unfold wOk at i8
      simp at i8
      exact i8.2
    refine b_Re_read_130 (d := 38) k8 ⟨fun y => absurd r1 y, fun _ => (c_arrange (d := 34) p8 i3 hpos (by omega) (by omega) r2).mono (fun σ4 hq => ?_)⟩
    obtain ⟨F4, T4, W4⟩ := hq
    have e13 : gI σ4 63 13 = 0 := by rw [F4.1 63 13 (by unfold AM TPl; omega)]; exact r1
    rw [e13]
    refine ⟨_, rfl, fun y => absurd rfl y, fun _ => ?_⟩
    refine b_Cp_document_37 (d := 39) (c_clearT.mono (fun σ5 hq => ?_))
    obtain ⟨F5, C5⟩ := hq
    have A1 : Fg (MD1 (tr (π 8))) σ1 τ := hF.mono (fun p k y => Or.inl y)
    have A2 : Fg (MD1 (tr (π 8))) τ σ4 := F4.mono (fun p k y => Or.inr (Or.inl y))
    have A3 : ∀ {ρ : S_t}, Fg (fun p k => p = 51 ∧ (k = 1 ∨ k = 2)) ρ σ5 → Fg (MD1 (tr (π 8))) ρ σ5 := fun h => h.mono (fun p k y => Or.inr (Or.inr (Or.inr y)))
    have FF : Fg (MD1 (tr (π 8))) σ1 σ5 := ((A1.tr A2).si (Or.inr (Or.inr (Or.inl ⟨rfl, rfl⟩)))).tr (A3 F5)
    have gR5 : ∀ p k, gR σ5 p k = gR σ1 p k := fun p k => gR_2 FF.2.2 p k
    refine ⟨fun y => absurd rfl y, fun _ => CE.of (L := [(0, pv E 49), (1, .int (nI to))]) rfl (Nat.le_of_ble_eq_true rfl) rfl (b_Cp_bringSpareTo_0 ?_)⟩
    rw [hct]
    refine ⟨vin hto (by decide), tr (π to), by rw [gR5]; exact hP.2.2.1 to hto, kind_tr (π to) (by omega), tr (π 8), by rw [gR5]; exact hP.2.2.2, k8, vin hto (by decide), rfl, _, rfl, ?_⟩
    refine model 0 to z _ hto hz hzs (fun p k h => ⟨FF.1 p k h, FF.2.1 p k h⟩) C5.1 ?_
    rw [hfn]
    refine ⟨rfl, ?_, ?_, ?_, W4⟩
    · show gI σ5 49 10 = -1
      rw [F5.1 49 10 (by omega), gI_sI_s]
    · show (swp σ5 (π to) (π 8) to).2.2 = (swp σ1 (π to) (π 8) to).2.2
      unfold swp sR
      rw [FF.2.2]
    · refine TrD_fr (σ := σ4) (fun p k a b => ?_) T4
      have n5 : ¬ (p = 51 ∧ (k = 1 ∨ k = 2)) := by omega
      show gI σ5 p k = _ ∧ gL σ5 p k = _
      rw [F5.1 p k n5, F5.2.1 p k n5, gI_sI_n (Or.inl (by omega)), gL_sI]
      exact ⟨rfl, rfl⟩
