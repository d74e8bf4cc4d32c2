/-! the class reads all -/
theorem c_blkX {E : En_t} {d : Nat} {l : List Nat} {σ : S_t} (hT : TpC σ l) (hb : Bt l) (hl : l.length ≤ 2000) : CV E (d + 1) m_Te_skipBlanks [pv E 51] σ (fun σ' => Fg (fun p k => p = 51 ∧ k = 2) σ σ') := by
  have e := nI_un (gI σ 51 2)
  by_cases h : un (gI σ 51 2) ≤ l.length
  · exact (c_blkC (p := un (gI σ 51 2)) hT hb hl h e.symm).mono (fun σ' hq => hq.1)
  · refine CE.of (L := [(0, pv E 51)]) rfl (Nat.le_of_ble_eq_true rfl) rfl (b_Te_skipBlanks_0 ⟨fun _ => ⟨rfl, Fg.rf⟩, fun q => ⟨fun _ => ⟨rfl, Fg.rf⟩, fun q2 => absurd ?_ q2⟩⟩)
    have hlt : un (gI σ 51 2) < 2 ^ 31 := by
      rcases un_cases (gI σ 51 2) with z | z
      · omega
      · exfalso
        apply q
        rw [Int32.lt_iff_toInt_lt, z.2]
        have := un_lt (gI σ 51 2)
        show _ < (0 : Int)
        omega
    rw [hT.1, ← e]
    exact nI_le (by omega) hlt
def fnA (l : List Nat) (z : Rz) : Rz := match z with
  | Sum.inl f => Sum.inl f
  | Sum.inr s => if bk l s.1 < l.length then Sum.inl (1, bk l s.1) else Sum.inr s
def RfC (σ : S_t) (z : Rz) : Prop := match z with
  | Sum.inl f => gI σ 63 13 = nI f.1 ∧ gI σ 63 14 = nI f.2
  | Sum.inr s => gI σ 63 13 = 0 ∧ DrC σ s.2.2.2.1 s.2.2.2.2.1
theorem c_beginC {E : En_t} {d : Nat} {σ : S_t} : CV E (d + 1) m_Re_begin [pv E 63] σ (fun σ' => Fg MRe σ σ' ∧ RdS σ' s0A) := by
  refine CE.of (L := [(0, pv E 63)]) rfl (Nat.le_of_ble_eq_true rfl) rfl (b_Re_begin_0 (CE.of (L := [(0, pv E 180)]) rfl (Nat.le_of_ble_eq_true rfl) rfl (b_Tr_clear_0 (by decide) ⟨rfl, fun σ2 e2 => ⟨rfl, ?_⟩⟩)))
  have mr : ∀ k, MRe 63 k := fun k => Or.inr (Or.inl ⟨by decide, by decide⟩)
  have m8 : ∀ k, MRe 180 k := fun k => Or.inr (Or.inr (Or.inl ⟨by decide, by decide⟩))
  refine ⟨?_, ?_⟩
  · rw [e2]
    exact (((((((((((Fg.rf.si (Or.inl ⟨rfl, rfl⟩)).si (m8 _)).si (m8 _)).si (m8 _)).si (m8 _)).si (mr _)).si (mr _)).si (mr _)).si (mr _)).si (mr _)).si (mr _)).si (mr _) |>.si (mr _)
  · rw [e2]
    refine ⟨?_, ?_, ?_, ?_, ?_, ?_, fun _ z => (by cases z), ?_, ⟨⟨?_, ?_, ?_, fun k hk => absurd hk (Nat.not_lt_zero k)⟩, ?_, fun k hk => absurd hk (Nat.not_lt_zero k), fun k hk => absurd hk (Nat.not_lt_zero k)⟩⟩ <;> first | (simp [gI_sI]; done) | (simp [gI_sI]; rfl)
theorem c_readC {E : En_t} {d o1 : Nat} {l : List Nat} {num : Nat → Option Nat × Nat} {σ : S_t} {Q : Option Value → S_t → Prop} (ho : kindP o1 = 11) (hT : TpC σ l) (hb : Bt l) (hl : l.length ≤ 2000) (hO : NumO l num) (hN : NumS l num) (K : ∀ z τ, ruA l num 4001 s0A = some z → (∀ s, z = Sum.inr s → InS l s ∧ s.2.1 = 7) → Fg MRe σ τ → RfC τ (fnA l z) → JE E (d + 9) m_Re_read 130 [(0, pv E 63), (1, pv E o1)] [] τ Q) : JE E (d + 9) m_Re_read 0 [(0, pv E 63), (1, pv E o1)] [] σ Q := by
  have tp : ∀ {τ : S_t}, Fg MRe σ τ → TpC τ l := fun {τ} hF => TpC_fg hF (by unfold MRe; omega) (fun k => by unfold MRe; omega) hT
  have fin : ∀ z τ, ruA l num 4001 s0A = some z → (∀ s, z = Sum.inr s → InS l s ∧ s.2.1 = 7) → (∀ f, z = Sum.inl f → 1 ≤ f.1 ∧ f.1 ≤ 5) → Fg MRe σ τ → RsC τ z → JE E (d + 9) m_Re_read 78 [(0, pv E 63), (1, pv E o1)] [] τ Q := by
    intro z τ hz hs hf hF hR
    refine b_Re_read_78 (d := d + 8) ho ?_
    cases z with
    | inl f =>
      obtain ⟨f1, f5⟩ := hf f rfl
      refine (c_blkX (d := d + 7) (tp hF) hb hl).mono (fun σ1 F1 => ?_)
      have r13 : gI σ1 63 13 = nI f.1 := by rw [F1.1 63 13 (by omega)]; exact hR.1
      have r14 : gI σ1 63 14 = nI f.2 := by rw [F1.1 63 14 (by omega)]; exact hR.2
      have F1' : Fg MRe σ σ1 := hF.tr (F1.mono (fun p k y => Or.inl y))
      refine ⟨fun _ => K _ _ hz hs F1' ⟨r13, r14⟩, fun q => ?_⟩
      rw [r13] at q
      exact absurd ((nI_is0 f.1 (by omega)).mp q) (by omega)
    | inr s =>
      obtain ⟨hI, h7⟩ := hs s rfl
      obtain ⟨h2, h7', h8, h9, h10, h11, h12, h13, hD⟩ := hR
      refine (c_blkC (d := d + 7) (tp hF) hb hl hI.1 h2).mono (fun σ1 hq => ?_)
      obtain ⟨F1, a2⟩ := hq
      have hB : s.1 ≤ bk l s.1 ∧ bk l s.1 ≤ l.length := bkF_fit _ s.1 hI.1
      have F1' : Fg MRe σ σ1 := hF.tr (F1.mono (fun p k y => Or.inl y))
      have r13 : gI σ1 63 13 = 0 := by rw [F1.1 63 13 (by omega)]; exact h13
      have r7 : gI σ1 63 7 = 7 := by rw [F1.1 63 7 (by omega), h7', h7]; rfl
      rw [r13, r7, (tp F1').1, a2]
      refine ⟨fun q => absurd rfl q, fun _ => ⟨fun q => absurd rfl q, fun _ => ⟨fun q => ?_, fun q => ?_⟩⟩⟩
      · have hge : ¬ bk l s.1 < l.length := fun y => absurd q (nI_ge y (by omega))
        refine K _ _ hz hs F1' ?_
        unfold fnA
        simp only [if_neg hge]
        exact ⟨r13, DrC_fg F1 (fun p k y => by omega) hD⟩
      · have hlt : bk l s.1 < l.length := Nat.not_le.mp (fun y => q (nI_le y (by omega)))
        refine b_Re_read_118 (d := d + 8) ho ?_
        rw [a2]
        refine (c_blame (f := 1)).mono (fun σ4 hq4 => K _ _ hz hs (F1'.tr (hq4.1.mono (fun p k z => M63_R z))) ?_)
        unfold fnA
        simp only [if_pos hlt]
        exact hq4.2
  have loop : ∀ (n i : Nat) (s : St) (τ : S_t), i + n = 4001 → InS l s → mu l s.1 s.2.1 ≤ n → ruA l num n s = ruA l num 4001 s0A → RdS τ s → Fg MRe σ τ → JE E (d + 9) m_Re_read 6 [(0, pv E 63), (1, pv E o1), (2, .int (nI i))] [] τ Q := by
    intro n
    induction n with
    | zero => intro i s τ hi hI hm; have := mu_pos hI; omega
    | succ n ih =>
      intro i s τ hi hI hm hr hS hF
      obtain ⟨h2, h7, h8, h9, h10, h11, h12, h13, hD⟩ := id hS
      have w7' : s.2.1 ≤ 7 := by have := hI.2.2.2.2.2.2.2.1; unfold wOk at this; omega
      have ew : ∀ c, c < 8 → (gI τ 63 7 = nI c ↔ s.2.1 = c) := fun c hc => by rw [h7]; exact nI_eq (by omega) (by omega)
      refine b_Re_read_6 (d := d + 8) ho ⟨fun q => absurd q (nI_nlt (a := 4000) (b := i) (by omega) (by omega)), fun _ => ⟨fun q => ?_, fun q => ⟨fun q2 => absurd h13 q2, fun _ => ?_⟩⟩⟩
      · have h77 : s.2.1 = 7 := (ew 7 (by decide)).mp q
        have e : ruA l num (n + 1) s = some (Sum.inr s) := by unfold ruA; rw [if_pos h77]
        exact fin (Sum.inr s) τ (by rw [← hr, e]) (fun s' e' => by cases e'; exact ⟨hI, h77⟩) (fun f e' => by cases e') hF hS
      · have n7 : s.2.1 ≠ 7 := fun z => q ((ew 7 (by decide)).mpr z)
        have hru : ruA l num (n + 1) s = match stA l num s with | Sum.inl f => some (Sum.inl f) | Sum.inr s' => ruA l num n s' := by
          show (if s.2.1 = 7 then _ else _) = _
          rw [if_neg n7]
          cases stA l num s <;> rfl
        have next : ∀ σ4, Fg MRe τ σ4 → RsC σ4 (stA l num s) → JE E (d + 9) m_Re_read 72 [(0, pv E 63), (1, pv E o1), (2, .int (nI i))] [] σ4 Q := by
          intro σ4 F4 hR
          refine b_Re_read_72 (d := d + 8) ho ?_
          rw [nI_1]
          cases hs : stA l num s with
          | inl f =>
            rw [hs] at hR hru
            obtain ⟨f1, f5⟩ := stA_f hs
            have to78 : JE E (d + 9) m_Re_read 78 [(0, pv E 63), (1, pv E o1)] [] σ4 Q := fin (Sum.inl f) σ4 (by rw [← hr, hru]) (fun s' e' => by cases e') (fun f' e' => by cases e'; exact ⟨f1, f5⟩) (hF.tr F4) hR
            refine b_Re_read_6 (d := d + 8) ho ⟨fun _ => to78, fun _ => ⟨fun _ => to78, fun _ => ⟨fun _ => to78, fun z => ?_⟩⟩⟩
            rw [hR.1] at z
            exact absurd ((nI_is0 f.1 (by omega)).mp z) (by omega)
          | inr s1 =>
            rw [hs] at hR hru
            obtain ⟨i1, i2⟩ := stA_in hb hO hI n7 hs
            exact ih (i + 1) s1 σ4 (by omega) i1 (by omega) (by rw [← hr, hru]) hR (hF.tr F4)
        refine ⟨fun q6 => ?_, fun q6 => ?_⟩
        · have n6 : s.2.1 ≠ 6 := fun z => q6 ((ew 6 (by decide)).mpr z)
          have es : stA l num s = neA l (bk l s.1) s.2.1 s.2.2.1 s.2.2.2.1 s.2.2.2.2.1 s.2.2.2.2.2.1 s.2.2.2.2.2.2 := if_neg n6
          refine (c_blkC (d := d + 7) (tp hF) hb hl hI.1 h2).mono (fun σ1 hq => ?_)
          obtain ⟨F1, a2⟩ := hq
          have hB : s.1 ≤ bk l s.1 ∧ bk l s.1 ≤ l.length := bkF_fit _ s.1 hI.1
          have F1' : Fg MRe τ σ1 := F1.mono (fun p k y => Or.inl y)
          have g63 : ∀ k, gI σ1 63 k = gI τ 63 k := fun k => F1.1 63 k (by omega)
          have hS1 : RcA σ1 (bk l s.1) s.2.1 s.2.2.1 s.2.2.2.1 s.2.2.2.2.1 s.2.2.2.2.2.1 s.2.2.2.2.2.2 := ⟨a2, by rw [g63]; exact h7, by rw [g63]; exact h8, by rw [g63]; exact h9, by rw [g63]; exact h10, by rw [g63]; exact h11, fun a b => by rw [g63]; exact h12 a b, by rw [g63]; exact h13, DrC_fg F1 (fun p k y => by omega) hD⟩
          refine (c_hereC (tp (hF.tr F1')) hb hl (by omega) a2).mono (fun r3 σ2 hq => ?_)
          obtain ⟨rfl, rfl⟩ := hq
          refine (c_nextC (d := d) (tp (hF.tr F1')) hb hl hB.1 hB.2 hI n6 n7 hS1).mono (fun σ4 hq4 => next σ4 (F1'.tr hq4.1) (by rw [es]; exact hq4.2))
        · have h66 : s.2.1 = 6 := (ew 6 (by decide)).mp q6
          have es : stA l num s = reA l num s.1 s.2.2.1 s.2.2.2.1 s.2.2.2.2.1 s.2.2.2.2.2.1 s.2.2.2.2.2.2 := if_pos h66
          have hI6 : IvA l s.1 6 s.2.2.1 s.2.2.2.1 s.2.2.2.2.1 s.2.2.2.2.2.1 s.2.2.2.2.2.2 := by have := hI; unfold InS at this; rw [h66] at this; exact this
          have hS6 : RcA τ s.1 6 s.2.2.1 s.2.2.2.1 s.2.2.2.2.1 s.2.2.2.2.2.1 s.2.2.2.2.2.2 := by have := hS; unfold RdS at this; rw [h66] at this; exact this
          exact (c_restC (d := d + 1) (tp hF) hb hl hN hI6 hS6).mono (fun σ4 hq4 => next σ4 hq4.1 (by rw [es]; exact hq4.2))
  refine b_Re_read_0 (d := d + 8) ho (c_beginC.mono (fun σ1 hq => ?_))
  obtain ⟨i1, i2⟩ := s0_in l
  exact loop 4001 0 s0A σ1 rfl i1 (by rw [i2]; omega) rfl hq.2 hq.1
