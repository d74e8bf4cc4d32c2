/-! the model reads all -/
def MRm : Nat → Nat → Prop := fun p k => (p = 0 ∧ (k = 6 ∨ k = 7 ∨ k = 9 ∨ k = 10 ∨ k = 41 ∨ k = 42 ∨ k = 43 ∨ k = 44 ∨ k = 56)) ∨ p = 3 ∨ p = 4 ∨ (29 ≤ p ∧ p ≤ 39)
def RmS (σ : S_t) (s : St) : Prop := gI σ 0 9 = nI s.1 ∧ gI σ 0 41 = 0 ∧ gI σ 0 42 = -1 ∧ DrM σ s.2.2.2.1 s.2.2.2.2.1
def RfM (σ : S_t) (r : Int32) (z : Rz) : Prop := match z with
  | Sum.inl f => r = 0 ∧ gI σ 0 41 = nI f.1 ∧ gI σ 0 42 = nI f.2
  | Sum.inr s => r = 1 ∧ gI σ 0 41 = 0 ∧ gI σ 0 42 = -1 ∧ DrM σ s.2.2.2.1 s.2.2.2.2.1
def stM (w : Nat) : Nat := if w = 0 then 0 else if w = 2 then 1 else if w = 1 ∨ w = 3 then 3 else 2
def nmM (w : Nat) (ins : Option Nat) (R : Nds) (nm : List Nat) : Int32 := if isO R ins = true ∧ w = 0 then nI nm.length else -1
theorem MRw_psh {σ : S_t} {R : Nds} {r : Nd} {k : Nat} (hk : k < R.1) (hu : ∀ u, rU R k = some u → u < R.1) (h : MRw σ R k) : MRw σ (psh R r) k := by
  have e : (psh R r).2 k = R.2 k := psh_lt hk
  have eU : rU (psh R r) k = rU R k := by unfold rU; rw [e]
  unfold MRw at h ⊢
  rw [eU, isO_psh hu]
  unfold rK rNa rNm rTa rTx rBi at h ⊢
  rw [e]
  exact h
theorem reA_sh {l : List Nat} {num : Nat → Option Nat × Nat} {p na : Nat} {ins : Option Nat} {R : Nds} {L nm : List Nat} {s : St} (e : reA l num p ins R L na nm = Sum.inr s) : ∃ q R' L', s = (q, wBh ins, ins, R', L', na, nm) ∧ (R' = R ∨ ∃ ta tx b, R' = fil R ta tx b) := by
  unfold reA at e
  (repeat' split at e) <;> first | (cases e; done) | (cases e; exact ⟨_, _, _, rfl, Or.inr ⟨_, _, _, rfl⟩⟩) | (cases e; exact ⟨_, _, _, rfl, Or.inl rfl⟩)
theorem w_025 {w : Nat} (h : w ≤ 7) (h4 : w ≠ 4) (h6 : w ≠ 6) (h7 : w ≠ 7) (z : ¬ (w = 1 ∨ w = 3)) : w = 0 ∨ w = 2 ∨ w = 5 := by omega
theorem c_readM {E : En_t} {d : Nat} {l : List Nat} {num : Nat → Option Nat × Nat} {σ : S_t} (hw : Wrd σ) (hT : TcM σ l) (hb : Bt l) (hl : l.length ≤ 2000) (hO : NumO l num) (hN : NumS l num) : CI E (d + 6) m_Mo_readAll [pv E 0, .int (nI l.length)] σ (fun r σ' => Fg MRm σ σ' ∧ ∃ z, ruA l num 4001 s0A = some z ∧ (∀ s, z = Sum.inr s → InS l s ∧ s.2.1 = 7) ∧ RfM σ' r (fnA l z)) := by
  have tp : ∀ {τ : S_t}, Fg MRm σ τ → TcM τ l := fun {τ} hF => TcM_fg hF (fun k => by unfold MRm; omega) hT
  have wr : ∀ {τ : S_t}, Fg MRm σ τ → Wrd τ := fun {τ} hF k hk => by rw [hF.1 40 k (by unfold MRm; omega)]; exact hw k hk
  let Q : Option Value → S_t → Prop := fun q σ' => ∃ r, q = some (.int r) ∧ (Fg MRm σ σ' ∧ ∃ z, ruA l num 4001 s0A = some z ∧ (∀ s, z = Sum.inr s → InS l s ∧ s.2.1 = 7) ∧ RfM σ' r (fnA l z))
  have kc : ∀ q c, c < 256 → (hr l q = nI c ↔ Chr l q c) := fun q c hc => hr_chr hb (by omega)
  -- a fault
  have flt : ∀ (s : St) (f x : Nat) (τ : S_t), InS l s → mu l s.1 s.2.1 ≤ 4001 → s.2.1 ≠ 7 → ruA l num 4001 s = ruA l num 4001 s0A → stA l num s = Sum.inl (f, x) → Fg MRm σ τ → gI τ 0 41 = 0 → CI E (d + 5) m_Mo_wrong [pv E 0, .int (nI f), .int (nI x)] τ (fun r σ' => narrow .boolean (.int r) = .int r ∧ Q (some (.int r)) σ') := by
    intro s f x τ hI hm h7 hr0 hs hF h41
    refine (c_wrongM h41).mono (fun r σ' hq => ?_)
    obtain ⟨rfl, F4, q1, q2⟩ := hq
    exact ⟨rfl, _, rfl, hF.tr (F4.mono (fun p k z => by unfold MRm; omega)), Sum.inl (f, x), by rw [← hr0]; exact (ruA_st hb hO hI hm h7).1 _ hs, fun s' e => (by cases e), rfl, q1, q2⟩
  have loop : ∀ (m : Nat) (s : St) (τ : S_t), mu l s.1 s.2.1 ≤ m → m ≤ 4001 → InS l s → ruA l num 4001 s = ruA l num 4001 s0A → s.2.1 ≠ 4 → s.2.1 ≠ 6 → RmS τ s → Fg MRm σ τ → JE E (d + 6) m_Mo_readAll 41 [(0, pv E 0), (1, .int (nI l.length)), (2, .int (oI s.2.2.1)), (3, .int (nI (opD s.2.2.2.1 s.2.2.1))), (4, .int (nI (stM s.2.1))), (5, .int (nI s.2.2.2.2.2.1)), (6, .int (nmM s.2.1 s.2.2.1 s.2.2.2.1 s.2.2.2.2.2.2)), (7, .int (bo (decide (s.2.1 ≠ 7))))] [] τ Q := by
    intro m
    induction m with
    | zero => intro s τ hm _ hI; have := mu_pos hI; omega
    | succ m ih =>
      rintro ⟨p, w, ins, R, L, na, nm⟩ τ hm hm2 hI hr0 w4 w6 hS hF
      have hI' : IvA l p w ins R L na nm := hI
      obtain ⟨h9, h41, h42, hD⟩ : gI τ 0 9 = nI p ∧ gI τ 0 41 = 0 ∧ gI τ 0 42 = -1 ∧ DrM τ R L := hS
      obtain ⟨i1, i2, i3, i4, i5, i6, i7, i8, i9⟩ := id hI'
      show JE E (d + 6) m_Mo_readAll 41 [(0, pv E 0), (1, .int (nI l.length)), (2, .int (oI ins)), (3, .int (nI (opD R ins))), (4, .int (nI (stM w))), (5, .int (nI na)), (6, .int (nmM w ins R nm)), (7, .int (bo (decide (w ≠ 7))))] [] τ Q
      have w4' : w ≠ 4 := w4
      have w6' : w ≠ 6 := w6
      have hm' : mu l p w ≤ m + 1 := hm
      have h5 := i3.1
      have hi : ∀ u, ins = some u → u < R.1 := fun u hu => (i4 u hu).1
      have o30 : opD R ins ≤ 30 := by
        cases ins with
        | none => exact Nat.zero_le _
        | some u =>
          obtain ⟨a, b⟩ := i4 u rfl
          have := (i3.2.1 u a).2.2.1 b
          show rT R u + 1 ≤ 30
          omega
      have hB : p ≤ bk l p ∧ bk l p ≤ l.length := bkF_fit _ p i1
      by_cases h7 : w = 7
      · -- the end
        subst h7
        refine b_Mo_readAll_41 (d := d + 5) ⟨fun _ => (c_blkM (d := d + 4) (tp hF) hb hl i1 h9).mono (fun σ1 hq => ?_), fun z => absurd rfl z⟩
        obtain ⟨F1, a9⟩ := hq
        have F1' : Fg MRm σ σ1 := hF.tr (F1.mono (fun p k z => by unfold MRm; omega))
        have n41 : gI σ1 0 41 = 0 := by rw [F1.1 0 41 (by omega)]; exact h41
        have hz : ruA l num 4001 s0A = some (Sum.inr (p, 7, ins, R, L, na, nm)) := by rw [← hr0]; rfl
        have hzz : ∀ s', (Sum.inr (p, 7, ins, R, L, na, nm) : Rz) = Sum.inr s' → InS l s' ∧ s'.2.1 = 7 := fun s' e => by cases e; exact ⟨hI, rfl⟩
        rw [a9, nI_eq (by omega) (by omega)]
        refine ⟨fun q => b_Mo_readAll_517 (d := d + 5) ⟨_, rfl, F1', _, hz, hzz, ?_⟩, fun q => ?_⟩
        · show RfM σ1 1 (if bk l p < l.length then Sum.inl (1, bk l p) else Sum.inr (p, 7, ins, R, L, na, nm))
          rw [if_neg (by omega)]
          exact ⟨rfl, n41, by rw [F1.1 0 42 (by omega)]; exact h42, DrM_fg F1 (fun p k z => by omega) hD⟩
        · refine (c_wrongM (f := 1) n41).mono (fun r σ' hq => ?_)
          obtain ⟨rfl, F4, q1, q2⟩ := hq
          refine ⟨fun _ => ⟨_, rfl, F1'.tr (F4.mono (fun p k z => by unfold MRm; omega)), _, hz, hzz, ?_⟩, fun z => absurd rfl z⟩
          show RfM σ' 0 (if bk l p < l.length then Sum.inl (1, bk l p) else Sum.inr (p, 7, ins, R, L, na, nm))
          rw [if_pos (by omega)]
          exact ⟨rfl, q1, q2⟩
      · have x7 : bo (decide (w ≠ 7)) = 1 := by rw [decide_eq_true h7]; rfl
        rw [x7]
        obtain ⟨g1, g2⟩ := ruA_st hb hO hI (show mu l p w ≤ 4001 by omega) h7
        have es : stA l num (p, w, ins, R, L, na, nm) = neA l (bk l p) w ins R L na nm := if_neg w6'
        rw [es] at g1 g2
        have hq2000 : bk l p ≤ 2000 := by omega
        -- behind the blanks
        refine b_Mo_readAll_41 (d := d + 5) ⟨fun z => absurd z (by decide), fun _ => (c_blkM (d := d + 4) (tp hF) hb hl i1 h9).mono (fun ρ hq => ?_)⟩
        obtain ⟨F1, a9⟩ := hq
        have FR : Fg MRm σ ρ := hF.tr (F1.mono (fun p k z => by unfold MRm; omega))
        have n41 : gI ρ 0 41 = 0 := by rw [F1.1 0 41 (by omega)]; exact h41
        have n42 : gI ρ 0 42 = -1 := by rw [F1.1 0 42 (by omega)]; exact h42
        have D1 : DrM ρ R L := DrM_fg F1 (fun p k z => by omega) hD
        clear F1
        generalize bk l p = q at *
        refine (c_hereM (tp FR) hl (by omega) a9).mono (fun r6 σ5 hq => ?_)
        obtain ⟨rfl, rfl⟩ := hq
        -- a fault here
        have bad : ∀ f x, neA l q w ins R L na nm = Sum.inl (f, x) → ∀ σ', Fg MRm σ σ' → gI σ' 0 41 = 0 → CI E (d + 5) m_Mo_wrong [pv E 0, .int (nI f), .int (nI x)] σ' (fun r σ' => narrow .boolean (.int r) = .int r ∧ Q (some (.int r)) σ') := fun f x e σ' hF' h' => flt _ f x σ' hI (show mu l p w ≤ 4001 by omega) h7 hr0 (by rw [es]; exact e) hF' h'
        -- on to the next round
        have goG : ∀ (s1 : St) (σ' : S_t), InS l s1 → mu l s1.1 s1.2.1 < mu l p w → ruA l num 4001 s1 = ruA l num 4001 s0A → s1.2.1 ≠ 4 → s1.2.1 ≠ 6 → RmS σ' s1 → Fg MRm σ σ' → JE E (d + 6) m_Mo_readAll 489 [(0, pv E 0), (1, .int (nI l.length)), (2, .int (oI s1.2.2.1)), (3, .int (nI (opD s1.2.2.2.1 s1.2.2.1))), (4, .int (nI (stM s1.2.1))), (5, .int (nI s1.2.2.2.2.2.1)), (6, .int (nmM s1.2.1 s1.2.2.1 s1.2.2.2.1 s1.2.2.2.2.2.2)), (7, .int (bo (decide (s1.2.1 ≠ 7))))] [] σ' Q := by
          intro s1 σ' e2 e3 e1 n4 n6 hS1 hF1
          exact b_Mo_readAll_489 (d := d + 5) (ih s1 σ' (by omega) (by omega) e2 e1 n4 n6 hS1 hF1)
        have go : ∀ (s1 : St) (σ' : S_t), neA l q w ins R L na nm = Sum.inr s1 → s1.2.1 ≠ 4 → s1.2.1 ≠ 6 → RmS σ' s1 → Fg MRm σ σ' → JE E (d + 6) m_Mo_readAll 489 [(0, pv E 0), (1, .int (nI l.length)), (2, .int (oI s1.2.2.1)), (3, .int (nI (opD s1.2.2.2.1 s1.2.2.1))), (4, .int (nI (stM s1.2.1))), (5, .int (nI s1.2.2.2.2.2.1)), (6, .int (nmM s1.2.1 s1.2.2.1 s1.2.2.2.1 s1.2.2.2.2.2.2)), (7, .int (bo (decide (s1.2.1 ≠ 7))))] [] σ' Q := by
          intro s1 σ' e n4 n6 hS1 hF1
          obtain ⟨e1, e2, e3⟩ := g2 s1 e
          exact goG s1 σ' e2 e3 (by rw [← e1]; exact hr0) n4 n6 hS1 hF1
        have k6 : ∀ u, u < R.1 → rK R u ≤ 6 := fun u hu => (i3.2.1 u hu).1
        -- a close
        have clo : ∀ (c : Nat), c < 256 → w ≠ 0 → ins ≠ none → (Chr l q c → neA l q w ins R L na nm = Sum.inr (clA q ins R L na nm)) → (¬ Chr l q c → neA l q w ins R L na nm = Sum.inl (1, q)) → JE E (d + 6) m_Mo_readAll 442 [(0, pv E 0), (1, .int (nI l.length)), (2, .int (oI ins)), (3, .int (nI (opD R ins))), (4, .int (2 : Int32)), (5, .int (nI na)), (6, .int (nmM w ins R nm))] [.int (nI c), .int (hr l q)] σ5 Q := by
          intro c hc hw0 hn h1 h2
          obtain ⟨u, rfl⟩ : ∃ u, ins = some u := by
            cases ins with
            | none => exact absurd rfl hn
            | some u => exact ⟨u, rfl⟩
          have hu := hi u rfl
          have cu : (oI (some u)).toNatClampNeg = u := nI_clamp (by omega)
          have hN := (i3.2.1 u hu).2.2.2.2.2.2.2.2
          have hop : opD R (rU R u) = rT R u := by
            cases hv : rU R u with
            | none => exact (hN.1 hv).2.symm
            | some v => exact (hN.2.1 v hv).2.2.symm
          refine b_Mo_readAll_442 (d := d + 5) ?_
          rw [kc q c hc]
          refine ⟨fun z => ?_, fun z => ⟨vin (by omega) (by decide), ?_⟩⟩
          · rw [a9]
            exact bad 1 q (h2 z) σ5 FR n41
          · have e := h1 z
            have F2 : Fg (fun p k => p = 0 ∧ k = 9) σ5 (sI σ5 0 9 (nI (q + 1))) := Fg.rf.si ⟨rfl, rfl⟩
            have D2 := DrM_fg F2 (fun p k z => by omega) D1
            have S2 : RmS (sI σ5 0 9 (nI (q + 1))) (clA q (some u) R L na nm) := ⟨gI_sI_s _ _ _ _, by rw [gI_sI_n (Or.inr (by decide))]; exact n41, by rw [gI_sI_n (Or.inr (by decide))]; exact n42, D2⟩
            have wb := wBh_ok (rU R u)
            have G := go _ _ e (by show wBh (rU R u) ≠ 4; omega) (by show wBh (rU R u) ≠ 6; omega) S2 (FR.tr (F2.mono (fun p k z => by unfold MRm; omega)))
            rw [a9, nI_1, cu, (D2.2.2.1 u hu).2.1]
            have e3 : nI (opD R (some u)) + (-1 : Int32) = nI (opD R (upO R (some u))) := by
              show nI (rT R u + 1) + (-1 : Int32) = nI (opD R (rU R u))
              rw [hop]; exact nI_dec _
            have e4 : (2 : Int32) = nI (stM (wBh (rU R u))) := by
              rcases wb with y | y <;> rw [y.1] <;> rfl
            have e6 : nmM w (some u) R nm = nmM (wBh (rU R u)) (upO R (some u)) R nm := by
              unfold nmM
              rw [if_neg (fun y => hw0 y.2), if_neg (fun y => by have := y.2; omega)]
            rw [e3, e4, e6]
            have hneg : oI (rU R u) < 0 ↔ rU R u = none := oI_neg (fun j hj => by have := (hN.2.1 j hj).1; omega)
            rw [hneg]
            refine ⟨fun y => b_Mo_readAll_474 (d := d + 5) ?_, fun y => b_Mo_readAll_474 (d := d + 5) ?_⟩
            · have : bo (decide (wBh (rU R u) ≠ 7)) = 0 := by rw [y]; rfl
              rw [← this]; exact G
            · have : bo (decide (wBh (rU R u) ≠ 7)) = 1 := by
                rcases wb with x | x
                · exact absurd x.2 y
                · rw [x.1]; rfl
              rw [← this]; exact G
        -- between parts
        have sep : w = 5 → JE E (d + 6) m_Mo_readAll 115 [(0, pv E 0), (1, .int (nI l.length)), (2, .int (oI ins)), (3, .int (nI (opD R ins))), (4, .int (2 : Int32)), (5, .int (nI na)), (6, .int (nmM w ins R nm)), (7, .int (1 : Int32)), (8, .int (hr l q))] [] σ5 Q := by
          intro hw5
          subst hw5
          have hn : ins ≠ none := by unfold wOk at i8; simp at i8; exact i8
          have eA : neA l q 5 ins R L na nm = seA l q ins R L na nm := by unfold neA; simp
          obtain ⟨u, rfl⟩ : ∃ u, ins = some u := by
            cases ins with
            | none => exact absurd rfl hn
            | some u => exact ⟨u, rfl⟩
          have hu := hi u rfl
          have h5u := (i4 u rfl).2
          have cu : (oI (some u)).toNatClampNeg = u := nI_clamp (by omega)
          have hk := (D1.2.2.1 u hu).1
          have e5 : nI (rK R u) = (5 : Int32) ↔ rK R u = 5 := nI_eq (b := 5) (by have := k6 u hu; omega) (by decide)
          refine b_Mo_readAll_115 (d := d + 5) ⟨fun _ => ⟨fun _ => ⟨fun hc => ⟨vin (by omega) (by decide), ?_⟩, fun hc => ⟨vin (by omega) (by decide), ?_⟩⟩, fun z => absurd z (by decide)⟩, fun z => absurd z (by decide)⟩
          · have hc' : ¬ Chr l q 44 := fun z => hc ((kc q 44 (by decide)).mpr z)
            rw [cu, hk, e5]
            refine ⟨fun z => ?_, fun z => ?_⟩
            · have hO6 : isO R (some u) = true := decide_eq_true (by have := k6 u hu; omega)
              refine clo 125 (by decide) (by decide) hn (fun y => ?_) (fun y => ?_)
              · rw [eA]; unfold seA; rw [if_neg hc', hO6, if_pos rfl, if_pos y]
              · rw [eA]; unfold seA; rw [if_neg hc', hO6, if_pos rfl, if_neg y]
            · have hO6 : isO R (some u) = false := decide_eq_false (by omega)
              refine clo 93 (by decide) (by decide) hn (fun y => ?_) (fun y => ?_)
              · rw [eA]; unfold seA; rw [if_neg hc', hO6]; exact if_pos y
              · rw [eA]; unfold seA; rw [if_neg hc', hO6]; exact if_neg y
          · have hc' : Chr l q 44 := (kc q 44 (by decide)).mp hc
            rw [a9, nI_1, cu]
            have F2 : Fg (fun p k => p = 0 ∧ k = 9) σ5 (sI σ5 0 9 (nI (q + 1))) := Fg.rf.si ⟨rfl, rfl⟩
            have D2 := DrM_fg F2 (fun p k z => by omega) D1
            have e : neA l q 5 (some u) R L na nm = Sum.inr (q + 1, if isO R (some u) = true then 2 else 0, some u, R, L, na, nm) := by rw [eA]; unfold seA; rw [if_pos hc']
            have S2 : RmS (sI σ5 0 9 (nI (q + 1))) (q + 1, if isO R (some u) = true then 2 else 0, some u, R, L, na, nm) := ⟨gI_sI_s _ _ _ _, by rw [gI_sI_n (Or.inr (by decide))]; exact n41, by rw [gI_sI_n (Or.inr (by decide))]; exact n42, D2⟩
            have w' : (if isO R (some u) = true then 2 else 0) ≠ 4 ∧ (if isO R (some u) = true then 2 else 0) ≠ 6 ∧ (if isO R (some u) = true then 2 else 0) ≠ 7 := by split <;> omega
            have G := go _ _ e w'.1 w'.2.1 S2 (FR.tr (F2.mono (fun p k z => by unfold MRm; omega)))
            have G' : JE E (d + 6) m_Mo_readAll 489 [(0, pv E 0), (1, .int (nI l.length)), (2, .int (oI (some u))), (3, .int (nI (opD R (some u)))), (4, .int (nI (stM (if isO R (some u) = true then 2 else 0)))), (5, .int (nI na)), (6, .int (nmM (if isO R (some u) = true then 2 else 0) (some u) R nm)), (7, .int (bo (decide ((if isO R (some u) = true then 2 else 0) ≠ 7))))] [] (sI σ5 0 9 (nI (q + 1))) Q := G
            have e6 : nmM (if isO R (some u) = true then 2 else 0) (some u) R nm = nmM 5 (some u) R nm := by
              have a : nmM 5 (some u) R nm = -1 := if_neg (fun y => by have := y.2; omega)
              have b : nmM (if isO R (some u) = true then 2 else 0) (some u) R nm = -1 := if_neg (fun y => by
                have h := y.2
                rw [if_pos y.1] at h
                omega)
              rw [a, b]
            have e7 : bo (decide ((if isO R (some u) = true then 2 else 0) ≠ 7)) = 1 := by rw [decide_eq_true w'.2.2]; rfl
            rw [e6, e7] at G'
            rw [(D2.2.2.1 u hu).1, e5]
            refine ⟨fun z => b_Mo_readAll_418 (d := d + 5) ?_, fun z => b_Mo_readAll_418 (d := d + 5) ?_⟩
            · have hO6 : isO R (some u) = true := decide_eq_true (by have := k6 u hu; omega)
              rw [hO6] at G'
              exact G'
            · have hO6 : isO R (some u) = false := decide_eq_false (by omega)
              rw [hO6] at G'
              exact G'
        have clF : (Chr l q 93 ∧ w = 1) ∨ (Chr l q 125 ∧ w = 3) → JE E (d + 6) m_Mo_readAll 115 [(0, pv E 0), (1, .int (nI l.length)), (2, .int (oI ins)), (3, .int (nI (opD R ins))), (4, .int (2 : Int32)), (5, .int (nI na)), (6, .int (nmM w ins R nm)), (7, .int (1 : Int32)), (8, .int (hr l q))] [] σ5 Q := by
          intro z
          have eA : neA l q w ins R L na nm = Sum.inr (clA q ins R L na nm) := by unfold neA; rw [if_pos z]
          have hn : ins ≠ none := fun y => by
            subst y
            unfold wOk isO at i8
            simp at i8
            omega
          obtain ⟨u, rfl⟩ : ∃ u, ins = some u := by
            cases ins with
            | none => exact absurd rfl hn
            | some u => exact ⟨u, rfl⟩
          have hu := hi u rfl
          have h5u := (i4 u rfl).2
          have cu : (oI (some u)).toNatClampNeg = u := nI_clamp (by omega)
          have hk := (D1.2.2.1 u hu).1
          have e5 : nI (rK R u) = (5 : Int32) ↔ rK R u = 5 := nI_eq (b := 5) (by have := k6 u hu; omega) (by decide)
          have hO1 : w = 1 → rK R u = 5 := fun y => by
            have := k6 u hu
            subst y
            unfold wOk at i8
            simp at i8
            have : ¬ rK R u = 6 := of_decide_eq_false i8
            omega
          have hO3 : w = 3 → rK R u = 6 := fun y => by
            subst y
            unfold wOk at i8
            simp at i8
            exact of_decide_eq_true i8
          have n44 : ¬ hr l q = (44 : Int32) := fun y => by
            have y' := (kc q 44 (by decide)).mp y
            rcases z with x | x
            · have := x.1.2; have := y'.2; omega
            · have := x.1.2; have := y'.2; omega
          refine b_Mo_readAll_115 (d := d + 5) ⟨fun _ => ⟨fun _ => ⟨fun _ => ⟨vin (by omega) (by decide), ?_⟩, fun y => absurd y n44⟩, fun y => absurd y (by decide)⟩, fun y => absurd y (by decide)⟩
          rw [cu, hk, e5]
          refine ⟨fun y => ?_, fun y => ?_⟩
          · have h3 : Chr l q 125 ∧ w = 3 := z.elim (fun x => absurd (hO1 x.2) y) id
            exact clo 125 (by decide) (by omega) hn (fun _ => eA) (fun x => absurd h3.1 x)
          · have h1 : Chr l q 93 ∧ w = 1 := z.elim id (fun x => absurd (hO3 x.2) (by omega))
            exact clo 93 (by decide) (by omega) hn (fun _ => eA) (fun x => absurd h1.1 x)
        have val : (w = 0 ∨ w = 1) → ¬ ((Chr l q 93 ∧ w = 1) ∨ (Chr l q 125 ∧ w = 3)) → JE E (d + 6) m_Mo_readAll 115 [(0, pv E 0), (1, .int (nI l.length)), (2, .int (oI ins)), (3, .int (nI (opD R ins))), (4, .int (0 : Int32)), (5, .int (nI na)), (6, .int (nmM w ins R nm)), (7, .int (1 : Int32)), (8, .int (hr l q))] [] σ5 Q := by
          intro hw01 nn
          have eA : neA l q w ins R L na nm = vaA l q ins R L na nm := by unfold neA; rw [if_neg nn, if_pos hw01]
          have hx6 : nmM w ins R nm = if isO R ins = true then nI nm.length else -1 := by
            unfold nmM
            rcases hw01 with y | y
            · by_cases x : isO R ins = true
              · rw [if_pos ⟨x, y⟩, if_pos x]
              · rw [if_neg (fun v => x v.1), if_neg x]
            · have x : isO R ins = false := by subst y; unfold wOk at i8; simp at i8; exact i8.1
              rw [if_neg (fun v => by rw [x] at v; exact absurd v.1 (by decide)), if_neg (by rw [x]; decide)]
          refine b_Mo_readAll_115 (d := d + 5) ⟨fun _ => ⟨fun z => absurd rfl z, fun _ => (c_kindM (d := d + 4) hb).mono (fun r2 σ1 hq => ?_)⟩, fun z => absurd z (by decide)⟩
          obtain ⟨rfl, rfl⟩ := hq
          unfold vaA at eA
          cases hk : kdb l q with
          | none =>
            rw [hk] at eA
            refine ⟨fun z => absurd z (by decide), fun _ => ?_⟩
            rw [a9]
            exact bad 1 q eA _ FR n41
          | some K =>
            rw [hk] at eA
            simp only [] at eA
            obtain ⟨ql, K6⟩ := kdb_lt hk
            have ltK : nI K < (5 : Int32) ↔ ¬ 5 ≤ K := by
              constructor
              · intro z y; exact absurd z (nI_nlt (b := 5) y (by omega))
              · intro z; exact nI_lt (b := 5) (by omega) (by decide)
            have at279 : ¬ (5 ≤ K ∧ 30 ≤ opD R ins) → JE E (d + 6) m_Mo_readAll 279 [(0, pv E 0), (1, .int (nI l.length)), (2, .int (oI ins)), (3, .int (nI (opD R ins))), (5, .int (nI na)), (6, .int (nmM w ins R nm)), (7, .int (1 : Int32)), (9, .int (nI K))] [] σ1 Q := by
              intro hno
              rw [if_neg hno] at eA
              refine b_Mo_readAll_279 (d := d + 5) ?_
              have e500 : gI σ1 0 43 = (500 : Int32) ↔ R.1 = 500 := by rw [D1.2.1]; exact nI_eq (b := 500) (by omega) (by decide)
              rw [e500, a9]
              refine ⟨fun hn5 => ?_, fun h500 => bad 5 q (by rw [eA, if_pos (by omega)]) _ FR n41⟩
              have hn : R.1 < 500 := by omega
              rw [if_neg (by omega)] at eA
              refine (c_beginM (K := K) (na := na) (nm := nm) i3 hn hi D1.2.1 D1.2.2.2).mono (fun r2 σ2 hq => ?_)
              obtain ⟨rfl, F2, b43, b29, b30, bL⟩ := hq
              have cn : (nI R.1).toNatClampNeg = R.1 := nI_clamp (by omega)
              have vn : vp_in (nI R.1) 500 := vin hn (by decide)
              rw [cn]
              refine ⟨vn, vn, ?_⟩
              generalize eτ : sI (sI σ2 34 R.1 (nI na)) 35 R.1 (nmM w ins R nm) = τ2
              have F3 : Fg (fun p k => (p = 34 ∨ p = 35) ∧ k = R.1) σ2 τ2 := by rw [← eτ]; exact (Fg.rf.si ⟨Or.inl rfl, rfl⟩).si ⟨Or.inr rfl, rfl⟩
              have FR3 : Fg MRm σ τ2 := (FR.tr (F2.mono (fun p k z => by unfold BgM at z; unfold MRm; omega))).tr (F3.mono (fun p k z => by unfold MRm; omega))
              have c9 : gI τ2 0 9 = nI q := by rw [F3.1 0 9 (by omega), F2.1 0 9 (by unfold BgM; omega)]; exact a9
              have c41 : gI τ2 0 41 = 0 := by rw [F3.1 0 41 (by omega), F2.1 0 41 (by unfold BgM; omega)]; exact n41
              have c42 : gI τ2 0 42 = -1 := by rw [F3.1 0 42 (by omega), F2.1 0 42 (by unfold BgM; omega)]; exact n42
              have cR : RlM τ2 L := RlM_fg F3 (by omega) (fun k => by omega) (RlM_fg F2 (by unfold BgM; omega) (fun k => by unfold BgM; omega) D1.1)
              have c43 : gI τ2 0 43 = nI (R.1 + 1) := by rw [F3.1 0 43 (by omega)]; exact b43
              have cL : ∀ u, u < R.1 + 1 → LkM τ2 (psh R (nwN K ins R na nm)) u := fun u hu => LkM_fg F3 (fun p k a b => by omega) (bL u hu)
              have crow : ∀ k, k < R.1 → MRw τ2 (psh R (nwN K ins R na nm)) k := fun k hk' => MRw_psh hk' (fun u hu => by have := RsO_up i3 k u hk' hu; omega) (MRw_fg F3 (fun p _ _ _ _ _ z => by omega) (MRw_fg F2 (fun p _ _ _ _ _ z => by unfold BgM at z; omega) (D1.2.2.1 k hk')))
              have en : (psh R (nwN K ins R na nm)).2 R.1 = nwN K ins R na nm := psh_eq R _
              have eKn : rK (psh R (nwN K ins R na nm)) R.1 = K := by unfold rK; rw [en]; rfl
              have eUn : rU (psh R (nwN K ins R na nm)) R.1 = ins := by unfold rU; rw [en]; rfl
              have eNn : rNm (psh R (nwN K ins R na nm)) R.1 = nm := by unfold rNm; rw [en]; rfl
              have eAn : rNa (psh R (nwN K ins R na nm)) R.1 = na := by unfold rNa; rw [en]; rfl
              have eOn : isO (psh R (nwN K ins R na nm)) ins = isO R ins := isO_psh hi
              have hop : opD (psh R (nwN K ins R na nm)) ins = opD R ins := by
                cases ins with
                | none => rfl
                | some u => show rT _ u + 1 = rT R u + 1; unfold rT; rw [psh_lt (hi u rfl)]
              have c29 : gI τ2 29 R.1 = nI K := by rw [F3.1 29 _ (by omega)]; exact b29
              have c30 : gI τ2 30 R.1 = oI ins := by rw [F3.1 30 _ (by omega)]; exact b30
              have c34 : gI τ2 34 R.1 = nI na := by rw [← eτ, gI_sI_n (Or.inl (by decide)), gI_sI_s]
              have c35 : gI τ2 35 R.1 = if isO R ins = true then nI nm.length else -1 := by rw [← eτ, gI_sI_s]; exact hx6
              rw [ltK]
              refine ⟨fun hK => ?_, fun hK => ?_⟩
              · -- a plain value
                rw [if_neg hK] at eA
                obtain ⟨e1, e2, e3⟩ := g2 _ eA
                have mle : mu l q 6 < mu l p w := e3
                have hr1 : ruA l num 4001 (q, 6, ins, psh R (nwN K ins R na nm), L, na, nm) = ruA l num 4001 s0A := by rw [← e1]; exact hr0
                obtain ⟨G1, G2⟩ := ruA_st hb hO e2 (show mu l q 6 ≤ 4001 by omega) (show (6 : Nat) ≠ 7 by decide)
                have es1 : stA l num (q, 6, ins, psh R (nwN K ins R na nm), L, na, nm) = reA l num q ins (psh R (nwN K ins R na nm)) L na nm := if_pos rfl
                rw [es1] at G1 G2
                have P := c_plainM (E := E) (d := d) (na := na) (ins := ins) (nm := nm) (R := psh R (nwN K ins R na nm)) (L := L) (wr FR3) (tp FR3) hb hl hN ql (Nat.succ_pos _) (by show R.1 + 1 ≤ 500; omega) (by show kdb l q = some (rK _ (R.1 + 1 - 1)); rw [Nat.add_sub_cancel, eKn]; exact hk) (by show rK _ (R.1 + 1 - 1) ≤ 4; rw [Nat.add_sub_cancel, eKn]; omega) c9 c41 cR (by omega)
                rw [show (psh R (nwN K ins R na nm)).1 - 1 = R.1 from Nat.add_sub_cancel R.1 1, eKn] at P
                refine P.mono (fun r4 σ3 hq => ?_)
                obtain ⟨F4, hq⟩ := hq
                have FR4 : Fg MRm σ σ3 := FR3.tr (F4.mono (fun p k z => by unfold PlM at z; unfold MRm; omega))
                cases hre : reA l num q ins (psh R (nwN K ins R na nm)) L na nm with
                | inl f =>
                  rw [hre] at hq
                  obtain ⟨rfl, q1, q2⟩ := hq
                  exact ⟨fun z => absurd rfl z, fun _ => ⟨_, rfl, FR4, Sum.inl f, by rw [← hr1]; exact G1 f hre, fun s' e => (by cases e), rfl, q1, q2⟩⟩
                | inr s2 =>
                  rw [hre] at hq
                  obtain ⟨rfl, q1, q2, q3, q4, q5, q6⟩ := hq
                  obtain ⟨H1, H2, H3⟩ := G2 s2 hre
                  obtain ⟨e', R', L', rfl, hRR⟩ := reA_sh hre
                  have H3' : mu l e' (wBh ins) < mu l q 6 := H3
                  have R1 : R'.1 = R.1 + 1 := by rcases hRR with rfl | ⟨ta, tx, b, rfl⟩ <;> rfl
                  have hsame : ∀ k, rK R' k = rK (psh R (nwN K ins R na nm)) k ∧ rT R' k = rT (psh R (nwN K ins R na nm)) k ∧ rU R' k = rU (psh R (nwN K ins R na nm)) k ∧ rNa R' k = rNa (psh R (nwN K ins R na nm)) k ∧ rNm R' k = rNm (psh R (nwN K ins R na nm)) k := fun k => by
                    rcases hRR with rfl | ⟨ta, tx, b, rfl⟩
                    · exact ⟨rfl, rfl, rfl, rfl, rfl⟩
                    · exact fil_U _ ta tx b k
                  have hoth : ∀ k, k ≠ R.1 → R'.2 k = (psh R (nwN K ins R na nm)).2 k := fun k hk' => by
                    rcases hRR with rfl | ⟨ta, tx, b, rfl⟩
                    · rfl
                    · exact fil_o (by show k ≠ R.1 + 1 - 1; omega)
                  have hkids : ∀ u, kids R' u = kids (psh R (nwN K ins R na nm)) u := fun u => by
                    rcases hRR with rfl | ⟨ta, tx, b, rfl⟩
                    · rfl
                    · exact kids_fil _ ta tx b u
                  have hisO : ∀ i, isO R' i = isO (psh R (nwN K ins R na nm)) i := fun i => by
                    cases i with
                    | none => rfl
                    | some u => show decide _ = decide _; rw [(hsame u).1]
                  have hopD : opD R' ins = opD R ins := by
                    rw [← hop]
                    cases ins with
                    | none => rfl
                    | some u => show rT R' u + 1 = _; rw [(hsame u).2.1]; rfl
                  have S2 : RmS σ3 (e', wBh ins, ins, R', L', na, nm) := by
                    refine ⟨q1, q2, by rw [q3]; exact c42, q4, ?_, fun k hk' => ?_, fun u hu => ?_⟩
                    · show gI σ3 0 43 = nI R'.1
                      rw [F4.1 0 43 (by unfold PlM; omega), R1]; exact c43
                    · have hk2 : k < R'.1 := hk'
                      rw [R1] at hk2
                      by_cases gk : k = R.1
                      · subst gk
                        show MRw σ3 R' R.1
                        unfold MRw
                        rw [(hsame R.1).1, (hsame R.1).2.2.1, (hsame R.1).2.2.2.1, (hsame R.1).2.2.2.2, eKn, eUn, eAn, eNn, hisO, eOn]
                        refine ⟨by rw [F4.1 29 _ (by unfold PlM; omega)]; exact c29, by rw [F4.1 30 _ (by unfold PlM; omega)]; exact c30, by rw [F4.1 34 _ (by unfold PlM; omega)]; exact c34, by rw [F4.1 35 _ (by unfold PlM; omega)]; exact c35, q5, q6⟩
                      · have hk3 : k < R.1 := by omega
                        have old := MRw_fg F4 (fun p _ _ _ _ _ z => by unfold PlM at z; omega) (crow k hk3)
                        show MRw σ3 R' k
                        unfold MRw at old ⊢
                        rw [hisO]
                        unfold rK rU rNa rNm rTa rTx rBi at old ⊢
                        rw [hoth k gk]
                        exact old
                    · have hu2 : u < R'.1 := hu
                      rw [R1] at hu2
                      have old := LkM_fg F4 (fun p k a b z => by unfold PlM at z; omega) (cL u hu2)
                      show LkM σ3 R' u
                      unfold LkM at old ⊢
                      rw [hkids u, (hsame u).2.2.1]
                      exact old
                  have wb := wBh_ok ins
                  have G := goG _ _ H2 (by show mu l e' (wBh ins) < mu l p w; omega) (by rw [← H1]; exact hr1) (by show wBh ins ≠ 4; omega) (by show wBh ins ≠ 6; omega) S2 FR4
                  have G' : JE E (d + 6) m_Mo_readAll 489 [(0, pv E 0), (1, .int (nI l.length)), (2, .int (oI ins)), (3, .int (nI (opD R' ins))), (4, .int (nI (stM (wBh ins)))), (5, .int (nI na)), (6, .int (nmM (wBh ins) ins R' nm)), (7, .int (bo (decide (wBh ins ≠ 7))))] [] σ3 Q := G
                  have e4 : nI (stM (wBh ins)) = (2 : Int32) := by rcases wb with y | y <;> rw [y.1] <;> rfl
                  have e6 : nmM (wBh ins) ins R' nm = -1 := if_neg (fun y => by have := y.2; omega)
                  rw [hopD, e4, e6] at G'
                  have hneg : oI ins < 0 ↔ ins = none := oI_neg (fun j hj => by have := hi j hj; omega)
                  rw [hneg]
                  refine ⟨fun _ => ⟨fun y => b_Mo_readAll_381 (d := d + 5) (b_Mo_readAll_383 (d := d + 5) ?_), fun y => b_Mo_readAll_381 (d := d + 5) (b_Mo_readAll_383 (d := d + 5) ?_)⟩, fun z => absurd z (by decide)⟩
                  · have : bo (decide (wBh ins ≠ 7)) = 0 := by rw [y]; rfl
                    rw [this] at G'; exact G'
                  · have : bo (decide (wBh ins ≠ 7)) = 1 := by
                      rcases wb with x | x
                      · exact absurd x.2 y
                      · rw [x.1]; rfl
                    rw [this] at G'; exact G'
              · -- one with parts
                have hK5 : 5 ≤ K := Classical.not_not.mp hK
                rw [if_pos hK5] at eA
                intro σ6 e6'
                have F5 : Fg (fun p k => p = 0 ∧ k = 9) τ2 σ6 := by rw [e6']; exact Fg.rf.si ⟨rfl, rfl⟩
                have d9 : gI σ6 0 9 = nI (q + 1) := by rw [e6', gI_sI_s, c9, nI_1]
                have S2 : RmS σ6 (q + 1, if K = 6 then 3 else 1, some R.1, psh R (nwN K ins R na nm), L, na, nm) := by
                  refine ⟨d9, by rw [F5.1 0 41 (by omega)]; exact c41, by rw [F5.1 0 42 (by omega)]; exact c42, DrM_fg F5 (fun p k z => by omega) ⟨cR, c43, fun k hk' => ?_, cL⟩⟩
                  have hk2 : k < R.1 + 1 := hk'
                  by_cases gk : k = R.1
                  · subst gk
                    unfold MRw
                    rw [eKn, eUn, eAn, eNn, eOn]
                    exact ⟨c29, c30, c34, c35, fun y => by omega, fun y => by omega⟩
                  · exact crow k (by omega)
                have w' : (if K = 6 then 3 else 1) = 3 ∨ (if K = 6 then 3 else 1) = 1 := by split <;> simp
                have G := go _ _ eA (by show (if K = 6 then 3 else 1) ≠ 4; omega) (by show (if K = 6 then 3 else 1) ≠ 6; omega) S2 (FR3.tr (F5.mono (fun p k z => by unfold MRm; omega)))
                have G' : JE E (d + 6) m_Mo_readAll 489 [(0, pv E 0), (1, .int (nI l.length)), (2, .int (nI R.1)), (3, .int (nI (rT (psh R (nwN K ins R na nm)) R.1 + 1))), (4, .int (nI (stM (if K = 6 then 3 else 1)))), (5, .int (nI na)), (6, .int (nmM (if K = 6 then 3 else 1) (some R.1) (psh R (nwN K ins R na nm)) nm)), (7, .int (bo (decide ((if K = 6 then 3 else 1) ≠ 7))))] [] σ6 Q := G
                have eT : rT (psh R (nwN K ins R na nm)) R.1 = opD R ins := by unfold rT; rw [en]; rfl
                have e4 : nI (stM (if K = 6 then 3 else 1)) = (3 : Int32) := by rcases w' with y | y <;> rw [y] <;> rfl
                have e6 : nmM (if K = 6 then 3 else 1) (some R.1) (psh R (nwN K ins R na nm)) nm = -1 := if_neg (fun y => by have := y.2; omega)
                have e7 : bo (decide ((if K = 6 then 3 else 1) ≠ 7)) = 1 := by rcases w' with y | y <;> rw [y] <;> rfl
                rw [eT, e4, e6, e7, ← nI_1] at G'
                exact b_Mo_readAll_383 (d := d + 5) G'
            have e30 : nI (opD R ins) = (30 : Int32) ↔ opD R ins = 30 := nI_eq (b := 30) (by omega) (by decide)
            show (0 ≤ nI K → (nI K < (5 : Int32) → _) ∧ _) ∧ _
            rw [ltK, e30, a9]
            refine ⟨fun _ => ⟨fun y => at279 (fun x => y x.1), fun y => ⟨fun z => at279 (fun x => z (by omega)), fun z => bad 4 q (by rw [eA, if_pos ⟨Classical.not_not.mp (fun x => y (ltK.mpr x)), by omega⟩]) _ FR n41⟩⟩, fun z => absurd (Int32.not_lt.mp (nI_nn (by omega))) z⟩
        have nme : (w = 2 ∨ w = 3) → ¬ ((Chr l q 93 ∧ w = 1) ∨ (Chr l q 125 ∧ w = 3)) → JE E (d + 6) m_Mo_readAll 115 [(0, pv E 0), (1, .int (nI l.length)), (2, .int (oI ins)), (3, .int (nI (opD R ins))), (4, .int (1 : Int32)), (5, .int (nI na)), (6, .int (nmM w ins R nm)), (7, .int (1 : Int32)), (8, .int (hr l q))] [] σ5 Q := by
          intro hw23 nn
          have eA : neA l q w ins R L na nm = naA l q ins R L := by unfold neA; rw [if_neg nn, if_neg (by omega), if_pos hw23]
          have hOb : isO R ins = true := by
            unfold wOk at i8
            rcases hw23 with z | z <;> subst z <;> simp at i8 <;> exact i8
          obtain ⟨u, rfl⟩ : ∃ u, ins = some u := by
            cases ins with
            | none => cases hOb
            | some u => exact ⟨u, rfl⟩
          have hu := hi u rfl
          have hK6 : rK R u = 6 := of_decide_eq_true hOb
          unfold naA at eA
          refine b_Mo_readAll_115 (d := d + 5) ⟨fun z => absurd rfl z, fun _ => ?_⟩
          rw [show hr l q = (34 : Int32) ↔ Chr l q 34 from kc q 34 (by decide), a9]
          refine ⟨fun hc => ?_, fun hc => bad 1 q (by rw [eA, if_neg hc]) _ FR n41⟩
          rw [if_pos hc] at eA
          refine (c_strM (d := d + 2) (tp FR) hb hl hc.1 a9 D1.1 (by omega) n41).mono (fun r8 σ7 hq => ?_)
          obtain ⟨F7, hq⟩ := hq
          have FR7 : Fg MRm σ σ7 := FR.tr (F7.mono (fun p k z => by unfold MTs MEs at z; unfold MRm; omega))
          rcases hq with ⟨L', s1, rfl, s2, s3, s4, s5⟩ | ⟨s1, rfl, s2, s3⟩
          · obtain ⟨t, rfl, lt, ft⟩ := (srS_fit hb 2000 (q + 1) L (by have := hc.1; omega)).2 L' s1
            have sle := (srS_fit hb 2000 (q + 1) L (by have := hc.1; omega)).1
            have hba := bls_app L t
            rw [s1] at eA
            simp only [] at eA
            rw [List.drop_left] at eA
            rw [D1.1.1, s2.1, List.length_append, fs_sub]
            have D7 : DrM σ7 R (L ++ t) := ⟨s2, by rw [F7.1 0 43 (by unfold MTs MEs; omega)]; exact D1.2.1, fun k hk' => MRw_fg F7 (fun p _ _ _ _ _ z => by unfold MTs MEs at z; omega) (D1.2.2.1 k hk'), fun v hv => LkM_fg F7 (fun p k a b z => by unfold MTs MEs at z; omega) (D1.2.2.2 v hv)⟩
            refine ⟨fun _ => (c_namedM (d := d + 3) (RsO_app (t := t) i3) hu hK6 (by omega) (Slc_new L t) lt s2 D7.2.2.1 D7.2.2.2).mono (fun r10 σ9 hq => ?_), fun z => absurd z (by decide)⟩
            obtain ⟨rfl, rfl⟩ := hq
            by_cases hany : (kids R u).any (fun k => decide (rNm R k = t)) = true
            · rw [hany]
              refine ⟨fun z => absurd z (by decide), fun _ => bad 3 q (by rw [eA]; exact if_pos hany) _ FR7 s4⟩
            · have hany' : (kids R u).any (fun k => decide (rNm R k = t)) = false := by simpa using hany
              rw [hany']
              have eA2 : neA l q w (some u) R L na nm = Sum.inr ((srS l 2000 (q + 1) L).2, 4, some u, R, L ++ t, L.length, t) := by rw [eA]; exact if_neg hany
              obtain ⟨e1, e2, e3⟩ := g2 _ eA2
              have mle : mu l (srS l 2000 (q + 1) L).2 4 < mu l p w := e3
              have hr1 : ruA l num 4001 ((srS l 2000 (q + 1) L).2, 4, some u, R, L ++ t, L.length, t) = ruA l num 4001 s0A := by rw [← e1]; exact hr0
              obtain ⟨G1, G2⟩ := ruA_st hb hO e2 (show mu l (srS l 2000 (q + 1) L).2 4 ≤ 4001 by omega) (show (4 : Nat) ≠ 7 by decide)
              have es1 : stA l num ((srS l 2000 (q + 1) L).2, 4, some u, R, L ++ t, L.length, t) = if Chr l (bk l (srS l 2000 (q + 1) L).2) 58 then Sum.inr (bk l (srS l 2000 (q + 1) L).2 + 1, 0, some u, R, L ++ t, L.length, t) else Sum.inl (1, bk l (srS l 2000 (q + 1) L).2) := by
                show neA l (bk l (srS l 2000 (q + 1) L).2) 4 (some u) R (L ++ t) L.length t = _
                unfold neA
                rw [if_neg (by omega), if_neg (by omega), if_neg (by omega), if_neg (by omega)]
              refine ⟨fun _ => (c_blkM (d := d + 4) (tp FR7) hb hl sle s3).mono (fun σ11 hq => ?_), fun z => absurd rfl z⟩
              obtain ⟨F11, d9⟩ := hq
              have hB2 : (srS l 2000 (q + 1) L).2 ≤ bk l (srS l 2000 (q + 1) L).2 ∧ bk l (srS l 2000 (q + 1) L).2 ≤ l.length := bkF_fit _ _ sle
              have FR11 : Fg MRm σ σ11 := FR7.tr (F11.mono (fun p k z => by unfold MRm; omega))
              have d41 : gI σ11 0 41 = 0 := by rw [F11.1 0 41 (by omega)]; exact s4
              have d42 : gI σ11 0 42 = -1 := by rw [F11.1 0 42 (by omega), s5]; exact n42
              have D11 := DrM_fg F11 (fun p k z => by omega) D7
              refine (c_hereM (tp FR11) hl (by omega) d9).mono (fun r13 σ12 hq => ?_)
              obtain ⟨rfl, rfl⟩ := hq
              rw [show hr l (bk l (srS l 2000 (q + 1) L).2) = (58 : Int32) ↔ Chr l (bk l (srS l 2000 (q + 1) L).2) 58 from kc _ 58 (by decide), d9, nI_1]
              refine ⟨fun h58 => ?_, fun h58 => flt _ 1 _ _ e2 (show mu l (srS l 2000 (q + 1) L).2 4 ≤ 4001 by omega) (show (4 : Nat) ≠ 7 by decide) hr1 (by rw [es1, if_neg h58]) FR11 d41⟩
              rw [if_pos h58] at es1
              obtain ⟨H1, H2, H3⟩ := G2 _ es1
              have H3' : mu l (bk l (srS l 2000 (q + 1) L).2 + 1) 0 < mu l (srS l 2000 (q + 1) L).2 4 := H3
              have F13 : Fg (fun p k => p = 0 ∧ k = 9) σ12 (sI σ12 0 9 (nI (bk l (srS l 2000 (q + 1) L).2 + 1))) := Fg.rf.si ⟨rfl, rfl⟩
              have S2 : RmS (sI σ12 0 9 (nI (bk l (srS l 2000 (q + 1) L).2 + 1))) (bk l (srS l 2000 (q + 1) L).2 + 1, 0, some u, R, L ++ t, L.length, t) := ⟨gI_sI_s _ _ _ _, by rw [gI_sI_n (Or.inr (by decide))]; exact d41, by rw [gI_sI_n (Or.inr (by decide))]; exact d42, DrM_fg F13 (fun p k z => by omega) D11⟩
              have G := goG _ _ H2 (by show mu l (bk l (srS l 2000 (q + 1) L).2 + 1) 0 < mu l p w; omega) (by rw [← H1]; exact hr1) (by show (0 : Nat) ≠ 4; decide) (by show (0 : Nat) ≠ 6; decide) S2 (FR11.tr (F13.mono (fun p k z => by unfold MRm; omega)))
              have G' : JE E (d + 6) m_Mo_readAll 489 [(0, pv E 0), (1, .int (nI l.length)), (2, .int (oI (some u))), (3, .int (nI (opD R (some u)))), (4, .int (0 : Int32)), (5, .int (nI L.length)), (6, .int (nmM 0 (some u) R t)), (7, .int (1 : Int32))] [] (sI σ12 0 9 (nI (bk l (srS l 2000 (q + 1) L).2 + 1))) Q := G
              have e6 : nmM 0 (some u) R t = nI t.length := if_pos ⟨hOb, rfl⟩
              rw [e6] at G'
              exact G'
          · rw [s1] at eA
            refine ⟨fun z => absurd rfl z, fun _ => ⟨_, rfl, FR7, Sum.inl (1, (srS l 2000 (q + 1) L).2), by rw [← hr0]; exact g1 _ eA, fun s' e => (by cases e), rfl, s2, s3⟩⟩
        -- which of them
        have kn : w = 1 ∨ w = 3 → ∃ u, ins = some u ∧ u < R.1 ∧ (w = 1 ↔ rK R u = 5) := fun z => by
          cases ins with
          | none => exfalso; unfold wOk isO at i8; simp at i8; omega
          | some u =>
            have hu := hi u rfl
            have h5u := (i4 u rfl).2
            refine ⟨u, rfl, hu, ?_⟩
            have := k6 u hu
            rcases z with y | y
            · subst y
              unfold wOk at i8
              simp at i8
              have : ¬ rK R u = 6 := of_decide_eq_false i8
              exact ⟨fun _ => by omega, fun _ => rfl⟩
            · subst y
              unfold wOk at i8
              simp at i8
              have : rK R u = 6 := of_decide_eq_true i8
              exact ⟨fun x => by omega, fun x => by omega⟩
        have w7' : w ≤ 7 := by unfold wOk at i8; omega
        have hst : nI (stM w) = (3 : Int32) ↔ (w = 1 ∨ w = 3) := by
          have : stM w ≤ 3 ∧ (stM w = 3 ↔ (w = 1 ∨ w = 3)) := by unfold stM; (repeat' split) <;> omega
          rw [← this.2]
          exact nI_eq (b := 3) (by omega) (by decide)
        rw [hst]
        refine ⟨fun z => ?_, fun z => ?_⟩
        · refine b_Mo_readAll_92 (d := d + 5) ⟨fun _ => ?_, fun y => absurd (hst.mp y) z⟩
          have nn : ¬ ((Chr l q 93 ∧ w = 1) ∨ (Chr l q 125 ∧ w = 3)) := fun y => z (y.elim (fun x => Or.inl x.2) (fun x => Or.inr x.2))
          have hw : w = 0 ∨ w = 2 ∨ w = 5 := w_025 w7' w4' w6' h7 z
          rcases hw with y | y | y
          · have : nI (stM w) = 0 := by rw [y]; rfl
            rw [this]; exact val (Or.inl y) nn
          · have : nI (stM w) = 1 := by rw [y]; rfl
            rw [this]; exact nme (Or.inl y) nn
          · have : nI (stM w) = 2 := by rw [y]; rfl
            rw [this]; exact sep y
        · obtain ⟨u, rfl, hu, hk5⟩ := kn z
          have cu : (oI (some u)).toNatClampNeg = u := nI_clamp (by omega)
          have e5 : gI σ5 29 u = (5 : Int32) ↔ w = 1 := by rw [(D1.2.2.1 u hu).1, hk5]; exact nI_eq (b := 5) (by have := k6 u hu; omega) (by decide)
          rw [cu, e5]
          have at92 : ¬ ((Chr l q 93 ∧ w = 1) ∨ (Chr l q 125 ∧ w = 3)) → JE E (d + 6) m_Mo_readAll 92 [(0, pv E 0), (1, .int (nI l.length)), (2, .int (oI (some u))), (3, .int (nI (opD R (some u)))), (4, .int (nI (stM w))), (5, .int (nI na)), (6, .int (nmM w (some u) R nm)), (7, .int (1 : Int32)), (8, .int (hr l q))] [] σ5 Q := by
            intro nn
            refine b_Mo_readAll_92 (d := d + 5) ⟨fun y => absurd (hst.mpr z) y, fun _ => ⟨vin (by omega) (by decide), ?_⟩⟩
            rw [cu, e5]
            exact ⟨fun y => b_Mo_readAll_113 (d := d + 5) (nme (Or.inr (z.resolve_left y)) nn), fun y => b_Mo_readAll_113 (d := d + 5) (val (Or.inr y) nn)⟩
          refine ⟨vin (by omega) (by decide), fun y => b_Mo_readAll_83 (d := d + 5) ?_, fun y => b_Mo_readAll_83 (d := d + 5) ?_⟩
          · rw [show hr l q = (125 : Int32) ↔ Chr l q 125 from kc q 125 (by decide)]
            exact ⟨fun x => at92 (fun v => v.elim (fun t => y t.2) (fun t => x t.1)), fun x => clF (Or.inr ⟨x, z.resolve_left y⟩)⟩
          · rw [show hr l q = (93 : Int32) ↔ Chr l q 93 from kc q 93 (by decide)]
            exact ⟨fun x => at92 (fun v => v.elim (fun t => x t.1) (fun t => absurd (y.symm.trans t.2) (by decide))), fun x => clF (Or.inl ⟨x, y⟩)⟩
  obtain ⟨i1, i2⟩ := s0_in l
  refine CE.of (L := [(0, pv E 0), (1, .int (nI l.length))]) rfl (Nat.le_of_ble_eq_true rfl) rfl (b_Mo_readAll_0 (d := d + 5) ?_)
  have F0 : Fg MRm σ (sI (sI (sI (sI (sI σ 0 43 (0 : Int32)) 0 44 (0 : Int32)) 0 41 (0 : Int32)) 0 42 (-1 : Int32)) 0 9 (0 : Int32)) := ((((Fg.rf.si (by unfold MRm; omega)).si (by unfold MRm; omega)).si (by unfold MRm; omega)).si (by unfold MRm; omega)).si (by unfold MRm; omega)
  refine loop 4001 s0A _ (by rw [i2]; omega) (Nat.le_refl _) i1 rfl (by decide) (by decide) ⟨?_, ?_, ?_, ⟨?_, fun k hk => absurd hk (Nat.not_lt_zero k)⟩, ?_, fun k hk => absurd hk (Nat.not_lt_zero k), fun k hk => absurd hk (Nat.not_lt_zero k)⟩ F0 <;> first | (simp [gI_sI]; done) | (simp [gI_sI]; rfl)
