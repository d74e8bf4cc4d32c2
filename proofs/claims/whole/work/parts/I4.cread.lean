/-! the class's reader: its state, and its small steps -/
def DrC (σ : S_t) (R : Nds) (L : List Nat) : Prop := DcC σ L ∧ gI σ 180 13 = nI R.1 ∧ (∀ k, k < R.1 → CRw σ R k) ∧ ∀ u, u < R.1 → LkC σ R u
def RcA (σ : S_t) (p w : Nat) (ins : Option Nat) (R : Nds) (L : List Nat) (na : Nat) (nm : List Nat) : Prop := gI σ 51 2 = nI p ∧ gI σ 63 7 = nI w ∧ gI σ 63 8 = oI ins ∧ gI σ 63 9 = nI (opD R ins) ∧ gI σ 63 10 = nI na ∧ gI σ 63 11 = nI nm.length ∧ ((w = 0 ∨ w = 4) → isO R ins = true → gI σ 63 12 = oI (paO R ins nm)) ∧ gI σ 63 13 = 0 ∧ DrC σ R L
def RdS (σ : S_t) (s : St) : Prop := RcA σ s.1 s.2.1 s.2.2.1 s.2.2.2.1 s.2.2.2.2.1 s.2.2.2.2.2.1 s.2.2.2.2.2.2
def RsC (σ : S_t) (z : Rz) : Prop := match z with
  | Sum.inl f => gI σ 63 13 = nI f.1 ∧ gI σ 63 14 = nI f.2
  | Sum.inr s => RdS σ s
def MRe : Nat → Nat → Prop := fun p k => (p = 51 ∧ k = 2) ∨ (63 ≤ p ∧ p ≤ 66) ∨ (180 ≤ p ∧ p ≤ 191) ∨ (55 ≤ p ∧ p ≤ 58)
theorem CRw_fg {P : Nat → Nat → Prop} {σ σ' : S_t} {R : Nds} {k : Nat} (hF : Fg P σ σ') (h : ∀ p, 181 ≤ p → p ≤ 190 → ¬ P p k) (hC : CRw σ R k) : CRw σ' R k := by
  have e : ∀ p, 181 ≤ p → p ≤ 190 → gI σ' p k = gI σ p k := fun p a b => hF.1 p k (h p a b)
  obtain ⟨c1, c2, c3, c4, c5, c6⟩ := hC
  refine ⟨?_, ?_, ?_, ?_, ?_, fun z => ?_⟩
  · rw [e 181 (by omega) (by omega)]; exact c1
  · rw [e 183 (by omega) (by omega)]; exact c2
  · rw [hF.2.1 187 k (h 187 (by omega) (by omega))]; exact c3
  · rw [e 188 (by omega) (by omega)]; exact c4
  · rw [e 189 (by omega) (by omega)]; exact c5
  · rw [e 190 (by omega) (by omega), e 182 (by omega) (by omega)]; exact c6 z
theorem LkC_fg {P : Nat → Nat → Prop} {σ σ' : S_t} {R : Nds} {u : Nat} (hF : Fg P σ σ') (h : ∀ p k, 64 ≤ p → p ≤ 66 → ¬ P p k) (hC : LkC σ R u) : LkC σ' R u := by
  obtain ⟨c1, c2, c3⟩ := hC
  refine ⟨?_, fun z => ?_, fun z => ?_⟩
  · rw [hF.1 64 u (h 64 u (by omega) (by omega))]
    exact ch_congr (fun c _ => hF.1 66 c (h 66 c (by omega) (by omega))) c1
  · rw [hF.1 65 u (h 65 u (by omega) (by omega))]; exact c2 z
  · rw [hF.1 66 u (h 66 u (by omega) (by omega))]; exact c3 z
theorem DrC_fg {P : Nat → Nat → Prop} {σ σ' : S_t} {R : Nds} {L : List Nat} (hF : Fg P σ σ') (h : ∀ p k, P p k → ¬ (64 ≤ p ∧ p ≤ 66) ∧ ¬ (180 ≤ p ∧ p ≤ 191)) (hD : DrC σ R L) : DrC σ' R L := by
  obtain ⟨d1, d2, d3, d4⟩ := hD
  refine ⟨DcC_fg hF (fun p k z y => (h p k z).2 (by omega)) d1, ?_, fun k hk => CRw_fg hF (fun p a b z => (h p k z).2 (by omega)) (d3 k hk), fun u hu => LkC_fg hF (fun p k a b z => (h p k z).1 (by omega)) (d4 u hu)⟩
  rw [hF.1 180 13 (fun z => (h _ _ z).2 (by omega))]; exact d2
def M63 : Nat → Nat → Prop := fun p k => (p = 51 ∧ k = 2) ∨ p = 63
theorem M63_R {p k : Nat} (h : M63 p k) : MRe p k := by unfold M63 at h; unfold MRe; omega
theorem M63_D {p k : Nat} (h : M63 p k) : ¬ (64 ≤ p ∧ p ≤ 66) ∧ ¬ (180 ≤ p ∧ p ≤ 191) := by unfold M63 at h; omega
theorem c_blame {E : En_t} {d f x : Nat} {σ : S_t} : CV E d m_Re_blame [pv E 63, .int (nI f), .int (nI x)] σ (fun σ' => Fg M63 σ σ' ∧ RsC σ' (Sum.inl (f, x))) :=
  CE.of (L := [(0, pv E 63), (1, .int (nI f)), (2, .int (nI x))]) rfl (Nat.le_of_ble_eq_true rfl) rfl (b_Re_blame_0 ⟨rfl, (Fg.rf.si (Or.inr rfl)).si (Or.inr rfl), by rw [gI_sI_n (Or.inr (by decide)), gI_sI_s], by rw [gI_sI_s]⟩)
theorem oI_m1 {i : Option Nat} (h : ∀ u, i = some u → u < 500) : oI i = -1 ↔ i = none := by
  cases i with
  | none => exact ⟨fun _ => rfl, fun _ => rfl⟩
  | some u => exact ⟨fun q => absurd q.symm (nI_neg1 (by have := h u rfl; omega)), fun q => by cases q⟩
theorem c_wBh {E : En_t} {d : Nat} {i : Option Nat} {σ : S_t} (h8 : gI σ 63 8 = oI i) (h : ∀ u, i = some u → u < 500) : CV E d m_Re_wantBehindValue [pv E 63] σ (fun σ' => σ' = sI σ 63 7 (nI (wBh i))) := by
  refine CE.of (L := [(0, pv E 63)]) rfl (Nat.le_of_ble_eq_true rfl) rfl (b_Re_wantBehindValue_0 ?_)
  rw [h8, oI_m1 h]
  unfold wBh
  exact ⟨fun q => ⟨rfl, by rw [if_neg q]; rfl⟩, fun q => ⟨rfl, by rw [if_pos q]; rfl⟩⟩
theorem c_closeC {E : En_t} {d q w na : Nat} {ins : Option Nat} {R : Nds} {L nm : List Nat} {σ : S_t} (hO : RsO R L) (hi : ∀ u, ins = some u → u < R.1) (hn : ins ≠ none) (h : RcA σ q w ins R L na nm) : CV E (d + 1) m_Re_close [pv E 63] σ (fun σ' => Fg MRe σ σ' ∧ RdS σ' (clA q ins R L na nm)) := by
  obtain ⟨h2, h7, h8, h9, h10, h11, h12, h13, hD⟩ := h
  cases ins with
  | none => exact absurd rfl hn
  | some u =>
    have hu := hi u rfl
    have h5 := hO.1
    have hN := (hO.2.1 u hu).2.2.2.2.2.2.2.2
    have cu : (nI u).toNatClampNeg = u := nI_clamp (by omega)
    have hup : ∀ v, rU R u = some v → v < 500 := fun v hv => by have := (hN.2.1 v hv).1; omega
    have hop : opD R (rU R u) = rT R u := by
      cases hv : rU R u with
      | none => exact (hN.1 hv).2.symm
      | some v => exact (hN.2.1 v hv).2.2.symm
    refine CE.of (L := [(0, pv E 63)]) rfl (Nat.le_of_ble_eq_true rfl) rfl (b_Re_close_0 ?_)
    have e9 : gI (sI σ 51 2 (nI q + (1 : Int32))) 63 9 = nI (opD R (some u)) := by rw [gI_sI_n (Or.inl (by decide))]; exact h9
    rw [h2, e9]
    generalize e : sI (sI σ 51 2 (nI q + (1 : Int32))) 63 9 (nI (opD R (some u)) - (1 : Int32)) = τ
    have F1 : Fg M63 σ τ := by rw [← e]; exact (Fg.rf.si (Or.inl ⟨rfl, rfl⟩)).si (Or.inr rfl)
    have t2 : gI τ 51 2 = nI (q + 1) := by rw [← e]; simp [gI_sI, nI_1]
    have t9 : gI τ 63 9 = nI (rT R u) := by rw [← e, gI_sI_s]; exact nI_m1 _
    have t8 : gI τ 63 8 = nI u := by rw [← e]; simp [gI_sI]; exact h8
    have D1 := DrC_fg F1 (fun p k z => M63_D z) hD
    intro v1 e1
    rw [t8] at e1
    subst e1
    refine ⟨fun z => absurd z (nI_nn (by omega)), fun _ v2 e2 => ?_⟩
    rw [t8] at e2
    subst e2
    refine ⟨vin (by omega) (by decide), fun v3 e3 => ?_⟩
    rw [cu, (D1.2.2.1 u hu).2.1] at e3
    subst e3
    refine b_Re_close_47 ((c_wBh (i := rU R u) (gI_sI_s _ _ _ _) hup).mono (fun σ1 hq => ?_))
    rw [hq]
    have F2 : Fg M63 τ (sI (sI τ 63 8 (oI (rU R u))) 63 7 (nI (wBh (rU R u)))) := (Fg.rf.si (Or.inr rfl)).si (Or.inr rfl)
    have o : ∀ k, k ≠ 7 → k ≠ 8 → gI (sI (sI τ 63 8 (oI (rU R u))) 63 7 (nI (wBh (rU R u)))) 63 k = gI τ 63 k := fun k a b => by rw [gI_sI_n (Or.inr a), gI_sI_n (Or.inr b)]
    have o' : ∀ k, k ≠ 9 → gI τ 63 k = gI σ 63 k := fun k a => by rw [← e, gI_sI_n (Or.inr a), gI_sI_n (Or.inl (by decide))]
    refine ⟨rfl, (F1.tr F2).mono (fun p k z => M63_R z), ?_, ?_, ?_, ?_, ?_, ?_, fun z => ?_, ?_, DrC_fg F2 (fun p k z => M63_D z) D1⟩
    · rw [gI_sI_n (Or.inl (by decide)), gI_sI_n (Or.inl (by decide))]; exact t2
    · exact gI_sI_s _ _ _ _
    · rw [gI_sI_n (Or.inr (by decide)), gI_sI_s]; rfl
    · rw [o 9 (by decide) (by decide), t9]
      show _ = nI (opD R (rU R u))
      rw [hop]
    · rw [o 10 (by decide) (by decide), o' 10 (by decide)]; exact h10
    · rw [o 11 (by decide) (by decide), o' 11 (by decide)]; exact h11
    · exfalso
      have z' : wBh (rU R u) = 0 ∨ wBh (rU R u) = 4 := z
      rcases wBh_ok (rU R u) with y | y <;> omega
    · rw [o 13 (by decide) (by decide), o' 13 (by decide)]; exact h13
theorem c_valueC {E : En_t} {d q w na : Nat} {l : List Nat} {ins : Option Nat} {R : Nds} {L nm : List Nat} {σ : S_t} (hq : q < 100000) (hO : RsO R L) (hi : ∀ u, ins = some u → u < R.1 ∧ 5 ≤ rK R u) (hw : w = 0 ∨ isO R ins = false) (h : RcA σ q w ins R L na nm) : CV E (d + 2) m_Re_readValue [pv E 63, .int (oI (kdb l q))] σ (fun σ' => Fg MRe σ σ' ∧ RsC σ' (vaA l q ins R L na nm)) := by
  obtain ⟨h2, h7, h8, h9, h10, h11, h12, h13, hD⟩ := h
  have h5 := hO.1
  have k6 : ∀ K, kdb l q = some K → K ≤ 6 := fun K hK => (kdb_lt hK).2
  unfold vaA
  refine CE.of (L := [(0, pv E 63), (1, .int (oI (kdb l q)))]) rfl (Nat.le_of_ble_eq_true rfl) rfl (b_Re_readValue_0 (d := d + 1) ?_)
  cases hk : kdb l q with
  | none =>
    refine ⟨fun z => absurd rfl z, fun _ => ?_⟩
    rw [h2]
    exact (c_blame (f := 1)).mono (fun σ1 hq1 => ⟨rfl, hq1.1.mono (fun p k z => M63_R z), hq1.2⟩)
  | some K =>
    have K6 := k6 K hk
    have o30 : opD R ins ≤ 30 := by
      cases ins with
      | none => exact Nat.zero_le _
      | some u =>
        obtain ⟨a, b⟩ := hi u rfl
        have := (hO.2.1 u a).2.2.1 b
        show rT R u + 1 ≤ 30
        omega
    have eqK : ∀ c, c < 7 → (nI K = nI c ↔ K = c) := fun c hc => nI_eq (by omega) (by omega)
    show (¬ nI K = -1 → _) ∧ (nI K = -1 → _)
    refine ⟨fun _ => ?_, fun z => absurd z.symm (nI_neg1 (by omega))⟩
    -- behind the two tests
    have go : ∀ x2 : Int32, (x2 = 0 ↔ ¬ 5 ≤ K) → ¬ (5 ≤ K ∧ 30 ≤ opD R ins) → JE E (d + 2) m_Re_readValue 61 [(0, pv E 63), (1, .int (nI K)), (2, .int x2)] [] σ (fun r σ' => r = none ∧ Fg MRe σ σ' ∧ RsC σ' (if 5 ≤ K ∧ 30 ≤ opD R ins then Sum.inl (4, q) else if 500 ≤ R.1 then Sum.inl (5, q) else if 5 ≤ K then Sum.inr (q + 1, if K = 6 then 3 else 1, some R.1, psh R (nwN K ins R na nm), L, na, nm) else Sum.inr (q, 6, ins, psh R (nwN K ins R na nm), L, na, nm))) := by
      intro x2 hx hno
      rw [if_neg hno]
      refine b_Re_readValue_61 (d := d + 1) ?_
      rw [h8]
      by_cases g : 500 ≤ R.1
      · rw [if_pos g]
        have e5 : R.1 = 500 := by omega
        refine CE.of (L := [(0, pv E 180), (1, .int (nI K)), (2, .int (oI ins))]) rfl (Nat.le_of_ble_eq_true rfl) rfl (b_Tr_add_0 (by decide) ⟨fun z => absurd hD.1.2.2.1 z, fun _ => ⟨fun z => absurd z (by rw [hD.2.1, e5]; decide), fun _ => ⟨_, rfl, ?_⟩⟩⟩)
        refine ⟨fun z => absurd rfl z, fun _ => ?_⟩
        rw [gI_sI_n (Or.inl (by decide)), h2]
        exact (c_blame (f := 5)).mono (fun σ1 hq1 => ⟨rfl, ((Fg.rf.si (Or.inr (Or.inr (Or.inl ⟨by decide, by decide⟩)))).tr (hq1.1.mono (fun p k z => M63_R z))), hq1.2⟩)
      · rw [if_neg g]
        have hn : R.1 < 500 := by omega
        refine (c_addD (K := K) hn hD.2.1 hD.1.2.2.1 (fun u hu => (hi u hu).1)).mono (fun r2 σ1 hq1 => ?_)
        obtain ⟨rfl, F1, a13, a1, a2, a3, a7, a10⟩ := hq1
        refine ⟨fun _ => ?_, fun z => absurd z.symm (nI_neg1 (by omega))⟩
        have nP : ∀ p k, ¬ (180 ≤ p ∧ p ≤ 190) → ¬ AdM R.1 ins p k := fun p k a z => by unfold AdM at z; omega
        have nP2 : ∀ p k, k < R.1 → p ≠ 182 → p ≠ 180 → ¬ AdM R.1 ins p k := fun p k a b c z => by unfold AdM at z; omega
        have g63 : ∀ k, gI σ1 63 k = gI σ 63 k := fun k => F1.1 63 k (nP 63 k (by omega))
        refine (c_link (K := K) (na := na) (nm := nm) hO hn (fun u hu => (hi u hu).1) (by rw [g63]; exact h8) (by rw [g63]; exact h10) (by rw [g63]; exact h11) (fun u hu h6 => ?_) (fun k hk' => ?_) (fun u hu => LkC_fg F1 (fun p k a b => nP p k (by omega)) (hD.2.2.2 u hu))).mono (fun σ3 hq3 => ?_)
        · rw [g63]
          have hOb : isO R ins = true := by rw [hu]; exact decide_eq_true h6
          rcases hw with z | z
          · exact h12 (Or.inl z) hOb
          · rw [z] at hOb; cases hOb
        · rw [F1.1 181 k (nP2 181 k hk' (by omega) (by omega))]; exact (hD.2.2.1 k hk').1
        · obtain ⟨F3, b8, b9, hL3⟩ := hq3
          have mLi : ∀ p k, LiM R.1 p k → (64 ≤ p ∧ p ≤ 66) ∨ ((p = 188 ∨ p = 189) ∧ k = R.1) := fun p k z => by unfold LiM at z; omega
          have n3 : ∀ p k, ¬ (64 ≤ p ∧ p ≤ 66) → (k < R.1 ∨ (p ≠ 188 ∧ p ≠ 189)) → ¬ LiM R.1 p k := fun p k a b z => by have := mLi p k z; omega
          have FR : Fg MRe σ σ3 := (F1.mono (fun p k z => by unfold AdM at z; unfold MRe; omega)).tr (F3.mono (fun p k z => by have := mLi p k z; unfold MRe; omega))
          have q63 : ∀ k, gI σ3 63 k = gI σ 63 k := fun k => by rw [F3.1 63 k (n3 63 k (by omega) (Or.inr (by omega)))]; exact g63 k
          have q2 : gI σ3 51 2 = nI q := by rw [F3.1 51 2 (n3 51 2 (by omega) (Or.inr (by omega))), F1.1 51 2 (nP 51 2 (by omega))]; exact h2
          have D3 : DrC σ3 (psh R (nwN K ins R na nm)) L := by
            refine ⟨?_, ?_, fun k hk' => ?_, hL3⟩
            · refine DcC_fg F3 (fun p k z y => by have := mLi p k z; omega) (DcC_fg F1 (fun p k z y => by unfold AdM at z; omega) hD.1)
            · rw [F3.1 180 13 (n3 180 13 (by omega) (Or.inr (by omega)))]; exact a13
            · by_cases gk : k = R.1
              · subst gk
                have en : (psh R (nwN K ins R na nm)).2 R.1 = nwN K ins R na nm := psh_eq R _
                unfold CRw rK rU rBi rNa rNm rTa rTx
                rw [en]
                refine ⟨?_, ?_, ?_, b8, b9, fun _ => ⟨?_, ?_⟩⟩
                · rw [F3.1 181 _ (n3 181 _ (by omega) (Or.inr (by omega)))]; exact a1
                · rw [F3.1 183 _ (n3 183 _ (by omega) (Or.inr (by omega)))]; exact a3
                · rw [F3.2.1 187 _ (n3 187 _ (by omega) (Or.inr (by omega)))]; exact a7
                · rw [F3.1 190 _ (n3 190 _ (by omega) (Or.inr (by omega)))]; exact a10
                · rw [F3.1 182 _ (n3 182 _ (by omega) (Or.inr (by omega)))]; exact a2
              · have hk2 : k < R.1 := by have : k < R.1 + 1 := hk'; omega
                obtain ⟨c1, c2, c3, c4, c5, c6⟩ := hD.2.2.1 k hk2
                have e13 : ∀ p, 181 ≤ p → p ≤ 190 → p ≠ 182 → gI σ3 p k = gI σ p k := fun p a b c => by rw [F3.1 p k (n3 p k (by omega) (Or.inl hk2)), F1.1 p k (nP2 p k hk2 c (by omega))]
                have eo : (psh R (nwN K ins R na nm)).2 k = R.2 k := psh_lt hk2
                unfold CRw rK rU rBi rNa rNm rTa rTx at *
                rw [eo]
                refine ⟨by rw [e13 181 (by omega) (by omega) (by omega)]; exact c1, by rw [e13 183 (by omega) (by omega) (by omega)]; exact c2, ?_, by rw [e13 188 (by omega) (by omega) (by omega)]; exact c4, by rw [e13 189 (by omega) (by omega) (by omega)]; exact c5, fun z => ⟨by rw [e13 190 (by omega) (by omega) (by omega)]; exact (c6 z).1, ?_⟩⟩
                · rw [F3.2.1 187 k (n3 187 k (by omega) (Or.inl hk2)), F1.2.1 187 k (nP2 187 k hk2 (by omega) (by omega))]; exact c3
                · rw [F3.1 182 k (n3 182 k (by omega) (Or.inl hk2)), F1.1 182 k (fun y => ?_)]
                  · exact (c6 z).2
                  · unfold AdM at y
                    have : ins = some k := by
                      rcases y with y | y | y
                      · omega
                      · omega
                      · exact y.2
                    have := (hi k this).2
                    omega
          have hop : opD (psh R (nwN K ins R na nm)) ins = opD R ins := by
            cases ins with
            | none => rfl
            | some u => show rT _ u + 1 = rT R u + 1; unfold rT; rw [psh_lt (hi u rfl).1]
          have isOp : isO (psh R (nwN K ins R na nm)) ins = isO R ins := isO_psh (fun u hu => (hi u hu).1)
          by_cases zK : 5 ≤ K
          · rw [if_pos zK]
            refine ⟨fun z => absurd zK (hx.mp z), fun _ σ4 e4 => ?_⟩
            have F4 : Fg M63 σ3 σ4 := by rw [e4]; exact ((Fg.rf.si (Or.inr rfl)).si (Or.inl ⟨rfl, rfl⟩)).si (Or.inr rfl)
            have s2 : gI σ4 51 2 = nI (q + 1) := by rw [e4]; simp [gI_sI, q2, nI_1]
            have s9 : gI σ4 63 9 = nI (opD R ins + 1) := by rw [e4]; simp [gI_sI, q63, h9, nI_1]
            have s63 : ∀ k, k ≠ 7 → k ≠ 9 → gI σ4 63 k = gI σ 63 k := fun k a b => by rw [e4, gI_sI_n (Or.inr b), gI_sI_n (Or.inl (by decide)), gI_sI_n (Or.inr a)]; exact q63 k
            have fin : ∀ w' : Nat, w' = (if K = 6 then 3 else 1) → Fg MRe σ (sI (sI σ4 63 8 (nI R.1)) 63 7 (nI w')) ∧ RsC (sI (sI σ4 63 8 (nI R.1)) 63 7 (nI w')) (Sum.inr (q + 1, if K = 6 then 3 else 1, some R.1, psh R (nwN K ins R na nm), L, na, nm)) := by
              intro w' hw'
              have F5 : Fg M63 σ4 (sI (sI σ4 63 8 (nI R.1)) 63 7 (nI w')) := (Fg.rf.si (Or.inr rfl)).si (Or.inr rfl)
              have o : ∀ k, k ≠ 7 → k ≠ 8 → k ≠ 9 → gI (sI (sI σ4 63 8 (nI R.1)) 63 7 (nI w')) 63 k = gI σ 63 k := fun k a b c => by rw [gI_sI_n (Or.inr a), gI_sI_n (Or.inr b)]; exact s63 k a c
              refine ⟨FR.tr ((F4.tr F5).mono (fun p k z => M63_R z)), ?_, ?_, ?_, ?_, ?_, ?_, fun z => ?_, ?_, DrC_fg F5 (fun p k z => M63_D z) (DrC_fg F4 (fun p k z => M63_D z) D3)⟩
              · rw [gI_sI_n (Or.inl (by decide)), gI_sI_n (Or.inl (by decide))]; exact s2
              · rw [gI_sI_s, hw']
              · rw [gI_sI_n (Or.inr (by decide)), gI_sI_s]; rfl
              · rw [gI_sI_n (Or.inr (by decide)), gI_sI_n (Or.inr (by decide)), s9]
                show _ = nI (rT (psh R (nwN K ins R na nm)) R.1 + 1)
                unfold rT; rw [psh_eq]; rfl
              · rw [o 10 (by decide) (by decide) (by decide)]; exact h10
              · rw [o 11 (by decide) (by decide) (by decide)]; exact h11
              · exfalso
                have z' : (if K = 6 then 3 else 1) = 0 ∨ (if K = 6 then 3 else 1) = 4 := z
                revert z'
                split <;> omega
              · rw [o 13 (by decide) (by decide) (by decide)]; exact h13
            refine ⟨fun z => ⟨rfl, fin 1 ?_⟩, fun z => ⟨rfl, fin 3 ?_⟩⟩
            · rw [if_neg (fun y => z (by rw [y]; rfl))]
            · rw [if_pos ((eqK 6 (by decide)).mp z)]
          · rw [if_neg zK]
            refine ⟨fun _ => ⟨rfl, FR.si (Or.inr (Or.inl ⟨by decide, by decide⟩)), ?_⟩, fun z => absurd (hx.mpr zK) z⟩
            have F5 : Fg M63 σ3 (sI σ3 63 7 (6 : Int32)) := Fg.rf.si (Or.inr rfl)
            have o : ∀ k, k ≠ 7 → gI (sI σ3 63 7 (6 : Int32)) 63 k = gI σ 63 k := fun k a => by rw [gI_sI_n (Or.inr a)]; exact q63 k
            refine ⟨?_, gI_sI_s _ _ _ _, ?_, ?_, ?_, ?_, fun z => ?_, ?_, DrC_fg F5 (fun p k z => M63_D z) D3⟩
            · rw [gI_sI_n (Or.inl (by decide))]; exact q2
            · rw [o 8 (by decide)]; exact h8
            · rw [o 9 (by decide)]
              show _ = nI (opD (psh R (nwN K ins R na nm)) ins)
              rw [hop]; exact h9
            · rw [o 10 (by decide)]; exact h10
            · rw [o 11 (by decide)]; exact h11
            · exfalso
              have z' : (6 : Nat) = 0 ∨ (6 : Nat) = 4 := z
              omega
            · rw [o 13 (by decide)]; exact h13
    have at34 : ∀ s0 : Int32, (s0 = 0 ↔ ¬ 5 ≤ K) → JE E (d + 2) m_Re_readValue 34 [(0, pv E 63), (1, .int (nI K))] [.int s0] σ (fun r σ' => r = none ∧ Fg MRe σ σ' ∧ RsC σ' (if 5 ≤ K ∧ 30 ≤ opD R ins then Sum.inl (4, q) else if 500 ≤ R.1 then Sum.inl (5, q) else if 5 ≤ K then Sum.inr (q + 1, if K = 6 then 3 else 1, some R.1, psh R (nwN K ins R na nm), L, na, nm) else Sum.inr (q, 6, ins, psh R (nwN K ins R na nm), L, na, nm))) := by
      intro s0 hs
      refine b_Re_readValue_34 (d := d + 1) ⟨fun z => go s0 hs (fun y => hs.mp z y.1), fun z => ?_⟩
      rw [h9]
      refine ⟨fun y => go s0 hs (fun x => ?_), fun y => ?_⟩
      · exact absurd y (nI_nlt (b := 30) x.2 (by omega))
      · have h5K : 5 ≤ K := Classical.not_not.mp (fun x => z (hs.mpr x))
        have h30 : 30 ≤ opD R ins := Nat.not_lt.mp (fun x => y (nI_lt (b := 30) x (by decide)))
        rw [if_pos ⟨h5K, h30⟩, h2]
        exact (c_blame (f := 4)).mono (fun σ1 hq1 => ⟨rfl, hq1.1.mono (fun p k z => M63_R z), hq1.2⟩)
    refine ⟨fun z => ?_, fun z => ⟨fun y => ?_, fun y => ?_⟩⟩
    · have : K = 5 := (eqK 5 (by decide)).mp z
      exact b_Re_readValue_29 (d := d + 1) (at34 1 ⟨fun x => absurd x (by decide), fun x => absurd (by omega) x⟩)
    · have n5 : K ≠ 5 := fun x => z (by show nI K = nI 5; rw [x])
      have n6 : K ≠ 6 := fun x => y (by show nI K = nI 6; rw [x])
      exact at34 0 ⟨fun _ => by omega, fun _ => rfl⟩
    · have : K = 6 := (eqK 6 (by decide)).mp y
      exact b_Re_readValue_29 (d := d + 1) (at34 1 ⟨fun x => absurd x (by decide), fun x => absurd (by omega) x⟩)
