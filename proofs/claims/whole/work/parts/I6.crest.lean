/-! numbers, as one function; the class's rest of a plain value; its loop -/
def NumS (l : List Nat) (num : Nat → Option Nat × Nat) : Prop := ∀ p, p ≤ l.length → (∀ b, NmF l p b → num p = (none, b)) ∧ (NmO l p → ∀ v, NmV l p v → ∃ B, B < 2 ^ 64 ∧ v = lN B ∧ num p = (some B, nA4 l p))
theorem lN_ex (v : Int64) : ∃ B, B < 2 ^ 64 ∧ v = lN B := by
  refine ⟨v.toBitVec.toNat, v.toBitVec.isLt, ?_⟩
  apply Int64.toBitVec_inj.mp
  rw [lN_bv, BitVec.ofNat_toNat, BitVec.setWidth_eq]
theorem NmO_lt {l : List Nat} {a : Nat} (ha : a ≤ l.length) (h : NmO l a) : a < nA4 l a ∧ nA4 l a ≤ l.length := by
  have h0 := (nA0_le ha).2
  have h1 : nA0 l a < nA1 l a := by
    unfold nA1
    split
    · omega
    · have := (nd_pos (l := l) (a := nA0 l a)).mpr h.1
      omega
  have h2 : nA1 l a ≤ nA2 l a := by unfold nA2; split <;> omega
  have h3 : nA2 l a ≤ nA4 l a := by
    unfold nA4
    split
    · have : nA2 l a ≤ nA3 l a := by unfold nA3; split <;> omega
      omega
    · omega
  exact ⟨by omega, (nA4_le ha).1⟩
theorem num_ex (l : List Nat) : ∃ num : Nat → Option Nat × Nat, NumO l num ∧ NumS l num := by
  have h : ∀ p, ∃ y : Option Nat × Nat, (∀ b, NmF l p b → y = (none, b)) ∧ (NmO l p → ∀ v, NmV l p v → ∃ B, B < 2 ^ 64 ∧ v = lN B ∧ y = (some B, nA4 l p)) ∧ ∀ B, y.1 = some B → B < 2 ^ 64 ∧ NmO l p ∧ y.2 = nA4 l p := by
    intro p
    by_cases h1 : ∃ b, NmF l p b
    · obtain ⟨b, hb⟩ := h1
      exact ⟨(none, b), fun b' hb' => by rw [NmF_uniq hb hb'], fun ho => absurd ho (NmF_no hb), fun B z => by cases z⟩
    · by_cases h2 : NmO l p ∧ ∃ v, NmV l p v
      · obtain ⟨ho, v, hv⟩ := h2
        obtain ⟨B, b1, b2⟩ := lN_ex v
        refine ⟨(some B, nA4 l p), fun b hb => absurd ⟨b, hb⟩ h1, fun _ v' hv' => ⟨B, b1, by rw [NmV_uniq hv' hv]; exact b2, rfl⟩, fun B' z => ?_⟩
        have : B = B' := Option.some.inj z
        subst this
        exact ⟨b1, ho, rfl⟩
      · exact ⟨(none, 0), fun b hb => absurd ⟨b, hb⟩ h1, fun ho v hv => absurd ⟨ho, v, hv⟩ h2, fun B z => by cases z⟩
  obtain ⟨num, hn⟩ := Classical.axiomOfChoice h
  refine ⟨num, fun p hp B hB => ?_, fun p _ => ⟨(hn p).1, (hn p).2.1⟩⟩
  obtain ⟨b1, b2, b3⟩ := (hn p).2.2 B hB
  rw [b3]
  exact ⟨b1, NmO_lt hp b2⟩
theorem LkC_fil {σ : S_t} {R : Nds} {u ta b : Nat} {tx : List Nat} (h : LkC σ R u) : LkC σ (fil R ta tx b) u := by
  unfold LkC
  rw [skids_fil, kids_fil, (fil_U R ta tx b u).1, (fil_U R ta tx b u).2.2.1]
  exact h
theorem CRw_fil {σ : S_t} {R : Nds} {k ta b : Nat} {tx : List Nat} (hk : k ≠ R.1 - 1) (h : CRw σ R k) : CRw σ (fil R ta tx b) k := by
  unfold CRw rK rU rBi rNa rNm rTa rTx at *
  rw [fil_o hk]
  exact h
theorem opD_fil (R : Nds) (ta : Nat) (tx : List Nat) (b : Nat) (ins : Option Nat) : opD (fil R ta tx b) ins = opD R ins := by
  cases ins with
  | none => rfl
  | some u => show rT (fil R ta tx b) u + 1 = rT R u + 1; rw [(fil_U R ta tx b u).2.1]
theorem c_restC {E : En_t} {d p na : Nat} {l : List Nat} {num : Nat → Option Nat × Nat} {ins : Option Nat} {R : Nds} {L nm : List Nat} {σ : S_t} (hT : TpC σ l) (hb : Bt l) (hl : l.length ≤ 2000) (hN : NumS l num) (hI : IvA l p 6 ins R L na nm) (h : RcA σ p 6 ins R L na nm) : CV E (d + 7) m_Re_readRest [pv E 63, .int (gI σ 180 13 - (1 : Int32))] σ (fun σ' => Fg MRe σ σ' ∧ RsC σ' (reA l num p ins R L na nm)) := by
  obtain ⟨i1, i2, i3, i4, i5, i6, i7, i8, i9⟩ := hI
  obtain ⟨k0, k4, kk, kx⟩ : 0 < R.1 ∧ rK R (R.1 - 1) ≤ 4 ∧ kdb l p = some (rK R (R.1 - 1)) ∧ rTx R (R.1 - 1) = [] := by
    unfold wOk at i8
    simp at i8
    exact i8
  obtain ⟨kl, _⟩ := kdb_lt kk
  obtain ⟨h2, h7, h8, h9, h10, h11, h12, h13, hD⟩ := h
  have h5 := i3.1
  have hn : R.1 - 1 < R.1 := by omega
  have hNd := i3.2.1 _ hn
  have em : gI σ 180 13 - (1 : Int32) = nI (R.1 - 1) := by rw [hD.2.1, show R.1 = (R.1 - 1) + 1 by omega]; exact nI_m1 _
  rw [em]
  have cn : (nI (R.1 - 1)).toNatClampNeg = R.1 - 1 := nI_clamp (by omega)
  have vn : vp_in (nI (R.1 - 1)) 500 := vin (by omega) (by decide)
  refine CE.of (L := [(0, pv E 63), (1, .int (nI (R.1 - 1)))]) rfl (Nat.le_of_ble_eq_true rfl) rfl (b_Re_readRest_0 (d := d + 6) ?_)
  refine (c_wBh (i := ins) h8 (fun u hu => by have := (i4 u hu).1; omega)).mono (fun σ1 hq => ?_)
  have F1 : Fg M63 σ σ1 := by rw [hq]; exact Fg.rf.si (Or.inr rfl)
  have t7 : gI σ1 63 7 = nI (wBh ins) := by rw [hq, gI_sI_s]
  have t63 : ∀ k, k ≠ 7 → gI σ1 63 k = gI σ 63 k := fun k a => by rw [hq, gI_sI_n (Or.inr a)]
  have t2 : gI σ1 51 2 = nI p := by rw [hq, gI_sI_n (Or.inl (by decide))]; exact h2
  have D1 : DrC σ1 R L := DrC_fg F1 (fun p k z => M63_D z) hD
  have T1 : TpC σ1 l := TpC_fg F1 (by unfold M63; omega) (fun k => by unfold M63; omega) hT
  have FR1 : Fg MRe σ σ1 := F1.mono (fun p k z => M63_R z)
  clear hq
  have rdc : ∀ (σ' : S_t) (p' : Nat) (R' : Nds) (L' : List Nat), (∀ k, 7 ≤ k → k ≤ 13 → gI σ' 63 k = gI σ1 63 k) → gI σ' 51 2 = nI p' → opD R' ins = opD R ins → DrC σ' R' L' → RdS σ' (p', wBh ins, ins, R', L', na, nm) := by
    intro σ' p' R' L' g1 g2 g3 g4
    refine ⟨g2, by rw [g1 7 (by omega) (by omega)]; exact t7, by rw [g1 8 (by omega) (by omega), t63 8 (by decide)]; exact h8, ?_, by rw [g1 10 (by omega) (by omega), t63 10 (by decide)]; exact h10, by rw [g1 11 (by omega) (by omega), t63 11 (by decide)]; exact h11, fun z => ?_, by rw [g1 13 (by omega) (by omega), t63 13 (by decide)]; exact h13, g4⟩
    · show gI σ' 63 9 = nI (opD R' ins)
      rw [g1 9 (by omega) (by omega), t63 9 (by decide), g3]; exact h9
    · exfalso
      have z' : wBh ins = 0 ∨ wBh ins = 4 := z
      rcases wBh_ok ins with y | y <;> omega
  refine ⟨fun _ => ⟨vn, ?_⟩, fun q => absurd (Int32.not_lt.mp (nI_nn (by omega))) q⟩
  rw [cn, (D1.2.2.1 _ hn).1]
  have eK : ∀ c, c < 7 → (nI (rK R (R.1 - 1)) = nI c ↔ rK R (R.1 - 1) = c) := fun c hc => nI_eq (by omega) (by omega)
  have word : ∀ w, w < 3 → rK R (R.1 - 1) = w → CV E (d + 6) m_Re_readWord [pv E 63, pv E (2000 + w)] σ1 (fun σ' => none = (none : Option Value) ∧ Fg MRe σ σ' ∧ RsC σ' (reA l num p ins R L na nm)) := by
    intro w hw hK
    unfold reA
    rw [if_neg (by omega), if_neg (by omega), hK]
    refine CE.of (L := [(0, pv E 63), (1, pv E (2000 + w))]) rfl (Nat.le_of_ble_eq_true rfl) rfl (b_Re_readWord_0 (d := d + 5) (by omega) ((c_wordC (d := d) hw T1 hb hl i1 t2).mono (fun r2 σ2 hq2 => ?_)))
    obtain ⟨F2, hr2, a2⟩ := hq2
    have FR2 : Fg MRe σ σ2 := FR1.tr (F2.mono (fun p k z => Or.inl z))
    by_cases hwd : (wdS l (lenS.getD w 0) (wof w) p).1 = true
    · rw [if_pos hwd]
      rw [hwd] at hr2
      refine ⟨fun _ => ⟨rfl, rfl, FR2, ?_⟩, fun z => absurd z (by rw [hr2]; decide)⟩
      exact rdc σ2 _ R L (fun k _ _ => F2.1 63 k (by omega)) a2 rfl (DrC_fg F2 (fun p k z => by omega) D1)
    · rw [if_neg hwd]
      have hwd' : (wdS l (lenS.getD w 0) (wof w) p).1 = false := by simpa using hwd
      rw [hwd'] at hr2
      refine ⟨fun z => absurd hr2 z, fun _ => ?_⟩
      rw [a2]
      exact (c_blame (f := 1)).mono (fun σ4 hq4 => ⟨rfl, rfl, FR2.tr (hq4.1.mono (fun p k z => M63_R z)), hq4.2⟩)
  refine ⟨fun z => word 0 (by decide) ((eK 0 (by decide)).mp z), fun z => word 1 (by decide) ((eK 1 (by decide)).mp z), fun z => word 2 (by decide) ((eK 2 (by decide)).mp z), fun z => ?_, fun n0 n1 n2 n3 => ⟨vn, ?_⟩⟩
  · -- a number
    have hK : rK R (R.1 - 1) = 3 := (eK 3 (by decide)).mp z
    unfold reA
    rw [if_neg (by omega), if_pos hK]
    obtain ⟨hN1, hN2⟩ := hN p i1
    refine CE.of (L := [(0, pv E 63), (1, .int (nI (R.1 - 1)))]) rfl (Nat.le_of_ble_eq_true rfl) rfl (b_Re_readNumber_0 (d := d + 5) ?_)
    rw [cn, t2]
    refine (c_scanN (d := d + 3) T1 hb hl i1 t2).mono (fun r2 σ2 hq2 => ?_)
    obtain ⟨F2, T2, hq2⟩ := hq2
    have FR2 : Fg MRe σ σ2 := FR1.tr (F2.mono (fun p k z => by unfold CNn at z; unfold MRe; omega))
    rcases hq2 with ⟨rfl, b, hf, a2⟩ | ⟨rfl, ho, a2, hV⟩
    · rw [hN1 b hf]
      refine ⟨fun z => absurd rfl z, fun _ => ?_⟩
      rw [a2]
      exact (c_blame (f := 1)).mono (fun σ4 hq4 => ⟨rfl, rfl, FR2.tr (hq4.1.mono (fun p k z => M63_R z)), hq4.2⟩)
    · refine ⟨fun _ => (c_toBitsV (d := d + 2) i1 hl hV).mono (fun x σ3 hq3 => ⟨vn, vn, ?_⟩), fun z => absurd z (by decide)⟩
      have F3 : Fg (fun p k => p = 57 ∨ p = 58) σ2 σ3 := hq3.1.fg
      obtain ⟨B, b1, b2, b3⟩ := hN2 ho x hq3.2
      rw [b3, b2, gL_sL_s]
      simp only []
      have F23 : Fg (fun p k => (p = 51 ∧ k = 2) ∨ (55 ≤ p ∧ p ≤ 58)) σ1 (sL σ3 187 (R.1 - 1) (lN B)) ∨ True := Or.inr trivial
      clear F23
      have F12 : Fg (fun p k => (p = 51 ∧ k = 2) ∨ (55 ≤ p ∧ p ≤ 58)) σ1 σ3 := (F2.mono (fun p k z => by unfold CNn at z; omega)).tr (F3.mono (fun p k z => by omega))
      have D3 := DrC_fg F12 (fun p k z => by omega) D1
      have F4 : Fg (fun p k => p = 187 ∧ k = R.1 - 1) σ3 (sL σ3 187 (R.1 - 1) (lN B)) := Fg.rf.sl ⟨rfl, rfl⟩
      have FR4 : Fg MRe σ (sL σ3 187 (R.1 - 1) (lN B)) := (FR2.tr (F3.mono (fun p k z => by unfold MRe; omega))).tr (F4.mono (fun p k z => by unfold MRe; omega))
      refine (c_isNumC (d := d + 5) b1).mono (fun r6 σ5 hq5 => ?_)
      obtain ⟨rfl, rfl⟩ := hq5
      by_cases hnum : isN (B % 2 ^ 63) = true
      · rw [if_pos hnum]
        rw [hnum]
        refine ⟨fun _ => ⟨trivial, trivial, FR4, ?_⟩, fun z => absurd z (by decide)⟩
        refine rdc _ _ (fil R 0 [] B) L (fun k _ _ => by rw [F4.1 63 k (by omega)]; exact F12.1 63 k (by omega)) ?_ (opD_fil R 0 [] B ins) ⟨DcC_fg F4 (fun p k z y => by omega) D3.1, ?_, fun k hk => ?_, fun u hu => LkC_fil (LkC_fg F4 (fun p k a b z => by omega) (D3.2.2.2 u hu))⟩
        · rw [F4.1 51 2 (by omega), F3.1 51 2 (by omega)]; exact a2
        · rw [F4.1 180 13 (by omega)]; exact D3.2.1
        · by_cases gk : k = R.1 - 1
          · subst gk
            obtain ⟨c1, c2, c3, c4, c5, c6⟩ := D3.2.2.1 _ hn
            obtain ⟨f1, f2, f3, f4, f5⟩ := fil_U R 0 [] B (R.1 - 1)
            unfold CRw
            rw [f1, f3, f4, f5, (fil_n R 0 [] B).2.2]
            exact ⟨c1, c2, gL_sL_s _ _ _ _, c4, c5, fun y => by omega⟩
          · exact CRw_fil gk (CRw_fg F4 (fun p a b z => gk z.2) (D3.2.2.1 k hk))
      · rw [if_neg hnum]
        have hnum' : isN (B % 2 ^ 63) = false := by simpa using hnum
        rw [hnum']
        refine ⟨fun z => absurd rfl z, fun _ => ?_⟩
        exact (c_blame (f := 2)).mono (fun σ4 hq4 => ⟨trivial, trivial, FR4.tr (hq4.1.mono (fun p k z => M63_R z)), hq4.2⟩)
  · -- a string
    have hK : rK R (R.1 - 1) = 4 := by
      have a0 : rK R (R.1 - 1) ≠ 0 := fun y => n0 ((eK 0 (by decide)).mpr y)
      have a1 : rK R (R.1 - 1) ≠ 1 := fun y => n1 ((eK 1 (by decide)).mpr y)
      have a2 : rK R (R.1 - 1) ≠ 2 := fun y => n2 ((eK 2 (by decide)).mpr y)
      have a3 : rK R (R.1 - 1) ≠ 3 := fun y => n3 ((eK 3 (by decide)).mpr y)
      omega
    unfold reA
    rw [if_pos hK, D1.1.1]
    have F2 : Fg (fun p k => p = 190 ∧ k = R.1 - 1) σ1 (sI σ1 190 (R.1 - 1) (nI L.length)) := Fg.rf.si ⟨rfl, rfl⟩
    refine (c_strC (d := d) (TpC_fg F2 (by omega) (fun k => by omega) T1) hb hl kl (by rw [gI_sI_n (Or.inl (by decide))]; exact t2) (DcC_fg F2 (fun p k z y => by omega) D1.1) (by omega)).mono (fun σ3 hq3 => ⟨vn, vn, ?_⟩)
    obtain ⟨F3, hq3⟩ := hq3
    have FR3 : Fg MRe σ σ3 := (FR1.tr (F2.mono (fun p k z => by unfold MRe; omega))).tr (F3.mono (fun p k z => MRs_R z))
    have t190 : gI σ3 190 (R.1 - 1) = nI L.length := by rw [F3.1 190 _ (by unfold MRs TLc; omega), gI_sI_s]
    rw [t190]
    have F4 : ∀ v, Fg (fun p k => p = 182 ∧ k = R.1 - 1) σ3 (sI σ3 182 (R.1 - 1) v) := fun v => Fg.rf.si ⟨rfl, rfl⟩
    have FR4 : ∀ v, Fg MRe σ (sI σ3 182 (R.1 - 1) v) := fun v => FR3.tr ((F4 v).mono (fun p k z => by unfold MRe; omega))
    rcases hq3 with ⟨L', s1, s2, s3, s4, s5⟩ | ⟨s1, s2, s3⟩
    · obtain ⟨t, rfl, lt, ft⟩ := (srS_fit hb 2000 (p + 1) L (by omega)).2 L' s1
      rw [s1]
      simp only []
      rw [List.drop_left, s2.1, List.length_append, fs_sub]
      refine ⟨trivial, FR4 _, ?_⟩
      refine rdc _ _ (fil R L.length t 0) (L ++ t) (fun k a b => ?_) ?_ (opD_fil R L.length t 0 ins) ⟨DcC_fg (F4 _) (fun p k z y => by omega) s2, ?_, fun k hk => ?_, fun u hu => LkC_fil (LkC_fg (F4 _) (fun p k a b z => by omega) (LkC_fg F3 (fun p k a b z => by unfold MRs TLc at z; omega) (LkC_fg F2 (fun p k a b z => by omega) (D1.2.2.2 u hu))))⟩
      · rw [(F4 _).1 63 k (by omega)]
        by_cases y : k = 13
        · rw [y, s4, F2.1 63 13 (by omega)]
        · rw [F3.1 63 k (by unfold MRs TLc; omega), F2.1 63 k (by omega)]
      · rw [(F4 _).1 51 2 (by omega)]; exact s3
      · rw [(F4 _).1 180 13 (by omega), F3.1 180 13 (by unfold MRs TLc; omega), F2.1 180 13 (by omega)]; exact D1.2.1
      · by_cases gk : k = R.1 - 1
        · subst gk
          obtain ⟨c1, c2, c3, c4, c5, c6⟩ := D1.2.2.1 _ hn
          obtain ⟨f1, f2, f3, f4, f5⟩ := fil_U R L.length t 0 (R.1 - 1)
          have e : ∀ p, 181 ≤ p → p ≤ 189 → p ≠ 182 → gI (sI σ3 182 (R.1 - 1) (nI t.length)) p (R.1 - 1) = gI σ1 p (R.1 - 1) := fun p a b c => by rw [(F4 _).1 p _ (by omega), F3.1 p _ (by unfold MRs TLc; omega), F2.1 p _ (by omega)]
          have eL : gL (sI σ3 182 (R.1 - 1) (nI t.length)) 187 (R.1 - 1) = gL σ1 187 (R.1 - 1) := by rw [(F4 _).2.1 187 _ (by omega), F3.2.1 187 _ (by unfold MRs TLc; omega), F2.2.1 187 _ (by omega)]
          have hB0 : rBi R (R.1 - 1) = 0 := hNd.2.2.2.2.1 (by omega)
          unfold CRw
          rw [f1, f3, f4, f5, (fil_n R L.length t 0).2.2, (fil_n R L.length t 0).1, (fil_n R L.length t 0).2.1]
          refine ⟨by rw [e 181 (by omega) (by omega) (by omega)]; exact c1, by rw [e 183 (by omega) (by omega) (by omega)]; exact c2, by rw [eL, c3, hB0], by rw [e 188 (by omega) (by omega) (by omega)]; exact c4, by rw [e 189 (by omega) (by omega) (by omega)]; exact c5, fun _ => ⟨?_, gI_sI_s _ _ _ _⟩⟩
          rw [(F4 _).1 190 _ (by omega)]; exact t190
        · exact CRw_fil gk (CRw_fg (F4 _) (fun p a b z => gk z.2) (CRw_fg F3 (fun p a b z => by unfold MRs TLc at z; omega) (CRw_fg F2 (fun p a b z => gk z.2) (D1.2.2.1 k hk))))
    · rw [s1]
      exact ⟨rfl, FR4 _, by rw [(F4 _).1 63 13 (by omega)]; exact s2, by rw [(F4 _).1 63 14 (by omega)]; exact s3⟩
theorem stA_f {l : List Nat} {num : Nat → Option Nat × Nat} {s : St} {f : Nat × Nat} (e : stA l num s = Sum.inl f) : 1 ≤ f.1 ∧ f.1 ≤ 5 := by
  unfold stA reA neA vaA naA seA at e
  (repeat' split at e) <;> first | (cases e; done) | (cases e; constructor <;> simp)
