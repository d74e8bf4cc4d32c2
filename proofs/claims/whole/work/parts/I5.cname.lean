/-! the class's reader: names, what is between parts, the rest of a plain value -/
theorem tw_mid {p : Nat → Bool} : ∀ {xs ys : List Nat}, (∀ x ∈ xs, p x = true) → (∀ y, ys.head? = some y → p y = false) → (xs ++ ys).takeWhile p = xs
  | [], [], _, _ => rfl
  | [], y :: ys, _, h2 => by rw [List.nil_append, List.takeWhile_cons, h2 y rfl]; rfl
  | x :: xs, ys, h1, h2 => by rw [List.cons_append, List.takeWhile_cons, h1 x List.mem_cons_self, if_pos rfl, tw_mid (fun z hz => h1 z (List.mem_cons_of_mem _ hz)) h2]
theorem skids_len (R : Nds) (u : Nat) : (skids R u).length ≤ R.1 := by
  rw [(skids_perm R u).length_eq]
  unfold kids
  refine Nat.le_trans (List.length_filter_le _ _) ?_
  rw [List.length_range]; exact Nat.le_refl _
theorem DcC_str {σ : S_t} {L s : List Nat} {a : Nat} (h : DcC σ L) (hs : Slc L a s) : StrA (gI σ 191) a s := fun i hi => by rw [h.2.2.2 (a + i) (by have := hs.1; omega), hs.2 i hi]
theorem c_fpa {E : En_t} {d u na : Nat} {R : Nds} {L nm : List Nat} {σ : S_t} (hO : RsO R L) (hu : u < R.1) (h6 : rK R u = 6) (hL : bls L ≤ 4000) (hS : Slc L na nm) (hl : Ltrs nm) (h8 : gI σ 63 8 = nI u) (h10 : gI σ 63 10 = nI na) (h11 : gI σ 63 11 = nI nm.length) (hD : DrC σ R L) : CI E (d + 2) m_Re_findPartAhead [pv E 63] σ (fun r σ' => Fg (fun p k => p = 63 ∧ k = 12) σ σ' ∧ ((r = 0 ∧ ∃ k, k ∈ kids R u ∧ rNm R k = nm) ∨ (r = 1 ∧ (∀ k, k ∈ kids R u → rNm R k ≠ nm) ∧ gI σ' 63 12 = oI (paO R (some u) nm)))) := by
  have h5 := hO.1
  have hLl := bls_len L
  have cu : (nI u).toNatClampNeg = u := nI_clamp (by omega)
  have pa : paO R (some u) nm = ((skids R u).takeWhile (apN R nm)).getLast? := if_pos h6
  have srtd := hO.2.2 u hu h6
  have len := skids_len R u
  have loop : ∀ (ys xs : List Nat) (h : Int32) (τ : S_t), skids R u = xs ++ ys → ch (gI σ 66) h ys → Fg (fun p k => p = 63 ∧ k = 12) σ τ → gI τ 63 12 = oI xs.getLast? → (∀ x ∈ xs, 0 < cmN nm (rNm R x)) → JE E (d + 2) m_Re_findPartAhead 28 [(0, pv E 63), (1, .int h), (2, .int (nI xs.length))] [] τ (fun r σ' => ∃ x, r = some (.int x) ∧ Fg (fun p k => p = 63 ∧ k = 12) σ σ' ∧ ((x = 0 ∧ ∃ k, k ∈ kids R u ∧ rNm R k = nm) ∨ (x = 1 ∧ (∀ k, k ∈ kids R u → rNm R k ≠ nm) ∧ gI σ' 63 12 = oI (paO R (some u) nm)))) := by
    intro ys
    induction ys with
    | nil =>
      intro xs h τ e hc hF h12 hx
      have done : ∀ k, k ∈ kids R u → rNm R k ≠ nm := fun k hk z => by
        have : k ∈ skids R u := (skids_perm R u).mem_iff.mpr hk
        rw [e, List.append_nil] at this
        have := hx k this
        rw [z, cmN_0.mpr rfl] at this
        omega
      have pe : paO R (some u) nm = xs.getLast? := by
        rw [pa, e, tw_mid (p := apN R nm) (xs := xs) (fun x hx' => decide_eq_true (by have := hx x hx'; omega)) (fun y hy => by cases hy)]
      have h1 : h = -1 := hc
      refine b_Re_findPartAhead_28 (d := d + 1) ⟨fun _ => ⟨1, rfl, hF, Or.inr ⟨rfl, done, by rw [pe]; exact h12⟩⟩, fun _ => ⟨fun _ => ⟨1, rfl, hF, Or.inr ⟨rfl, done, by rw [pe]; exact h12⟩⟩, fun q => absurd h1 q⟩⟩
    | cons c ys ih =>
      intro xs h τ e hc hF h12 hx
      obtain ⟨e1, e2⟩ := hc
      subst e1
      have hmem : c ∈ skids R u := by rw [e]; exact List.mem_append_right _ List.mem_cons_self
      obtain ⟨c1, c2⟩ := skids_mem.mp hmem
      have cc' : (nI c).toNatClampNeg = c := nI_clamp (by omega)
      have hlen : xs.length < 500 := by
        have : (skids R u).length = xs.length + (ys.length + 1) := by rw [e, List.length_append, List.length_cons]
        omega
      have hN := hO.2.1 c c1
      have hrow := hD.2.2.1 c c1
      have n12 : ∀ p k, p ≠ 63 → gI τ p k = gI σ p k := fun p k hp => hF.1 p k (fun z => hp z.1)
      have n63 : ∀ k, k ≠ 12 → gI τ 63 k = gI σ 63 k := fun k hk => hF.1 63 k (fun z => hk z.2)
      have DcT : DcC τ L := DcC_fg hF (fun p k z y => by omega) hD.1
      refine b_Re_findPartAhead_28 (d := d + 1) ⟨fun q => absurd q (nI_ge hlen (by decide)), fun _ => ⟨fun q => absurd q.symm (nI_neg1 (by omega)), fun _ => ?_⟩⟩
      rw [n63 10 (by decide), n63 11 (by decide), h10, h11, cc']
      refine (c_compareW (o0 := 180) (o3 := 180) (s := nm) (t := rNm R c) (b := rNa R c) (by decide) (by decide) (by omega) (DcC_str DcT hS) (by have := hS.1; omega) (by show gI τ 189 c = _; rw [n12 189 c (by decide)]; exact hrow.2.2.2.2.1) (by show gI τ 188 c = _; rw [n12 188 c (by decide)]; exact hrow.2.2.2.1) (DcC_str DcT hN.2.2.2.2.2.2.2.2.2.2.1) (by have := hN.2.2.2.2.2.2.2.2.2.2.1.1; omega) hl hN.2.2.2.2.2.2.1).mono (fun r2 σ1 hq => ?_)
      obtain ⟨⟨q1, q2⟩, rfl⟩ := hq
      have hkc : c ∈ kids R u := kids_mem.mpr ⟨c1, c2⟩
      refine ⟨fun hp => ⟨vin (by omega) (by decide), ?_⟩, fun hp => ⟨fun hz => ?_, fun hz => ?_⟩⟩
      · have hpos : 0 < cmN nm (rNm R c) := by
          have a : ¬ r2 < 0 := fun z => absurd (Int32.lt_trans z hp) Int32.lt_irrefl
          have b : ¬ r2 = 0 := fun z => by rw [z] at hp; exact absurd hp Int32.lt_irrefl
          rw [q1] at a
          rw [q2] at b
          omega
        rw [nI_1, gI_sI_n (Or.inl (by decide)), n12 66 c (by decide)]
        have := ih (xs ++ [c]) (gI σ 66 c) (sI σ1 63 12 (nI c)) (by rw [e, List.append_assoc]; rfl) e2 (hF.si ⟨rfl, rfl⟩) (by rw [gI_sI_s, List.getLast?_concat]; rfl) (fun x hx' => by
          rcases List.mem_append.mp hx' with z | z
          · exact hx x z
          · rw [List.mem_singleton] at z; rw [z]; exact hpos)
        rw [List.length_append] at this
        exact this
      · have h0 : r2 = 0 := Int32.le_antisymm (Int32.not_lt.mp hp) hz
        exact ⟨0, rfl, hF, Or.inl ⟨rfl, c, hkc, (cmN_0.mp (q2.mp h0)).symm⟩⟩
      · have hneg : cmN nm (rNm R c) < 0 := q1.mp (Int32.not_le.mp hz)
        rw [e, List.pairwise_append, List.pairwise_cons] at srtd
        have done : ∀ k, k ∈ kids R u → rNm R k ≠ nm := fun k hk z => by
          have hk' : k ∈ skids R u := (skids_perm R u).mem_iff.mpr hk
          have kn : cmN nm (rNm R k) = 0 := by rw [z]; exact cmN_0.mpr rfl
          rw [e] at hk'
          rcases List.mem_append.mp hk' with y | y
          · have := hx k y; omega
          · rcases List.mem_cons.mp y with y | y
            · rw [y] at kn; omega
            · have t := cmN_trans hl hN.2.2.2.2.2.2.1 (by rw [z]; exact hl) hneg (srtd.2.1.1 k y)
              omega
        refine ⟨1, rfl, hF, Or.inr ⟨rfl, done, ?_⟩⟩
        rw [pa, e, tw_mid (p := apN R nm) (xs := xs) (fun x hx' => decide_eq_true (by have := hx x hx'; omega)) (fun y hy => by
          have : c = y := Option.some.inj hy
          subst this
          exact decide_eq_false (by omega))]
        exact h12
  refine CE.of (L := [(0, pv E 63)]) rfl (Nat.le_of_ble_eq_true rfl) rfl (b_Re_findPartAhead_0 (d := d + 1) ?_)
  rw [gI_sI_n (Or.inr (by decide)), h8, cu, gI_sI_n (Or.inl (by decide))]
  refine ⟨fun q => absurd q (nI_nn (by omega)), fun _ => ⟨vin (by omega) (by decide), b_Re_findPartAhead_25 (d := d + 1) (loop (skids R u) [] _ _ rfl (hD.2.2.2 u hu).1 (Fg.rf.si ⟨rfl, rfl⟩) (gI_sI_s _ _ _ _) (fun x hx => absurd hx List.not_mem_nil))⟩⟩
theorem MRs_R {p k : Nat} (h : MRs p k) : MRe p k := by unfold MRs TLc at h; unfold MRe; omega
theorem DrC_str {σ σ' : S_t} {R : Nds} {L L' : List Nat} (hF : Fg MRs σ σ') (hD : DrC σ R L) (h : DcC σ' L') : DrC σ' R L' := by
  refine ⟨h, ?_, fun k hk => CRw_fg hF (fun p a b z => by unfold MRs TLc at z; omega) (hD.2.2.1 k hk), fun u hu => LkC_fg hF (fun p k a b z => by unfold MRs TLc at z; omega) (hD.2.2.2 u hu)⟩
  rw [hF.1 180 13 (by unfold MRs TLc; omega)]; exact hD.2.1
theorem c_nameC {E : En_t} {d q w na : Nat} {l : List Nat} {ins : Option Nat} {R : Nds} {L nm : List Nat} {σ : S_t} (hT : TpC σ l) (hb : Bt l) (hl : l.length ≤ 2000) (hq : q ≤ l.length) (hbl : bls L ≤ q) (hO : RsO R L) (hi : ∀ u, ins = some u → u < R.1) (hOb : isO R ins = true) (h : RcA σ q w ins R L na nm) : CV E (d + 7) m_Re_readName [pv E 63, .int (hr l q)] σ (fun σ' => Fg MRe σ σ' ∧ RsC σ' (naA l q ins R L)) := by
  obtain ⟨h2, h7, h8, h9, h10, h11, h12, h13, hD⟩ := h
  have h5 := hO.1
  obtain ⟨u, rfl⟩ : ∃ u, ins = some u := by
    cases ins with
    | none => cases hOb
    | some u => exact ⟨u, rfl⟩
  have hu := hi u rfl
  have hK : rK R u = 6 := of_decide_eq_true hOb
  refine CE.of (L := [(0, pv E 63), (1, .int (hr l q))]) rfl (Nat.le_of_ble_eq_true rfl) rfl (b_Re_readName_0 (d := d + 6) ?_)
  rw [show hr l q = (34 : Int32) ↔ Chr l q 34 from hr_chr hb (by decide)]
  unfold naA
  refine ⟨fun hc => ?_, fun hc => ?_⟩
  · rw [if_pos hc, hD.1.1]
    have F0 : Fg M63 σ (sI σ 63 10 (nI L.length)) := Fg.rf.si (Or.inr rfl)
    have D0 := DrC_fg F0 (fun p k z => M63_D z) hD
    refine (c_strC (d := d) (TpC_fg F0 (by unfold M63; omega) (fun k => by unfold M63; omega) hT) hb hl hc.1 (by rw [gI_sI_n (Or.inl (by decide))]; exact h2) D0.1 (by omega)).mono (fun σ1 hq1 => ?_)
    obtain ⟨F1, hq1⟩ := hq1
    have FR1 : Fg MRe σ σ1 := (F0.mono (fun p k z => M63_R z)).tr (F1.mono (fun p k z => MRs_R z))
    have o1 : ∀ k, k ≠ 10 → k ≠ 13 → k ≠ 14 → gI σ1 63 k = gI σ 63 k := fun k a b c => by rw [F1.1 63 k (by unfold MRs TLc; omega), gI_sI_n (Or.inr a)]
    have o10 : gI σ1 63 10 = nI L.length := by rw [F1.1 63 10 (by unfold MRs TLc; omega), gI_sI_s]
    rcases hq1 with ⟨L', s1, s2, s3, s4, s5⟩ | ⟨s1, s2, s3⟩
    · obtain ⟨t, rfl, lt, ft⟩ := (srS_fit hb 2000 (q + 1) L (by have := hc.1; omega)).2 L' s1
      have sle := (srS_fit hb 2000 (q + 1) L (by have := hc.1; omega)).1
      have hba := bls_app L t
      rw [s1]
      simp only []
      rw [List.drop_left]
      have e11 : gI σ1 180 11 - gI σ1 63 10 = nI t.length := by rw [s2.1, o10, List.length_append, fs_sub]
      rw [e11]
      generalize eτ : sI (sI σ1 63 11 (nI t.length)) 63 7 (4 : Int32) = τ
      have F2 : Fg M63 σ1 τ := by rw [← eτ]; exact (Fg.rf.si (Or.inr rfl)).si (Or.inr rfl)
      have o2 : ∀ k, k ≠ 7 → k ≠ 11 → gI τ 63 k = gI σ1 63 k := fun k a b => by rw [← eτ, gI_sI_n (Or.inr a), gI_sI_n (Or.inr b)]
      have t13 : gI τ 63 13 = 0 := by rw [o2 13 (by decide) (by decide), s4, gI_sI_n (Or.inr (by decide))]; exact h13
      have t7 : gI τ 63 7 = nI 4 := by rw [← eτ, gI_sI_s]; rfl
      have t11 : gI τ 63 11 = nI t.length := by rw [← eτ, gI_sI_n (Or.inr (by decide)), gI_sI_s]
      have t10 : gI τ 63 10 = nI L.length := by rw [o2 10 (by decide) (by decide)]; exact o10
      have t8 : gI τ 63 8 = nI u := by rw [o2 8 (by decide) (by decide), o1 8 (by decide) (by decide) (by decide)]; exact h8
      have t9 : gI τ 63 9 = nI (opD R (some u)) := by rw [o2 9 (by decide) (by decide), o1 9 (by decide) (by decide) (by decide)]; exact h9
      have t2 : gI τ 51 2 = nI (srS l 2000 (q + 1) L).2 := by rw [← eτ, gI_sI_n (Or.inl (by decide)), gI_sI_n (Or.inl (by decide))]; exact s3
      have D2 : DrC τ R (L ++ t) := DrC_fg F2 (fun p k z => M63_D z) (DrC_str F1 D0 s2)
      rw [t13]
      refine ⟨fun z => absurd rfl z, fun _ => ?_⟩
      refine (c_fpa (d := d + 4) (RsO_app (t := t) hO) hu hK (by omega) (Slc_new L t) lt t8 t10 t11 D2).mono (fun r3 σ2 hq2 => ?_)
      obtain ⟨F3, hq2⟩ := hq2
      have FR3 : Fg MRe σ σ2 := (FR1.tr (F2.mono (fun p k z => M63_R z))).tr (F3.mono (fun p k z => Or.inr (Or.inl ⟨by omega, by omega⟩)))
      rcases hq2 with ⟨rfl, k, k1, k2⟩ | ⟨rfl, k1, k2⟩
      · have : (kidO R (some u)).any (fun k => decide (rNm R k = t)) = true := List.any_eq_true.mpr ⟨k, k1, decide_eq_true k2⟩
        rw [if_pos this]
        refine ⟨fun z => absurd rfl z, fun _ => ?_⟩
        rw [h2]
        exact (c_blame (f := 3)).mono (fun σ4 hq4 => ⟨trivial, FR3.tr (hq4.1.mono (fun p k z => M63_R z)), hq4.2⟩)
      · have : ¬ (kidO R (some u)).any (fun k => decide (rNm R k = t)) = true := fun z => by
          obtain ⟨k, a, b⟩ := List.any_eq_true.mp z
          exact k1 k a (of_decide_eq_true b)
        rw [if_neg this]
        have o3 : ∀ k, k ≠ 12 → gI σ2 63 k = gI τ 63 k := fun k a => F3.1 63 k (fun z => a z.2)
        refine ⟨fun _ => ⟨trivial, FR3, ?_, ?_, ?_, ?_, ?_, ?_, fun _ _ => k2, ?_, DrC_fg F3 (fun p k z => by omega) D2⟩, fun z => absurd z (by decide)⟩
        · rw [F3.1 51 2 (by omega)]; exact t2
        · rw [o3 7 (by decide)]; exact t7
        · rw [o3 8 (by decide)]; exact t8
        · rw [o3 9 (by decide)]; exact t9
        · rw [o3 10 (by decide)]; exact t10
        · rw [o3 11 (by decide)]; exact t11
        · rw [o3 13 (by decide)]; exact t13
    · rw [s1]
      simp only []
      generalize eτ : sI (sI σ1 63 11 (gI σ1 180 11 - gI σ1 63 10)) 63 7 (4 : Int32) = τ
      have F2 : Fg M63 σ1 τ := by rw [← eτ]; exact (Fg.rf.si (Or.inr rfl)).si (Or.inr rfl)
      have t13 : gI τ 63 13 = 1 := by rw [← eτ, gI_sI_n (Or.inr (by decide)), gI_sI_n (Or.inr (by decide))]; exact s2
      have t14 : gI τ 63 14 = nI (srS l 2000 (q + 1) L).2 := by rw [← eτ, gI_sI_n (Or.inr (by decide)), gI_sI_n (Or.inr (by decide))]; exact s3
      rw [t13]
      exact ⟨fun _ => ⟨trivial, FR1.tr (F2.mono (fun p k z => M63_R z)), t13, t14⟩, fun z => absurd z (by decide)⟩
  · rw [if_neg hc, h2]
    exact (c_blame (f := 1)).mono (fun σ4 hq4 => ⟨rfl, hq4.1.mono (fun p k z => M63_R z), hq4.2⟩)
theorem c_sepC {E : En_t} {d q na : Nat} {l : List Nat} {ins : Option Nat} {R : Nds} {L nm : List Nat} {σ : S_t} (hb : Bt l) (hO : RsO R L) (hi : ∀ u, ins = some u → u < R.1) (hn : ins ≠ none) (h : RcA σ q 5 ins R L na nm) : CV E (d + 2) m_Re_readSeparator [pv E 63, .int (hr l q)] σ (fun σ' => Fg MRe σ σ' ∧ RsC σ' (seA l q ins R L na nm)) := by
  have hh := h
  obtain ⟨h2, h7, h8, h9, h10, h11, h12, h13, hD⟩ := h
  have kc : ∀ c, c < 256 → (hr l q = nI c ↔ Chr l q c) := fun c hc => hr_chr hb (by omega)
  have k44 : hr l q = (44 : Int32) ↔ Chr l q 44 := kc 44 (by decide)
  refine CE.of (L := [(0, pv E 63), (1, .int (hr l q))]) rfl (Nat.le_of_ble_eq_true rfl) rfl (b_Re_readSeparator_0 (d := d + 1) ?_)
  refine (c_inO (R := R) (ins := ins) h8 (fun k hk => ⟨(hD.2.2.1 k hk).1, (hO.2.1 k hk).1⟩) hi hO.1).mono (fun r2 σ1 hq => ?_)
  obtain ⟨rfl, rfl⟩ := hq
  rw [k44]
  have comma : ∀ w' : Nat, Chr l q 44 → w' = (if isO R ins = true then 2 else 0) → JE E (d + 2) m_Re_readSeparator 34 [] [.int (nI w'), pv E 63] (sI σ1 51 2 (gI σ1 51 2 + (1 : Int32))) (fun r σ' => r = none ∧ Fg MRe σ1 σ' ∧ RsC σ' (seA l q ins R L na nm)) := by
    intro w' hc hw'
    refine b_Re_readSeparator_34 (d := d + 1) ?_
    rw [h2, nI_1]
    have F1 : Fg M63 σ1 (sI (sI σ1 51 2 (nI (q + 1))) 63 7 (nI w')) := (Fg.rf.si (Or.inl ⟨rfl, rfl⟩)).si (Or.inr rfl)
    have o : ∀ k, k ≠ 7 → gI (sI (sI σ1 51 2 (nI (q + 1))) 63 7 (nI w')) 63 k = gI σ1 63 k := fun k a => by rw [gI_sI_n (Or.inr a), gI_sI_n (Or.inl (by decide))]
    unfold seA
    rw [if_pos hc]
    refine ⟨rfl, F1.mono (fun p k z => M63_R z), ?_, ?_, ?_, ?_, ?_, ?_, fun z y => ?_, ?_, DrC_fg F1 (fun p k z => M63_D z) hD⟩
    · rw [gI_sI_n (Or.inl (by decide)), gI_sI_s]
    · rw [gI_sI_s, hw']
    · rw [o 8 (by decide)]; exact h8
    · rw [o 9 (by decide)]; exact h9
    · rw [o 10 (by decide)]; exact h10
    · rw [o 11 (by decide)]; exact h11
    · exfalso
      have z' : (if isO R ins = true then 2 else 0) = 0 ∨ (if isO R ins = true then 2 else 0) = 4 := z
      rw [if_pos y] at z'
      omega
    · rw [o 13 (by decide)]; exact h13
  have fin : ∀ c : Nat, c < 256 → ¬ Chr l q 44 → c = (if isO R ins = true then 125 else 93) → JE E (d + 2) m_Re_readSeparator 52 [(0, pv E 63)] [.int (nI c), .int (hr l q)] σ1 (fun r σ' => r = none ∧ Fg MRe σ1 σ' ∧ RsC σ' (seA l q ins R L na nm)) := by
    intro c hc hn44 he
    refine b_Re_readSeparator_52 (d := d + 1) ?_
    rw [kc c hc]
    unfold seA
    rw [if_neg hn44, ← he]
    refine ⟨fun hno => ?_, fun hyes => ?_⟩
    · rw [if_neg hno, h2]
      exact (c_blame (f := 1)).mono (fun σ4 hq4 => ⟨rfl, hq4.1.mono (fun p k z => M63_R z), hq4.2⟩)
    · rw [if_pos hyes]
      exact (c_closeC (d := d) hO hi hn hh).mono (fun σ4 hq4 => ⟨rfl, hq4⟩)
  cases hOb : isO R ins with
  | false =>
    rw [hOb] at comma fin
    exact ⟨fun hno => ⟨fun _ => fin 93 (by decide) hno rfl, fun z => absurd rfl z⟩, fun hyes => ⟨fun _ => comma 0 hyes rfl, fun z => absurd rfl z⟩⟩
  | true =>
    rw [hOb] at comma fin
    exact ⟨fun hno => ⟨fun z => absurd z (by decide), fun _ => fin 125 (by decide) hno rfl⟩, fun hyes => ⟨fun z => absurd z (by decide), fun _ => comma 2 hyes rfl⟩⟩
theorem c_nextC {E : En_t} {d q p w na : Nat} {l : List Nat} {ins : Option Nat} {R : Nds} {L nm : List Nat} {σ : S_t} (hT : TpC σ l) (hb : Bt l) (hl : l.length ≤ 2000) (hpq : p ≤ q) (hq : q ≤ l.length) (hI : IvA l p w ins R L na nm) (w6 : w ≠ 6) (w7 : w ≠ 7) (h : RcA σ q w ins R L na nm) : CV E (d + 8) m_Re_readNext [pv E 63, .int (hr l q)] σ (fun σ' => Fg MRe σ σ' ∧ RsC σ' (neA l q w ins R L na nm)) := by
  obtain ⟨i1, i2, i3, i4, i5, i6, i7, i8, i9⟩ := hI
  have hh := h
  obtain ⟨h2, h7, h8, h9, h10, h11, h12, h13, hD⟩ := h
  have kc : ∀ c, c < 256 → (hr l q = nI c ↔ Chr l q c) := fun c hc => hr_chr hb (by omega)
  have k93 : hr l q = (93 : Int32) ↔ Chr l q 93 := kc 93 (by decide)
  have k125 : hr l q = (125 : Int32) ↔ Chr l q 125 := kc 125 (by decide)
  have w7' : w ≤ 7 := by unfold wOk at i8; omega
  have ew : ∀ c, c < 8 → (gI σ 63 7 = nI c ↔ w = c) := fun c hc => by rw [h7]; exact nI_eq (by omega) (by omega)
  have ew0 : gI σ 63 7 = (0 : Int32) ↔ w = 0 := ew 0 (by decide)
  have ew1 : gI σ 63 7 = (1 : Int32) ↔ w = 1 := ew 1 (by decide)
  have ew2 : gI σ 63 7 = (2 : Int32) ↔ w = 2 := ew 2 (by decide)
  have ew3 : gI σ 63 7 = (3 : Int32) ↔ w = 3 := ew 3 (by decide)
  have ew5 : gI σ 63 7 = (5 : Int32) ↔ w = 5 := ew 5 (by decide)
  have hi : ∀ u, ins = some u → u < R.1 := fun u hu => (i4 u hu).1
  have hi1 : (w = 1 ∨ w = 3 ∨ w = 5) → ins ≠ none := fun z y => by
    subst y
    unfold wOk isO at i8
    simp at i8
    omega
  have hO1 : w = 1 → isO R ins = false := fun z => by subst z; unfold wOk at i8; simp at i8; exact i8.1
  have hO2 : (w = 2 ∨ w = 3) → isO R ins = true := fun z => by rcases z with z | z <;> subst z <;> unfold wOk at i8 <;> simp at i8 <;> exact i8
  -- the close
  have at28 : (Chr l q 93 ∧ w = 1) ∨ (Chr l q 125 ∧ w = 3) → JE E (d + 8) m_Re_readNext 28 [(0, pv E 63)] [] σ (fun r σ' => r = none ∧ Fg MRe σ σ' ∧ RsC σ' (neA l q w ins R L na nm)) := by
    intro z
    unfold neA
    rw [if_pos z]
    exact b_Re_readNext_28 (d := d + 7) ((c_closeC (d := d + 6) i3 hi (hi1 (by omega)) hh).mono (fun σ4 hq4 => ⟨rfl, hq4⟩))
  have at35 : ¬ ((Chr l q 93 ∧ w = 1) ∨ (Chr l q 125 ∧ w = 3)) → JE E (d + 8) m_Re_readNext 35 [(0, pv E 63), (1, .int (hr l q))] [] σ (fun r σ' => r = none ∧ Fg MRe σ σ' ∧ RsC σ' (neA l q w ins R L na nm)) := by
    intro z
    unfold neA
    rw [if_neg z]
    have val : (w = 0 ∨ w = 1) → JE E (d + 8) m_Re_readNext 50 [(0, pv E 63), (1, .int (hr l q))] [] σ (fun r σ' => r = none ∧ Fg MRe σ σ' ∧ RsC σ' (if w = 0 ∨ w = 1 then vaA l q ins R L na nm else if w = 2 ∨ w = 3 then naA l q ins R L else if w = 5 then seA l q ins R L na nm else if Chr l q 58 then Sum.inr (q + 1, 0, ins, R, L, na, nm) else Sum.inl (1, q))) := by
      intro y
      rw [if_pos y]
      refine b_Re_readNext_50 (d := d + 7) ((c_kindC hb).mono (fun r2 σ1 hq1 => ?_))
      obtain ⟨rfl, rfl⟩ := hq1
      exact (c_valueC (d := d + 5) (l := l) (by omega) i3 i4 (y.elim Or.inl (fun x => Or.inr (hO1 x))) hh).mono (fun σ4 hq4 => ⟨rfl, hq4⟩)
    have nam' : ¬ (w = 0 ∨ w = 1) → (w = 2 ∨ w = 3) → JE E (d + 8) m_Re_readNext 77 [(0, pv E 63), (1, .int (hr l q))] [] σ (fun r σ' => r = none ∧ Fg MRe σ σ' ∧ RsC σ' (if w = 0 ∨ w = 1 then vaA l q ins R L na nm else if w = 2 ∨ w = 3 then naA l q ins R L else if w = 5 then seA l q ins R L na nm else if Chr l q 58 then Sum.inr (q + 1, 0, ins, R, L, na, nm) else Sum.inl (1, q))) := by
      intro x y
      rw [if_neg x, if_pos y]
      exact b_Re_readNext_77 (d := d + 7) ((c_nameC (d := d) hT hb hl hq (by omega) i3 hi (hO2 y) hh).mono (fun σ4 hq4 => ⟨rfl, hq4⟩))
    refine b_Re_readNext_35 (d := d + 7) ?_
    rw [ew0, ew1, ew2, ew3, ew5]
    refine ⟨fun y => val (Or.inl y), fun y0 => ⟨fun y1 => ⟨fun y2 => nam' (by omega) (Or.inl y2), fun y2 => ⟨fun y3 => ⟨fun y5 => ?_, fun y5 => ?_⟩, fun y3 => nam' (by omega) (Or.inr y3)⟩⟩, fun y1 => val (Or.inr y1)⟩⟩
    · rw [if_neg (by omega), if_neg (by omega), if_neg y5]
      refine (c_passC (c := 58) hT hb hl (by omega) h2 (by decide)).mono (fun r2 σ1 hq1 => ?_)
      rcases hq1 with ⟨rfl, hn, rfl⟩ | ⟨rfl, hy, rfl⟩
      · rw [if_neg hn]
        refine ⟨fun _ => ?_, fun x => absurd rfl x⟩
        rw [h2]
        exact (c_blame (f := 1)).mono (fun σ4 hq4 => ⟨rfl, hq4.1.mono (fun p k z => M63_R z), hq4.2⟩)
      · rw [if_pos hy]
        refine ⟨fun x => absurd x (by decide), fun _ => ?_⟩
        have F1 : Fg M63 σ (sI (sI σ 51 2 (nI (q + 1))) 63 7 (0 : Int32)) := (Fg.rf.si (Or.inl ⟨rfl, rfl⟩)).si (Or.inr rfl)
        have o : ∀ k, k ≠ 7 → gI (sI (sI σ 51 2 (nI (q + 1))) 63 7 (0 : Int32)) 63 k = gI σ 63 k := fun k a => by rw [gI_sI_n (Or.inr a), gI_sI_n (Or.inl (by decide))]
        have w4 : w = 4 := by omega
        refine ⟨rfl, F1.mono (fun p k z => M63_R z), ?_, gI_sI_s _ _ _ _, ?_, ?_, ?_, ?_, fun _ x => ?_, ?_, DrC_fg F1 (fun p k z => M63_D z) hD⟩
        · rw [gI_sI_n (Or.inl (by decide)), gI_sI_s]
        · rw [o 8 (by decide)]; exact h8
        · rw [o 9 (by decide)]; exact h9
        · rw [o 10 (by decide)]; exact h10
        · rw [o 11 (by decide)]; exact h11
        · rw [o 12 (by decide)]; exact h12 (Or.inr w4) x
        · rw [o 13 (by decide)]; exact h13
    · rw [if_neg (by omega), if_neg (by omega), if_pos y5]
      subst y5
      exact (c_sepC (d := d + 5) hb i3 hi (hi1 (by omega)) hh).mono (fun σ4 hq4 => ⟨rfl, hq4⟩)
  have at14 : ¬ (Chr l q 93 ∧ w = 1) → JE E (d + 8) m_Re_readNext 14 [(0, pv E 63), (1, .int (hr l q))] [] σ (fun r σ' => r = none ∧ Fg MRe σ σ' ∧ RsC σ' (neA l q w ins R L na nm)) := by
    intro z
    refine b_Re_readNext_14 (d := d + 7) ?_
    rw [k125, ew3]
    exact ⟨fun y => at35 (fun x => x.elim z (fun v => y v.1)), fun y => ⟨fun y3 => at35 (fun x => x.elim z (fun v => y3 v.2)), fun y3 => at28 (Or.inr ⟨y, y3⟩)⟩⟩
  refine CE.of (L := [(0, pv E 63), (1, .int (hr l q))]) rfl (Nat.le_of_ble_eq_true rfl) rfl (b_Re_readNext_0 (d := d + 7) ?_)
  rw [k93, ew1]
  exact ⟨fun y => at14 (fun x => y x.1), fun y => ⟨fun y1 => at28 (Or.inl ⟨y, y1⟩), fun y1 => at14 (fun x => y1 x.2)⟩⟩
