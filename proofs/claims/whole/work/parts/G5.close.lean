theorem scal_siz {D : List Row} {i : Nat} (hW : WfR D) (hi : i < D.length) (h : dK D i < 5) : siz (dT D) D.length i = 1 := by
  obtain ⟨s1, s2, s3, s4⟩ := siz_spec (f := dT D) (n := D.length) hi
  rcases Nat.lt_or_ge 1 (siz (dT D) D.length i) with q | q
  · have h1 := kid_first hW.1 hi q
    have h2 := ((par_ge hW.1 hi (show i < i + 1 by omega) (by omega)).2).mp h1
    have h3 := (hW.2.2.1 (i + 1) (by omega) (by omega)).1
    rw [h2] at h3; omega
  · omega
theorem w_close {E : En_t} {d j top i : Nat} {x2 : Int32} {D : List Row} {l : List Nat} {σ : S_t} (hj : j < 10) (hW : WfR D) (hT : TrD σ (tr j) D) (htl : top < D.length) (hend : i + 1 ≤ top + siz (dT D) D.length top) (hl : l.length ≤ 1000000) : ∀ (f u c : Nat) (m : List Nat) (τ : S_t), WC σ τ l m → m.length ≤ c → top ≤ u → u ≤ i → i < u + siz (dT D) D.length u → 5 ≤ dK D u → dT D u < dT D top + f → c + dT D u ≤ 29 → ((i + 1 < top + siz (dT D) D.length top ∧ x2 = nI (par (dT D) (i + 1)) ∧ dT D (i + 1) ≤ dT D u + 1) ∨ (i + 1 = top + siz (dT D) D.length top ∧ x2 = zI (pI (dT D) top))) → JE E (d + 1) m_Fo_closeUpTo 6 [(0, pv E (tr j)), (2, .int x2), (3, pv E 53), (4, .int (nI u)), (5, .int (nI c))] [] τ (fun q σ' => ∃ r, q = some (.int r) ∧ WC σ σ' l (m ++ cloF D top i f u) ∧ r = x2) := by
  have ht := kind_tr j hj
  have h5 := hW.2.2.2.2.1
  obtain ⟨t1, t2, t3, t4⟩ := siz_spec (f := dT D) (n := D.length) htl
  have len1 : ∀ {l : List Nat} {x : Nat}, (l ++ [x]).length = l.length + 1 := fun {l x} => by rw [List.length_append]; rfl
  intro f
  induction f with
  | zero =>
    intro u c m τ hw hm h1 h2 h3 h4 h6 h7 hto
    exfalso
    rcases Nat.eq_or_lt_of_le h1 with z | z
    · subst z; omega
    · have := t3 u z (by omega); omega
  | succ f ih =>
    intro u c m τ hw hm h1 h2 h3 h4 h6 h7 hto
    have hu : u < D.length := by omega
    obtain ⟨s1, s2, s3, s4⟩ := siz_spec (f := dT D) (n := D.length) hu
    have hT1 : TrD τ (tr j) D := TrD_w hw.1 (fun p k a => by unfold MO; unfold tr at a; omega) hT
    have cu : (nI u).toNatClampNeg = u := nI_clamp (by omega)
    have row := hT1.1.2.2.2.2 u hu
    have k6 := (hW.2.1 u hu).1
    have hle : u + siz (dT D) D.length u ≤ top + siz (dT D) D.length top := by
      rcases Nat.eq_or_lt_of_le h1 with z | z
      · subst z; exact Nat.le_refl _
      · exact siz_nest htl z (by omega)
    refine b_Fo_closeUpTo_6 ht ⟨fun q => absurd (Int32.lt_of_lt_of_le q (nI_le (b := 30) (show c ≤ 30 by omega) (by decide))) Int32.lt_irrefl, fun _ => ⟨fun q => (nI_neg1 (show u < 2 ^ 31 by omega) q.symm).elim, fun _ => ?_⟩⟩
    by_cases hcl : u + siz (dT D) D.length u = i + 1
    · -- it closes here
      have ecl : cloF D top i (f + 1) u = brk D u ++ (if u = top then [] else cloF D top i f (par (dT D) u)) := if_pos hcl
      have hne : ¬ nI u = x2 := by
        intro z
        rcases hto with ⟨g1, g2, _⟩ | ⟨g1, g2⟩
        · rw [g2] at z
          have hp := par_spec hW.1 (show 0 < i + 1 by omega) (show i + 1 < D.length by omega)
          have : u = par (dT D) (i + 1) := (nI_eq (by omega) (by omega)).mp z
          have hin := par_in hW.1 (show 0 < i + 1 by omega) (show i + 1 < D.length by omega)
          have := (siz_spec (f := dT D) (n := D.length) (show i + 1 < D.length by omega)).1
          rw [← (by assumption : u = par (dT D) (i + 1))] at hin
          omega
        · rw [g2] at z
          unfold pI at z
          split at z
          · exact nI_neg1 (show u < 2 ^ 31 by omega) z.symm
          · rw [zI_nI] at z
            have hp := par_spec hW.1 (show 0 < top by omega) htl
            have : u = par (dT D) top := (nI_eq (by omega) (by omega)).mp z
            omega
      -- once the bracket stands
      have nx : ∀ (b : Nat), brk D u = [b] → CV E d m_Ou_put [pv E 53, .int (nI b)] τ (fun σ1 => vp_in (nI u) 500 ∧ JE E (d + 1) m_Fo_closeUpTo 6 [(0, pv E (tr j)), (2, .int x2), (3, pv E 53), (4, .int (gI σ1 (tr j + 3) (nI u).toNatClampNeg)), (5, .int (nI c + (1 : Int32)))] [] σ1 (fun q σ' => ∃ r, q = some (.int r) ∧ WC σ σ' l (m ++ cloF D top i (f + 1) u) ∧ r = x2)) := by
        intro b eb
        refine (w_put hw.2 (by rw [List.length_append]; omega)).mono (fun σ1 q1 => ⟨vin (by omega) (by decide), ?_⟩)
        have hw1 := hw.tr q1
        have hT2 : TrD σ1 (tr j) D := TrD_w hw1.1 (fun p k a => by unfold MO; unfold tr at a; omega) hT
        rw [cu, (hT2.1.2.2.2.2 u hu).2.2.1, nI_1]
        by_cases htu : u = top
        · subst htu
          have e : cloF D u i (f + 1) u = [b] := by rw [ecl, if_pos rfl, List.append_nil, eb]
          rw [e]
          have hx : x2 = zI (pI (dT D) u) := by
            rcases hto with ⟨g1, _, _⟩ | ⟨_, g2⟩
            · omega
            · exact g2
          rw [← hx]
          exact b_Fo_closeUpTo_6 ht ⟨fun _ => ⟨_, rfl, hw1, rfl⟩, fun _ => ⟨fun _ => ⟨_, rfl, hw1, rfl⟩, fun _ => ⟨fun _ => ⟨_, rfl, hw1, rfl⟩, fun q => absurd rfl q⟩⟩⟩
        · have hu0 : 0 < u := by omega
          have hp := par_spec hW.1 hu0 hu
          have hpg := par_ge hW.1 htl (show top < u by omega) (by omega)
          have hin := par_in hW.1 hu0 hu
          have hpk := (hW.2.2.1 u hu0 hu).1
          have e : m ++ cloF D top i (f + 1) u = (m ++ [b]) ++ cloF D top i f (par (dT D) u) := by rw [ecl, if_neg htu, eb, List.append_assoc]
          have epI : zI (pI (dT D) u) = nI (par (dT D) u) := by unfold pI; rw [if_neg (by omega)]; exact zI_nI _
          rw [e, epI]
          refine ih (par (dT D) u) (c + 1) (m ++ [b]) σ1 hw1 (by rw [len1]; omega) (by omega) (by omega) (by omega) hpk (by omega) (by omega) ?_
          rcases hto with ⟨g1, g2, g3⟩ | g
          · refine Or.inl ⟨g1, g2, ?_⟩
            have := s4 (by omega)
            rw [hcl] at this
            omega
          · exact Or.inr g
      refine ⟨fun q => absurd q hne, fun _ => ⟨vin (by omega) (by decide), ?_⟩⟩
      rw [cu, row.1]
      refine ⟨fun q => b_Fo_closeUpTo_45 ht (nx 93 ?_), fun q => b_Fo_closeUpTo_45 ht (nx 125 ?_)⟩
      · have : ¬ dK D u = 6 := fun z => q (by rw [z]; rfl)
        unfold brk; rw [if_pos (by omega)]
      · have : dK D u = 6 := (nI_eq (b := 6) (by omega) (by decide)).mp q
        unfold brk; rw [if_neg (by omega), if_pos this]
    · -- it stays open
      have ecl : cloF D top i (f + 1) u = [] := if_neg hcl
      rw [ecl, List.append_nil]
      have hx : nI u = x2 := by
        rcases hto with ⟨g1, g2, g3⟩ | ⟨g1, g2⟩
        · have := s3 (i + 1) (by omega) (by omega)
          have : par (dT D) (i + 1) = u := ((par_ge hW.1 hu (show u < i + 1 by omega) (by omega)).2).mp (by omega)
          rw [g2, this]
        · omega
      exact ⟨fun _ => ⟨_, rfl, hw, hx⟩, fun q => absurd hx q⟩
/-- what is open behind a row -/
def opv (D : List Row) (top i : Nat) : Int32 := if 5 ≤ dK D i then nI i else if i = top then -1 else nI (par (dT D) i)
theorem w_closeRow {E : En_t} {d j top i : Nat} {x2 : Int32} {D : List Row} {l : List Nat} {σ : S_t} (hj : j < 10) (hW : WfR D) (hT : TrD σ (tr j) D) (htl : top < D.length) (hti : top ≤ i) (hend : i + 1 ≤ top + siz (dT D) D.length top) (h : OuC σ l) (hl : l.length ≤ 1000000) (hto : (i + 1 < top + siz (dT D) D.length top ∧ x2 = nI (par (dT D) (i + 1))) ∨ (i + 1 = top + siz (dT D) D.length top ∧ x2 = zI (pI (dT D) top))) : CI E (d + 1) m_Fo_closeUpTo [pv E (tr j), .int (opv D top i), .int x2, pv E 53] σ (fun r σ' => WC σ σ' l (clo D top i) ∧ (i + 1 < top + siz (dT D) D.length top → r = x2)) := by
  have ht := kind_tr j hj
  have h5 := hW.2.2.2.2.1
  obtain ⟨t1, t2, t3, t4⟩ := siz_spec (f := dT D) (n := D.length) htl
  have hi : i < D.length := by omega
  have ok := hW.2.1 i hi
  have d30 := ok.2.1
  have d29 := ok.2.2.1
  obtain ⟨s1, s2, s3, s4⟩ := siz_spec (f := dT D) (n := D.length) hi
  have w0 : WC σ σ l [] := ⟨Fs.rf, by rw [List.append_nil]; exact h⟩
  have dt : dT D top ≤ dT D i := by
    rcases Nat.eq_or_lt_of_le hti with z | z
    · subst z; exact Nat.le_refl _
    · exact Nat.le_of_lt (t3 i z (by omega))
  refine CE.of (L := [(0, pv E (tr j)), (1, .int (opv D top i)), (2, .int x2), (3, pv E 53)]) rfl (Nat.le_of_ble_eq_true rfl) rfl (b_Fo_closeUpTo_0 ht ?_)
  unfold opv
  by_cases hk : 5 ≤ dK D i
  · rw [if_pos hk]
    refine JE_imp (w_close hj hW hT htl hend hl 32 i 0 [] σ w0 (Nat.le_refl _) hti (Nat.le_refl _) (by omega) hk (by omega) (by have := d29 hk; omega) ?_) (fun q σ' hq => ?_)
    · rcases hto with ⟨g1, g2⟩ | g
      · refine Or.inl ⟨g1, g2, ?_⟩
        have := (hW.1.2 (i + 1) (by omega) (by omega)).2
        rw [show i + 1 - 1 = i by omega] at this
        exact this
      · exact Or.inr g
    · obtain ⟨r, e, q1, q2⟩ := hq
      exact ⟨r, e, q1, fun _ => q2⟩
  · rw [if_neg hk]
    have hz := scal_siz hW hi (by omega)
    have hb : brk D i = [] := by unfold brk; rw [if_neg (by omega), if_neg (by omega)]
    have ecl : clo D top i = (if i = top then [] else cloF D top i 31 (par (dT D) i)) := by
      show (if i + siz (dT D) D.length i = i + 1 then brk D i ++ (if i = top then [] else cloF D top i 31 (par (dT D) i)) else []) = _
      rw [if_pos (by omega), hb]; rfl
    by_cases hit : i = top
    · subst hit
      rw [if_pos rfl, ecl, if_pos rfl]
      exact b_Fo_closeUpTo_6 ht ⟨fun _ => ⟨_, rfl, w0, fun z => by omega⟩, fun _ => ⟨fun _ => ⟨_, rfl, w0, fun z => by omega⟩, fun q => absurd rfl q⟩⟩
    · rw [if_neg hit, ecl, if_neg hit]
      have hi0 : 0 < i := by omega
      have hp := par_spec hW.1 hi0 hi
      have hpg := par_ge hW.1 htl (show top < i by omega) (by omega)
      have hin := par_in hW.1 hi0 hi
      have hpk := (hW.2.2.1 i hi0 hi).1
      have hp29 := (hW.2.1 (par (dT D) i) (by omega)).2.2.1 hpk
      refine JE_imp (w_close hj hW hT htl hend hl 31 (par (dT D) i) 0 [] σ w0 (Nat.le_refl _) (by omega) (by omega) (by omega) hpk (by omega) (by omega) ?_) (fun q σ' hq => ?_)
      · rcases hto with ⟨g1, g2⟩ | g
        · refine Or.inl ⟨g1, g2, ?_⟩
          have := s4 (by omega)
          rw [hz] at this
          omega
        · exact Or.inr g
      · obtain ⟨r, e, q1, q2⟩ := hq
        exact ⟨r, e, q1, fun _ => q2⟩
theorem c_putShortestL {E : En_t} {d B : Nat} {l : List Nat} {σ : S_t} (hB : B < 2 ^ 64) (hfin : B % 2 ^ 63 < 9218868437227405312) (h : OuC σ l) (hl : l.length ≤ 90000) : CV E (d + 5) m_Pr_putShortest [pv E 59, .long (lN B), pv E 53] σ (fun σ' => Fs MW σ σ' ∧ ∃ m, SpB B m ∧ OuC σ' (l ++ m)) := by
  refine CE.of (L := [(0, pv E 59), (1, .long (lN B)), (3, pv E 53)]) rfl (Nat.le_of_ble_eq_true rfl) rfl (b_Pr_putShortest_0 ?_)
  rw [x_pos hB, x_neg hB]
  have hz : lg_cmp (lN (B % 2 ^ 63)) (0 : Int64) = 0 ↔ B % 2 ^ 63 = 0 := lg_eq (b := 0) (by omega) (by omega)
  rw [hz]
  have wO : ∀ {τ τ'}, Fs MO τ τ' → Fs MW τ τ' := fun h => h.mono (fun _ _ q => Or.inl q)
  have main : ∀ (τ : S_t) (l1 : List Nat), 0 < B % 2 ^ 63 → Fs MW σ τ → OuC τ l1 → l1 = l ++ (if B < 2 ^ 63 then [] else [45]) → JE E (d + 5) m_Pr_putShortest 29 [(0, pv E 59), (1, .long (lN B)), (3, pv E 53)] [] τ (fun r σ' => r = none ∧ Fs MW σ σ' ∧ ∃ m, SpB B m ∧ OuC σ' (l ++ m)) := by
    intro τ l1 hb hF hO he
    have hl1 : l1.length ≤ 95000 := by rw [he, List.length_append]; split <;> simp <;> omega
    refine b_Pr_putShortest_29 ((c_fractionOf hB).mono (fun x σ1 hq => ?_))
    rw [hq.1, hq.2]
    refine (c_twosOf hB).mono (fun x σ2 hq => ?_)
    rw [hq.1, hq.2]
    refine (c_findShortest hb hfin).mono (fun σ3 hq => ?_)
    obtain ⟨F3, Z, up, hS, T, c, p, hP, hc1, hc2, hT0, hTl, hSV, hp1, hp2⟩ := hq
    have O3 := hO.fs F3
    have G3 : Fs MW σ σ3 := hF.tr (F3.mono (fun _ _ q => Or.inr q))
    have fin : ∀ m, m = (if B < 2 ^ 63 then [] else [45]) ++ spL T c p → SpB B m := fun m hm => Or.inr ⟨hb, T, c, p, Z, up, hS, hc1, hc2, fun i hi => (hP.2.2 i hi).2, hT0, hTl, hSV, hp1, hp2, hm⟩
    have elm : ∀ k, l1 ++ k = l ++ ((if B < 2 ^ 63 then [] else [45]) ++ k) := fun k => by rw [he, List.append_assoc]
    rw [hP.2.1]
    have c21 : (21 : Int32) < zI p ↔ 21 < p := zI_lt (a := 21) (by omega) (by omega) (by omega) (by omega)
    have c5 : (-5 : Int32) ≤ zI p ↔ -5 ≤ p := by
      rw [show (-5 : Int32) = zI (-5) from rfl]; exact zI_le (by omega) (by omega) (by omega) (by omega)
    rw [c21, c5]
    have pow : (21 < p ∨ p < -5) → JE E (d + 5) m_Pr_putShortest 59 [(0, pv E 59), (3, pv E 53)] [] σ3 (fun r σ' => r = none ∧ Fs MW σ σ' ∧ ∃ m, SpB B m ∧ OuC σ' (l ++ m)) := by
      intro hp
      refine b_Pr_putShortest_59 ?_
      rw [hP.1]
      refine (c_putDigits hP (by omega) O3 (by omega) (by omega)).mono (fun σ4 hq4 => ?_)
      have hlen := dg_len T c c
      refine (c_putPower (hP.fs hq4.1) (by omega) (by omega) hq4.2 (by rw [List.length_append]; omega)).mono (fun σ5 hq5 => ?_)
      refine ⟨rfl, (G3.tr (wO hq4.1)).tr (wO hq5.1), _, fin _ rfl, ?_⟩
      rw [← elm]
      unfold spL
      rw [if_pos hp, ← List.append_assoc]
      exact hq5.2
    refine ⟨fun g => pow (Or.inl g), fun g => ⟨fun g2 => ?_, fun g2 => pow (Or.inr (by omega))⟩⟩
    refine (c_putPlain hP (by omega) (by omega) (by omega) O3 (by omega)).mono (fun σ4 hq4 => ?_)
    refine ⟨rfl, G3.tr (wO hq4.1), _, fin _ rfl, ?_⟩
    rw [← elm]
    unfold spL
    rw [if_neg (by omega)]
    exact hq4.2
  refine ⟨fun g => ⟨fun g2 => main σ l (by omega) Fs.rf h (by rw [if_pos g2, List.append_nil]), fun g2 => ?_⟩, fun g => ?_⟩
  · exact (c_putC (x := 45) h (by omega)).mono (fun σ1 hq => main σ1 _ (by omega) (wO hq.1) hq.2 (by rw [if_neg g2]))
  · exact (c_putC (x := 48) h (by omega)).mono (fun σ1 hq => ⟨rfl, wO hq.1, [48], Or.inl ⟨g, rfl⟩, hq.2⟩)