theorem sub_take (m : List Nat) : ∀ j, j ≤ m.length → sub (gA m) 0 j = m.take j
  | 0, _ => rfl
  | j + 1, h => by
    show sub (gA m) 0 j ++ [gA m (0 + j)] = _
    rw [sub_take m j (by omega), List.take_succ_eq_append_getElem (by omega), Nat.zero_add]
    congr 1
    unfold gA
    rw [List.getD_eq_getElem?_getD, List.getElem?_eq_getElem (by omega)]; rfl
theorem MoR_w {M : Nat → Nat → Prop} {σ σ' : S_t} {s : Nat} {D : List Row} (hF : Fs M σ σ') (hM : ∀ p k, 8 ≤ p → p ≤ 27 → ¬ M p k) (hW : WfR D) (h : MoR σ s D) : MoR σ' s D := MoR_fr (fun p k hm => by
  have : ¬ M p k := hM p k (by unfold MoC at hm; omega) (by unfold MoC at hm; omega)
  exact ⟨hF.1 p k this, by show σ'.2.1 p k = σ.2.1 p k; rw [hF.2]⟩) hW.2.2.2.2.1 hW.2.2.2.2.2 h
theorem v_plain {E : En_t} {d s k : Nat} {D : List Row} {pr : Nat → List Nat} {l : List Nat} {σ : S_t} (hs : s < 8) (hw : Wrd σ) (hW : WfR D) (hM : MoR σ s D) (hk : k < D.length) (hpr : dK D k = 3 → SpB (dB D k) (pr k)) (h : OuM σ l) : CV E (d + 3) m_Mo_putPlain [pv E 0, .int (nI s), .int (nI (500 * s + k))] σ (fun σ' => WM σ σ' l (bdl D pr k)) := by
  have h5 := hW.2.2.2.2
  have hcc := cc_bts D
  have ci : (nI (500 * s + k)).toNatClampNeg = 500 * s + k := nI_clamp (by omega)
  have ok := hW.2.1 k hk
  have k6 := ok.1
  obtain ⟨_, _, _, pm, hpm, _, rows⟩ := id hM
  obtain ⟨r13, _, _, _, _, _, _, _, _, r22, ⟨ta, r21, tl1, tl2⟩, _, r3⟩ := rows k hk
  have kk : ∀ b, b < 7 → (nI (dK D k) = nI b ↔ dK D k = b) := fun b hb => nI_eq (by omega) (by omega)
  have vi : vp_in (nI (500 * s + k)) 4500 := vin (by omega) (by decide)
  refine CE.of (L := [(0, pv E 0), (1, .int (nI s)), (2, .int (nI (500 * s + k)))]) rfl (Nat.le_of_ble_eq_true rfl) rfl (b_Mo_putPlain_0 (d := d + 2) ⟨vi, ?_⟩)
  rw [ci, r13, r21, r22]
  refine ⟨fun q => ?_, fun q => ?_, fun q => ?_, fun q => ?_, fun q => ?_, fun q => ?_, fun q0 q1 q2 q3 q4 q5 => ?_⟩
  · have z := (kk 0 (by decide)).mp q
    have e : bdl D pr k = sub (gA wordL) 0 4 := if_pos z
    rw [e]
    exact (v_word (d := d + 1) (f := 0) (n := 4) hw (by decide) h).mono (fun σ1 q1 => ⟨rfl, q1⟩)
  · have z := (kk 1 (by decide)).mp q
    have e : bdl D pr k = sub (gA wordL) 4 5 := by unfold bdl; rw [if_neg (by omega), if_pos z]
    rw [e]
    exact (v_word (d := d + 1) (f := 4) (n := 5) hw (by decide) h).mono (fun σ1 q1 => ⟨rfl, q1⟩)
  · have z := (kk 2 (by decide)).mp q
    have e : bdl D pr k = sub (gA wordL) 9 4 := by unfold bdl; rw [if_neg (by omega), if_neg (by omega), if_pos z]
    rw [e]
    exact (v_word (d := d + 1) (f := 9) (n := 4) hw (by decide) h).mono (fun σ1 q1 => ⟨rfl, q1⟩)
  · have z := (kk 3 (by decide)).mp q
    obtain ⟨pa, m, hm, hm26, r23, r24, pal, pas⟩ := r3 z
    have em : m = pr k := SpB_uniq hm (hpr z)
    have e : bdl D pr k = pr k := by unfold bdl; rw [if_neg (by omega), if_neg (by omega), if_neg (by omega), if_pos z]
    rw [e, ← em]
    have loop : ∀ (c j : Nat) (τ : S_t), j + c = m.length → WM σ τ l (sub (gA m) 0 j) → JE E (d + 3) m_Mo_putPlain 74 [(0, pv E 0), (1, .int (nI s)), (2, .int (nI (500 * s + k))), (3, .int (nI j))] [] τ (fun q σ' => q = none ∧ WM σ σ' l m) := by
      intro c
      induction c with
      | zero =>
        intro j τ hj hw
        have : j = m.length := by omega
        subst this
        refine b_Mo_putPlain_74 (d := d + 2) ⟨vi, ?_⟩
        rw [ci, hw.1.1 24 (500 * s + k) (by unfold MU; omega), r24]
        refine ⟨fun _ => ⟨rfl, ?_⟩, fun q => absurd (Int32.le_refl _) q⟩
        rw [sub_take m m.length (Nat.le_refl _), List.take_length] at hw
        exact hw
      | succ c ih =>
        intro j τ hj hw
        refine b_Mo_putPlain_74 (d := d + 2) ⟨vi, ?_⟩
        rw [ci, hw.1.1 24 (500 * s + k) (by unfold MU; omega), r24, hw.1.1 23 (500 * s + k) (by unfold MU; omega), r23, show (13000 : Int32) * nI s = nI (13000 * s) from pk_mul 13000 s, nI_add, nI_add, nI_clamp (show 13000 * s + pa + j < 2 ^ 31 by omega), hw.1.1 27 _ (by unfold MU; omega), show 13000 * s + pa + j = 13000 * s + (pa + j) by omega, nI_1]
        have eg : gI σ 27 (13000 * s + (pa + j)) = nI (gA m j) := pas j (by omega)
        rw [eg]
        refine ⟨fun q => absurd q (nI_ge (by omega) (by omega)), fun _ => ⟨vi, vin (by omega) (by decide), (v_put hw.2).mono (fun σ1 q1 => ih (j + 1) σ1 (by omega) ?_)⟩⟩
        have := hw.tr q1
        show WM σ σ1 l (sub (gA m) 0 j ++ [gA m (0 + j)])
        rw [Nat.zero_add]; exact this
    exact loop m.length 0 σ (by omega) ⟨Fs.rf, by show OuM σ (l ++ []); rw [List.append_nil]; exact h⟩
  · have z := (kk 4 (by decide)).mp q
    have e : bdl D pr k = strq (dX D k) := by unfold bdl; rw [if_neg (by omega), if_neg (by omega), if_neg (by omega), if_neg (by omega), if_pos z]
    rw [e, ix4000]
    exact ⟨vi, vi, (v_str (d := d) h (by omega) (fun i hi => by rw [show 4000 * s + ta + i = 4000 * s + (ta + i) by omega]; exact tl2 i hi) ok.2.2.2.2.2.2.2).mono (fun σ1 q1 => ⟨rfl, q1⟩)⟩
  · have z := (kk 5 (by decide)).mp q
    have e : bdl D pr k = [91] := by unfold bdl; rw [if_neg (by omega), if_neg (by omega), if_neg (by omega), if_neg (by omega), if_neg (by omega), if_pos z]
    rw [e]
    exact (v_put (x := 91) h).mono (fun σ1 q1 => ⟨rfl, q1⟩)
  · have n0 := fun z => q0 ((kk 0 (by decide)).mpr z)
    have n1 := fun z => q1 ((kk 1 (by decide)).mpr z)
    have n2 := fun z => q2 ((kk 2 (by decide)).mpr z)
    have n3 := fun z => q3 ((kk 3 (by decide)).mpr z)
    have n4 := fun z => q4 ((kk 4 (by decide)).mpr z)
    have n5 := fun z => q5 ((kk 5 (by decide)).mpr z)
    have e : bdl D pr k = [123] := by unfold bdl; rw [if_neg n0, if_neg n1, if_neg n2, if_neg n3, if_neg n4, if_neg n5]
    rw [e]
    exact (v_put (x := 123) h).mono (fun σ1 q1 => ⟨rfl, q1⟩)
/-- what the model closes behind a row -/
theorem v_close {E : En_t} {d s top i : Nat} {D : List Row} {l : List Nat} {σ : S_t} {x4 : Int32} {Q : Option Value → S_t → Prop} (hs : s < 8) (hW : WfR D) (hM : MoR σ s D) (htl : top < D.length) (hi : i < top + siz (dT D) D.length top) (kk : ∀ τ m, WM σ τ l m → m = clo D top i → JE E (d + 1) m_Mo_form 217 [(0, pv E 0), (1, .int (nI s)), (2, .int (nI top)), (3, .int (nI (500 * s))), (4, .int x4), (5, .int (nI i))] [] τ Q) : ∀ (f u : Nat) (m : List Nat) (τ : S_t), WM σ τ l m → top ≤ u → u ≤ i → dT D u < dT D top + f → m ++ cloF D top i f u = clo D top i → JE E (d + 1) m_Mo_form 126 [(0, pv E 0), (1, .int (nI s)), (2, .int (nI top)), (3, .int (nI (500 * s))), (4, .int x4), (5, .int (nI i)), (6, .int (nI u))] [] τ Q := by
  have h5 := hW.2.2.2.2.1
  obtain ⟨t1, t2, t3, t4⟩ := siz_spec (f := dT D) (n := D.length) htl
  have m1top : (-1 : Int32) < nI top := Int32.lt_of_lt_of_le (by decide) (nI_le (a := 0) (Nat.zero_le top) (by omega))
  intro f
  induction f with
  | zero =>
    intro u m τ hw h1 h2 h6 hm
    exfalso
    rcases Nat.eq_or_lt_of_le h1 with z | z
    · subst z; omega
    · have := t3 u z (by omega); omega
  | succ f ih =>
    intro u m τ hw h1 h2 h6 hm
    have hu : u < D.length := by omega
    have s2 := (siz_spec (f := dT D) (n := D.length) hu).2.1
    have hM1 : MoR τ s D := MoR_w hw.1 (fun p k a b => by unfold MU; omega) hW hM
    obtain ⟨_, _, _, pm, _, _, rows⟩ := id hM1
    have row := rows u hu
    have k6 := (hW.2.1 u hu).1
    have ix : nI (500 * s) + nI u = nI (500 * s + u) := nI_add _ _
    have cx : (nI (500 * s + u)).toNatClampNeg = 500 * s + u := nI_clamp (by omega)
    have vi : vp_in (nI (500 * s + u)) 4500 := vin (by omega) (by decide)
    refine b_Mo_form_126 ⟨fun q => absurd q (fun z => Int32.lt_irrefl (Int32.lt_of_lt_of_le z (nI_le h1 (by omega)))), fun _ => ?_⟩
    rw [ix, cx, row.2.2.2.2.1, row.1, nI_1, nI_add, nI_eq (by omega) (by omega)]
    refine ⟨vi, fun q => ?_, fun q => ⟨vi, ?_⟩⟩
    · have e : cloF D top i (f + 1) u = [] := if_neg (fun z => q z.symm)
      rw [e, List.append_nil] at hm
      exact kk τ m hw hm
    · have e : cloF D top i (f + 1) u = brk D u ++ (if u = top then [] else cloF D top i f (par (dT D) u)) := if_pos q.symm
      -- once the bracket stands
      have at193 : ∀ τ1, WM σ τ1 l (m ++ brk D u) → JE E (d + 1) m_Mo_form 193 [(0, pv E 0), (1, .int (nI s)), (2, .int (nI top)), (3, .int (nI (500 * s))), (4, .int x4), (5, .int (nI i)), (6, .int (nI u))] [] τ1 Q := by
        intro τ1 hw1
        have hM2 : MoR τ1 s D := MoR_w hw1.1 (fun p k a b => by unfold MU; omega) hW hM
        obtain ⟨_, _, _, pm2, _, _, rows2⟩ := id hM2
        have row2 := rows2 u hu
        refine b_Mo_form_193 ?_
        rw [ix, cx, nI_eq (show u < 2 ^ 31 by omega) (show top < 2 ^ 31 by omega)]
        refine ⟨fun hne => ⟨vi, b_Mo_form_212 ?_⟩, fun he => b_Mo_form_212 ?_⟩
        · have hu0 : 0 < u := by omega
          have hp := par_spec hW.1 hu0 hu
          have hpg := par_ge hW.1 htl (show top < u by omega) (by omega)
          have epI : gI τ1 14 (500 * s + u) = nI (par (dT D) u) := by rw [row2.2.1]; unfold pI; rw [if_neg (by omega)]; exact zI_nI _
          rw [epI]
          refine ih (par (dT D) u) (m ++ brk D u) τ1 hw1 (by omega) (by omega) (by omega) ?_
          rw [← hm, e, if_neg hne, List.append_assoc]
        · refine b_Mo_form_126 ⟨fun _ => ?_, fun q => absurd m1top q⟩
          refine kk τ1 (m ++ brk D u) hw1 ?_
          rw [← hm, e, if_pos he, List.append_nil]
      refine ⟨fun q5 => ⟨vi, fun q6 => at193 τ ?_, fun q6 => ?_⟩, fun q5 => ?_⟩
      · have n5 : ¬ dK D u = 5 := fun z => q5 (by rw [z]; rfl)
        have n6 : ¬ dK D u = 6 := fun z => q6 (by rw [z]; rfl)
        have eb : brk D u = [] := by unfold brk; rw [if_neg n5, if_neg n6]
        rw [eb, List.append_nil]; exact hw
      · have n6 : dK D u = 6 := (nI_eq (b := 6) (by omega) (by decide)).mp q6
        have eb : brk D u = [125] := by unfold brk; rw [if_neg (by omega), if_pos n6]
        exact (v_put (x := 125) hw.2).mono (fun σ1 q1 => at193 σ1 (by rw [eb]; exact hw.tr q1))
      · have n5 : dK D u = 5 := (nI_eq (b := 5) (by omega) (by decide)).mp q5
        have eb : brk D u = [93] := by unfold brk; rw [if_pos n5]
        exact (v_put (x := 93) hw.2).mono (fun σ1 q1 => at193 σ1 (by rw [eb]; exact hw.tr q1))
theorem v_form {E : En_t} {d s top : Nat} {D : List Row} {pr : Nat → List Nat} {σ : S_t} (hs : s < 8) (hw : Wrd σ) (hW : WfR D) (hM : MoR σ s D) (htl : top < D.length) (hpr : ∀ i, i < D.length → dK D i = 3 → SpB (dB D i) (pr i)) (h : OuM σ []) : JE E (d + 4) m_Mo_form 36 [(0, pv E 0), (1, .int (nI s)), (2, .int (nI top)), (3, .int (nI (500 * s))), (4, .int (nI (top + siz (dT D) D.length top))), (5, .int (nI top))] [] σ (fun q σ' => ∃ r, q = some (.int r) ∧ Fs MU σ σ' ∧ OuM σ' (frm D pr top (siz (dT D) D.length top)) ∧ r = nI (frm D pr top (siz (dT D) D.length top)).length) := by
  have h5 := hW.2.2.2.2
  have hcc := cc_bts D
  obtain ⟨t1, t2, t3, t4⟩ := siz_spec (f := dT D) (n := D.length) htl
  let Q : Option Value → S_t → Prop := fun q σ' => ∃ r, q = some (.int r) ∧ Fs MU σ σ' ∧ OuM σ' (frm D pr top (siz (dT D) D.length top)) ∧ r = nI (frm D pr top (siz (dT D) D.length top)).length
  have loop : ∀ (m n : Nat) (τ : S_t), n + m = siz (dT D) D.length top → Fs MU σ τ → OuM τ (frm D pr top n) → JE E (d + 4) m_Mo_form 36 [(0, pv E 0), (1, .int (nI s)), (2, .int (nI top)), (3, .int (nI (500 * s))), (4, .int (nI (top + siz (dT D) D.length top))), (5, .int (nI (top + n)))] [] τ Q := by
    intro m
    induction m with
    | zero =>
      intro n τ hn hF hO
      have : n = siz (dT D) D.length top := by omega
      subst this
      refine b_Mo_form_36 (d := d + 3) ⟨fun _ => ⟨_, rfl, hF, hO, hO.2.1⟩, fun q => absurd (Int32.le_refl _) q⟩
    | succ m ih =>
      intro n τ hn hF hO
      have hk : top + n < D.length := by omega
      have hM1 : MoR τ s D := MoR_w hF (fun p k a b => by unfold MU; omega) hW hM
      obtain ⟨_, _, _, pm, _, _, rows⟩ := id hM1
      have row := rows (top + n) hk
      have ix : nI (500 * s) + nI (top + n) = nI (500 * s + (top + n)) := nI_add _ _
      have cx : (nI (500 * s + (top + n))).toNatClampNeg = 500 * s + (top + n) := nI_clamp (by omega)
      have vi : vp_in (nI (500 * s + (top + n))) 4500 := vin (by omega) (by decide)
      have d30 := (hW.2.1 (top + n) hk).2.1
      have hord : ordr (dT D) (top + n) ≤ 500 := by
        have := cnt_le (f := dT D) (e := dT D (top + n)) (a := par (dT D) (top + n) + 1) (b := top + n)
        unfold ordr
        split <;> omega
      -- the row itself
      have at113 : ∀ τ1, Fs MU σ τ1 → OuM τ1 (frm D pr top n ++ (if n = 0 then [] else ahd D (top + n))) → JE E (d + 4) m_Mo_form 113 [(0, pv E 0), (1, .int (nI s)), (2, .int (nI top)), (3, .int (nI (500 * s))), (4, .int (nI (top + siz (dT D) D.length top))), (5, .int (nI (top + n)))] [] τ1 Q := by
        intro τ1 hF1 hO1
        have hM2 : MoR τ1 s D := MoR_w hF1 (fun p k a b => by unfold MU; omega) hW hM
        have hw1 : Wrd τ1 := fun k hk => by rw [hF1.1 40 k (by unfold MU; omega)]; exact hw k hk
        refine b_Mo_form_113 (d := d + 3) ?_
        rw [ix]
        refine (v_plain (d := d) (pr := pr) hs hw1 hW hM2 hk (hpr _ hk) hO1).mono (fun σ2 q2 => ?_)
        have hF2 := hF1.tr q2.1
        have hM3 : MoR σ2 s D := MoR_w hF2 (fun p k a b => by unfold MU; omega) hW hM
        refine v_close (d := d + 3) (i := top + n) (l := (frm D pr top n ++ (if n = 0 then [] else ahd D (top + n))) ++ bdl D pr (top + n)) hs hW hM3 htl (by omega) (fun τ3 mm q3 em => ?_) 32 (top + n) [] σ2 ⟨Fs.rf, by rw [List.append_nil]; exact q2.2⟩ (by omega) (Nat.le_refl _) (by omega) rfl
        refine b_Mo_form_217 (d := d + 3) ?_
        rw [nI_1]
        refine ih (n + 1) τ3 (by omega) (hF2.tr q3.1) ?_
        have := q3.2
        rw [em] at this
        show OuM τ3 (frm D pr top n ++ ((if n = 0 then [] else ahd D (top + n)) ++ bdl D pr (top + n) ++ clo D top (top + n)))
        rw [← List.append_assoc, ← List.append_assoc]; exact this
      -- what stands ahead of it
      have at67 : 0 < n → ∀ τ1, Fs MU σ τ1 → OuM τ1 (frm D pr top n ++ (if 0 < ordr (dT D) (top + n) then [44] else [])) → JE E (d + 4) m_Mo_form 67 [(0, pv E 0), (1, .int (nI s)), (2, .int (nI top)), (3, .int (nI (500 * s))), (4, .int (nI (top + siz (dT D) D.length top))), (5, .int (nI (top + n)))] [] τ1 Q := by
        intro hn0 τ1 hF1 hO1
        have hM2 : MoR τ1 s D := MoR_w hF1 (fun p k a b => by unfold MU; omega) hW hM
        obtain ⟨_, _, _, pm2, _, _, rows2⟩ := id hM2
        obtain ⟨_, _, _, _, _, _, _, r20, ⟨na, r19, nl1, nl2⟩, _⟩ := rows2 (top + n) hk
        refine b_Mo_form_67 (d := d + 3) ?_
        rw [ix, cx, r20, r19, ix4000]
        refine ⟨vi, fun q => at113 τ1 hF1 ?_, fun q => ⟨vi, vi, ?_⟩⟩
        · have hnn : dN D (top + n) = none := by
            rcases Classical.em (dN D (top + n) = none) with z | z
            · exact z
            · rw [if_neg z] at q; exact absurd q (nI_nn (by omega))
          rw [if_neg (by omega)]
          unfold ahd
          rw [if_pos hnn, List.append_nil]; exact hO1
        · have hnn : ¬ dN D (top + n) = none := fun z => by rw [if_pos z] at q; exact q (by decide)
          rw [if_neg hnn]
          refine (v_str (d := d + 1) hO1 (by omega) (fun i hi => by rw [show 4000 * s + na + i = 4000 * s + (na + i) by omega]; exact nl2 i hi) ((hW.2.1 (top + n) hk).2.2.2.2.2.2.1)).mono (fun σ2 q2 => (v_put (x := 58) q2.2).mono (fun σ3 q3 => at113 σ3 ((hF1.tr q2.1).tr q3.1) ?_))
          rw [if_neg (show ¬ n = 0 by omega)]
          unfold ahd
          rw [if_neg hnn]
          have := (q2.tr q3).2
          rw [List.append_assoc] at this
          exact this
      refine b_Mo_form_36 (d := d + 3) ⟨fun q => absurd q (nI_ge (by omega) (by omega)), fun _ => ⟨fun q => ?_, fun q => ?_⟩⟩
      · have hn0 : n = 0 := by
          rcases Nat.eq_zero_or_pos n with z | z
          · exact z
          · exact absurd q (nI_ge (by omega) (by omega))
        exact at113 τ hF (by rw [if_pos hn0, List.append_nil]; exact hO)
      · have hn0 : 0 < n := Nat.pos_of_ne_zero (fun z => q (by rw [z]; exact Int32.le_refl _))
        rw [ix, cx, row.2.2.1]
        refine ⟨vi, fun q2 => at67 hn0 τ hF ?_, fun q2 => (v_put (x := 44) hO).mono (fun σ1 q1 => at67 hn0 σ1 (hF.tr q1.1) ?_)⟩
        · have : ¬ 0 < ordr (dT D) (top + n) := fun z => absurd q2 (nI_ge (b := ordr (dT D) (top + n)) (a := 0) z (by omega))
          rw [if_neg this, List.append_nil]; exact hO
        · have : 0 < ordr (dT D) (top + n) := Nat.pos_of_ne_zero (fun z => q2 (by rw [z]; exact Int32.le_refl _))
          rw [if_pos this]; exact q1.2
  exact loop (siz (dT D) D.length top) 0 σ (by omega) Fs.rf h
