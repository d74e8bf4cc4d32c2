/-! what is written of a row, and behind it -/
def ahd (D : List Row) (i : Nat) : List Nat := (if 0 < ordr (dT D) i then [44] else []) ++ (if dN D i = none then [] else strq (nam D i) ++ [58])
def bdl (D : List Row) (pr : Nat → List Nat) (i : Nat) : List Nat := if dK D i = 0 then sub (gA wordL) 0 4 else if dK D i = 1 then sub (gA wordL) 4 5 else if dK D i = 2 then sub (gA wordL) 9 4 else if dK D i = 3 then pr i else if dK D i = 4 then strq (dX D i) else if dK D i = 5 then [91] else [123]
def brk (D : List Row) (u : Nat) : List Nat := if dK D u = 5 then [93] else if dK D u = 6 then [125] else []
def cloF (D : List Row) (top i : Nat) : Nat → Nat → List Nat
  | 0, _ => []
  | f + 1, u => if u + siz (dT D) D.length u = i + 1 then brk D u ++ (if u = top then [] else cloF D top i f (par (dT D) u)) else []
def clo (D : List Row) (top i : Nat) : List Nat := cloF D top i 32 i
/-- the rows top .. top + n - 1, with what they close -/
def frm (D : List Row) (pr : Nat → List Nat) (top : Nat) : Nat → List Nat
  | 0 => []
  | n + 1 => frm D pr top n ++ ((if n = 0 then [] else ahd D (top + n)) ++ bdl D pr (top + n) ++ clo D top (top + n))
theorem brk_len (D : List Row) (u : Nat) : (brk D u).length ≤ 1 := by
  unfold brk
  (repeat' split) <;> decide
theorem cloF_len (D : List Row) (top i : Nat) : ∀ f u, (cloF D top i f u).length ≤ f
  | 0, _ => Nat.le_refl _
  | f + 1, u => by
    show (if u + siz (dT D) D.length u = i + 1 then brk D u ++ (if u = top then [] else cloF D top i f (par (dT D) u)) else []).length ≤ _
    have h1 := brk_len D u
    have h2 := cloF_len D top i f (par (dT D) u)
    split
    · rw [List.length_append]
      split
      · show _ + 0 ≤ _; omega
      · omega
    · exact Nat.zero_le _
theorem ahd_len (D : List Row) (i : Nat) : (ahd D i).length ≤ 6 * (nam D i).length + 4 := by
  have := strq_len (nam D i)
  unfold ahd
  rw [List.length_append]
  have h1 : (if 0 < ordr (dT D) i then [44] else ([] : List Nat)).length ≤ 1 := by split <;> decide
  have h2 : (if dN D i = none then ([] : List Nat) else strq (nam D i) ++ [58]).length ≤ 6 * (nam D i).length + 3 := by
    split
    · exact Nat.zero_le _
    · rw [List.length_append]; show _ + 1 ≤ _; omega
  omega
theorem bdl_len {D : List Row} {pr : Nat → List Nat} {i : Nat} (hp : dK D i = 3 → (pr i).length ≤ 26) : (bdl D pr i).length ≤ 6 * (dX D i).length + 26 := by
  have := strq_len (dX D i)
  unfold bdl
  split
  · rw [sub_len]; omega
  · split
    · rw [sub_len]; omega
    · split
      · rw [sub_len]; omega
      · split
        · have := hp (by assumption); omega
        · split
          · omega
          · split
            · show 1 ≤ _; omega
            · show 1 ≤ _; omega
def chs (D : List Row) : Nat → Nat
  | 0 => 0
  | i + 1 => chs D i + ((nam D i).length + (dX D i).length)
theorem cc_take (D : List Row) : ∀ i, i ≤ D.length → chs D i = cc (D.take i)
  | 0, _ => rfl
  | i + 1, h => by
    have ih := cc_take D i (by omega)
    have e : D.take (i + 1) = D.take i ++ [dR D i] := by
      rw [List.take_succ_eq_append_getElem (by omega)]
      unfold dR
      rw [List.getD_eq_getElem?_getD, List.getElem?_eq_getElem (by omega)]; rfl
    rw [e, cc_app, ← ih]; rfl
theorem chs_le (D : List Row) {i : Nat} (h : i ≤ D.length) : chs D i ≤ cc D := by
  rw [cc_take D i h]
  have e : cc D = cc (D.take i) + cc (D.drop i) := by
    unfold cc
    rw [← List.sum_append, ← List.map_append, List.take_append_drop]
  omega
theorem frm_len {D : List Row} {pr : Nat → List Nat} {top : Nat} (hp : ∀ i, top ≤ i → dK D i = 3 → (pr i).length ≤ 26) : ∀ n, (frm D pr top n).length ≤ 6 * (chs D (top + n) - chs D top) + 62 * n ∧ chs D top ≤ chs D (top + n)
  | 0 => ⟨Nat.zero_le _, Nat.le_refl _⟩
  | n + 1 => by
    obtain ⟨h1, h2⟩ := frm_len hp n
    have h3 := ahd_len D (top + n)
    have h4 := bdl_len (D := D) (pr := pr) (i := top + n) (hp (top + n) (by omega))
    have h5 := cloF_len D top (top + n) 32 (top + n)
    have e : chs D (top + (n + 1)) = chs D (top + n) + ((nam D (top + n)).length + (dX D (top + n)).length) := rfl
    refine ⟨?_, by omega⟩
    show (frm D pr top n ++ ((if n = 0 then [] else ahd D (top + n)) ++ bdl D pr (top + n) ++ clo D top (top + n))).length ≤ _
    rw [List.length_append, List.length_append, List.length_append]
    have h6 : (if n = 0 then ([] : List Nat) else ahd D (top + n)).length ≤ 6 * (nam D (top + n)).length + 4 := by
      split
      · exact Nat.zero_le _
      · exact h3
    unfold clo
    omega
/-! the class's rows -/
theorem TrD_w {M : Nat → Nat → Prop} {σ σ' : S_t} {t : Nat} {D : List Row} (hF : Fs M σ σ') (hM : ∀ p k, t ≤ p → ¬ M p k) (h : TrD σ t D) : TrD σ' t D := TrD_fr (fun p k a _ => ⟨hF.1 p k (hM p k a), by show σ'.2.1 p k = σ.2.1 p k; rw [hF.2]⟩) h
theorem w_ahead {E : En_t} {d j i : Nat} {D : List Row} {l : List Nat} {σ : S_t} (hj : j < 10) (hW : WfR D) (hT : TrD σ (tr j) D) (hi : i < D.length) (h : OuC σ l) (hl : l.length ≤ 800000) : CV E (d + 8) m_Fo_writeAhead [pv E (tr j), .int (nI i), pv E 53] σ (fun σ' => WC σ σ' l (ahd D i)) := by
  have ht := kind_tr j hj
  have h5 := hW.2.2.2.2
  have hcc := cc_bts D
  have ci : (nI i).toNatClampNeg = i := nI_clamp (by omega)
  have hord : ordr (dT D) i ≤ 500 := by
    have := cnt_le (f := dT D) (e := dT D i) (a := par (dT D) i + 1) (b := i)
    unfold ordr
    split <;> omega
  have at15 : ∀ (τ : S_t), WC σ τ l (if 0 < ordr (dT D) i then [44] else []) → JE E (d + 8) m_Fo_writeAhead 15 [(0, pv E (tr j)), (1, .int (nI i)), (2, pv E 53)] [] τ (fun q σ' => q = none ∧ WC σ σ' l (ahd D i)) := by
    intro τ hw
    have hT1 : TrD τ (tr j) D := TrD_w hw.1 (fun p k a => by unfold MO; unfold tr at a; omega) hT
    obtain ⟨_, _, _, _, _, _, r9, ⟨na, r8, nl1, nl2⟩, _⟩ := hT1.1.2.2.2.2 i hi
    have hl1 : (l ++ (if 0 < ordr (dT D) i then [44] else [])).length ≤ 800001 := by
      rw [List.length_append]
      have : (if 0 < ordr (dT D) i then [44] else ([] : List Nat)).length ≤ 1 := by split <;> decide
      omega
    refine b_Fo_writeAhead_15 (d := d + 7) ht ((c_isNamed ht hT1.1 hW hi).mono (fun r σ1 hq => ?_))
    obtain ⟨rfl, hq⟩ := hq
    rcases hq with ⟨rfl, hn⟩ | ⟨rfl, hn⟩
    · refine ⟨fun _ => ⟨rfl, ?_⟩, fun q => absurd rfl q⟩
      unfold ahd
      rw [if_pos hn, List.append_nil]; exact hw
    · refine ⟨fun q => absurd q (by decide), fun _ => ⟨vin (by omega) (by decide), vin (by omega) (by decide), ?_⟩⟩
      rw [ci, r8, r9]
      have hq4 := strq_len (nam D i)
      refine (w_str (d := d) ht (by unfold tr; omega) hw.2 (by omega) hT1.1.1 nl1 (by omega) nl2 ((hW.2.1 i hi).2.2.2.2.2.2.1)).mono (fun σ2 q1 => (w_put (x := 58) q1.2 (by rw [List.length_append]; omega)).mono (fun σ3 q2 => ⟨rfl, ?_⟩))
      unfold ahd
      rw [if_neg hn]
      exact hw.tr (q1.tr q2)
  refine CE.of (L := [(0, pv E (tr j)), (1, .int (nI i)), (2, pv E 53)]) rfl (Nat.le_of_ble_eq_true rfl) rfl (b_Fo_writeAhead_0 (d := d + 7) ht ⟨vin (by omega) (by decide), ?_⟩)
  rw [ci, (hT.1.2.2.2.2 i hi).2.2.2.1]
  refine ⟨fun q => at15 σ ?_, fun q => (w_put (x := 44) h (by omega)).mono (fun σ1 q1 => at15 σ1 ?_)⟩
  · have : ¬ 0 < ordr (dT D) i := fun z => absurd q (nI_ge (b := ordr (dT D) i) (a := 0) z (by omega))
    rw [if_neg this]
    exact ⟨Fs.rf, by rw [List.append_nil]; exact h⟩
  · have : 0 < ordr (dT D) i := Nat.pos_of_ne_zero (fun z => q (by rw [z]; exact Int32.le_refl _))
    rw [if_pos this]; exact q1
theorem w_begin {E : En_t} {d j i : Nat} {D : List Row} {pr : Nat → List Nat} {l : List Nat} {σ : S_t} (hj : j < 10) (hW : WfR D) (hT : TrD σ (tr j) D) (hi : i < D.length) (h3 : dK D i ≠ 3) (h : OuC σ l) (hl : l.length ≤ 800000) : CV E (d + 8) m_Fo_writeBeginning [pv E (tr j), .int (nI i), pv E 53] σ (fun σ' => WC σ σ' l (bdl D pr i)) := by
  have ht := kind_tr j hj
  have h5 := hW.2.2.2.2
  have hcc := cc_bts D
  have ci : (nI i).toNatClampNeg = i := nI_clamp (by omega)
  have k6 := (hW.2.1 i hi).1
  obtain ⟨r1, r2, _, _, _, _, _, _, ⟨ta, r10, tl1, tl2⟩⟩ := hT.1.2.2.2.2 i hi
  have kk : ∀ b, b < 7 → (nI (dK D i) = nI b ↔ dK D i = b) := fun b hb => nI_eq (by omega) (by omega)
  have w0 : dK D i = 0 → bdl D pr i = sub (gA wordL) (wof 0) (lenS.getD 0 0) := fun z => if_pos z
  refine CE.of (L := [(0, pv E (tr j)), (1, .int (nI i)), (2, pv E 53)]) rfl (Nat.le_of_ble_eq_true rfl) rfl (b_Fo_writeBeginning_0 (d := d + 7) ht ⟨vin (by omega) (by decide), ?_⟩)
  rw [ci, r1, r10, r2]
  refine ⟨fun q => ?_, fun q => ?_, fun q => ?_, fun q => absurd ((kk 3 (by decide)).mp q) h3, fun q => ?_, fun q => ?_, fun q0 q1 q2 q3 q4 q5 => ?_⟩
  · have z := (kk 0 (by decide)).mp q
    rw [w0 z]
    exact (w_word (d := d + 2) (w := 0) (by decide) h (by omega)).mono (fun σ1 q1 => ⟨rfl, q1⟩)
  · have z := (kk 1 (by decide)).mp q
    have e : bdl D pr i = sub (gA wordL) (wof 1) (lenS.getD 1 0) := by unfold bdl; rw [if_neg (by omega), if_pos z]; rfl
    rw [e]
    exact (w_word (d := d + 2) (w := 1) (by decide) h (by omega)).mono (fun σ1 q1 => ⟨rfl, q1⟩)
  · have z := (kk 2 (by decide)).mp q
    have e : bdl D pr i = sub (gA wordL) (wof 2) (lenS.getD 2 0) := by unfold bdl; rw [if_neg (by omega), if_neg (by omega), if_pos z]; rfl
    rw [e]
    exact (w_word (d := d + 2) (w := 2) (by decide) h (by omega)).mono (fun σ1 q1 => ⟨rfl, q1⟩)
  · have z := (kk 4 (by decide)).mp q
    have e : bdl D pr i = strq (dX D i) := by unfold bdl; rw [if_neg (by omega), if_neg (by omega), if_neg (by omega), if_neg (by omega), if_pos z]
    rw [e, if_pos z]
    exact ⟨vin (by omega) (by decide), vin (by omega) (by decide), (w_str (d := d) ht (by unfold tr; omega) h (by omega) hT.1.1 tl1 (by omega) tl2 ((hW.2.1 i hi).2.2.2.2.2.2.2)).mono (fun σ1 q1 => ⟨rfl, q1⟩)⟩
  · have z := (kk 5 (by decide)).mp q
    have e : bdl D pr i = [91] := by unfold bdl; rw [if_neg (by omega), if_neg (by omega), if_neg (by omega), if_neg (by omega), if_neg (by omega), if_pos z]
    rw [e]
    exact (w_put (x := 91) h (by omega)).mono (fun σ1 q1 => ⟨rfl, q1⟩)
  · have n0 := fun z => q0 ((kk 0 (by decide)).mpr z)
    have n1 := fun z => q1 ((kk 1 (by decide)).mpr z)
    have n2 := fun z => q2 ((kk 2 (by decide)).mpr z)
    have n4 := fun z => q4 ((kk 4 (by decide)).mpr z)
    have n5 := fun z => q5 ((kk 5 (by decide)).mpr z)
    have e : bdl D pr i = [123] := by unfold bdl; rw [if_neg n0, if_neg n1, if_neg n2, if_neg h3, if_neg n4, if_neg n5]
    rw [e]
    exact (w_put (x := 123) h (by omega)).mono (fun σ1 q1 => ⟨rfl, q1⟩)
