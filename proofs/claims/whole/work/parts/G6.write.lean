/-- the rows written, before what they close -/
def pre (D : List Row) (pr : Nat → List Nat) (top n : Nat) : List Nat := frm D pr top n ++ ((if n = 0 then [] else ahd D (top + n)) ++ bdl D pr (top + n))
theorem frm_pre (D : List Row) (pr : Nat → List Nat) (top n : Nat) : frm D pr top (n + 1) = pre D pr top n ++ clo D top (top + n) := by
  show frm D pr top n ++ ((if n = 0 then [] else ahd D (top + n)) ++ bdl D pr (top + n) ++ clo D top (top + n)) = _
  unfold pre
  rw [List.append_assoc (frm D pr top n)]
theorem c_write {E : En_t} {d j top : Nat} {D : List Row} {pr : Nat → List Nat} {σ : S_t} (hj : j < 10) (hW : WfR D) (hT : TrD σ (tr j) D) (htl : top < D.length) (hpr : ∀ i, i < D.length → dK D i = 3 → SpB (dB D i) (pr i) ∧ (pr i).length ≤ 26) (h : OuC σ []) : CV E (d + 9) m_Fo_write [pv E 68, pv E (tr j), .int (nI top), pv E 53] σ (fun σ' => Fs MW σ σ' ∧ OuC σ' (frm D pr top (siz (dT D) D.length top))) := by
  have ht := kind_tr j hj
  have h5 := hW.2.2.2.2
  have hcc := cc_bts D
  obtain ⟨t1, t2, t3, t4⟩ := siz_spec (f := dT D) (n := D.length) htl
  have wO : ∀ {τ τ'}, Fs MO τ τ' → Fs MW τ τ' := fun h => h.mono (fun _ _ q => Or.inl q)
  have tw : ∀ {τ}, Fs MW σ τ → TrD τ (tr j) D := fun hF => TrD_w hF (fun p k a => by unfold MW MO PB PM BP; unfold tr at a; omega) hT
  have flen : ∀ n, top + n ≤ D.length → (frm D pr top n).length ≤ 55000 := fun n hn => by
    have pr' : ∀ i, top ≤ i → dK D i = 3 → (if i < D.length then (pr i).length else 0) ≤ 26 := fun i _ h3 => by
      split
      · exact (hpr i (by assumption) h3).2
      · exact Nat.zero_le _
    have key : ∀ n, top + n ≤ D.length → (frm D pr top n).length ≤ 6 * (chs D (top + n) - chs D top) + 62 * n ∧ chs D top ≤ chs D (top + n) := by
      intro n
      induction n with
      | zero => intro _; exact ⟨Nat.zero_le _, Nat.le_refl _⟩
      | succ n ih =>
        intro hn
        obtain ⟨h1, h2⟩ := ih (by omega)
        have h3 := ahd_len D (top + n)
        have h4 := bdl_len (D := D) (pr := pr) (i := top + n) (fun z => (hpr _ (by omega) z).2)
        have h5 := cloF_len D top (top + n) 32 (top + n)
        have e : chs D (top + (n + 1)) = chs D (top + n) + ((nam D (top + n)).length + (dX D (top + n)).length) := rfl
        refine ⟨?_, by omega⟩
        show (frm D pr top n ++ ((if n = 0 then [] else ahd D (top + n)) ++ bdl D pr (top + n) ++ clo D top (top + n))).length ≤ _
        rw [List.length_append, List.length_append, List.length_append]
        have h6 : (if n = 0 then ([] : List Nat) else ahd D (top + n)).length ≤ 6 * (nam D (top + n)).length + 4 := by
          split
          · exact Nat.zero_le _
          · exact h3
        unfold clo
        omega
    have := (key n hn).1
    have := chs_le D hn
    omega
  have alen : ∀ n, top + n < D.length → (if n = 0 then ([] : List Nat) else ahd D (top + n)).length ≤ 24004 := fun n hn => by
    have h3 := ahd_len D (top + n)
    have h4 := chs_le D (i := top + n + 1) (by omega)
    have e : chs D (top + n + 1) = chs D (top + n) + ((nam D (top + n)).length + (dX D (top + n)).length) := rfl
    split
    · exact Nat.zero_le _
    · omega
  let Q : Option Value → S_t → Prop := fun q σ' => q = none ∧ Fs MW σ σ' ∧ OuC σ' (frm D pr top (siz (dT D) D.length top))
  -- a row, its beginning
  have at59 : ∀ (n : Nat) (o : Int32) (τ : S_t), top + n < D.length → ((n = 0 ∧ o = -1) ∨ (0 < n ∧ o = nI (par (dT D) (top + n)))) → Fs MW σ τ → OuC τ (frm D pr top n ++ (if n = 0 then [] else ahd D (top + n))) → (∀ τ', Fs MW σ τ' → OuC τ' (pre D pr top n) → JE E (d + 9) m_Fo_write 23 [(0, pv E 68), (1, pv E (tr j)), (2, .int (nI top)), (3, pv E 53), (4, .int (nI (top + siz (dT D) D.length top))), (5, .int (opv D top (top + n))), (6, .int (nI (top + n + 1)))] [] τ' Q) → JE E (d + 9) m_Fo_write 59 [(0, pv E 68), (1, pv E (tr j)), (2, .int (nI top)), (3, pv E 53), (4, .int (nI (top + siz (dT D) D.length top))), (5, .int o), (6, .int (nI (top + n)))] [] τ Q := by
    intro n o τ hn ho hF hO kk
    have ci : (nI (top + n)).toNatClampNeg = top + n := nI_clamp (by omega)
    have hT1 := tw hF
    have row := hT1.1.2.2.2.2 (top + n) hn
    have ok := hW.2.1 (top + n) hn
    have k6 := ok.1
    have fl := flen n (by omega)
    have al := alen n hn
    have at95 : ∀ τ', Fs MW σ τ' → OuC τ' (pre D pr top n) → JE E (d + 9) m_Fo_write 95 [(0, pv E 68), (1, pv E (tr j)), (2, .int (nI top)), (3, pv E 53), (4, .int (nI (top + siz (dT D) D.length top))), (5, .int o), (6, .int (nI (top + n)))] [] τ' Q := by
      intro τ' hF' hO'
      have k := kk τ' hF' hO'
      have row' := (tw hF').1.2.2.2.2 (top + n) hn
      refine b_Fo_write_95 (d := d + 8) ht ⟨vin (by omega) (by decide), ?_⟩
      rw [ci, row'.1]
      have opn : 5 ≤ dK D (top + n) → JE E (d + 9) m_Fo_write 118 [(0, pv E 68), (1, pv E (tr j)), (2, .int (nI top)), (3, pv E 53), (4, .int (nI (top + siz (dT D) D.length top))), (6, .int (nI (top + n)))] [] τ' Q := by
        intro hk
        refine b_Fo_write_118 (d := d + 8) ht (b_Fo_write_122 (d := d + 8) ht ?_)
        have eo : opv D top (top + n) = nI (top + n) := if_pos hk
        rw [eo] at k
        rw [nI_1]; exact k
      refine ⟨fun q => opn (by have := (nI_eq (b := 5) (by omega) (by decide)).mp q; omega), fun q => ⟨vin (by omega) (by decide), fun q2 => b_Fo_write_122 (d := d + 8) ht ?_, fun q2 => opn (by have := (nI_eq (b := 6) (by omega) (by decide)).mp q2; omega)⟩⟩
      have n5 : ¬ dK D (top + n) = 5 := fun z => q (by rw [z]; rfl)
      have n6 : ¬ dK D (top + n) = 6 := fun z => q2 (by rw [z]; rfl)
      have eo : opv D top (top + n) = o := by
        unfold opv
        rw [if_neg (by omega)]
        rcases ho with ⟨z, rfl⟩ | ⟨z, rfl⟩
        · rw [if_pos (by omega)]
        · rw [if_neg (by omega)]
      rw [eo] at k
      rw [nI_1]; exact k
    refine b_Fo_write_59 (d := d + 8) ht ⟨vin (by omega) (by decide), ?_⟩
    rw [ci, row.1]
    refine ⟨fun q => ?_, fun q => ⟨vin (by omega) (by decide), ?_⟩⟩
    · have h3 : dK D (top + n) ≠ 3 := fun z => q (by rw [z]; rfl)
      refine (w_begin (d := d) (pr := pr) hj hW hT1 hn h3 hO (by rw [List.length_append]; omega)).mono (fun σ1 q1 => at95 σ1 (hF.tr (wO q1.1)) ?_)
      unfold pre
      rw [← List.append_assoc]; exact q1.2
    · have h3 : dK D (top + n) = 3 := (nI_eq (b := 3) (by omega) (by decide)).mp q
      have fin := ok.2.2.2.2.2.1 h3
      rw [row.2.2.2.2.2.1]
      refine (c_putShortestL (d := d + 3) fin.1 fin.2 hO (by rw [List.length_append]; omega)).mono (fun σ1 q1 => ?_)
      obtain ⟨F1, m, hm, O1⟩ := q1
      have em : m = pr (top + n) := SpB_uniq hm (hpr _ hn h3).1
      have eb : bdl D pr (top + n) = pr (top + n) := by unfold bdl; rw [if_neg (by omega), if_neg (by omega), if_neg (by omega), if_pos h3]
      refine at95 σ1 (hF.tr F1) ?_
      unfold pre
      rw [eb, ← em, ← List.append_assoc]; exact O1
  have loop : ∀ (m n : Nat) (τ : S_t), n + 1 + m = siz (dT D) D.length top → Fs MW σ τ → OuC τ (pre D pr top n) → JE E (d + 9) m_Fo_write 23 [(0, pv E 68), (1, pv E (tr j)), (2, .int (nI top)), (3, pv E 53), (4, .int (nI (top + siz (dT D) D.length top))), (5, .int (opv D top (top + n))), (6, .int (nI (top + n + 1)))] [] τ Q := by
    intro m
    induction m with
    | zero =>
      intro n τ hn hF hO
      have hT1 := tw hF
      have plen : (pre D pr top n).length ≤ 1000000 := by
        have := flen (n + 1) (by omega)
        rw [frm_pre, List.length_append] at this
        omega
      have row := hT1.1.2.2.2.2 top htl
      refine b_Fo_write_23 (d := d + 8) ht ⟨fun _ => ⟨vin (by omega) (by decide), ?_⟩, fun q => absurd (nI_le (by omega) (by omega)) q⟩
      rw [nI_clamp (by omega), row.2.2.1]
      refine (w_closeRow (d := d + 7) hj hW hT1 htl (by omega) (by omega) hO plen (Or.inr ⟨by omega, rfl⟩)).mono (fun r σ1 hq => ⟨rfl, hF.tr (wO hq.1.1), ?_⟩)
      rw [show siz (dT D) D.length top = n + 1 by omega, frm_pre]
      exact hq.1.2
    | succ m ih =>
      intro n τ hn hF hO
      have hT1 := tw hF
      have plen : (pre D pr top n).length ≤ 1000000 := by
        have := flen (n + 1) (by omega)
        rw [frm_pre, List.length_append] at this
        omega
      have hn1 : top + (n + 1) < D.length := by omega
      have row := hT1.1.2.2.2.2 (top + (n + 1)) hn1
      refine b_Fo_write_23 (d := d + 8) ht ⟨fun q => absurd q (nI_ge (by omega) (by omega)), fun _ => ⟨fun q => absurd q (nI_ge (by omega) (by omega)), fun _ => ⟨vin (by omega) (by decide), ?_⟩⟩⟩
      rw [nI_clamp (by omega), show top + n + 1 = top + (n + 1) by omega, row.2.2.1]
      have epI : zI (pI (dT D) (top + (n + 1))) = nI (par (dT D) (top + (n + 1))) := by unfold pI; rw [if_neg (by omega)]; exact zI_nI _
      rw [epI]
      refine (w_closeRow (d := d + 7) (i := top + n) hj hW hT1 htl (by omega) (by omega) hO plen (Or.inl ⟨by omega, by rw [show top + n + 1 = top + (n + 1) by omega]⟩)).mono (fun r σ1 hq => ?_)
      obtain ⟨q1, q2⟩ := hq
      have er := q2 (by omega)
      rw [er]
      have F1 := hF.tr (wO q1.1)
      have O1 : OuC σ1 (frm D pr top (n + 1)) := by rw [frm_pre]; exact q1.2
      have fl := flen (n + 1) (by omega)
      refine (w_ahead (d := d) hj hW (tw F1) hn1 O1 (by omega)).mono (fun σ2 q3 => ?_)
      refine at59 (n + 1) _ σ2 hn1 (Or.inr ⟨by omega, rfl⟩) (F1.tr (wO q3.1)) (by rw [if_neg (by omega)]; exact q3.2) (fun τ' hF' hO' => ih (n + 1) τ' (by omega) hF' hO')
  refine CE.of (L := [(0, pv E 68), (1, pv E (tr j)), (2, .int (nI top)), (3, pv E 53)]) rfl (Nat.le_of_ble_eq_true rfl) rfl (b_Fo_write_0 (d := d + 8) ht ⟨vin (by omega) (by decide), fun r1 e1 => ?_⟩)
  rw [nI_clamp (by omega), hT.1.2.2.1, hT.2 top htl, nI_add, mn_n (by omega) (by omega), show min D.length (top + siz (dT D) D.length top) = top + siz (dT D) D.length top by omega] at e1
  rw [e1]
  refine b_Fo_write_23 (d := d + 8) ht ⟨fun q => absurd q (nI_ge (by omega) (by omega)), fun _ => ⟨fun _ => ?_, fun q => absurd (Int32.le_refl _) q⟩⟩
  exact at59 0 (-1) σ (by omega) (Or.inl ⟨rfl, rfl⟩) Fs.rf (by rw [if_pos rfl]; exact h) (fun τ' hF' hO' => loop (siz (dT D) D.length top - 1) 0 τ' (by omega) hF' hO')
