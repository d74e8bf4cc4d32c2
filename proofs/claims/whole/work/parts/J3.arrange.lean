/-! the class puts what was read into its order -/
theorem C_nxt {σ : S_t} {R : Nds} {L : List Nat} {u : Nat} (hO : RsO R L) (hD : DrC σ R L) (hu : u < R.1) : gI σ 66 u = oI (nxt R u) := by
  unfold nxt
  cases h : rU R u with
  | none => exact (hD.2.2.2 u hu).2.2 h
  | some w =>
    have hw := (hO.2.1 u hu).2.2.2.2.2.2.2.2.2.1 w h
    exact ch_nxs (hD.2.2.2 w (by omega)).1 (skids_mem.mpr ⟨hu, h⟩) (skids_nodup R w)
theorem nxs_mem : ∀ {l : List Nat} {u v : Nat}, nxs l u = some v → v ∈ l
  | [], u, v, h => by cases h
  | x :: l, u, v, h => by
    have h' : (if x = u then l.head? else nxs l u) = some v := h
    by_cases g : x = u
    · rw [if_pos g] at h'; exact List.mem_cons_of_mem _ (List.mem_of_mem_head? h')
    · rw [if_neg g] at h'; exact List.mem_cons_of_mem _ (nxs_mem h')
theorem nxt_lt {R : Nds} {u v : Nat} (h : nxt R u = some v) : v < R.1 := by
  unfold nxt at h
  cases hr : rU R u with
  | none => rw [hr] at h; cases h
  | some w => rw [hr] at h; exact (skids_mem.mp (nxs_mem h)).1
theorem c_follow {E : En_t} {d u : Nat} {R : Nds} {L : List Nat} {σ : S_t} (hO : RsO R L) (hD : DrC σ R L) (hu : u < R.1) : CI E d m_Re_following [pv E 63, .int (nI u)] σ (fun r σ' => r = oI (fol R (rT R u) u) ∧ σ' = σ) := by
  have h5 := hO.1
  have loop : ∀ (e i u : Nat), u < R.1 → rT R u = e → i + e ≤ 30 → JE E d m_Re_following 4 [(0, pv E 63), (2, .int (nI u)), (3, .int (nI i))] [] σ (fun r σ' => ∃ x, r = some (.int x) ∧ x = oI (fol R e u) ∧ σ' = σ) := by
    intro e
    induction e with
    | zero =>
      intro i u hu he hi
      have cu : (nI u).toNatClampNeg = u := nI_clamp (by omega)
      have hr : rU R u = none := by
        cases h : rU R u with
        | none => rfl
        | some w => have := ((hO.2.1 u hu).2.2.2.2.2.2.2.2.2.1 w h).2.2; omega
      have hn : nxt R u = none := by unfold nxt; rw [hr]
      have ef : fol R 0 u = none := hn
      refine b_Re_following_4 ⟨fun q => absurd q (nI_nlt (a := 30) (b := i) (by omega) (by omega)), fun _ => ⟨fun q => absurd q.symm (nI_neg1 (by omega)), fun _ => ⟨vin (by omega) (by decide), ?_⟩⟩⟩
      rw [cu, C_nxt hO hD hu, hn, (hD.2.2.1 u hu).2.1, hr, ef]
      refine ⟨fun q => absurd rfl q, fun _ => ⟨vin (by omega) (by decide), ?_⟩⟩
      have at41 : JE E d m_Re_following 41 [(0, pv E 63), (2, .int (oI none))] [] σ (fun r σ' => ∃ x, r = some (.int x) ∧ x = oI none ∧ σ' = σ) := b_Re_following_41 ⟨fun q => absurd rfl q, fun _ => ⟨_, rfl, rfl, rfl⟩⟩
      exact b_Re_following_4 ⟨fun _ => at41, fun _ => ⟨fun _ => at41, fun q => absurd rfl q⟩⟩
    | succ e ih =>
      intro i u hu he hi
      have cu : (nI u).toNatClampNeg = u := nI_clamp (by omega)
      obtain ⟨w, hr⟩ : ∃ w, rU R u = some w := by
        cases h : rU R u with
        | none => have := ((hO.2.1 u hu).2.2.2.2.2.2.2.2.1 h).2; omega
        | some w => exact ⟨w, rfl⟩
      have hw := (hO.2.1 u hu).2.2.2.2.2.2.2.2.2.1 w hr
      refine b_Re_following_4 ⟨fun q => absurd q (nI_nlt (a := 30) (b := i) (by omega) (by omega)), fun _ => ⟨fun q => absurd q.symm (nI_neg1 (by omega)), fun _ => ⟨vin (by omega) (by decide), ?_⟩⟩⟩
      rw [cu, C_nxt hO hD hu]
      cases hn : nxt R u with
      | some v =>
        have hv := nxt_lt hn
        have ef : fol R (e + 1) u = some v := by
          show (match nxt R u with | some v => some v | none => _) = _
          rw [hn]
        rw [ef]
        refine ⟨fun _ => b_Re_following_41 ⟨fun _ => ⟨vin (by omega) (by decide), _, rfl, ?_, rfl⟩, fun q => absurd q.symm (nI_neg1 (by omega))⟩, fun q => absurd q.symm (nI_neg1 (by omega))⟩
        rw [cu, C_nxt hO hD hu, hn]
      | none =>
        have ef : fol R (e + 1) u = fol R e w := by
          show (match nxt R u with | some v => some v | none => match rU R u with | none => none | some w => fol R e w) = _
          rw [hn, hr]
        rw [ef, (hD.2.2.1 u hu).2.1, hr, nI_1]
        exact ⟨fun q => absurd rfl q, fun _ => ⟨vin (by omega) (by decide), ih (i + 1) w (by omega) (by omega) (by omega)⟩⟩
  exact CE.of (L := [(0, pv E 63), (1, .int (nI u))]) rfl (Nat.le_of_ble_eq_true rfl) rfl (b_Re_following_0 (loop (rT R u) 0 u hu rfl (by have := (hO.2.1 u hu).2.1; omega)))
theorem DrC_src {σ : S_t} {R : Nds} {L : List Nat} {u : Nat} (hO : RsO R L) (hL : bls L ≤ 4000) (hD : DrC σ R L) (hu : u < R.1) : SrO σ (tr 9) u (rK R u) (rNm R u) (rTx R u) (rBi R u) L.length := by
  obtain ⟨c1, c2, c3, c4, c5, c6⟩ := hD.2.2.1 u hu
  have hN := hO.2.1 u hu
  have hl := bls_len L
  have h5 := hO.1
  have s1 := hN.2.2.2.2.2.2.2.2.2.2.1
  have s2 := hN.2.2.2.2.2.2.2.2.2.2.2
  exact ⟨by omega, by omega, hD.1.1, c1, c3, c5, ⟨rNa R u, c4, s1.1, DcC_str hD.1 s1⟩, fun z => ⟨(c6 z).2, rTa R u, (c6 z).1, s2.1, DcC_str hD.1 s2⟩⟩
def AM (t : Nat) : Nat → Nat → Prop := fun p k => TPl t p k ∨ p = 67
theorem c_arrange {E : En_t} {d j : Nat} {R : Nds} {L : List Nat} {σ : S_t} (hj : j < 9) (hO : RsO R L) (hn : 0 < R.1) (hw : wsu R ≤ 2000) (hL : bls L ≤ 4000) (hD : DrC σ R L) : CV E (d + 4) m_Re_arrange [pv E 63, pv E (tr j)] σ (fun σ' => Fg (AM (tr j)) σ σ' ∧ TrD σ' (tr j) (rws R (prE R 0)) ∧ WfD (rws R (prE R 0))) := by
  have h5 := hO.1
  have hU := RsO_up hO
  have h0 : ∀ k, k < R.1 → rU R k = none → k = 0 := fun k hk hk' => ((hO.2.1 k hk).2.2.2.2.2.2.2.2.1 hk').1
  have len := pre_len hU h0 hn
  have ht := kind_tr j (by omega)
  have k67 : kindP 67 = 20 := by decide
  have l67 : lenP 67 = 500 := by decide
  have nP : ∀ p k, AM (tr j) p k → ¬ (64 ≤ p ∧ p ≤ 66) ∧ ¬ (180 ≤ p ∧ p ≤ 191) := fun p k z => by unfold AM TPl tr at z; omega
  let Q : Option Value → S_t → Prop := fun r σ' => r = none ∧ Fg (AM (tr j)) σ σ' ∧ TrD σ' (tr j) (rws R (prE R 0)) ∧ WfD (rws R (prE R 0))
  let Ok : List Nat → S_t → Prop := fun W τ => WfR (rws R W) ∧ TrR τ (tr j) (rws R W) ∧ Fg (AM (tr j)) σ τ
  let q : S_t → Nat → Nat → Prop := fun τ w pw => gI τ 67 w = nI pw
  let H : Option Nat → List Nat → S_t → Prop := fun a W τ => JE E (d + 4) m_Re_arrange 8 [(0, pv E 63), (1, pv E (tr j)), (2, .int (oI a)), (3, .int (nI W.length))] [] τ Q
  have hstep : ∀ u W τ rest, u < R.1 → prE R 0 = W ++ u :: rest → Ok W τ → OwW R q W τ u → (∀ τ', Ok (W ++ [u]) τ' → q τ' u W.length → (∀ w pw, w < u → q τ w pw → q τ' w pw) → H (nx1 R u) (W ++ [u]) τ') → H (some u) W τ := by
    intro u W τ rest hu hp hok how hK
    obtain ⟨okW, okT, okF⟩ := hok
    obtain ⟨w1, w2, w3, w4, x, hx, wO, wN⟩ := walk_row hO hn hw hu hp how
    have D1 := DrC_fg okF nP hD
    have cu : (oI (some u)).toNatClampNeg = u := nI_clamp (by omega)
    have hN := hO.2.1 u hu
    have row := D1.2.2.1 u hu
    have at62 : JE E (d + 4) m_Re_arrange 62 [(0, pv E 63), (1, pv E (tr j)), (2, .int (oI (some u))), (3, .int (nI W.length))] [.int x, .int (oI (some u)), pv E 180, pv E (tr j), .int (oI (some u)), pv E 67] τ Q := by
      refine b_Re_arrange_62 (d := d + 3) ht (by decide) ht k67 ?_
      refine (c_addLikeS (d := d) (j := j) (j' := 9) (K := rK R u) (e := rT R u) (B := rBi R u) (tx := rTx R u) (nmF := rNm R u) (nm := rNo R u) (cc' := L.length) (k := u) (x := x) (by omega) (by decide) (by omega) okW okT (DrC_src hO hL D1 hu) hN.2.2.2.2.2.2.1 wO w4 (fun z => ?_) (fun z => ?_)).mono (fun r2 σ1 hq => ?_)
      · unfold rNo; rw [if_pos (wN.mp z)]
      · unfold rNo; rw [if_neg (fun y => z (wN.mpr y))]
      obtain ⟨F1, hq⟩ := hq
      rcases hq with ⟨hq, _⟩ | ⟨_, rfl, _, T1, W1⟩
      · have hq' : adR (some (rws R W)) (rwO R u) = none := hq
        rw [adR_yes (by rw [rws_len]; omega) (by omega)] at hq'; cases hq'
      have e1 : rws R W ++ [(rK R u, rT R u, rNo R u, rTx R u, rBi R u)] = rws R (W ++ [u]) := (rws_app R W u).symm
      rw [e1] at T1 W1
      rw [rws_len, cu, l67]
      generalize eτ : sI σ1 67 u (nI W.length) = τ1
      have F2 : Fg (fun p k => p = 67 ∧ k = u) σ1 τ1 := by rw [← eτ]; exact Fg.rf.si ⟨rfl, rfl⟩
      have okF1 : Fg (AM (tr j)) σ τ1 := (okF.tr (F1.mono (fun p k z => Or.inl z))).tr (F2.mono (fun p k z => Or.inr z.1))
      have D2 := DrC_fg okF1 nP hD
      have ok1 : Ok (W ++ [u]) τ1 := ⟨W1, TrR_fr (fun p k a b => ⟨F2.1 p k (fun z => by unfold tr at a; omega), F2.2.1 p k (fun z => by unfold tr at a; omega)⟩) T1, okF1⟩
      have q1 : q τ1 u W.length := by show gI τ1 67 u = _; rw [← eτ, gI_sI_s]
      have kp : ∀ w pw, w < u → q τ w pw → q τ1 w pw := fun w pw hw' hq' => by
        show gI τ1 67 w = _
        rw [F2.1 67 w (by omega), F1.1 67 w (by unfold TPl tr; omega)]; exact hq'
      have G := hK τ1 ok1 q1 kp
      have hd : gI τ1 64 u = oI (skids R u).head? := ch_head (D2.2.2.2 u hu).1
      refine ⟨vin (by omega) (by decide), vin (by omega) (by decide), ?_⟩
      rw [hd]
      have G' : JE E (d + 4) m_Re_arrange 8 [(0, pv E 63), (1, pv E (tr j)), (2, .int (oI (nx1 R u))), (3, .int (nI W.length + (1 : Int32)))] [] τ1 Q := by
        rw [nI_1]
        have := G
        show JE E (d + 4) m_Re_arrange 8 [(0, pv E 63), (1, pv E (tr j)), (2, .int (oI (nx1 R u))), (3, .int (nI (W.length + 1)))] [] τ1 Q
        have e : (W ++ [u]).length = W.length + 1 := by rw [List.length_append]; rfl
        rw [← e]
        exact this
      unfold nx1 at G'
      cases hh : (skids R u).head? with
      | none =>
        rw [hh] at G'
        refine ⟨fun _ => (c_follow (d := d + 3) hO D2 hu).mono (fun r4 σ3 hq3 => ?_), fun z => absurd rfl z⟩
        obtain ⟨rfl, rfl⟩ := hq3
        exact b_Re_arrange_90 (d := d + 3) ht G'
      | some c =>
        rw [hh] at G'
        have hc := (skids_mem.mp (List.mem_of_mem_head? hh)).1
        exact ⟨fun z => absurd z.symm (nI_neg1 (by omega)), fun _ => ⟨vin (by omega) (by decide), b_Re_arrange_90 (d := d + 3) ht G'⟩⟩
    show JE E (d + 4) m_Re_arrange 8 [(0, pv E 63), (1, pv E (tr j)), (2, .int (oI (some u))), (3, .int (nI W.length))] [] τ Q
    refine b_Re_arrange_8 (d := d + 3) ht ?_
    rw [D1.2.1, cu, row.2.1]
    refine ⟨fun z => absurd z (nI_ge w1 (by omega)), fun _ => ⟨fun z => absurd z.symm (nI_neg1 (by omega)), fun _ => ⟨vin (by omega) (by decide), ?_⟩⟩⟩
    rcases hx with ⟨x1, x2⟩ | ⟨w, pw, x1, x2, x3, x4⟩
    · rw [x1, ← x2]
      have e : oI none = x := x2.symm
      exact ⟨fun z => absurd z (by rw [e, x2]; decide), fun _ => at62⟩
    · have hwu := (hN.2.2.2.2.2.2.2.2.2.1 w x1).1
      have cw : (oI (some w)).toNatClampNeg = w := nI_clamp (by omega)
      rw [x1, cw]
      have e : gI τ 67 w = x := by rw [x2]; exact x3
      rw [e]
      exact ⟨fun _ => ⟨vin (by omega) (by decide), at62⟩, fun z => absurd (Int32.not_lt.mp (nI_nn (n := w) (by omega))) z⟩
  have W := walk_gen hO (Ok := Ok) (q := q) (H := H) hstep R.1 0 [] 
  refine CE.of (L := [(0, pv E 63), (1, pv E (tr j))]) rfl (Nat.le_of_ble_eq_true rfl) rfl (b_Re_arrange_0 (d := d + 3) ht (CE.of (L := [(0, pv E (tr j))]) rfl (Nat.le_of_ble_eq_true rfl) rfl (b_Tr_clear_0 ht ⟨rfl, ?_⟩)))
  generalize eτ : sI (sI (sI (sI σ (tr j) 13 (0 : Int32)) (tr j) 11 (0 : Int32)) (tr j) 12 (0 : Int32)) (tr j) 14 (0 : Int32) = τ
  have mT : ∀ k, AM (tr j) (tr j) k := fun k => Or.inl ⟨Nat.le_refl _, by omega⟩
  have F0 : Fg (AM (tr j)) σ τ := by rw [← eτ]; exact (((Fg.rf.si (mT _)).si (mT _)).si (mT _)).si (mT _)
  have T0 : TrR τ (tr j) [] := by
    rw [← eτ]
    exact TrR_nil (by simp [gI_sI]) (by simp [gI_sI]) (by simp [gI_sI]) (by simp [gI_sI])
  have r0 : rU R 0 = none := by
    cases h : rU R 0 with
    | none => rfl
    | some w => have := ((hO.2.1 0 hn).2.2.2.2.2.2.2.2.2.1 w h).1; omega
  refine W τ [] (by omega) hn (by rw [List.nil_append, List.append_nil]) ⟨WfR_nil, T0, F0⟩ (by unfold OwW; rw [r0]) (fun τ' ok' _ => ?_)
  rw [List.nil_append] at ok' ⊢
  obtain ⟨ok1, ok2, ok3⟩ := ok'
  show JE E (d + 4) m_Re_arrange 8 _ [] τ' Q
  have at97 : JE E (d + 4) m_Re_arrange 97 [(1, pv E (tr j))] [] τ' Q := by
    refine b_Re_arrange_97 (d := d + 3) ht ((c_measure (d := d + 3) (by omega) ok1 ok2).mono (fun σ1 hq => ?_))
    exact ⟨rfl, ok3.tr (hq.1.mono (fun p k z => Or.inl (by unfold TPl; omega))), hq.2, ok1, by rw [rws_len, len]; exact hn⟩
  have ef : fol R (rT R 0) 0 = none := by
    have : rT R 0 = 0 := ((hO.2.1 0 hn).2.2.2.2.2.2.2.2.1 r0).2
    rw [this]
    show nxt R 0 = none
    unfold nxt
    rw [r0]
  rw [ef]
  exact b_Re_arrange_8 (d := d + 3) ht ⟨fun _ => at97, fun _ => ⟨fun _ => at97, fun z => absurd rfl z⟩⟩
