/-! the model makes all rows -/
def MWk : Nat → Nat → Prop := fun p k => MKr p k ∨ p = 31 ∨ p = 33 ∨ p = 41
theorem c_makeReadM {E : En_t} {d : Nat} {R : Nds} {L : List Nat} {σ : S_t} (hO : RsO R L) (hn : 0 < R.1) (hw : wsu R ≤ 2000) (hL : bls L ≤ 2000) (hD : DrM σ R L) : CV E (d + 8) m_Mo_makeRead [pv E 0] σ (fun σ' => Fg MWk σ σ' ∧ MoB σ' (some (rws R (prE R 0)))) := by
  have h5 := hO.1
  have hU := RsO_up hO
  let Q : Option Value → S_t → Prop := fun r σ' => r = none ∧ Fg MWk σ σ' ∧ MoB σ' (some (rws R (prE R 0)))
  let Ok : List Nat → S_t → Prop := fun W τ => MoB τ (some (rws R W)) ∧ Fg MWk σ τ ∧ (∀ v, v < R.1 → ch (gI τ 33) (gI τ 31 v) (if v ∈ W then skids R v else kids R v) ∧ (rU R v = none → gI τ 33 v = -1)) ∧ ∀ x, x ∈ W → ∀ w, rU R x = some w → w ∈ W
  let q : S_t → Nat → Nat → Prop := fun _ _ _ => True
  let H : Option Nat → List Nat → S_t → Prop := fun a W τ => ∀ x2 : Int32, (∀ v, a = some v → x2 = nI (rT R v)) → JE E (d + 8) m_Mo_makeRead 8 [(0, pv E 0), (1, .int (oI a)), (2, .int x2)] [] τ Q
  have rd : ∀ {τ : S_t}, Fg MWk σ τ → RlM τ L ∧ ∀ k, k < R.1 → MRw τ R k := fun {τ} hF => ⟨RlM_fg hF (by unfold MWk MKr MMk MoC; omega) (fun k => by unfold MWk MKr MMk MoC; omega) hD.1, fun k hk => MRw_fg hF (fun p a b c e f z => by unfold MWk MKr MMk MoC at z; omega) (hD.2.2.1 k hk)⟩
  have hstep : ∀ u W τ rest, u < R.1 → prE R 0 = W ++ u :: rest → Ok W τ → OwW R q W τ u → (∀ τ', Ok (W ++ [u]) τ' → q τ' u W.length → (∀ w pw, w < u → q τ w pw → q τ' w pw) → H (nx1 R u) (W ++ [u]) τ') → H (some u) W τ := by
    intro u W τ rest hu hp hok how hK x2 hx2
    obtain ⟨okB, okF, okL, okC⟩ := hok
    obtain ⟨w1, w2, w3, w4, x, hx, wO, wN⟩ := walk_row hO hn hw hu hp how
    have e2 := hx2 u rfl
    subst e2
    have cu : (nI u).toNatClampNeg = u := nI_clamp (by omega)
    have vu : vp_in (nI u) 500 := vin (by omega) (by decide)
    have hNd := hO.2.1 u hu
    have K6 := hNd.1
    obtain ⟨rd1, rd2⟩ := rd okF
    show JE E (d + 8) m_Mo_makeRead 8 [(0, pv E 0), (1, .int (nI u)), (2, .int (nI (rT R u)))] [] τ Q
    refine b_Mo_makeRead_8 (d := d + 7) ⟨fun z => absurd z (nI_nn (by omega)), fun _ => ?_⟩
    refine mk_row (d := d + 1) hO hu hL okB rd1 (rd2 u hu) wO wN (by rw [rws_len]; omega) w3 w4 (fun τ1 F1 B1 => ?_)
    rw [← rws_app] at B1
    have okF1 : Fg MWk σ τ1 := okF.tr (F1.mono (fun p k z => Or.inl z))
    have n1 : ∀ p k, 31 ≤ p → p ≤ 33 → gI τ1 p k = gI τ p k := fun p k a b => F1.1 p k (by unfold MKr MMk MoC; omega)
    have n33 : gI τ1 33 = gI τ 33 := funext (fun k => n1 33 k (by omega) (by omega))
    have k29 : gI τ1 29 u = nI (rK R u) := ((rd okF1).2 u hu).1
    have parW : ∀ w, rU R u = some w → w ∈ W := fun w hw' => by
      unfold OwW at how
      rw [hw'] at how
      obtain ⟨pw, _, g2, g3, _⟩ := how
      rw [List.getD_eq_getElem?_getD, List.getElem?_eq_getElem g2] at g3
      rw [← g3]
      exact List.getElem_mem _
    have okC' : ∀ x, x ∈ W ++ [u] → ∀ w, rU R x = some w → w ∈ W ++ [u] := fun x hx' w hw' => by
      rcases List.mem_append.mp hx' with z | z
      · exact List.mem_append_left _ (okC x z w hw')
      · rw [List.mem_singleton] at z
        subst z
        exact List.mem_append_left _ (parW w hw')
    -- behind the order
    have at285 : ∀ τ2 : S_t, Ok (W ++ [u]) τ2 → JE E (d + 8) m_Mo_makeRead 285 [(0, pv E 0), (1, .int (nI u)), (2, .int (nI (rT R u)))] [] τ2 Q := by
      intro τ2 ok2
      have G := hK τ2 ok2 trivial (fun _ _ _ _ => trivial)
      obtain ⟨okB2, okF2, okL2, okC2⟩ := ok2
      have row2 := (rd okF2).2
      have nx : ∀ v, v < R.1 → v ∈ W ++ [u] → gI τ2 33 v = oI (nxt R v) := fun v hv hm => by
        unfold nxt
        cases hr : rU R v with
        | none => exact (okL2 v hv).2 hr
        | some w =>
          have hwv := (hO.2.1 v hv).2.2.2.2.2.2.2.2.2.1 w hr
          have c := (okL2 w (by omega)).1
          rw [if_pos (okC2 v hm w hr)] at c
          exact ch_nxs c (skids_mem.mpr ⟨hv, hr⟩) (skids_nodup R w)
      have nxT : ∀ v c, v < R.1 → nxt R v = some c → rT R c = rT R v := fun v c hv hc => by
        unfold nxt at hc
        cases hr : rU R v with
        | none => rw [hr] at hc; cases hc
        | some w =>
          rw [hr] at hc
          obtain ⟨c1, c2⟩ := skids_mem.mp (nxs_mem hc)
          have a := ((hO.2.1 v hv).2.2.2.2.2.2.2.2.2.1 w hr).2.2
          have b := ((hO.2.1 c c1).2.2.2.2.2.2.2.2.2.1 w c2).2.2
          omega
      -- climbing
      have climb' : ∀ (e v : Nat), v < R.1 → v ∈ W ++ [u] → rT R v = e → (∀ x2 : Int32, (∀ c, fol R e v = some c → x2 = nI (rT R c)) → JE E (d + 8) m_Mo_makeRead 8 [(0, pv E 0), (1, .int (oI (fol R e v))), (2, .int x2)] [] τ2 Q) → JE E (d + 8) m_Mo_makeRead 317 [(0, pv E 0), (1, .int (nI v)), (2, .int (nI e))] [] τ2 Q := by
        intro e
        induction e with
        | zero =>
          intro v hv hm hT hG
          have cv : (nI v).toNatClampNeg = v := nI_clamp (by omega)
          have hr : rU R v = none := by
            cases h : rU R v with
            | none => rfl
            | some w => have := ((hO.2.1 v hv).2.2.2.2.2.2.2.2.2.1 w h).2.2; omega
          have hnx : nxt R v = none := by unfold nxt; rw [hr]
          have ef : fol R 0 v = none := hnx
          rw [ef] at hG
          refine b_Mo_makeRead_317 (d := d + 7) ⟨fun z => absurd z (nI_nn (by omega)), fun _ => ⟨vin (by omega) (by decide), ?_⟩⟩
          rw [cv, nx v hv hm, hnx, (row2 v hv).2.1, hr]
          refine ⟨fun z => absurd z (by decide), fun _ => ⟨vin (by omega) (by decide), ?_⟩⟩
          refine b_Mo_makeRead_317 (d := d + 7) ⟨fun _ => b_Mo_makeRead_343 (d := d + 7) ⟨fun _ => b_Mo_makeRead_354 (d := d + 7) (hG _ (fun c hc => by cases hc)), fun z => absurd (by decide) z⟩, fun z => absurd (by decide) z⟩
        | succ e ih =>
          intro v hv hm hT hG
          have cv : (nI v).toNatClampNeg = v := nI_clamp (by omega)
          obtain ⟨w, hr⟩ : ∃ w, rU R v = some w := by
            cases h : rU R v with
            | none => have := ((hO.2.1 v hv).2.2.2.2.2.2.2.2.1 h).2; omega
            | some w => exact ⟨w, rfl⟩
          have hwv := (hO.2.1 v hv).2.2.2.2.2.2.2.2.2.1 w hr
          refine b_Mo_makeRead_317 (d := d + 7) ⟨fun z => absurd z (nI_nn (by omega)), fun _ => ⟨vin (by omega) (by decide), ?_⟩⟩
          rw [cv, nx v hv hm]
          cases hnx : nxt R v with
          | some c =>
            have hc := nxt_lt hnx
            have ef : fol R (e + 1) v = some c := by
              show (match nxt R v with | some c => some c | none => _) = _
              rw [hnx]
            rw [ef] at hG
            refine ⟨fun _ => b_Mo_makeRead_343 (d := d + 7) ⟨fun z => absurd z (nI_nn (by omega)), fun _ => ⟨vin (by omega) (by decide), ?_⟩⟩, fun z => absurd (Int32.not_lt.mp (nI_nn (n := c) (by omega))) z⟩
            rw [cv, nx v hv hm, hnx]
            exact b_Mo_makeRead_354 (d := d + 7) (hG _ (fun c' hc' => by
              have : c = c' := Option.some.inj hc'
              subst this
              rw [nxT v c hv hnx, hT]))
          | none =>
            have ef : fol R (e + 1) v = fol R e w := by
              show (match nxt R v with | some c => some c | none => match rU R v with | none => none | some w => fol R e w) = _
              rw [hnx, hr]
            rw [ef] at hG
            rw [(row2 v hv).2.1, hr, nI_dec]
            exact ⟨fun z => absurd z (by decide), fun _ => ⟨vin (by omega) (by decide), ih w (by omega) (okC2 v hm w hr) (by omega) hG⟩⟩
      have um : u ∈ W ++ [u] := List.mem_append_right _ List.mem_cons_self
      have lu := (okL2 u hu).1
      rw [if_pos um] at lu
      have hd : gI τ2 31 u = oI (skids R u).head? := ch_head lu
      refine b_Mo_makeRead_285 (d := d + 7) ?_
      rw [cu, (row2 u hu).1, hd]
      have go : (skids R u).head? = none → JE E (d + 8) m_Mo_makeRead 317 [(0, pv E 0), (1, .int (nI u)), (2, .int (nI (rT R u)))] [] τ2 Q := by
        intro hh
        have e1 : nx1 R u = fol R (rT R u) u := by unfold nx1; rw [hh]
        exact climb' (rT R u) u hu um rfl (fun x2 hx => by
          have := G x2 (fun v hv => hx v (by rw [← e1]; exact hv))
          rw [e1] at this
          exact this)
      refine ⟨vu, fun z => go ?_, fun z => ⟨vu, fun y => go ?_, fun y => ⟨vu, ?_⟩⟩⟩
      · cases hh : (skids R u).head? with
        | none => rfl
        | some c =>
          obtain ⟨c1, c2⟩ := skids_mem.mp (List.mem_of_mem_head? hh)
          have := ((hO.2.1 c c1).2.2.2.2.2.2.2.2.2.1 u c2).2.1
          exact absurd z (nI_nlt (b := 5) this (by omega))
      · cases hh : (skids R u).head? with
        | none => rfl
        | some c =>
          rw [hh] at y
          obtain ⟨c1, c2⟩ := skids_mem.mp (List.mem_of_mem_head? hh)
          exact absurd y (nI_nn (n := c) (by omega))
      · cases hh : (skids R u).head? with
        | none => rw [hh] at y; exact absurd (by decide) y
        | some c =>
          obtain ⟨c1, c2⟩ := skids_mem.mp (List.mem_of_mem_head? hh)
          have hT := ((hO.2.1 c c1).2.2.2.2.2.2.2.2.2.1 u c2).2.2
          have e1 : nx1 R u = some c := by unfold nx1; rw [hh]
          refine b_Mo_makeRead_354 (d := d + 7) ?_
          have := G (nI (rT R u) + (1 : Int32)) (fun v hv => by
            rw [e1] at hv
            have : c = v := Option.some.inj hv
            subst this
            rw [nI_1, hT])
          rw [e1] at this
          exact this
    refine b_Mo_makeRead_269 (d := d + 7) ?_
    rw [cu, k29, show nI (rK R u) = (6 : Int32) ↔ rK R u = 6 from nI_eq (b := 6) (by omega) (by decide)]
    have lkO : ∀ v, v < R.1 → v ≠ u → ch (gI τ1 33) (gI τ1 31 v) (if v ∈ W ++ [u] then skids R v else kids R v) := fun v hv hne => by
      have c := (okL v hv).1
      have e : (if v ∈ W ++ [u] then skids R v else kids R v) = (if v ∈ W then skids R v else kids R v) := by
        by_cases z : v ∈ W
        · rw [if_pos z, if_pos (List.mem_append_left _ z)]
        · rw [if_neg z, if_neg (fun y => by
            rcases List.mem_append.mp y with x | x
            · exact z x
            · rw [List.mem_singleton] at x; exact hne x)]
      rw [e, n33, n1 31 v (by omega) (by omega)]
      exact c
    have lkU : ch (gI τ1 33) (gI τ1 31 u) (kids R u) := by
      have c := (okL u hu).1
      rw [if_neg w2] at c
      rw [n33, n1 31 u (by omega) (by omega)]
      exact c
    refine ⟨vu, fun z => at285 τ1 ⟨B1, okF1, fun v hv => ⟨?_, fun y => by rw [n1 33 v (by omega) (by omega)]; exact (okL v hv).2 y⟩, okC'⟩, fun z => ?_⟩
    · by_cases g : v = u
      · subst g
        rw [if_pos (List.mem_append_right _ List.mem_cons_self)]
        have : skids R v = kids R v := if_neg z
        rw [this]; exact lkU
      · exact lkO v hv g
    · refine (c_orderM (d := d + 5) hO hu z hL (rd okF1).1 (rd okF1).2 lkU).mono (fun τ2 hq => ?_)
      obtain ⟨F2, hc2⟩ := hq
      have okF2 : Fg MWk σ τ2 := okF1.tr (F2.mono (fun p k y => by unfold OdM at y; unfold MWk; omega))
      refine at285 τ2 ⟨MoB_fr (fun p k hm => ?_) B1, okF2, fun v hv => ⟨?_, fun y => ?_⟩, okC'⟩
      · have : ¬ OdM u (kids R u) p k := by unfold MMk MoC at hm; unfold OdM; omega
        exact ⟨F2.1 p k this, F2.2.1 p k this⟩
      · by_cases g : v = u
        · subst g
          rw [if_pos (List.mem_append_right _ List.mem_cons_self)]
          exact hc2
        · have c := lkO v hv g
          rw [F2.1 31 v (by unfold OdM; omega)]
          refine ch_congr (fun c' hc' => F2.1 33 c' (fun y => ?_)) c
          unfold OdM at y
          have hm : c' ∈ kids R u := by
            rcases y with y | y | y
            · omega
            · exact y.2
            · omega
          have h1 := (kids_mem.mp hm).2
          have h2 : rU R c' = some v := by
            by_cases x : v ∈ W ++ [u]
            · rw [if_pos x] at hc'; exact (skids_mem.mp hc').2
            · rw [if_neg x] at hc'; exact (kids_mem.mp hc').2
          rw [h1] at h2
          exact g (Option.some.inj h2).symm
      · rw [F2.1 33 v (fun x => ?_), n1 33 v (by omega) (by omega)]
        · exact (okL v hv).2 y
        · unfold OdM at x
          have hm : v ∈ kids R u := by
            rcases x with x | x | x
            · omega
            · exact x.2
            · omega
          have h1 := (kids_mem.mp hm).2
          rw [y] at h1; cases h1
  refine CE.of (L := [(0, pv E 0)]) rfl (Nat.le_of_ble_eq_true rfl) rfl (b_Mo_makeRead_0 (d := d + 7) (c_begin.mono (fun τ hq => ?_)))
  obtain ⟨F0, B0⟩ := hq
  have r0 : rU R 0 = none := by
    cases h : rU R 0 with
    | none => rfl
    | some w => have := ((hO.2.1 0 hn).2.2.2.2.2.2.2.2.2.1 w h).1; omega
  have T0 : rT R 0 = 0 := ((hO.2.1 0 hn).2.2.2.2.2.2.2.2.1 r0).2
  have G := walk_gen hO (Ok := Ok) (q := q) (H := H) hstep R.1 0 [] τ [] (by omega) hn (by rw [List.nil_append, List.append_nil]) ⟨B0, F0.mono (fun p k z => Or.inl (Or.inl z)), fun v hv => ?_, fun x hx => absurd hx List.not_mem_nil⟩ (by unfold OwW; rw [r0]) (fun τ' ok' _ => ?_)
  · exact G 0 (fun v hv => by
      have : 0 = v := Option.some.inj hv
      subst this
      rw [T0]; rfl)
  · obtain ⟨l1, l2, l3⟩ := hD.2.2.2 v hv
    rw [if_neg List.not_mem_nil]
    have n0 : ∀ p k, 31 ≤ p → p ≤ 33 → gI τ p k = gI σ p k := fun p k a b => F0.1 p k (by unfold MMk MoC; omega)
    refine ⟨?_, fun z => by rw [n0 33 v (by omega) (by omega)]; exact l3 z⟩
    rw [n0 31 v (by omega) (by omega)]
    exact ch_congr (fun c _ => n0 33 c (by omega) (by omega)) l1
  · rw [List.nil_append] at ok' ⊢
    intro x2 _
    have ef : fol R (rT R 0) 0 = none := by
      rw [T0]
      show nxt R 0 = none
      unfold nxt
      rw [r0]
    rw [ef]
    exact b_Mo_makeRead_8 (d := d + 7) ⟨fun _ => ⟨rfl, ok'.2.1, ok'.1⟩, fun z => absurd (by decide) z⟩
