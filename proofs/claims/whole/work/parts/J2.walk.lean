/-! the walk over what was read, for both sides -/
def nxt (R : Nds) (u : Nat) : Option Nat := match rU R u with
  | none => none
  | some w => nxs (skids R w) u
def fol (R : Nds) : Nat → Nat → Option Nat
  | 0, u => nxt R u
  | e + 1, u => match nxt R u with
    | some v => some v
    | none => match rU R u with
      | none => none
      | some w => fol R e w
def nx1 (R : Nds) (u : Nat) : Option Nat := match (skids R u).head? with
  | some c => some c
  | none => fol R (rT R u) u
def OwW (R : Nds) (q : S_t → Nat → Nat → Prop) (W : List Nat) (τ : S_t) (u : Nat) : Prop := match rU R u with
  | none => W = []
  | some w => ∃ pw, q τ w pw ∧ pw < W.length ∧ W.getD pw 0 = w ∧ ∀ j, pw < j → j < W.length → rT R w < rT R (W.getD j 0)
theorem nxs_mid {u : Nat} {b : List Nat} : ∀ {a : List Nat}, (a ++ u :: b).Nodup → nxs (a ++ u :: b) u = b.head?
  | [], _ => if_pos rfl
  | x :: a, h => by
    rw [List.cons_append, List.nodup_cons] at h
    show (if x = u then _ else nxs (a ++ u :: b) u) = _
    rw [if_neg (fun z => h.1 (by rw [z]; exact List.mem_append_right _ List.mem_cons_self))]
    exact nxs_mid h.2
theorem prE_ge {R : Nds} (hU : UpL R) : ∀ (f u : Nat), R.1 ≤ u + f → u < R.1 → ∀ x ∈ prE R u, u ≤ x ∧ x < R.1 ∧ (∀ v, u < v → x = v → v < R.1) := by
  intro f
  induction f with
  | zero => intro u h1 h2; omega
  | succ f ih =>
    intro u h1 h2 x hx
    rw [prE_eq hU h2] at hx
    rcases List.mem_cons.mp hx with rfl | hx
    · exact ⟨Nat.le_refl _, h2, fun v a b => by omega⟩
    · obtain ⟨c, hc, hx⟩ := List.mem_flatMap.mp hx
      obtain ⟨c1, c2⟩ := skids_mem.mp hc
      have := hU c u c1 c2
      have := ih c (by omega) c1 x hx
      exact ⟨by omega, this.2.1, fun v a b => by omega⟩
theorem prE_dp {R : Nds} {L : List Nat} (hO : RsO R L) : ∀ (f u : Nat), R.1 ≤ u + f → u < R.1 → ∀ x ∈ prE R u, rT R u ≤ rT R x := by
  intro f
  induction f with
  | zero => intro u h1 h2; omega
  | succ f ih =>
    intro u h1 h2 x hx
    rw [prE_eq (RsO_up hO) h2] at hx
    rcases List.mem_cons.mp hx with rfl | hx
    · exact Nat.le_refl _
    · obtain ⟨c, hc, hx⟩ := List.mem_flatMap.mp hx
      obtain ⟨c1, c2⟩ := skids_mem.mp hc
      have h3 := (hO.2.1 c c1).2.2.2.2.2.2.2.2.2.1 u c2
      have := ih c (by omega) c1 x hx
      omega
theorem gD_l {W X : List Nat} {j : Nat} (h : j < W.length) : (W ++ X).getD j 0 = W.getD j 0 := by
  rw [List.getD_eq_getElem?_getD, List.getD_eq_getElem?_getD, List.getElem?_append_left h]
theorem gD_r {W X : List Nat} {j : Nat} (h : W.length ≤ j) (h2 : j < (W ++ X).length) : (W ++ X).getD j 0 ∈ X := by
  rw [List.length_append] at h2
  rw [List.getD_eq_getElem?_getD, List.getElem?_append_right h, List.getElem?_eq_getElem (by omega)]
  exact List.getElem_mem _
theorem walk_gen {R : Nds} {L : List Nat} (hO : RsO R L) {Ok : List Nat → S_t → Prop} {q : S_t → Nat → Nat → Prop} {H : Option Nat → List Nat → S_t → Prop}
    (hstep : ∀ u W τ rest, u < R.1 → prE R 0 = W ++ u :: rest → Ok W τ → OwW R q W τ u → (∀ τ', Ok (W ++ [u]) τ' → q τ' u W.length → (∀ w pw, w < u → q τ w pw → q τ' w pw) → H (nx1 R u) (W ++ [u]) τ') → H (some u) W τ) :
    ∀ (f u : Nat) (W : List Nat) (τ : S_t) (rest : List Nat), R.1 ≤ u + f → u < R.1 → prE R 0 = W ++ (prE R u ++ rest) → Ok W τ → OwW R q W τ u → (∀ τ', Ok (W ++ prE R u) τ' → (∀ w pw, w < u → q τ w pw → q τ' w pw) → H (fol R (rT R u) u) (W ++ prE R u) τ') → H (some u) W τ := by
  have hU := RsO_up hO
  intro f
  induction f with
  | zero => intro u W τ rest h1 h2; omega
  | succ f ih =>
    intro u W τ rest h1 h2 hp hok how hK
    have ep := prE_eq hU h2
    rw [ep] at hp hK
    refine hstep u W τ ((skids R u).flatMap (prE R) ++ rest) h2 (by rw [hp]; rfl) hok how (fun τ1 ok1 q1 k1 => ?_)
    -- the parts
    have inner : ∀ (cs bs : List Nat) (X : List Nat) (τ2 : S_t), skids R u = bs ++ cs → X = bs.flatMap (prE R) → Ok (W ++ [u] ++ X) τ2 → q τ2 u W.length → (∀ w pw, w < u → q τ w pw → q τ2 w pw) → H (match cs.head? with | some c => some c | none => fol R (rT R u) u) (W ++ [u] ++ X) τ2 := by
      intro cs
      induction cs with
      | nil =>
        intro bs X τ2 e1 e2 ok2 q2 k2
        rw [List.append_nil] at e1
        have := hK τ2 (by rw [e1, ← e2, ← List.singleton_append, ← List.append_assoc]; exact ok2) k2
        rw [e1, ← e2, ← List.singleton_append, ← List.append_assoc] at this
        exact this
      | cons c cs ihc =>
        intro bs X τ2 e1 e2 ok2 q2 k2
        have hmem : c ∈ skids R u := by rw [e1]; exact List.mem_append_right _ List.mem_cons_self
        obtain ⟨c1, c2⟩ := skids_mem.mp hmem
        have huc := hU c u c1 c2
        have hN := (hO.2.1 c c1).2.2.2.2.2.2.2.2.2.1 u c2
        show H (some c) _ τ2
        refine ih c (W ++ [u] ++ X) τ2 (cs.flatMap (prE R) ++ rest) (by omega) c1 ?_ ok2 ?_ (fun τ3 ok3 k3 => ?_)
        · rw [hp, e1, e2, List.flatMap_append, List.flatMap_cons]
          simp [List.append_assoc]
        · unfold OwW
          rw [c2]
          refine ⟨W.length, q2, by simp, by rw [List.append_assoc, List.getD_eq_getElem?_getD, List.getElem?_append_right (Nat.le_refl _), Nat.sub_self]; rfl, fun j h1' h2' => ?_⟩
          have hx := gD_r (W := W ++ [u]) (X := X) (j := j) (by simp; omega) h2'
          rw [e2] at hx ⊢
          obtain ⟨b, hb, hx'⟩ := List.mem_flatMap.mp hx
          obtain ⟨b1, b2⟩ := skids_mem.mp (show b ∈ skids R u by rw [e1]; exact List.mem_append_left _ hb)
          have h3 := (hO.2.1 b b1).2.2.2.2.2.2.2.2.2.1 u b2
          have h4 := prE_dp hO (f + 1) b (by omega) b1 _ hx'
          omega
        · have en : nxt R c = cs.head? := by
            unfold nxt
            rw [c2]
            show nxs (skids R u) c = _
            have nd := skids_nodup R u
            rw [e1] at nd ⊢
            exact nxs_mid nd
          have ef : fol R (rT R c) c = match cs.head? with | some v => some v | none => fol R (rT R u) u := by
            rw [hN.2.2]
            show (match nxt R c with | some v => some v | none => match rU R c with | none => none | some w => fol R (rT R u) w) = _
            rw [en, c2]
          rw [ef]
          have := ihc (bs ++ [c]) (X ++ prE R c) τ3 (by rw [e1, List.append_assoc]; rfl) (by rw [List.flatMap_append, e2]; simp) (by rw [← List.append_assoc]; exact ok3) (k3 u W.length huc q2) (fun w pw hw hq => k3 w pw (by omega) (k2 w pw hw hq))
          rw [← List.append_assoc] at this
          exact this
    have := inner (skids R u) [] [] τ1 rfl rfl (by rw [List.append_nil]; exact ok1) q1 k1
    rw [List.append_nil] at this
    exact this
/-! rows of what was visited -/
def rws (R : Nds) (W : List Nat) : List Row := W.map (rwO R)
theorem rws_app (R : Nds) (W : List Nat) (u : Nat) : rws R (W ++ [u]) = rws R W ++ [rwO R u] := by unfold rws; rw [List.map_append]; rfl
theorem rws_dR {R : Nds} {W : List Nat} {j : Nat} (h : j < W.length) : dR (rws R W) j = rwO R (W.getD j 0) := by
  unfold dR rws
  rw [List.getD_eq_getElem?_getD, List.getElem?_map, List.getElem?_eq_getElem h, List.getD_eq_getElem?_getD, List.getElem?_eq_getElem h]
  rfl
theorem rws_len (R : Nds) (W : List Nat) : (rws R W).length = W.length := by unfold rws; rw [List.length_map]
theorem rws_bts {R : Nds} {W : List Nat} : bts (rws R W) = (W.map (fun k => rBt (rwO R k))).sum := by unfold bts rws; rw [List.map_map]; rfl
/-- all that a row more needs -/
theorem walk_row {R : Nds} {L W rest : List Nat} {u : Nat} {q : S_t → Nat → Nat → Prop} {τ : S_t} (hO : RsO R L) (hn : 0 < R.1) (hw : wsu R ≤ 2000) (hu : u < R.1) (hp : prE R 0 = W ++ u :: rest) (how : OwW R q W τ u) : W.length < R.1 ∧ u ∉ W ∧ bts (rws R W) + rBt (rwO R u) ≤ 2000 ∧ RowFit (rwO R u) ∧ ∃ x, ((rU R u = none ∧ x = -1) ∨ ∃ w pw, rU R u = some w ∧ x = nI pw ∧ q τ w pw ∧ pw < 500) ∧ OwR (rws R W) x (rT R u) ∧ (OwN (rws R W) x ↔ isO R (rU R u) = true) := by
  have hU := RsO_up hO
  have h0 : ∀ k, k < R.1 → rU R k = none → k = 0 := fun k hk hk' => ((hO.2.1 k hk).2.2.2.2.2.2.2.2.1 hk').1
  have len := pre_len hU h0 hn
  rw [hp, List.length_append, List.length_cons] at len
  have h5 := hO.1
  have hN := hO.2.1 u hu
  refine ⟨by omega, fun hm => ?_, ?_, ?_, ?_⟩
  · have s := pre_sum hU h0 hn (fun k => if k = u then 1 else 0)
    rw [smI_one, if_pos hu, hp, List.map_append, List.sum_append, List.map_cons, List.sum_cons, if_pos rfl] at s
    obtain ⟨a, b, rfl⟩ := List.append_of_mem hm
    rw [List.map_append, List.sum_append, List.map_cons, List.sum_cons, if_pos rfl] at s
    omega
  · have s := pre_sum hU h0 hn (fun k => rBt (rwO R k))
    rw [hp, List.map_append, List.sum_append, List.map_cons, List.sum_cons, ← rws_bts] at s
    have : smI (fun k => rBt (rwO R k)) R.1 ≤ 2000 := hw
    omega
  · refine ⟨hN.1, hN.2.1, hN.2.2.1, hN.2.2.2.1, hN.2.2.2.2.1, hN.2.2.2.2.2.1, ?_, hN.2.2.2.2.2.2.2.1⟩
    show Ltrs ((rNo R u).getD [])
    unfold rNo
    split
    · exact hN.2.2.2.2.2.2.1
    · exact Ltrs_nil
  · unfold OwW at how
    cases hr : rU R u with
    | none =>
      rw [hr] at how
      have hW : W = [] := how
      subst hW
      refine ⟨-1, Or.inl ⟨rfl, rfl⟩, Or.inl ⟨rfl, by decide, (hN.2.2.2.2.2.2.2.2.1 hr).2⟩, fun z => ?_, fun z => by cases z⟩
      obtain ⟨p, _, p2, _⟩ := z
      exact absurd p2 (Nat.not_lt_zero p)
    | some w =>
      rw [hr] at how
      obtain ⟨pw, g1, g2, g3, g4⟩ := how
      obtain ⟨a1, a2, a3⟩ := hN.2.2.2.2.2.2.2.2.2.1 w hr
      have eK : dK (rws R W) pw = rK R w := by unfold dK; rw [rws_dR g2, g3]; rfl
      have eT : dT (rws R W) pw = rT R w := by unfold dT; rw [rws_dR g2, g3]; rfl
      refine ⟨nI pw, Or.inr ⟨w, pw, rfl, rfl, g1, by omega⟩, Or.inr ⟨pw, rfl, ⟨by rw [rws_len]; exact g2, fun j h1 h2 => ?_⟩, by rw [eK]; exact a2, by rw [eT]; exact a3⟩, fun z => ?_, fun z => ?_⟩
      · rw [rws_len] at h2
        rw [eT]
        have : dT (rws R W) j = rT R (W.getD j 0) := by unfold dT; rw [rws_dR h2]; rfl
        rw [this]; exact g4 j h1 h2
      · obtain ⟨p, p1, p2, p3⟩ := z
        rw [rws_len] at p2
        have : pw = p := (nI_eq (by omega) (by omega)).mp p1
        subst this
        rw [eK] at p3
        exact decide_eq_true p3
      · exact ⟨pw, rfl, by rw [rws_len]; exact g2, by rw [eK]; exact of_decide_eq_true z⟩
