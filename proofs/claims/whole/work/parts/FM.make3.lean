def w71 (σ : S_t) (jl jr jm : Nat) : S_t := sR (sR (sR σ 71 0 (some (tr jl))) 71 1 (some (tr jr))) 71 2 (some (tr jm))
theorem w71_R (σ : S_t) (jl jr jm : Nat) {p k : Nat} (h : p ≠ 71) : gR (w71 σ jl jr jm) p k = gR σ p k := by
  unfold w71
  rw [gR_sR_n (Or.inl h), gR_sR_n (Or.inl h), gR_sR_n (Or.inl h)]
theorem Pm_71 {σ : S_t} {π : Nat → Nat} {jl jr jm : Nat} (h : Pm σ π) : Pm (w71 σ jl jr jm) π := ⟨h.1, h.2.1, fun i hi => by rw [w71_R σ jl jr jm (by decide)]; exact h.2.2.1 i hi, by rw [w71_R σ jl jr jm (by decide)]; exact h.2.2.2⟩
def woven (P : Bool) (L R : List Row) (sm : Nat → Nat → Bool) : Wst := wvv P L R (wlk P L R sm 998) (some [], false) (some 0) 0 0
theorem c_weMake {E : En_t} {d jl jr jm : Nat} {P : Bool} {L R : List Row} {sm : Nat → Nat → Bool} {σ : S_t} (hd : 34 ≤ d) (h1 : jl < 9) (h2 : jr < 9) (h3 : jm < 9) (h4 : jm ≠ jl) (h5 : jm ≠ jr) (wL : WfD L) (wR : WfD R) (tL : TrD σ (tr jl) L) (tR : TrD σ (tr jr) R) (hsm : ∀ i j, i < L.length → j < R.length → (sm i j = true ↔ sameS L i R j)) : CV E (d + 2) m_We_make [pv E 71, pv E (tr jl), pv E (tr jr), pv E (tr jm), .int (bo P)] σ (fun σ' => Fg (fun p k => TPl (tr jm) p k ∨ p = 71) (w71 σ jl jr jm) σ' ∧ gI σ' 71 4 = bo (woven P L R sm).2 ∧ TrB σ' (tr jm) (woven P L R sm).1) := by
  have kl := kind_tr jl (by omega)
  have kr := kind_tr jr (by omega)
  have km := kind_tr jm (by omega)
  refine CE.of (L := [(0, pv E 71), (1, pv E (tr jl)), (2, pv E (tr jr)), (3, pv E (tr jm)), (4, .int (bo P))]) rfl (Nat.le_of_ble_eq_true rfl) rfl (b_We_make_0 (d := d + 1) kl kr km ⟨by cases P <;> decide, ?_⟩)
  have e0 : Fg (fun p k => TPl (tr jm) p k ∨ p = 71) (w71 σ jl jr jm) (sI (sI (w71 σ jl jr jm) 71 3 (bo P)) 71 4 (0 : Int32)) := (Fg.rf.si (Or.inr rfl)).si (Or.inr rfl)
  have q3 : gI (sI (sI (w71 σ jl jr jm) 71 3 (bo P)) 71 4 (0 : Int32)) 71 3 = bo P := by rw [gI_sI_n (Or.inr (by decide))]; exact gI_sI_s _ _ _ _
  have q4 : gI (sI (sI (w71 σ jl jr jm) 71 3 (bo P)) 71 4 (0 : Int32)) 71 4 = 0 := gI_sI_s _ _ _ _
  have r0 : gR (sI (sI (w71 σ jl jr jm) 71 3 (bo P)) 71 4 (0 : Int32)) 71 0 = some (tr jl) := by
    show gR (sR (sR (sR σ 71 0 (some (tr jl))) 71 1 (some (tr jr))) 71 2 (some (tr jm))) 71 0 = _
    rw [gR_sR_n (Or.inr (by decide)), gR_sR_n (Or.inr (by decide))]; exact gR_sR_s _ _ _ _
  have r1 : gR (sI (sI (w71 σ jl jr jm) 71 3 (bo P)) 71 4 (0 : Int32)) 71 1 = some (tr jr) := by
    show gR (sR (sR (sR σ 71 0 (some (tr jl))) 71 1 (some (tr jr))) 71 2 (some (tr jm))) 71 1 = _
    rw [gR_sR_n (Or.inr (by decide))]; exact gR_sR_s _ _ _ _
  have r2 : gR (sI (sI (w71 σ jl jr jm) 71 3 (bo P)) 71 4 (0 : Int32)) 71 2 = some (tr jm) := gR_sR_s _ _ _ _
  have tt : ∀ j F, TrD σ (tr j) F → TrD (sI (sI (w71 σ jl jr jm) 71 3 (bo P)) 71 4 (0 : Int32)) (tr j) F := fun j F hT => TrD_fr (σ := σ) (fun p k a b => ⟨by rw [gI_sI_n (Or.inl (by unfold tr at a; omega)), gI_sI_n (Or.inl (by unfold tr at a; omega))]; rfl, rfl⟩) hT
  have tL1 := tt jl L tL
  have tR1 := tt jr R tR
  show ∃ t1, gR (sI (sI (w71 σ jl jr jm) 71 3 (bo P)) 71 4 (0 : Int32)) 71 2 = some t1 ∧ kindP t1 = 11 ∧ CV E (d + 1) m_Tr_clear [pv E t1] (sI (sI (w71 σ jl jr jm) 71 3 (bo P)) 71 4 (0 : Int32)) _
  generalize sI (sI (w71 σ jl jr jm) 71 3 (bo P)) 71 4 (0 : Int32) = τ at e0 q3 q4 r0 r1 r2 tL1 tR1 ⊢
  refine ⟨_, r2, km, CE.of (L := [(0, pv E (tr jm))]) rfl (Nat.le_of_ble_eq_true rfl) rfl (b_Tr_clear_0 km ⟨rfl, ?_⟩)⟩
  have F1 : Fg (MWe jm) τ (sI (sI (sI (sI τ (tr jm) 13 (0 : Int32)) (tr jm) 11 (0 : Int32)) (tr jm) 12 (0 : Int32)) (tr jm) 14 (0 : Int32)) := (((Fg.rf.si (Or.inl ⟨by omega, by omega⟩)).si (Or.inl ⟨by omega, by omega⟩)).si (Or.inl ⟨by omega, by omega⟩)).si (Or.inl ⟨by omega, by omega⟩)
  have T1 : TrR (sI (sI (sI (sI τ (tr jm) 13 (0 : Int32)) (tr jm) 11 (0 : Int32)) (tr jm) 12 (0 : Int32)) (tr jm) 14 (0 : Int32)) (tr jm) [] := TrR_nil (by simp [gI_sI]) (by simp [gI_sI]) (by simp [gI_sI]) (by simp [gI_sI])
  have q4' : gI (sI (sI (sI (sI τ (tr jm) 13 (0 : Int32)) (tr jm) 11 (0 : Int32)) (tr jm) 12 (0 : Int32)) (tr jm) 14 (0 : Int32)) 71 4 = 0 := by
    have : (71 : Nat) ≠ tr jm := by unfold tr; omega
    rw [gI_sI_n (Or.inl this), gI_sI_n (Or.inl this), gI_sI_n (Or.inl this), gI_sI_n (Or.inl this)]; exact q4
  generalize sI (sI (sI (sI τ (tr jm) 13 (0 : Int32)) (tr jm) 11 (0 : Int32)) (tr jm) 12 (0 : Int32)) (tr jm) 14 (0 : Int32) = τ1 at F1 T1 q4' ⊢
  have hC : WeC τ P L R jl jr jm := ⟨⟨h1, h2, h3, h4, h5⟩, ⟨r0, r1, r2⟩, q3, wL.1, wR.1, tL1, tR1⟩
  have dn0 := wR.1.2.2.2.1 wR.2
  have w0 := wR.1.1.1 wR.2
  have l0 := wL.1.1.1 wL.2
  have n5 := wR.1.2.2.2.2.1
  have m5 := wL.1.2.2.2.2.1
  have hl : ∀ i, some 0 = some i → i < L.length ∧ dT L i = 0 := fun i hi => by cases hi; exact ⟨wL.2, l0⟩
  have z1 : lE L (some 0) - lA L (some 0) ≤ siz (dT L) L.length 0 - 1 := (Rg_l wL.1 hl).2
  have z2 := (siz_spec (f := dT L) (n := L.length) wL.2).2.1
  have z3 := (siz_spec (f := dT R) (n := R.length) wR.2).2.1
  refine (Wv_of_Lp hC (Lp_all hC hsm 998) d (some [], false) (some 0) 0 0 (-1) τ1 (by omega) ⟨F1, q4', T1, WfR_nil⟩ wR.2 w0 hl ?_ (by omega)).mono (fun σ' hq => ⟨rfl, ?_, hq.2.1, hq.2.2⟩)
  · intro D hD
    cases hD
    exact ⟨Or.inl ⟨rfl, by decide, rfl⟩, fun ⟨p, _, h, _⟩ => absurd h (Nat.not_lt_zero p), fun _ => dn0⟩
  · refine e0.tr (hq.1.mono (fun p k z => ?_))
    rcases z with z | z
    · exact Or.inl z
    · exact Or.inr z.1
/-! how a document comes to a shelf, or does not -/
def MEn (t : Nat) (to : Option Nat) : Nat → Nat → Prop := fun p k => TPl t p k ∨ p = 71 ∨ MMe p k ∨ ∃ i, to = some i ∧ MSv i p k
theorem MEn_free {j : Nat} {to : Option Nat} : FreeT (MEn (tr j) to) := by
  intro p k z
  rcases z with z | z | z | ⟨i, _, z⟩
  · unfold TPl tr at z; omega
  · omega
  · unfold MMe MMk MoC at z; omega
  · unfold MSv MoC at z; omega
theorem MEn_W {t : Nat} {to : Option Nat} : MkW (MEn t to) t to := by
  intro p k z y
  rcases z with z | z | z | z
  · exact Or.inr (Or.inr z)
  · unfold ShD at y; omega
  · rcases z with (z | z | z) | z
    · exact Or.inr (Or.inl z)
    · unfold ShD at y; omega
    · unfold ShD at y; omega
    · unfold ShD at y; omega
  · exact Or.inl z
theorem hasV_0 {σ : S_t} {x : Int32} (h : Shv σ) : hasV σ x 0 ↔ isD σ x := by
  constructor
  · rintro ⟨i, j, e1, e2, e3, e4, e5, e6⟩
    exact ⟨i, e1, e2, e5⟩
  · intro hd
    obtain ⟨i, t, D, h1, h2, h3, h4, h5, hW, hM, hT⟩ := Shv_doc h hd
    obtain ⟨i', h1', h2', h8⟩ := hd
    have : i = i' := (nI_eq (by omega) (by omega)).mp (h2.symm.trans h2')
    subst this
    refine ⟨i, 0, h1, h2, rfl, by decide, h8, ?_⟩
    rw [hM.1]
    exact nI_lt hW.2 (by have := hW.1.2.2.2.2.1; omega)
theorem wv_pos {P : Bool} {L R : List Row} {f : Wst → Nat → Nat → Nat → Nat → Nat → Wst} {l : Option Nat} {r e : Nat} {b : Bool} {G : List Row} (hr : r < R.length) (hf : ∀ st a ea b eb e, ExS e st.1 (f st a ea b eb e).1) (h : (wvv P L R f (some [], b) l r e).1 = some G) : 0 < G.length := by
  unfold wvv at h
  split at h
  · have := (cpN_CpI (show cpN (some []) R r e (dN R r) (siz (dT R) R.length r) = some G from h)).1
    have := (siz_spec (f := dT R) (n := R.length) hr).1
    omega
  · obtain ⟨D, hD, hx⟩ := hf _ _ _ _ _ _ G h
    have hD' : adR (some []) (likR R r e (dN R r)) = some D := hD
    obtain ⟨rfl, _, _⟩ := adR_some hD'
    have := hx.1
    rw [lenR] at this
    omega
