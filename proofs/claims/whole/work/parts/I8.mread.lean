/-! the model's reader -/
def MRw (σ : S_t) (R : Nds) (k : Nat) : Prop := gI σ 29 k = nI (rK R k) ∧ gI σ 30 k = oI (rU R k) ∧ gI σ 34 k = nI (rNa R k) ∧ gI σ 35 k = (if isO R (rU R k) = true then nI (rNm R k).length else -1) ∧ (rK R k = 4 → gI σ 36 k = nI (rTa R k) ∧ gI σ 37 k = nI (rTx R k).length) ∧ (rK R k = 3 → gL σ 38 k = lN (rBi R k))
def LkM (σ : S_t) (R : Nds) (u : Nat) : Prop := ch (gI σ 33) (gI σ 31 u) (kids R u) ∧ gI σ 32 u = oI (kids R u).getLast? ∧ (rU R u = none → gI σ 33 u = -1)
def DrM (σ : S_t) (R : Nds) (L : List Nat) : Prop := RlM σ L ∧ gI σ 0 43 = nI R.1 ∧ (∀ k, k < R.1 → MRw σ R k) ∧ ∀ u, u < R.1 → LkM σ R u
theorem MRw_fg {P : Nat → Nat → Prop} {σ σ' : S_t} {R : Nds} {k : Nat} (hF : Fg P σ σ') (h : ∀ p, 29 ≤ p → p ≤ 38 → p ≠ 31 → p ≠ 32 → p ≠ 33 → ¬ P p k) (hC : MRw σ R k) : MRw σ' R k := by
  have e : ∀ p, 29 ≤ p → p ≤ 38 → p ≠ 31 → p ≠ 32 → p ≠ 33 → gI σ' p k = gI σ p k := fun p a b c d f => hF.1 p k (h p a b c d f)
  obtain ⟨c1, c2, c3, c4, c5, c6⟩ := hC
  refine ⟨?_, ?_, ?_, ?_, fun z => ⟨?_, ?_⟩, fun z => ?_⟩
  · rw [e 29 (by omega) (by omega) (by omega) (by omega) (by omega)]; exact c1
  · rw [e 30 (by omega) (by omega) (by omega) (by omega) (by omega)]; exact c2
  · rw [e 34 (by omega) (by omega) (by omega) (by omega) (by omega)]; exact c3
  · rw [e 35 (by omega) (by omega) (by omega) (by omega) (by omega)]; exact c4
  · rw [e 36 (by omega) (by omega) (by omega) (by omega) (by omega)]; exact (c5 z).1
  · rw [e 37 (by omega) (by omega) (by omega) (by omega) (by omega)]; exact (c5 z).2
  · rw [hF.2.1 38 k (h 38 (by omega) (by omega) (by omega) (by omega) (by omega))]; exact c6 z
theorem LkM_fg {P : Nat → Nat → Prop} {σ σ' : S_t} {R : Nds} {u : Nat} (hF : Fg P σ σ') (h : ∀ p k, 31 ≤ p → p ≤ 33 → ¬ P p k) (hC : LkM σ R u) : LkM σ' R u := by
  obtain ⟨c1, c2, c3⟩ := hC
  refine ⟨?_, ?_, fun z => ?_⟩
  · rw [hF.1 31 u (h 31 u (by omega) (by omega))]
    exact ch_congr (fun c _ => hF.1 33 c (h 33 c (by omega) (by omega))) c1
  · rw [hF.1 32 u (h 32 u (by omega) (by omega))]; exact c2
  · rw [hF.1 33 u (h 33 u (by omega) (by omega))]; exact c3 z
theorem DrM_fg {P : Nat → Nat → Prop} {σ σ' : S_t} {R : Nds} {L : List Nat} (hF : Fg P σ σ') (h : ∀ p k, P p k → ¬ (29 ≤ p ∧ p ≤ 39) ∧ ¬ (p = 0 ∧ (k = 43 ∨ k = 44))) (hD : DrM σ R L) : DrM σ' R L := by
  obtain ⟨d1, d2, d3, d4⟩ := hD
  refine ⟨RlM_fg hF (fun z => (h _ _ z).2 (by omega)) (fun k z => (h _ _ z).1 (by omega)) d1, ?_, fun k hk => MRw_fg hF (fun p a b _ _ _ z => (h p k z).1 (by omega)) (d3 k hk), fun u hu => LkM_fg hF (fun p k a b z => (h p k z).1 (by omega)) (d4 u hu)⟩
  rw [hF.1 0 43 (fun z => (h _ _ z).2 (by omega))]; exact d2
def BgM (n : Nat) : Nat → Nat → Prop := fun p k => (p = 0 ∧ k = 43) ∨ ((29 ≤ p ∧ p ≤ 37) ∧ k = n) ∨ (31 ≤ p ∧ p ≤ 33)
theorem c_beginM {E : En_t} {d na K : Nat} {R : Nds} {L : List Nat} {ins : Option Nat} {nm : List Nat} {σ : S_t} (hO : RsO R L) (hn : R.1 < 500) (hi : ∀ u, ins = some u → u < R.1) (h43 : gI σ 0 43 = nI R.1) (hL : ∀ u, u < R.1 → LkM σ R u) : CI E d m_Mo_begin [pv E 0, .int (nI K), .int (oI ins)] σ (fun r σ' => r = nI R.1 ∧ Fg (BgM R.1) σ σ' ∧ gI σ' 0 43 = nI (R.1 + 1) ∧ gI σ' 29 R.1 = nI K ∧ gI σ' 30 R.1 = oI ins ∧ ∀ u, u < R.1 + 1 → LkM σ' (psh R (nwN K ins R na nm)) u) := by
  have hU := RsO_up hO
  have cn : (nI R.1).toNatClampNeg = R.1 := nI_clamp (by omega)
  have vn : vp_in (nI R.1) 500 := vin hn (by decide)
  have eU : ∀ u, u < R.1 → rU (psh R (nwN K ins R na nm)) u = rU R u := fun u hu => by unfold rU; rw [psh_lt hu]
  have nw : (nwN K ins R na nm).2.2.1 = ins := rfl
  have new0 : ins ≠ some R.1 := fun z => by have := hi R.1 z; omega
  have P : ∀ i, 29 ≤ i → i ≤ 37 → BgM R.1 i R.1 := fun i h1 h2 => Or.inr (Or.inl ⟨⟨h1, h2⟩, rfl⟩)
  refine CE.of (L := [(0, pv E 0), (1, .int (nI K)), (2, .int (oI ins))]) rfl (Nat.le_of_ble_eq_true rfl) rfl (b_Mo_begin_0 ?_)
  rw [h43, cn]
  refine ⟨vn, vn, vn, fun σ1 e1 => ⟨vn, vn, vn, fun σ2 e2 => ⟨vn, vn, ?_⟩⟩⟩
  generalize e3 : sI (sI σ2 34 R.1 (0 : Int32)) 37 R.1 (0 : Int32) = τ
  have F3 : Fg (BgM R.1) σ τ := by
    rw [← e3, e2, e1]
    exact ((((((((Fg.rf.si (Or.inl ⟨rfl, rfl⟩)).si (P 29 (by omega) (by omega))).si (P 30 (by omega) (by omega))).si (P 31 (by omega) (by omega))).si (P 32 (by omega) (by omega))).si (P 33 (by omega) (by omega))).si (P 35 (by omega) (by omega))).si (P 34 (by omega) (by omega))).si (P 37 (by omega) (by omega))
  have t31 : ∀ k, gI τ 31 k = if k = R.1 then -1 else gI σ 31 k := fun k => by rw [← e3, e2, e1]; simp [gI_sI]
  have t32 : ∀ k, gI τ 32 k = if k = R.1 then -1 else gI σ 32 k := fun k => by rw [← e3, e2, e1]; simp [gI_sI]
  have t33 : ∀ k, gI τ 33 k = if k = R.1 then -1 else gI σ 33 k := fun k => by rw [← e3, e2, e1]; simp [gI_sI]
  have t43 : gI τ 0 43 = nI (R.1 + 1) := by rw [← e3, e2, e1]; simp [gI_sI, nI_1]
  have t29 : gI τ 29 R.1 = nI K := by rw [← e3, e2, e1]; simp [gI_sI]
  have t30 : gI τ 30 R.1 = oI ins := by rw [← e3, e2, e1]; simp [gI_sI]
  have kn : kids (psh R (nwN K ins R na nm)) R.1 = [] := by rw [kids_psh, if_neg (by rw [nw]; exact new0), List.append_nil]; exact kids_out hU (by omega)
  cases hi' : ins with
  | none =>
    subst hi'
    refine ⟨fun q => absurd q (by decide), fun _ => ⟨_, rfl, rfl, F3, t43, t29, t30, fun u hu => ?_⟩⟩
    by_cases g : u = R.1
    · subst g
      exact ⟨by rw [kn, t31, if_pos rfl]; rfl, by rw [kn, t32, if_pos rfl]; rfl, fun _ => by rw [t33, if_pos rfl]⟩
    · have hu' : u < R.1 := by omega
      obtain ⟨l1, l2, l3⟩ := hL u hu'
      have ek : kids (psh R (nwN K none R na nm)) u = kids R u := by rw [kids_psh, if_neg (by rw [nw]; simp), List.append_nil]
      refine ⟨?_, ?_, fun z => ?_⟩
      · rw [ek, t31, if_neg g]
        exact ch_congr (fun c hc => by rw [t33, if_neg (by have := (kids_mem.mp hc).1; omega)]) l1
      · rw [ek, t32, if_neg g]; exact l2
      · rw [eU u hu'] at z
        rw [t33, if_neg g]; exact l3 z
  | some v =>
    subst hi'
    have hv := hi v rfl
    have cv : (oI (some v)).toNatClampNeg = v := nI_clamp (by omega)
    obtain ⟨lv1, lv2, lv3⟩ := hL v hv
    have vv : vp_in (oI (some v)) 500 := vin (by omega) (by decide)
    have hlast : ∀ x, (kids R v).getLast? = some x → x < R.1 ∧ rU R x = some v := fun x hx => kids_mem.mp (List.mem_of_getLast? hx)
    have t32v : gI τ 32 v = oI (kids R v).getLast? := by rw [t32, if_neg (by omega)]; exact lv2
    have fin : ∀ τ' : S_t, Fg (BgM R.1) τ τ' → gI τ' 0 43 = gI τ 0 43 → gI τ' 29 R.1 = gI τ 29 R.1 → gI τ' 30 R.1 = gI τ 30 R.1 → gI τ' 33 R.1 = -1 → gI τ' 31 v = (match (kids R v).getLast? with | none => nI R.1 | some _ => gI σ 31 v) → (∀ x, (kids R v).getLast? = some x → gI τ' 33 x = nI R.1) → (∀ k, k ≠ R.1 → (kids R v).getLast? ≠ some k → gI τ' 33 k = gI σ 33 k) → (∀ k, k ≠ v → gI τ' 31 k = gI τ 31 k) → (∀ k, gI τ' 32 k = gI τ 32 k) → JE E d m_Mo_begin 108 [(0, pv E 0), (2, .int (oI (some v))), (3, .int (nI R.1))] [] τ' (fun q σ' => ∃ x, q = some (.int x) ∧ x = nI R.1 ∧ Fg (BgM R.1) σ σ' ∧ gI σ' 0 43 = nI (R.1 + 1) ∧ gI σ' 29 R.1 = nI K ∧ gI σ' 30 R.1 = oI (some v) ∧ ∀ u, u < R.1 + 1 → LkM σ' (psh R (nwN K (some v) R na nm)) u) := by
      intro τ' F4 a0 a1 a2 a3 a4 a5 a6 a7 a8
      refine b_Mo_begin_108 ⟨vv, ?_⟩
      rw [cv]
      have x31 : ∀ k, gI (sI τ' 32 v (nI R.1)) 31 k = gI τ' 31 k := fun k => gI_sI_n (Or.inl (by decide))
      have x33 : ∀ k, gI (sI τ' 32 v (nI R.1)) 33 k = gI τ' 33 k := fun k => gI_sI_n (Or.inl (by decide))
      have x33' : gI (sI τ' 32 v (nI R.1)) 33 = gI τ' 33 := funext x33
      refine ⟨_, rfl, rfl, (F3.tr F4).si (Or.inr (Or.inr ⟨by decide, by decide⟩)), by rw [gI_sI_n (Or.inl (by decide)), a0]; exact t43, by rw [gI_sI_n (Or.inl (by decide)), a1]; exact t29, by rw [gI_sI_n (Or.inl (by decide)), a2]; exact t30, fun u hu => ?_⟩
      by_cases g : u = R.1
      · subst g
        refine ⟨by rw [kn, x31, a7 _ (by omega), t31, if_pos rfl]; rfl, by rw [kn, gI_sI_n (Or.inr (by omega)), a8, t32, if_pos rfl]; rfl, fun z => ?_⟩
        have : rU (psh R (nwN K (some v) R na nm)) R.1 = some v := by unfold rU; rw [psh_eq]; rfl
        rw [this] at z; cases z
      · have hu' : u < R.1 := by omega
        obtain ⟨l1, l2, l3⟩ := hL u hu'
        have root : rU (psh R (nwN K (some v) R na nm)) u = none → gI (sI τ' 32 v (nI R.1)) 33 u = -1 := fun z => by
          rw [eU u hu'] at z
          rw [x33, a6 u g (fun w => by have := (hlast u w).2; rw [z] at this; cases this)]
          exact l3 z
        by_cases y : u = v
        · subst y
          have ek : kids (psh R (nwN K (some u) R na nm)) u = kids R u ++ R.1 :: [] := by rw [kids_psh, if_pos nw]
          refine ⟨?_, ?_, root⟩
          · rw [ek, x31, x33']
            refine ch_put (nx := gI σ 33) (h := gI σ 31 u) (by rw [List.append_nil]; exact l1) (by rw [List.append_nil]; exact kids_nodup R u) (fun z => by rw [List.append_nil] at z; have := (kids_mem.mp z).1; omega) (fun z => ?_) (fun x hx => ?_) (fun c h1 h2 => a6 c h1 h2)
            · rw [a3, a4, z]
              rw [z] at l1
              exact ⟨l1.symm, rfl⟩
            · rw [a3, a4, a5 x hx, hx]
              refine ⟨?_, rfl, rfl⟩
              have m := List.mem_of_getLast? hx
              rw [ch_nxs l1 m (kids_nodup R u)]
              rcases last_sp (kids R u) with ⟨e1, e2⟩ | ⟨a, x', e1, e2⟩
              · rw [e2] at hx; cases hx
              · rw [e2] at hx
                have : x' = x := Option.some.inj hx
                subst this
                have nx0 : ∀ (a : List Nat), (a ++ [x']).Nodup → nxs (a ++ [x']) x' = none := by
                  intro a
                  induction a with
                  | nil => intro _; show (if x' = x' then _ else _) = _; rw [if_pos rfl]; rfl
                  | cons b a ih =>
                    intro hnd
                    rw [List.cons_append, List.nodup_cons] at hnd
                    show (if b = x' then _ else nxs (a ++ [x']) x') = none
                    rw [if_neg (fun w => hnd.1 (by rw [w]; exact List.mem_append_right _ List.mem_cons_self))]
                    exact ih hnd.2
                rw [e1, nx0 a (by rw [← e1]; exact kids_nodup R u)]; rfl
          · rw [ek, gI_sI_s, List.getLast?_concat]; rfl
        · have ek : kids (psh R (nwN K (some v) R na nm)) u = kids R u := by rw [kids_psh, if_neg (by rw [nw]; intro w; exact y (Option.some.inj w).symm), List.append_nil]
          refine ⟨?_, ?_, root⟩
          · rw [ek, x31, x33', a7 u y, t31, if_neg g]
            refine ch_congr (fun c hc => a6 c (by have := (kids_mem.mp hc).1; omega) (fun w => ?_)) l1
            have a := (hlast c w).2
            rw [(kids_mem.mp hc).2] at a
            exact y (Option.some.inj a)
          · rw [ek, gI_sI_n (Or.inr y), a8, t32, if_neg g]; exact l2
    refine ⟨fun _ => ⟨vv, ?_⟩, fun q => absurd (Int32.not_lt.mp (nI_nn (n := v) (by omega))) q⟩
    rw [cv]
    intro v3 ev3
    rw [t32v] at ev3 ⊢
    subst ev3
    cases hx : (kids R v).getLast? with
    | none =>
      refine ⟨fun q => absurd q (by decide), fun _ => ⟨vv, ?_⟩⟩
      refine fin _ (Fg.rf.si (Or.inr (Or.inr ⟨by decide, by decide⟩))) (by simp [gI_sI]) (by simp [gI_sI]) (by simp [gI_sI]) ?_ ?_ (fun x hx' => by rw [hx] at hx'; cases hx') (fun k k1 k2 => ?_) (fun k k1 => ?_) (fun k => by simp [gI_sI])
      · rw [gI_sI_n (Or.inl (by decide)), t33, if_pos rfl]
      · rw [hx]; exact gI_sI_s _ _ _ _
      · rw [gI_sI_n (Or.inl (by decide)), t33, if_neg k1]
      · rw [gI_sI_n (Or.inr k1)]
    | some x =>
      obtain ⟨x1, x2⟩ := hlast x hx
      have cx : (oI (some x)).toNatClampNeg = x := nI_clamp (by omega)
      refine ⟨fun _ => ⟨vv, fun v4 ev4 => ?_⟩, fun q => absurd (Int32.not_lt.mp (nI_nn (n := x) (by omega))) q⟩
      subst ev4
      refine ⟨vin (by omega) (by decide), ?_⟩
      rw [cx]
      refine fin _ (Fg.rf.si (Or.inr (Or.inr ⟨by decide, by decide⟩))) (by simp [gI_sI]) (by simp [gI_sI]) (by simp [gI_sI]) ?_ ?_ (fun y hy => ?_) (fun k k1 k2 => ?_) (fun k k1 => ?_) (fun k => by simp [gI_sI])
      · rw [gI_sI_n (Or.inr (by omega)), t33, if_pos rfl]
      · rw [hx]
        show _ = gI σ 31 v
        rw [gI_sI_n (Or.inl (by decide)), t31, if_neg (by omega)]
      · rw [hx] at hy
        have : x = y := Option.some.inj hy
        subst this
        exact gI_sI_s _ _ _ _
      · have : k ≠ x := fun w => k2 (by rw [hx, w])
        rw [gI_sI_n (Or.inr this), t33, if_neg k1]
      · rw [gI_sI_n (Or.inl (by decide))]
theorem c_wrongM {E : En_t} {d f x : Nat} {σ : S_t} (h : gI σ 0 41 = 0) : CI E d m_Mo_wrong [pv E 0, .int (nI f), .int (nI x)] σ (fun r σ' => r = 0 ∧ Fg (fun p k => p = 0 ∧ (k = 41 ∨ k = 42)) σ σ' ∧ gI σ' 0 41 = nI f ∧ gI σ' 0 42 = nI x) :=
  CE.of (L := [(0, pv E 0), (1, .int (nI f)), (2, .int (nI x))]) rfl (Nat.le_of_ble_eq_true rfl) rfl (b_Mo_wrong_0 ⟨fun q => absurd h q, fun _ => ⟨_, rfl, rfl, (Fg.rf.si ⟨rfl, Or.inl rfl⟩).si ⟨rfl, Or.inr rfl⟩, by rw [gI_sI_n (Or.inr (by decide)), gI_sI_s], by rw [gI_sI_s]⟩⟩)
theorem RlM_str {σ : S_t} {L s : List Nat} {a : Nat} (h : RlM σ L) (hs : Slc L a s) : StrA (gI σ 39) a s := fun i hi => by rw [h.2 (a + i) (by have := hs.1; omega), hs.2 i hi]
theorem c_namedM {E : En_t} {d u na : Nat} {R : Nds} {L nm : List Nat} {σ : S_t} (hO : RsO R L) (hu : u < R.1) (h6 : rK R u = 6) (hL : bls L ≤ 2000) (hS : Slc L na nm) (hl : Ltrs nm) (hR : RlM σ L) (hrow : ∀ k, k < R.1 → MRw σ R k) (hlk : ∀ u, u < R.1 → LkM σ R u) : CI E (d + 2) m_Mo_isNamed [pv E 0, .int (nI u), .int (nI na), .int (nI nm.length)] σ (fun r σ' => r = bo ((kids R u).any (fun k => decide (rNm R k = nm))) ∧ σ' = σ) := by
  have h5 := hO.1
  have hLl := bls_len L
  have cu : (nI u).toNatClampNeg = u := nI_clamp (by omega)
  have l39 : lenP 39 = 2100 := by decide
  have loop : ∀ (ys xs : List Nat) (h : Int32), kids R u = xs ++ ys → ch (gI σ 33) h ys → (∀ x ∈ xs, rNm R x ≠ nm) → JE E (d + 2) m_Mo_isNamed 8 [(0, pv E 0), (2, .int (nI na)), (3, .int (nI nm.length)), (4, .int h)] [] σ (fun r σ' => ∃ x, r = some (.int x) ∧ x = bo ((kids R u).any (fun k => decide (rNm R k = nm))) ∧ σ' = σ) := by
    intro ys
    induction ys with
    | nil =>
      intro xs h e hc hx
      have h1 : h = -1 := hc
      have : (kids R u).any (fun k => decide (rNm R k = nm)) = false := by
        rw [List.any_eq_false]
        intro k hk
        rw [e, List.append_nil] at hk
        simp [hx k hk]
      rw [this]
      exact b_Mo_isNamed_8 (d := d + 1) ⟨fun _ => ⟨_, rfl, rfl, rfl⟩, fun q => absurd (by rw [h1]; decide) q⟩
    | cons c ys ih =>
      intro xs h e hc hx
      obtain ⟨e1, e2⟩ := hc
      subst e1
      obtain ⟨c1, c2⟩ := kids_mem.mp (show c ∈ kids R u by rw [e]; exact List.mem_append_right _ List.mem_cons_self)
      have cc' : (nI c).toNatClampNeg = c := nI_clamp (by omega)
      have hN := hO.2.1 c c1
      have hSc := hN.2.2.2.2.2.2.2.2.2.2.1
      obtain ⟨_, _, r3, r4, _, _⟩ := hrow c c1
      have hOb : isO R (rU R c) = true := by rw [c2]; exact decide_eq_true h6
      rw [if_pos hOb] at r4
      have next : rNm R c ≠ nm → JE E (d + 2) m_Mo_isNamed 55 [(0, pv E 0), (2, .int (nI na)), (3, .int (nI nm.length)), (4, .int (nI c))] [] σ (fun r σ' => ∃ x, r = some (.int x) ∧ x = bo ((kids R u).any (fun k => decide (rNm R k = nm))) ∧ σ' = σ) := by
        intro hne
        refine b_Mo_isNamed_55 (d := d + 1) ⟨vin (by omega) (by decide), ?_⟩
        rw [cc']
        exact ih (xs ++ [c]) _ (by rw [e, List.append_assoc]; rfl) e2 (fun x hx' => by
          rcases List.mem_append.mp hx' with z | z
          · exact hx x z
          · rw [List.mem_singleton] at z; rw [z]; exact hne)
      refine b_Mo_isNamed_8 (d := d + 1) ⟨fun q => absurd q (nI_nn (by omega)), fun _ => ⟨vin (by omega) (by decide), ?_⟩⟩
      rw [cc', r3, r4]
      refine ⟨fun q => absurd q (nI_nn (by have := hSc.1; omega)), fun _ => ⟨vin (by omega) (by decide), vin (by omega) (by decide), ?_⟩⟩
      refine (c_compared (d := d) (o1 := 39) (o2 := 39) (s := rNm R c) (t := nm) (by decide) (by decide) (RlM_str hR hSc) (RlM_str hR hS) (by rw [l39]; have := hSc.1; omega) (by rw [l39]; have := hS.1; omega) (by rw [l39]; decide) (by rw [l39]; decide) hN.2.2.2.2.2.2.1 hl).mono (fun r2 σ1 hq => ?_)
      obtain ⟨⟨q1, q2⟩, rfl⟩ := hq
      refine ⟨fun q => next (fun z => q (q2.mpr (cmN_0.mpr z))), fun q => ⟨_, rfl, ?_, rfl⟩⟩
      have : (kids R u).any (fun k => decide (rNm R k = nm)) = true := List.any_eq_true.mpr ⟨c, by rw [e]; exact List.mem_append_right _ List.mem_cons_self, decide_eq_true (cmN_0.mp (q2.mp q))⟩
      rw [this]; rfl
  refine CE.of (L := [(0, pv E 0), (1, .int (nI u)), (2, .int (nI na)), (3, .int (nI nm.length))]) rfl (Nat.le_of_ble_eq_true rfl) rfl (b_Mo_isNamed_0 (d := d + 1) ⟨vin (by omega) (by decide), ?_⟩)
  rw [cu]
  exact loop (kids R u) [] _ rfl (hlk u hu).1 (fun x hx => absurd hx List.not_mem_nil)
