/-! the class's draft: a node more, and where it is put -/
def AdM (n : Nat) (ins : Option Nat) : Nat → Nat → Prop := fun p k => (p = 180 ∧ k = 13) ∨ (181 ≤ p ∧ p ≤ 190 ∧ k = n) ∨ (p = 182 ∧ ins = some k)
theorem c_addD {E : En_t} {d n K : Nat} {ins : Option Nat} {σ : S_t} (hn : n < 500) (h13 : gI σ 180 13 = nI n) (h14 : gI σ 180 14 = 0) (hi : ∀ u, ins = some u → u < n) : CI E d m_Tr_add [pv E 180, .int (nI K), .int (oI ins)] σ (fun r σ' => r = nI n ∧ Fg (AdM n ins) σ σ' ∧ gI σ' 180 13 = nI (n + 1) ∧ gI σ' 181 n = nI K ∧ gI σ' 182 n = 0 ∧ gI σ' 183 n = oI ins ∧ gL σ' 187 n = 0 ∧ gI σ' 190 n = 0) := by
  have k180 : kindP 180 = 11 := by decide
  have k3 : kindP (180 + 3) = 20 := by decide
  have k4 : kindP (180 + 4) = 20 := by decide
  have k6 : kindP (180 + 6) = 20 := by decide
  have cn : (nI n).toNatClampNeg = n := nI_clamp (by omega)
  have P : ∀ i, 1 ≤ i → i ≤ 10 → AdM n ins (180 + i) n := fun i h1 h2 => Or.inr (Or.inl ⟨by omega, by omega, rfl⟩)
  have v3 : vp_in (nI n) (lenP (180 + 3)) := by rw [show lenP (180 + 3) = 500 by decide]; exact vin hn (by decide)
  have v4 : vp_in (nI n) (lenP (180 + 4)) := by rw [show lenP (180 + 4) = 500 by decide]; exact vin hn (by decide)
  have v6 : vp_in (nI n) (lenP (180 + 6)) := by rw [show lenP (180 + 6) = 500 by decide]; exact vin hn (by decide)
  refine CE.of (L := [(0, pv E 180), (1, .int (nI K)), (2, .int (oI ins))]) rfl (Nat.le_of_ble_eq_true rfl) rfl (b_Tr_add_0 k180 ?_)
  rw [h13, cn]
  refine ⟨fun q => absurd h14 q, fun _ => ⟨fun _ => ⟨vin hn (by decide), vin hn (by decide), vin hn (by decide), fun σ1 e1 => ⟨vin hn (by decide), vin hn (by decide), vin hn (by decide), fun σ2 e2 => ?_⟩⟩, fun q => absurd (nI_lt (b := 500) hn (by decide)) q⟩⟩
  have F2 : Fg (AdM n ins) σ σ2 := by
    rw [e2, e1]
    exact ((((((Fg.rf.si (Or.inl ⟨rfl, rfl⟩)).si (P 1 (by omega) (by omega))).si (P 2 (by omega) (by omega))).sl (P 7 (by omega) (by omega))).si (P 8 (by omega) (by omega))).si (P 9 (by omega) (by omega))).si (P 10 (by omega) (by omega))
  have w13 : gI σ2 180 13 = nI (n + 1) := by rw [e2, e1]; simp [gI_sI, gI_sL, nI_1]
  have w1 : gI σ2 181 n = nI K := by rw [e2, e1]; simp [gI_sI, gI_sL]
  have w2 : gI σ2 182 n = 0 := by rw [e2, e1]; simp [gI_sI, gI_sL]
  have w7 : gL σ2 187 n = 0 := by rw [e2, e1]; simp [gL_sI, gL_sL]
  have w10 : gI σ2 190 n = 0 := by rw [e2, e1]; simp [gI_sI, gI_sL]
  cases hi' : ins with
  | none =>
    subst hi'
    refine ⟨fun _ => b_Tr_add_94 k180 (b_Tr_add_95 k180 ⟨fun _ => b_Tr_add_112 k180 k3 ⟨v3, fun _ => b_Tr_add_133 k180 k4 ⟨v4, fun _ => b_Tr_add_156 k180 k6 ⟨v6, fun _ => ?_, fun q => absurd rfl q⟩, fun q => absurd rfl q⟩, fun q => absurd rfl q⟩, fun q => absurd rfl q⟩), fun q => absurd (by decide) q⟩
    rw [cn]
    refine ⟨_, rfl, rfl, ((F2.si (P 3 (by omega) (by omega))).si (P 4 (by omega) (by omega))).si (P 6 (by omega) (by omega)), ?_, ?_, ?_, ?_, ?_, ?_⟩
    · simp [gI_sI]; exact w13
    · simp [gI_sI]; exact w1
    · simp [gI_sI]; exact w2
    · simp [gI_sI]; rfl
    · simp [gL_sI]; exact w7
    · simp [gI_sI]; exact w10
  | some u =>
    subst hi'
    have hu := hi u rfl
    have cu : (oI (some u)).toNatClampNeg = u := nI_clamp (by omega)
    show (nI u < 0 → _) ∧ (¬ nI u < 0 → _)
    refine ⟨fun q => absurd q (nI_nn (by omega)), fun _ => ⟨fun q => absurd q (nI_ge hu (by omega)), fun _ => b_Tr_add_95 k180 ⟨fun q => absurd q (by decide), fun _ => b_Tr_add_112 k180 k3 ⟨v3, fun q => absurd q (by decide), fun _ => ⟨vin (by omega) (by decide), b_Tr_add_133 k180 k4 ⟨v4, fun q => absurd q (by decide), fun _ => ⟨vin (by omega) (by decide), b_Tr_add_156 k180 k6 ⟨v6, fun q => absurd q (by decide), fun _ => ⟨vin (by omega) (by decide), vin (by omega) (by decide), ?_⟩⟩⟩⟩⟩⟩⟩⟩⟩
    rw [cn, cu]
    have hne : n ≠ u := by omega
    refine ⟨_, rfl, rfl, (((F2.si (P 3 (by omega) (by omega))).si (P 4 (by omega) (by omega))).si (P 6 (by omega) (by omega))).si (Or.inr (Or.inr ⟨rfl, rfl⟩)), ?_, ?_, ?_, ?_, ?_, ?_⟩
    · simp [gI_sI]; exact w13
    · simp [gI_sI]; exact w1
    · simp [gI_sI, hne]; exact w2
    · simp [gI_sI]
    · simp [gL_sI]; exact w7
    · simp [gI_sI]; exact w10
def CRw (σ : S_t) (R : Nds) (k : Nat) : Prop := gI σ 181 k = nI (rK R k) ∧ gI σ 183 k = oI (rU R k) ∧ gL σ 187 k = lN (rBi R k) ∧ gI σ 188 k = nI (rNa R k) ∧ gI σ 189 k = nI (rNm R k).length ∧ (rK R k = 4 → gI σ 190 k = nI (rTa R k) ∧ gI σ 182 k = nI (rTx R k).length)
def LkC (σ : S_t) (R : Nds) (u : Nat) : Prop := ch (gI σ 66) (gI σ 64 u) (skids R u) ∧ (rK R u ≠ 6 → gI σ 65 u = oI (kids R u).getLast?) ∧ (rU R u = none → gI σ 66 u = -1)
/-- the part that the new one is put behind -/
def paO (R : Nds) (ins : Option Nat) (nm : List Nat) : Option Nat := match ins with
  | none => none
  | some u => if rK R u = 6 then ((skids R u).takeWhile (apN R nm)).getLast? else (kids R u).getLast?
def LiM (n : Nat) : Nat → Nat → Prop := fun p k => p = 64 ∨ p = 65 ∨ p = 66 ∨ ((p = 188 ∨ p = 189) ∧ k = n)
theorem c_inO {E : En_t} {d : Nat} {R : Nds} {ins : Option Nat} {σ : S_t} (h8 : gI σ 63 8 = oI ins) (hR : ∀ k, k < R.1 → gI σ 181 k = nI (rK R k) ∧ rK R k ≤ 6) (hi : ∀ u, ins = some u → u < R.1) (h5 : R.1 ≤ 500) : CI E d m_Re_isInObject [pv E 63] σ (fun r σ' => r = bo (isO R ins) ∧ σ' = σ) := by
  refine CE.of (L := [(0, pv E 63)]) rfl (Nat.le_of_ble_eq_true rfl) rfl (b_Re_isInObject_0 ?_)
  rw [h8]
  cases hi' : ins with
  | none => exact ⟨fun _ => ⟨_, rfl, rfl, rfl⟩, fun q => absurd (by decide) q⟩
  | some u =>
    have hu := hi u hi'
    have cu : (nI u).toNatClampNeg = u := nI_clamp (by omega)
    show (nI u < 0 → _) ∧ (¬ nI u < 0 → vp_in (nI u) 500 ∧ _)
    refine ⟨fun q => absurd q (nI_nn (by omega)), fun _ => ⟨vin (by omega) (by decide), ?_⟩⟩
    show (¬ gI σ 181 (nI u).toNatClampNeg = 6 → _) ∧ (gI σ 181 (nI u).toNatClampNeg = 6 → _)
    rw [cu, (hR u hu).1]
    refine ⟨fun q => ⟨_, rfl, ?_, rfl⟩, fun q => ⟨_, rfl, ?_, rfl⟩⟩
    · have : isO R (some u) = false := decide_eq_false (fun z => q (by rw [z]; rfl))
      rw [this]; rfl
    · have : isO R (some u) = true := decide_eq_true ((nI_eq (b := 6) (by have := (hR u hu).2; omega) (by decide)).mp q)
      rw [this]; rfl
/-- the parts, one more put behind xs -/
theorem ch_put {nx nx' : Nat → Int32} {h h' : Int32} {m : Nat} {xs ys : List Nat} (hc : ch nx h (xs ++ ys)) (hnd : (xs ++ ys).Nodup) (hm : m ∉ xs ++ ys) (h1 : xs = [] → nx' m = h ∧ h' = nI m) (h2 : ∀ x, xs.getLast? = some x → nx' m = nx x ∧ nx' x = nI m ∧ h' = h) (h3 : ∀ c, c ≠ m → xs.getLast? ≠ some c → nx' c = nx c) : ch nx' h' (xs ++ m :: ys) := by
  rcases last_sp xs with ⟨e1, e2⟩ | ⟨a, x, e1, e2⟩
  · subst e1
    obtain ⟨g1, g2⟩ := h1 rfl
    rw [g2]
    exact ch_ins0 hc g1 (fun c hcm => h3 c (fun z => hm (by rw [← z]; exact hcm)) (by simp))
  · obtain ⟨g1, g2, g3⟩ := h2 x e2
    rw [g3]
    have es : xs ++ ys = a ++ x :: ys := by rw [e1, List.append_assoc]; rfl
    have et : xs ++ m :: ys = a ++ x :: m :: ys := by rw [e1, List.append_assoc]; rfl
    rw [es] at hc hnd hm
    rw [et]
    rw [List.nodup_append] at hnd
    refine ch_ins1 hc g2 g1 (fun c hcm => h3 c (fun z => hm (by rw [← z]; exact List.mem_append_left _ hcm)) (fun z => ?_)) (fun c hcm => h3 c (fun z => hm (by rw [← z]; exact List.mem_append_right _ (List.mem_cons_of_mem _ hcm))) (fun z => ?_))
    · rw [e2] at z
      exact hnd.2.2 c hcm x List.mem_cons_self (Option.some.inj z).symm
    · rw [e2] at z
      have := hnd.2.1
      rw [List.nodup_cons] at this
      have e : x = c := Option.some.inj z
      subst e
      exact this.1 hcm
theorem c_link {E : En_t} {d na : Nat} {R : Nds} {L : List Nat} {K : Nat} {ins : Option Nat} {nm : List Nat} {σ : S_t} (hO : RsO R L) (hn : R.1 < 500) (hi : ∀ u, ins = some u → u < R.1) (h8 : gI σ 63 8 = oI ins) (h10 : gI σ 63 10 = nI na) (h11 : gI σ 63 11 = nI nm.length) (h12 : ∀ u, ins = some u → rK R u = 6 → gI σ 63 12 = oI (paO R ins nm)) (hk : ∀ k, k < R.1 → gI σ 181 k = nI (rK R k)) (hL : ∀ u, u < R.1 → LkC σ R u) : CV E (d + 1) m_Re_link [pv E 63, .int (nI R.1)] σ (fun σ' => Fg (LiM R.1) σ σ' ∧ gI σ' 188 R.1 = nI na ∧ gI σ' 189 R.1 = nI nm.length ∧ ∀ u, u < R.1 + 1 → LkC σ' (psh R (nwN K ins R na nm)) u) := by
  have hU := RsO_up hO
  have cn : (nI R.1).toNatClampNeg = R.1 := nI_clamp (by omega)
  have vn : vp_in (nI R.1) 500 := vin hn (by decide)
  have eK : ∀ u, u < R.1 → rK (psh R (nwN K ins R na nm)) u = rK R u := fun u hu => by unfold rK; rw [psh_lt hu]
  have eU : ∀ u, u < R.1 → rU (psh R (nwN K ins R na nm)) u = rU R u := fun u hu => by unfold rU; rw [psh_lt hu]
  have nw : (nwN K ins R na nm).2.2.1 = ins := rfl
  refine CE.of (L := [(0, pv E 63), (1, .int (nI R.1))]) rfl (Nat.le_of_ble_eq_true rfl) rfl (b_Re_link_0 ?_)
  refine ⟨vn, vn, vn, fun v1 e1 => ⟨vn, fun σ2 e2 => ⟨vn, ?_⟩⟩⟩
  rw [cn] at e1 e2 ⊢
  generalize e3 : sI σ2 189 R.1 (gI σ2 63 11) = τ
  have F3 : Fg (LiM R.1) σ τ := by
    rw [← e3, e2]
    exact ((((Fg.rf.si (Or.inl rfl)).si (Or.inr (Or.inl rfl))).si (Or.inr (Or.inr (Or.inl rfl)))).si (Or.inr (Or.inr (Or.inr ⟨Or.inl rfl, rfl⟩)))).si (Or.inr (Or.inr (Or.inr ⟨Or.inr rfl, rfl⟩)))
  have t64 : ∀ k, gI τ 64 k = if k = R.1 then -1 else gI σ 64 k := fun k => by rw [← e3, e2]; simp [gI_sI]
  have t65 : ∀ k, gI τ 65 k = if k = R.1 then -1 else gI σ 65 k := fun k => by rw [← e3, e2]; simp [gI_sI]
  have t66 : ∀ k, gI τ 66 k = if k = R.1 then -1 else gI σ 66 k := fun k => by rw [← e3, e2]; simp [gI_sI]
  have t188 : gI τ 188 R.1 = nI na := by rw [← e3, e2, e1]; simp [gI_sI, h10]
  have t189 : gI τ 189 R.1 = nI nm.length := by rw [← e3, e2]; simp [gI_sI, h11]
  have t8 : gI τ 63 8 = oI ins := by rw [F3.1 63 8 (by unfold LiM; omega)]; exact h8
  rw [t8]
  -- the new node itself
  have new0 : ins ≠ some R.1 := fun z => by have := hi R.1 z; omega
  cases hi' : ins with
  | none =>
    subst hi'
    refine ⟨fun q => absurd rfl q, fun _ => ⟨rfl, F3, t188, t189, fun u hu => ?_⟩⟩
    by_cases g : u = R.1
    · subst g
      have s0 := skids_psh_n (r := nwN K none R na nm) hU new0
      refine ⟨by rw [s0, t64, if_pos rfl]; rfl, fun _ => ?_, fun _ => by rw [t66, if_pos rfl]⟩
      rw [t65, if_pos rfl, kids_psh, if_neg (by rw [nw]; exact new0), kids_out hU (by omega)]; rfl
    · have hu' : u < R.1 := by omega
      obtain ⟨l1, l2, l3⟩ := hL u hu'
      refine ⟨?_, fun z => ?_, fun z => ?_⟩
      · rw [skids_psh_o hu' (by rw [nw]; simp), t64, if_neg g]
        exact ch_congr (fun c hc => by rw [t66, if_neg (by have := (skids_mem.mp hc).1; omega)]) l1
      · rw [eK u hu'] at z
        rw [t65, if_neg g, kids_psh, if_neg (by rw [nw]; simp), List.append_nil]
        exact l2 z
      · rw [eU u hu'] at z
        rw [t66, if_neg g]; exact l3 z
  | some v =>
    subst hi'
    have hv := hi v rfl
    have cv : (nI v).toNatClampNeg = v := nI_clamp (by omega)
    have cv' : (oI (some v)).toNatClampNeg = v := cv
    obtain ⟨lv1, lv2, lv3⟩ := hL v hv
    -- what is put where
    obtain ⟨xs, ys, e1, e2', e3'⟩ : ∃ xs ys, skids R v = xs ++ ys ∧ skids (psh R (nwN K (some v) R na nm)) v = xs ++ R.1 :: ys ∧ paO R (some v) nm = xs.getLast? := by
      by_cases z : rK R v = 6
      · refine ⟨(skids R v).takeWhile (apN R nm), (skids R v).dropWhile (apN R nm), List.takeWhile_append_dropWhile.symm, ?_, if_pos z⟩
        rw [skids_psh_s hv rfl, if_pos z]
        have nN : rNm (psh R (nwN K (some v) R na nm)) R.1 = nm := by unfold rNm; rw [psh_eq]; rfl
        unfold insK
        rw [nN]
        obtain ⟨c1, c2⟩ := tw_congr (p := apN (psh R (nwN K (some v) R na nm)) nm) (q := apN R nm) (l := skids R v) (fun x hx => by unfold apN rNm; rw [psh_lt (skids_mem.mp hx).1])
        rw [c1, c2]
      · have sk : skids R v = kids R v := if_neg z
        refine ⟨kids R v, [], by rw [sk, List.append_nil], by rw [skids_psh_s hv rfl, if_neg z, sk], if_neg z⟩
    have hmem : ∀ c, c ∈ xs ++ ys → c < R.1 ∧ rU R c = some v := fun c hc => skids_mem.mp (by rw [e1]; exact hc)
    have hlast : ∀ x, xs.getLast? = some x → x < R.1 ∧ rU R x = some v := fun x hx => hmem x (List.mem_append_left _ (List.mem_of_getLast? hx))
    have hnd : (xs ++ ys).Nodup := by rw [← e1]; exact skids_nodup R v
    -- the end, for whatever state has these links
    have fin : ∀ τ' : S_t, Fg (LiM R.1) τ τ' → gI τ' 188 R.1 = gI τ 188 R.1 → gI τ' 189 R.1 = gI τ 189 R.1 → gI τ' 66 R.1 = (match xs.getLast? with | none => gI σ 64 v | some x => gI σ 66 x) → gI τ' 64 v = (match xs.getLast? with | none => nI R.1 | some _ => gI σ 64 v) → (∀ x, xs.getLast? = some x → gI τ' 66 x = nI R.1) → (∀ k, k ≠ R.1 → xs.getLast? ≠ some k → gI τ' 66 k = gI σ 66 k) → (∀ k, k ≠ v → gI τ' 64 k = gI τ 64 k) → (∀ k, gI τ' 65 k = gI τ 65 k) → JE E (d + 1) m_Re_link 132 [(0, pv E 63), (1, .int (nI R.1))] [] τ' (fun q σ' => q = none ∧ Fg (LiM R.1) σ σ' ∧ gI σ' 188 R.1 = nI na ∧ gI σ' 189 R.1 = nI nm.length ∧ ∀ u, u < R.1 + 1 → LkC σ' (psh R (nwN K (some v) R na nm)) u) := by
      intro τ' F4 a1 a2 a3 a4 a5 a6 a7 a8
      refine b_Re_link_132 ?_
      have t8' : gI τ' 63 8 = nI v := by rw [F4.1 63 8 (by unfold LiM; omega)]; exact t8
      rw [t8', cv]
      refine ⟨vin (by omega) (by decide), rfl, (F3.tr F4).si (Or.inr (Or.inl rfl)), by rw [gI_sI_n (Or.inl (by decide)), a1]; exact t188, by rw [gI_sI_n (Or.inl (by decide)), a2]; exact t189, fun u hu => ?_⟩
      have x64 : ∀ k, gI (sI τ' 65 v (nI R.1)) 64 k = gI τ' 64 k := fun k => gI_sI_n (Or.inl (by decide))
      have x66 : ∀ k, gI (sI τ' 65 v (nI R.1)) 66 k = gI τ' 66 k := fun k => gI_sI_n (Or.inl (by decide))
      have x66' : gI (sI τ' 65 v (nI R.1)) 66 = gI τ' 66 := funext x66
      by_cases g : u = R.1
      · subst g
        have s0 := skids_psh_n (r := nwN K (some v) R na nm) hU new0
        refine ⟨by rw [s0, x64, a7 _ (by omega), t64, if_pos rfl]; rfl, fun _ => ?_, fun z => ?_⟩
        · rw [gI_sI_n (Or.inr (by omega)), a8, t65, if_pos rfl, kids_psh, if_neg (by rw [nw]; exact new0), kids_out hU (by omega)]; rfl
        · have : rU (psh R (nwN K (some v) R na nm)) R.1 = some v := by unfold rU; rw [psh_eq]; rfl
          rw [this] at z; cases z
      · have hu' : u < R.1 := by omega
        obtain ⟨l1, l2, l3⟩ := hL u hu'
        by_cases y : u = v
        · subst y
          refine ⟨?_, fun z => ?_, fun z => ?_⟩
          · rw [e2', x64, x66']
            refine ch_put (nx := gI σ 66) (h := gI σ 64 u) (by rw [← e1]; exact l1) hnd (fun z => by have := (hmem _ z).1; omega) (fun z => ?_) (fun x hx => ?_) (fun c h1 h2 => a6 c h1 h2)
            · rw [a3, a4, z]; exact ⟨rfl, rfl⟩
            · rw [a3, a4, a5 x hx, hx]; exact ⟨rfl, rfl, rfl⟩
          · rw [gI_sI_s, kids_psh, if_pos nw, List.getLast?_concat]; rfl
          · rw [eU u hu'] at z
            rw [x66, a6 u g (fun w => by have := (hlast u w).2; rw [z] at this; cases this)]
            exact l3 z
        · have hne : (nwN K (some v) R na nm).2.2.1 ≠ some u := by rw [nw]; intro w; exact y (Option.some.inj w).symm
          refine ⟨?_, fun z => ?_, fun z => ?_⟩
          · rw [skids_psh_o hu' hne, x64, x66', a7 u y, t64, if_neg g]
            refine ch_congr (fun c hc => a6 c (by have := (skids_mem.mp hc).1; omega) (fun w => ?_)) l1
            have a := (hlast c w).2
            rw [(skids_mem.mp hc).2] at a
            exact y (Option.some.inj a)
          · rw [eK u hu'] at z
            rw [gI_sI_n (Or.inr y), a8, t65, if_neg g, kids_psh, if_neg hne, List.append_nil]
            exact l2 z
          · rw [eU u hu'] at z
            rw [x66, a6 u g (fun w => by have := (hlast u w).2; rw [z] at this; cases this)]
            exact l3 z
    -- the part ahead
    have at79 : JE E (d + 1) m_Re_link 79 [(0, pv E 63), (1, .int (nI R.1))] [.int (oI xs.getLast?)] τ (fun q σ' => q = none ∧ Fg (LiM R.1) σ σ' ∧ gI σ' 188 R.1 = nI na ∧ gI σ' 189 R.1 = nI nm.length ∧ ∀ u, u < R.1 + 1 → LkC σ' (psh R (nwN K (some v) R na nm)) u) := by
      refine b_Re_link_79 ?_
      rw [t8, cn]
      show (_ → _) ∧ (_ → vp_in (nI v) 500 ∧ _)
      cases hx : xs.getLast? with
      | none =>
        refine ⟨fun q => absurd rfl q, fun _ => ⟨vin (by omega) (by decide), vn, ?_⟩⟩
        rw [gI_sI_n (Or.inl (by decide)), t8]
        rw [cv']
        refine ⟨vin (by omega) (by decide), fun σ1 ee => ?_⟩
        rw [ee]
        refine fin _ ((Fg.rf.si (Or.inr (Or.inr (Or.inl rfl)))).si (Or.inl rfl)) (by simp [gI_sI]) (by simp [gI_sI]) ?_ ?_ (fun x hx' => by rw [hx] at hx'; cases hx') (fun k k1 k2 => ?_) (fun k k1 => ?_) (fun k => by simp [gI_sI])
        · rw [hx]
          show _ = gI σ 64 v
          rw [gI_sI_n (Or.inl (by decide)), gI_sI_s, t64, if_neg (by omega)]
        · rw [hx]
          exact gI_sI_s _ _ _ _
        · rw [gI_sI_n (Or.inl (by decide)), gI_sI_n (Or.inr k1), t66, if_neg k1]
        · rw [gI_sI_n (Or.inr k1), gI_sI_n (Or.inl (by decide))]
      | some x =>
        obtain ⟨x1, x2⟩ := hlast x hx
        have cx : (oI (some x)).toNatClampNeg = x := nI_clamp (by omega)
        refine ⟨fun _ => ⟨vin (by omega) (by decide), vn, vin (by omega) (by decide), ?_⟩, fun q => absurd q.symm (nI_neg1 (by omega))⟩
        rw [cx]
        refine fin _ ((Fg.rf.si (Or.inr (Or.inr (Or.inl rfl)))).si (Or.inr (Or.inr (Or.inl rfl)))) (by simp [gI_sI]) (by simp [gI_sI]) ?_ ?_ (fun y hy => ?_) (fun k k1 k2 => ?_) (fun k k1 => ?_) (fun k => by simp [gI_sI])
        · rw [hx]
          show _ = gI σ 66 x
          rw [gI_sI_n (Or.inr (by omega)), gI_sI_s, t66, if_neg (by omega)]
        · rw [hx]
          show _ = gI σ 64 v
          rw [gI_sI_n (Or.inl (by decide)), gI_sI_n (Or.inl (by decide)), t64, if_neg (by omega)]
        · rw [hx] at hy
          have : x = y := Option.some.inj hy
          subst this
          exact gI_sI_s _ _ _ _
        · have : k ≠ x := fun w => k2 (by rw [hx, w])
          rw [gI_sI_n (Or.inr this), gI_sI_n (Or.inr k1), t66, if_neg k1]
        · rw [gI_sI_n (Or.inl (by decide)), gI_sI_n (Or.inl (by decide))]
    refine ⟨fun _ => ?_, fun q => absurd q.symm (nI_neg1 (by omega))⟩
    refine (c_inO (R := R) (ins := some v) t8 (fun k hk' => ⟨by rw [F3.1 181 k (by unfold LiM; omega)]; exact hk k hk', (hO.2.1 k hk').1⟩) hi (by omega)).mono (fun r4 σ3 hq => ?_)
    obtain ⟨rfl, hq2⟩ := hq
    rw [hq2]
    by_cases z : rK R v = 6
    · have hOb : isO R (some v) = true := decide_eq_true z
      rw [hOb]
      refine ⟨fun q => absurd q (by decide), fun _ => ?_⟩
      have := h12 v rfl z
      rw [F3.1 63 12 (by unfold LiM; omega), this, e3']
      exact at79
    · have hOb : isO R (some v) = false := decide_eq_false z
      rw [hOb]
      refine ⟨fun _ => ?_, fun q => absurd rfl q⟩
      rw [t8]
      rw [cv', t65, if_neg (by omega), lv2 z]
      refine ⟨vin (by omega) (by decide), ?_⟩
      have : xs.getLast? = (kids R v).getLast? := by rw [← e3']; exact if_neg z
      rw [← this]
      exact at79
