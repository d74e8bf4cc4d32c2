/-! the law from its entry to its loop -/
theorem mk_Cp : MKt m_Cp_init 0 := ⟨tb_mem 136 (by decide +kernel) (by decide +kernel), tb_mem 112 (by decide +kernel) (by decide +kernel), tb_mem 137 (by decide +kernel) (by decide +kernel), by decide, by decide, by decide +kernel, rfl, rfl, by decide⟩
theorem mk_Mo : MKt m_Mo_init 0 := ⟨tb_mem 1231 (by decide +kernel) (by decide +kernel), tb_mem 123 (by decide +kernel) (by decide +kernel), tb_mem 1232 (by decide +kernel) (by decide +kernel), by decide, by decide, by decide +kernel, rfl, rfl, by decide⟩
theorem mlw_Cp : Cond.methodLink R_law 9 m_Cp_init.1 ∈ tb := tb_mem 135 (by decide +kernel) (by decide +kernel)
theorem mlw_Mo : Cond.methodLink R_law 12 m_Mo_init.1 ∈ tb := tb_mem 1230 (by decide +kernel) (by decide +kernel)
theorem nkw_Cp : NWt R_law 7 1 := ⟨_, rfl, tb_mem 133 (by decide +kernel) (by decide +kernel), tb_mem 134 (by decide +kernel) (by decide +kernel), tb_mem 112 (by decide +kernel) (by decide +kernel), rfl, by decide⟩
theorem nkw_Mo : NWt R_law 10 0 := ⟨_, rfl, tb_mem 1228 (by decide +kernel) (by decide +kernel), tb_mem 1229 (by decide +kernel) (by decide +kernel), tb_mem 123 (by decide +kernel) (by decide +kernel), rfl, by decide⟩
theorem df_Cp : dfOK 1 := by
  intro r hr k hk
  cases hr
  exact (by decide +kernel : ∀ k, k < 11 → (parseFieldDescriptor ((classes.getD 1 ("", fun _ => ("", "", "", false), 0)).2.1 k).2.2.1).map defaultValue = some (dfK 1 k)) k hk
theorem df_Mo : dfOK 0 := by
  intro r hr k hk
  cases hr
  exact (by decide +kernel : ∀ k, k < 67 → (parseFieldDescriptor ((classes.getD 0 ("", fun _ => ("", "", "", false), 0)).2.1 k).2.2.1).map defaultValue = some (dfK 0 k)) k hk
theorem newK {E : En_t} {S : Sb} {P : List Nat} {σ : S_t} {cells slots pc : Nat} {p : Program} {e : Env} {R : Room} {s : State} {m : MethodId} {args : Array Value} {below : List Frame} {meth : Method} {c' : Code} {cc : ByteArray} {H H0 : Heap} {locs : List Loc} {ls : Array Slot} {A : Nat → Prop} {st : List Value} {Qf : State → Prop} {own : String} {i x c : Nat}
    (hx1 : p.tables.exec = Jvm.exec) (hb1 : c'.code = cc) (htb : ∀ w ∈ tb, w.before args s = true) (hown : s.vm.findClass own = some m.cls) (hK : va_K E.2.1 classes (tysE E) s) (hP : va_P E.2.1 classes (wsK E S σ P) H) (hD : va_D A (wsK E S σ P)) (hS : va_S A H0 H locs) (hA : ∀ q : Nat, H0.size ≤ q → A q) (hO : OKK S σ P)
    (hw : NWt own i c) (hdf : dfOK c) (hk : kindP x = c) (hx : x ∉ P) (hR : cells + 1 ≤ R.cells ∧ slots + nfOf c ≤ R.slots) (hd : decode cc pc = .ok (.new i, 3))
    (kk : ∀ (q : Nat) (H1 : Heap), va_P E.2.1 classes (wsK (upE E x q) S σ (P ++ [x])) H1 → va_D A (wsK (upE E x q) S σ (P ++ [x])) → va_S A H0 H1 locs → W p E.1 e R s m args below meth c' H1 locs (cells + 1) (slots + nfOf c) Qf (F0 m (pc + 3) ls (.ref q :: st))) : W p E.1 e R s m args below meth c' H locs cells slots Qf (F0 m pc ls st) := by
  obtain ⟨r, h1, h2, h3, h4, h5, h6⟩ := hw
  obtain ⟨w1, ⟨ty0, w2⟩, w3, w4⟩ := cw_all r (List.mem_of_getElem? h1)
  refine va_new (ci := c) (fs := (List.range (nfOf c)).map (dfK c)) (C := r.1) (T := r.2.1) (N := r.2.2) hx1 hb1 htb w1 ty0 w2 hown (htb _ h2) (htb _ h3) (htb _ h4) hK hP hD hS hA h1 (fun j hj => ?_) hR.1 (by rw [h5]; exact hR.2) hd (fun q H1 hP1 hD1 hS1 => ?_)
  · have h7 := hdf r h1 j hj
    rw [w2 j hj] at h7
    have h8 : defaultValue (ty0 j) = dfK c j := Option.some.inj h7
    rw [h8]
    unfold vp_V
    rw [List.getD_eq_getElem?_getD, List.getElem?_map, List.getElem?_range (by omega)]
    rfl
  · have ew : wsK (upE E x q) S σ (P ++ [x]) = wsK E S σ P ++ [(q, .inr (c, (List.range (nfOf c)).map (dfK c)))] := wsK_new hO hx (by
      unfold cellK
      rw [hk, if_pos h6]
      congr 3
      funext j
      unfold fvalK dfK
      have hxS : (x, j) ∉ S := fun z => hx (hO.1 x j z).1
      have hg : gR σ x j = none := by
        cases h : gR σ x j with
        | none => rfl
        | some y => exact absurd (hO.2.1 x j y h).1 hx
      by_cases g : fxK c j ∧ (x, j) ∉ S
      · rw [if_pos g]
        obtain ⟨⟨g0, g1, g2, g5⟩, _⟩ := g
        split
        · rename_i z; exact absurd z g0
        · rename_i z; exact absurd z g1
        · rename_i z; exact absurd z g5
        · rfl
      · rw [if_neg g]
        unfold fvalE
        rw [(hO.2.2.1 x hx).1 j, (hO.2.2.1 x hx).2 j, hg]
        split
        · rename_i h; rw [h]; rfl
        · rename_i h; rw [h]; rfl
        · rename_i h; rw [h]; rfl
        · rename_i h; rw [h]; rfl
        · rename_i n0 n1 n2 n5
          exact absurd ⟨⟨n0, n1, n2, n5⟩, hxS⟩ g)
    rw [← ew] at hP1 hD1
    rw [h5]
    exact kk q H1 hP1 hD1 hS1
theorem OKK0 : OKK [] σ0 [] := by
  refine ⟨fun r k h => absurd h List.not_mem_nil, fun r k x h => ?_, fun p _ => ⟨fun _ => rfl, fun _ => rfl⟩, fun i j p h => ?_⟩
  · have h : (none : Option Nat) = some x := h
    cases h
  · have h : ([] : List Nat)[i]? = some p := h
    simp at h
theorem all_P : ∀ p, p < NP → p ∈ ([49] ++ LsCp ++ [0]) ++ LsMo := by decide +kernel
theorem all_Sb : (List.range 192).all (fun p => decide (20 ≤ kindP p) || (List.range (nfOf (kindP p))).all (fun k => !decide (fxK (kindP p) k) || decide ((p, k) ∈ SMo (SCp [])))) = true := by decide +kernel
theorem all_S : ∀ p, p < NP → kindP p < 20 → ∀ k, k < nfOf (kindP p) → fxK (kindP p) k → (p, k) ∈ SMo (SCp []) := by
  intro p hp hk k hk2 hf
  have h := List.all_eq_true.mp all_Sb p (List.mem_range.mpr hp)
  rw [Bool.or_eq_true] at h
  rcases h with h | h
  · exact absurd (of_decide_eq_true h) (by omega)
  · have h2 := List.all_eq_true.mp h k (List.mem_range.mpr hk2)
    rw [Bool.or_eq_true] at h2
    rcases h2 with h2 | h2
    · rw [decide_eq_true hf] at h2; exact absurd h2 (by decide)
    · exact of_decide_eq_true h2
theorem slots_ok : 0 + nfOf 1 + 110004 + nfOf 0 + 246732 ≤ 7302250 := by
  rw [show nfOf 1 = 11 from rfl, show nfOf 0 = 67 from rfl]
  decide
theorem law_start {p : Program} {e : Env} {s : State} {m : MethodId} {below : List Frame} {meth : Method} {c : Code} (l : Launch) {b L : Nat} {xs : Nat → Int32} (hL : L ≤ 3072) (C0 : lw_At p s m meth c b L xs) {d : Nat} (hd : d ≤ 1000) (I : Nat → S_t → Prop) (hI0 : I 0 (σMo (σCp σ0))) (idle : ∀ n σ, I n σ → I (n + 1) σ) (ops : ∀ (E : En_t) n, 6 * n + 6 ≤ L → OpsE E d (I n) (I (n + 1))) : W p l e room_1 s m #[Value.ref b] below meth c s.heap [] 0 0 (lw_Z below #[Value.ref b] s) (entryFrame m ([Value.ref b] : List Value).toArray 4) := by
  obtain ⟨hx, hb, hr, hml, hown, hts, hX, hbl, hlocks, hgv⟩ := id C0
  have htb : ∀ w ∈ tb, w.before #[Value.ref b] s = true := fun w hw => hts w (tb_sub hw)
  obtain ⟨D, cA, hK⟩ := k_start htb hts
  have hN := n_start hts
  obtain ⟨ad, hSt⟩ := stat_start hts hgv
  obtain ⟨E0, hE0⟩ : ∃ E0 : En_t, E0 = (l, D, ad, cA) := ⟨_, rfl⟩
  have hl1 : E0.1 = l := by rw [hE0]
  have hK0 : va_K E0.2.1 classes (tysE E0) s := by rw [hE0]; exact hK
  have had : ∀ p, ro E0 p = ad p := fun p => by rw [hE0]; rfl
  clear hE0 hK
  subst hl1
  have hA : ∀ q : Nat, s.heap.size ≤ q → (fun q : Nat => s.heap.size ≤ q) q := fun _ h => h
  have hS : va_S (fun q : Nat => s.heap.size ≤ q) s.heap s.heap [] := va_S.rf
  have hP : va_P E0.2.1 classes (wsK E0 [] σ0 []) s.heap := fun k q h => by simp [wsK] at h
  have hD : va_D (fun q : Nat => s.heap.size ≤ q) (wsK E0 [] σ0 []) := ⟨fun i j p q h => by simp [wsK] at h, fun k q h => by simp [wsK] at h⟩
  have hl := lv_entry ([.ref b]) (n := 4) (Nat.le_of_ble_eq_true rfl)
  rw [lg_entry_eq]
  generalize (lg_sl ([.ref b]) ++ List.replicate (4 - (lg_sl ([.ref b])).length) Slot.unset).toArray = ls at hl ⊢
  have hl : lv_has ls 4 [(0, .ref b)] := hl
  refine newK (x := 49) (c := 1) hx hb htb hown hK0 hP hD hS hA OKK0 nkw_Cp df_Cp rfl List.not_mem_nil ⟨Nat.le_of_ble_eq_true rfl, Nat.le_of_ble_eq_true rfl⟩ dc_law_0 (fun q1 H hP hD hS => ?_)
  have hO1 : OKK [] σ0 ([] ++ [49]) := OKK0.new List.not_mem_nil
  refine lv_dup hx hb dc_law_3 rfl ?_
  obtain ⟨m1, m2, m3, m4, m5, m6, m7, m8, m9⟩ := mk_Cp
  have hcp := ci_Cp_49 (E := upE E0 49 q1) (S := []) (P := [] ++ [49]) (σ := σ0) (d := 1) (a := q1) (by decide) (by decide +kernel) (ro_up_s E0 49 q1)
  refine K_backW (E := upE E0 49 q1) (S := []) (σ := σ0) (P := [] ++ [49]) (st := [.ref q1]) hD hS hA (va_runI (As := []) (rest := [.ref q1]) (bytes := m_Cp_init.2.1) (maxL := m_Cp_init.2.2.1) (ws := wM m_Cp_init) (rm := rmK (1 + 3) 142 110004) ⟨hx, hb, hml, hown, htb⟩ (hcp H.size) ⟨callB_of 0 htb (wM_good m3) (by unfold wM; rw [m8]) rfl rfl (htb _ m2) (htb _ mlw_Cp) ⟨m4, m5, m6⟩ ⟨Nat.le_of_ble_eq_true rfl, Nat.le_of_ble_eq_true rfl⟩, m7, htb _ m1⟩ ⟨PcK_blind, fun U hU hW => ⟨rfl, by rw [hU], by rw [hU]; exact hP, va_K.moved hW.alike hK0, hN.warm hW, hD.weaken (fun _ _ _ _ => trivial), hO1⟩⟩ rfl rfl hl.1 rfl (by show 2 * 0 + _ ≤ 8; exact Nat.le_of_ble_eq_true rfl) dc_law_4 ⟨Nat.le_of_ble_eq_true rfl, Nat.le_of_ble_eq_true rfl⟩) (fun u H locs hu hP hD hO hS => ?_)
  obtain ⟨E1, S1, P1, σ1⟩ := u
  obtain ⟨hag1, h2, h3, h4⟩ := hu
  simp only at hag1 h2 h3 h4 hP hD hO
  have hag : Ag E0 E1 ([49] ++ LsCp) := (Ag.up E0 49 q1).tr hag1 rfl
  have hq1 : ro E1 49 = q1 := (hag1.2 49 (by decide +kernel)).trans (ro_up_s E0 49 q1)
  have e2 : S1 = SCp [] := h2
  have e3 : P1 = [49] ++ LsCp := h3
  have e4 : σ1 = σCp σ0 := h4
  clear h2 h3 h4 hag1 hcp
  subst e2; subst e3; subst e4
  obtain ⟨l1, D1, ro1, cA1⟩ := E1
  obtain ⟨⟨s1, s2, s3⟩, hro⟩ := hag
  simp only at s1 s2 s3
  subst s1
  have hK1 : va_K D1 classes (tysE (E0.1, D1, ro1, cA1)) s := by
    rw [s2]; show va_K E0.2.1 classes [(cA1 0, .int), (cA1 1, .byte), (cA1 2, .boolean), (cA1 3, .long), (cA1 4, .object "CanonPress$Tree")] s
    rw [s3]; exact hK0
  have hP : va_P D1 classes (wsK (E0.1, D1, ro1, cA1) (SCp []) (σCp σ0) ([49] ++ LsCp)) H := by rw [s2]; rw [s2] at hP; exact hP
  refine lv_astore_n (lv' := [(1, .ref q1), (0, .ref b)]) hx hb dc_law_7 rfl hl (by decide) rfl (fun ls hl => ?_)
  refine newK (E := (E0.1, D1, ro1, cA1)) (x := 0) (c := 0) hx hb htb hown hK1 hP hD hS hA hO nkw_Mo df_Mo rfl (by decide +kernel) ⟨Nat.le_of_ble_eq_true rfl, Nat.le_of_ble_eq_true rfl⟩ dc_law_8 (fun q2 H hP hD hS => ?_)
  have hO2 : OKK (SCp []) (σCp σ0) ([49] ++ LsCp ++ [0]) := hO.new (by decide +kernel)
  refine lv_dup hx hb dc_law_11 rfl ?_
  obtain ⟨m1, m2, m3, m4, m5, m6, m7, m8, m9⟩ := mk_Mo
  have hmo := ci_Mo_0 (E := upE (E0.1, D1, ro1, cA1) 0 q2) (S := SCp []) (P := [49] ++ LsCp ++ [0]) (σ := σCp σ0) (d := 1) (a := q2) (by decide +kernel) (by decide +kernel) (ro_up_s _ 0 q2)
  refine K_backW (E := upE (E0.1, D1, ro1, cA1) 0 q2) (S := SCp []) (σ := σCp σ0) (P := [49] ++ LsCp ++ [0]) (st := [.ref q2]) hD hS hA (va_runI (As := []) (rest := [.ref q2]) (bytes := m_Mo_init.2.1) (maxL := m_Mo_init.2.2.1) (ws := wM m_Mo_init) (rm := rmK (1 + 1) 48 246732) ⟨hx, hb, hml, hown, htb⟩ (hmo H.size) ⟨callB_of 0 htb (wM_good m3) (by unfold wM; rw [m8]) rfl rfl (htb _ m2) (htb _ mlw_Mo) ⟨m4, m5, m6⟩ ⟨Nat.le_of_ble_eq_true rfl, Nat.le_of_ble_eq_true rfl⟩, m7, htb _ m1⟩ ⟨PcK_blind, fun U hU hW => ⟨rfl, by rw [hU], by rw [hU]; exact hP, va_K.moved hW.alike hK1, hN.warm hW, hD.weaken (fun _ _ _ _ => trivial), hO2⟩⟩ rfl rfl hl.1 rfl (by show 2 * 0 + _ ≤ 8; exact Nat.le_of_ble_eq_true rfl) dc_law_12 ⟨Nat.le_of_ble_eq_true rfl, Nat.le_of_ble_eq_true rfl⟩) (fun u H locs hu hP hD hO hS => ?_)
  obtain ⟨E2, S2, P2, σ2⟩ := u
  obtain ⟨hag2, h2, h3, h4⟩ := hu
  simp only at hag2 h2 h3 h4 hP hD hO
  have hq2 : ro E2 0 = q2 := (hag2.2 0 (by decide +kernel)).trans (ro_up_s _ 0 q2)
  have hq1' : ro E2 49 = q1 := (hag2.2 49 (by decide +kernel)).trans ((ro_up_n (by decide)).trans hq1)
  have hro2 : ∀ p, 1000 ≤ p → ro E2 p = ad p := fun p hp => by
    have n1 : p ∉ LsMo := fun h => by
      have : ∀ x ∈ LsMo, x < 1000 := by decide +kernel
      have := this p h
      omega
    have n2 : p ∉ [49] ++ LsCp := fun h => by
      have : ∀ x ∈ [49] ++ LsCp, x < 1000 := by decide +kernel
      have := this p h
      omega
    rw [hag2.2 p n1, ro_up_n (by omega)]
    exact (hro p n2).trans (had p)
  have e2 : S2 = SMo (SCp []) := h2
  have e3 : P2 = [49] ++ LsCp ++ [0] ++ LsMo := h3
  have e4 : σ2 = σMo (σCp σ0) := h4
  clear h2 h3 h4 hmo
  subst e2; subst e3; subst e4
  obtain ⟨l2, D2, ro2, cA2⟩ := E2
  obtain ⟨⟨t1, t2, t3⟩, -⟩ := hag2
  simp only [upE] at t1 t2 t3
  subst t1
  have hK2 : va_K D2 classes (tysE (E0.1, D2, ro2, cA2)) s := by
    rw [t2]; show va_K D1 classes [(cA2 0, .int), (cA2 1, .byte), (cA2 2, .boolean), (cA2 3, .long), (cA2 4, .object "CanonPress$Tree")] s
    rw [t3]; exact hK1
  have hP : va_P D2 classes (wsK (E0.1, D2, ro2, cA2) (SMo (SCp [])) (σMo (σCp σ0)) ([49] ++ LsCp ++ [0] ++ LsMo)) H := by rw [t2]; rw [t2] at hP; exact hP
  obtain ⟨hPE, hok, hAE⟩ := fin_world (E := (E0.1, D2, ro2, cA2)) hP hD all_P all_S
  have hStE : StatE (E0.1, D2, ro2, cA2) s s.heap := hSt (E0.1, D2, ro2, cA2) hro2 hAE
  refine lv_astore_n (lv' := [(2, .ref q2), (1, .ref q1), (0, .ref b)]) hx hb dc_law_15 rfl hl (by decide) rfl (fun ls hl => ?_)
  refine lv_iconst (v := 0) hx hb dc_law_16 (by decide) ?_
  refine lv_istore_n (lv' := [(3, .int 0), (2, .ref q2), (1, .ref q1), (0, .ref b)]) hx hb dc_law_17 rfl hl (by decide) rfl (fun ls hl => ?_)
  have hCW : CtxW (p, e, s, m, below, meth, c, b, L, xs) (E0.1, D2, ro2, cA2) := ⟨C0, hK2, hStE, hok, hAE⟩
  have hJ := law_loop (cells := 192) (slots := 0 + nfOf 1 + 110004 + nfOf 0 + 246732) (d := d) (I := I) hCW hL hd ⟨by decide, slots_ok⟩ (fun n hn => ops _ n hn) idle (L + 6) 0 (σMo (σCp σ0)) (by show L + 6 ≤ _; omega) (by omega) hI0
  have hq2' : ro (E0.1, D2, ro2, cA2) 0 = q2 := hq2
  have hq1'' : ro (E0.1, D2, ro2, cA2) 49 = q1 := hq1'
  unfold pv at hJ
  rw [hq2', hq1''] at hJ
  exact hJ H locs ls hPE hS hl
