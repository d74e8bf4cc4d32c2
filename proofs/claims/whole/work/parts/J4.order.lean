/-! the model puts the parts of an object into their order -/
theorem gD_mid {xs ys : List Nat} {k : Nat} {i : Nat} : (xs ++ k :: ys).getD i 0 = if i < xs.length then xs.getD i 0 else if i = xs.length then k else ys.getD (i - xs.length - 1) 0 := by
  by_cases h : i < xs.length
  · rw [if_pos h, gD_l h]
  · rw [if_neg h, List.getD_eq_getElem?_getD, List.getElem?_append_right (by omega)]
    by_cases g : i = xs.length
    · rw [if_pos g, g, Nat.sub_self]; rfl
    · rw [if_neg g, show i - xs.length = (i - xs.length - 1) + 1 by omega, List.getElem?_cons_succ, List.getD_eq_getElem?_getD]
      rw [Nat.add_sub_cancel]
theorem ch_idx {nx : Nat → Int32} {S : List Nat} (h : ∀ i, i < S.length → nx (S.getD i 0) = if i + 1 < S.length then nI (S.getD (i + 1) 0) else -1) : ∀ (m i : Nat), i + m = S.length → ch nx (if i < S.length then nI (S.getD i 0) else -1) (S.drop i) := by
  intro m
  induction m with
  | zero =>
    intro i hi
    rw [List.drop_eq_nil_of_le (by omega), if_neg (by omega)]; rfl
  | succ m ih =>
    intro i hi
    have hl : i < S.length := by omega
    rw [List.drop_eq_getElem_cons hl, if_pos hl]
    have e : S.getD i 0 = S[i] := by rw [List.getD_eq_getElem?_getD, List.getElem?_eq_getElem hl]; rfl
    refine ⟨by rw [e], ?_⟩
    rw [← e, h i hl]
    exact ih (i + 1) (by omega)
def OdM (u : Nat) (ks : List Nat) : Nat → Nat → Prop := fun p k => p = 41 ∨ (p = 33 ∧ k ∈ ks) ∨ (p = 31 ∧ k = u)
theorem srt_pw {R : Nds} {ks : List Nat} (h : (srt R ks).Pairwise (nlt R)) : ks.Pairwise (fun a b => rNm R a ≠ rNm R b) := by
  have h1 : (srt R ks).Pairwise (fun a b => rNm R a ≠ rNm R b) := h.imp (fun {a b} q z => by unfold nlt at q; rw [z, cmN_0.mpr rfl] at q; omega)
  exact ((srt_perm R ks).pairwise_iff (fun {a b} q z => q z.symm)).mp h1
theorem c_orderM {E : En_t} {d u : Nat} {R : Nds} {L : List Nat} {σ : S_t} (hO : RsO R L) (hu : u < R.1) (h6 : rK R u = 6) (hL : bls L ≤ 2000) (hR : RlM σ L) (hrow : ∀ k, k < R.1 → MRw σ R k) (hc : ch (gI σ 33) (gI σ 31 u) (kids R u)) : CV E (d + 2) m_Mo_order [pv E 0, .int (nI u)] σ (fun σ' => Fg (OdM u (kids R u)) σ σ' ∧ ch (gI σ' 33) (gI σ' 31 u) (skids R u)) := by
  have h5 := hO.1
  have hLl := bls_len L
  have l39 : lenP 39 = 2100 := by decide
  have k33 : kindP 33 = 20 := by decide
  have l33 : lenP 33 = 500 := by decide
  have cu : (nI u).toNatClampNeg = u := nI_clamp (by omega)
  have es : skids R u = srt R (kids R u) := if_pos h6
  have hpw := srt_pw (R := R) (ks := kids R u) (by rw [← es]; exact hO.2.2 u hu h6)
  have klen : (kids R u).length ≤ R.1 := by rw [← (skids_perm R u).length_eq]; exact skids_len R u
  -- the array of those sorted so far
  let Ar : S_t → List Nat → Prop := fun τ S => ∀ i, i < S.length → gI τ 41 i = nI (S.getD i 0)
  have names : ∀ {k}, k ∈ kids R u → k < R.1 ∧ Ltrs (rNm R k) ∧ Slc L (rNa R k) (rNm R k) ∧ gI σ 34 k = nI (rNa R k) ∧ gI σ 35 k = nI (rNm R k).length := fun {k} hk => by
    obtain ⟨a, b⟩ := kids_mem.mp hk
    have hN := hO.2.1 k a
    obtain ⟨_, _, r3, r4, _, _⟩ := hrow k a
    have hOb : isO R (rU R k) = true := by rw [b]; exact decide_eq_true h6
    rw [if_pos hOb] at r4
    exact ⟨a, hN.2.2.2.2.2.2.1, hN.2.2.2.2.2.2.2.2.2.2.1, r3, r4⟩
  let Q : Option Value → S_t → Prop := fun r σ' => r = none ∧ Fg (OdM u (kids R u)) σ σ' ∧ ch (gI σ' 33) (gI σ' 31 u) (skids R u)
  -- behind the sorting
  have last : ∀ (m i : Nat) (τ : S_t), i + m = (skids R u).length → Fg (fun p k => p = 41 ∨ (p = 33 ∧ k ∈ kids R u)) σ τ → Ar τ (skids R u) → (∀ i', i' < i → gI τ 33 ((skids R u).getD i' 0) = if i' + 1 < (skids R u).length then nI ((skids R u).getD (i' + 1) 0) else -1) → JE E (d + 2) m_Mo_order 120 [(0, pv E 0), (1, .int (nI u)), (2, .int (nI (skids R u).length)), (3, .int (nI i))] [] τ Q := by
    have sl := skids_len R u
    have mem : ∀ i, i < (skids R u).length → (skids R u).getD i 0 ∈ skids R u := fun i hi => by rw [List.getD_eq_getElem?_getD, List.getElem?_eq_getElem hi]; exact List.getElem_mem _
    intro m
    induction m with
    | zero =>
      intro i τ hi hF hA hnx
      have : i = (skids R u).length := by omega
      subst this
      have hidx := ch_idx (nx := gI τ 33) (S := skids R u) (fun i' hi' => hnx i' hi') (skids R u).length 0 (by omega)
      rw [List.drop_zero] at hidx
      refine b_Mo_order_120 (d := d + 1) ⟨fun _ => ⟨fun z => ?_, fun z => ?_⟩, fun z => absurd (Int32.le_refl _) z⟩
      · have e0 : (skids R u).length = 0 := Nat.eq_zero_of_not_pos (fun y => absurd z (nI_nle' y (by omega)))
        have ek : kids R u = [] := List.eq_nil_of_length_eq_zero (by rw [← (skids_perm R u).length_eq]; exact e0)
        have esn : skids R u = [] := List.eq_nil_of_length_eq_zero e0
        refine ⟨rfl, hF.mono (fun p k y => by unfold OdM; exact y.elim Or.inl (fun x => Or.inr (Or.inl x))), ?_⟩
        rw [esn, hF.1 31 u (by omega)]
        rw [ek] at hc
        exact hc
      · have hpos : 0 < (skids R u).length := Nat.pos_of_ne_zero (fun y => z (by rw [y]; decide))
        refine ⟨vin (n := 0) (by decide) (by decide), vin (by omega) (by decide), ?_⟩
        rw [cu, show (0 : Int32).toNatClampNeg = 0 from rfl, hA 0 hpos]
        have F1 : Fg (fun p k => p = 31 ∧ k = u) τ (sI τ 31 u (nI ((skids R u).getD 0 0))) := Fg.rf.si ⟨rfl, rfl⟩
        refine ⟨rfl, (hF.mono (fun p k y => by unfold OdM; exact y.elim Or.inl (fun x => Or.inr (Or.inl x)))).tr (F1.mono (fun p k y => Or.inr (Or.inr y))), ?_⟩
        rw [gI_sI_s]
        rw [if_pos hpos] at hidx
        exact ch_congr (fun c _ => gI_sI_n (Or.inl (by decide))) hidx
    | succ m ih =>
      intro i τ hi hF hA hnx
      have hil : i < (skids R u).length := by omega
      have si := skids_mem.mp (mem i hil)
      have ci : (nI ((skids R u).getD i 0)).toNatClampNeg = (skids R u).getD i 0 := nI_clamp (by omega)
      have go : ∀ v : Int32, v = (if i + 1 < (skids R u).length then nI ((skids R u).getD (i + 1) 0) else -1) → JE E (d + 2) m_Mo_order 154 [(0, pv E 0), (1, .int (nI u)), (2, .int (nI (skids R u).length)), (3, .int (nI i))] [.int v, .int (nI ((skids R u).getD i 0)), pv E 33] τ Q := by
        intro v hv
        refine b_Mo_order_154 (d := d + 1) k33 ⟨by rw [l33]; exact vin (by omega) (by decide), ?_⟩
        rw [ci, nI_1]
        have F1 : Fg (fun p k => p = 41 ∨ (p = 33 ∧ k ∈ kids R u)) τ (sI τ 33 ((skids R u).getD i 0) v) := Fg.rf.si (Or.inr ⟨rfl, kids_mem.mpr si⟩)
        refine ih (i + 1) _ (by omega) (hF.tr F1) (fun i' hi' => by rw [gI_sI_n (Or.inl (by decide))]; exact hA i' hi') (fun i' hi' => ?_)
        by_cases g : i' = i
        · subst g
          rw [gI_sI_s]; exact hv
        · rw [gI_sI_n (Or.inr (fun z => ?_))]
          · exact hnx i' (by omega)
          · have a : (skids R u)[i']'(by omega) = (skids R u)[i] := by
              have e1 : (skids R u).getD i' 0 = (skids R u)[i']'(by omega) := by rw [List.getD_eq_getElem?_getD, List.getElem?_eq_getElem (by omega)]; rfl
              have e2 : (skids R u).getD i 0 = (skids R u)[i] := by rw [List.getD_eq_getElem?_getD, List.getElem?_eq_getElem hil]; rfl
              rw [← e1, ← e2]; exact z
            exact g ((List.getElem_inj (skids_nodup R u)).mp a)
      refine b_Mo_order_120 (d := d + 1) ⟨fun z => absurd z (nI_ge hil (by omega)), fun _ => ⟨vin (by omega) (by decide), ?_⟩⟩
      rw [nI_1, nI_clamp (show i < 2 ^ 31 by omega), hA i hil]
      refine ⟨fun z => go _ ?_, fun z => ⟨vin ?_ (by decide), ?_⟩⟩
      · rw [if_neg (fun y => absurd z (nI_ge y (by omega)))]
      · have : i + 1 < (skids R u).length := Nat.not_le.mp (fun y => z (nI_le y (by omega)))
        omega
      · have hl2 : i + 1 < (skids R u).length := Nat.not_le.mp (fun y => z (nI_le y (by omega)))
        rw [nI_clamp (show i + 1 < 2 ^ 31 by omega), hA (i + 1) hl2]
        exact go _ (by rw [if_pos hl2])
  -- the sorting
  have outer : ∀ (ys xs : List Nat) (h : Int32) (τ : S_t), kids R u = xs ++ ys → ch (gI σ 33) h ys → Fg (fun p k => p = 41) σ τ → Ar τ (srt R xs) → (srt R xs).Pairwise (nlt R) → JE E (d + 2) m_Mo_order 9 [(0, pv E 0), (1, .int (nI u)), (2, .int (nI xs.length)), (3, .int h)] [] τ Q := by
    intro ys
    induction ys with
    | nil =>
      intro xs h τ e hch hF hA hs
      have h1 : h = -1 := hch
      rw [List.append_nil] at e
      refine b_Mo_order_9 (d := d + 1) ⟨fun _ => ?_, fun z => absurd (by rw [h1]; decide) z⟩
      have el : xs.length = (skids R u).length := by rw [(skids_perm R u).length_eq, e]
      rw [el]
      refine last (skids R u).length 0 τ (by omega) (hF.mono (fun p k y => Or.inl y)) ?_ (fun i' hi' => absurd hi' (Nat.not_lt_zero i'))
      rw [es, e]; exact hA
    | cons k ys ih =>
      intro xs h τ e hch hF hA hs
      obtain ⟨e1, e2⟩ := hch
      subst e1
      have hk : k ∈ kids R u := by rw [e]; exact List.mem_append_right _ List.mem_cons_self
      obtain ⟨k1, k2, k3, k4, k5⟩ := names hk
      have ck : (nI k).toNatClampNeg = k := nI_clamp (by omega)
      have xlen : xs.length < 500 := by have : (kids R u).length = xs.length + (ys.length + 1) := by rw [e, List.length_append, List.length_cons]
                                        omega
      have sx : (srt R xs).length = xs.length := (srt_perm R xs).length_eq
      have accm : ∀ x, x ∈ srt R xs → x ∈ kids R u ∧ rNm R x ≠ rNm R k := fun x hx => by
        have hx' := (srt_perm R xs).mem_iff.mp hx
        refine ⟨by rw [e]; exact List.mem_append_left _ hx', ?_⟩
        rw [e, List.pairwise_append] at hpw
        exact hpw.2.2 x hx' k List.mem_cons_self
      -- put it in, from behind
      have inner : ∀ (m : Nat) (bs cs : List Nat) (τ2 : S_t), bs.length = m → srt R xs = bs ++ cs → (∀ y ∈ cs, cmN (rNm R k) (rNm R y) < 0) → Fg (fun p k => p = 41) σ τ2 → (∀ i, i < bs.length → gI τ2 41 i = nI (bs.getD i 0)) → (∀ i, i < cs.length → gI τ2 41 (bs.length + 1 + i) = nI (cs.getD i 0)) → JE E (d + 2) m_Mo_order 16 [(0, pv E 0), (1, .int (nI u)), (2, .int (nI xs.length)), (3, .int (nI k)), (4, .int (nI bs.length))] [] τ2 Q := by
        have put : ∀ (bs cs : List Nat) (τ2 : S_t), srt R xs = bs ++ cs → (∀ y ∈ cs, cmN (rNm R k) (rNm R y) < 0) → (∀ x ∈ bs, 0 ≤ cmN (rNm R k) (rNm R x)) → Fg (fun p k => p = 41) σ τ2 → (∀ i, i < bs.length → gI τ2 41 i = nI (bs.getD i 0)) → (∀ i, i < cs.length → gI τ2 41 (bs.length + 1 + i) = nI (cs.getD i 0)) → JE E (d + 2) m_Mo_order 97 [(0, pv E 0), (1, .int (nI u)), (2, .int (nI xs.length)), (3, .int (nI k)), (4, .int (nI bs.length))] [] τ2 Q := by
          intro bs cs τ2 eb hcs hbs hF2 hA1 hA2
          have bl' : bs.length ≤ xs.length := by rw [← sx, eb, List.length_append]; omega
          refine b_Mo_order_97 (d := d + 1) ⟨vin (by omega) (by decide), vin (by omega) (by decide), ?_⟩
          rw [nI_clamp (show bs.length < 2 ^ 31 by omega), ck, nI_1, gI_sI_n (Or.inl (by decide)), hF2.1 33 k (by omega)]
          have ei : srt R (xs ++ [k]) = bs ++ k :: cs := by rw [srt_snoc, eb]; exact insK_mid hbs hcs
          have := ih (xs ++ [k]) (gI σ 33 k) (sI τ2 41 bs.length (nI k)) (by rw [e, List.append_assoc]; rfl) e2 (hF2.si rfl) (fun i hi => ?_) (by
            rw [srt_snoc]
            exact insK_sorted hs (fun x hx => (names (accm x hx).1).2.1) k2 (fun x hx => (accm x hx).2))
          · rw [List.length_append] at this
            exact this
          · rw [ei] at hi ⊢
            rw [List.length_append, List.length_cons] at hi
            rw [gD_mid]
            by_cases g : i < bs.length
            · rw [if_pos g, gI_sI_n (Or.inr (by omega))]; exact hA1 i g
            · rw [if_neg g]
              by_cases g2 : i = bs.length
              · rw [if_pos g2, g2, gI_sI_s]
              · rw [if_neg g2, gI_sI_n (Or.inr g2)]
                have := hA2 (i - bs.length - 1) (by omega)
                rw [show bs.length + 1 + (i - bs.length - 1) = i by omega] at this
                exact this
        intro m
        induction m with
        | zero =>
          intro bs cs τ2 hm eb hcs hF2 hA1 hA2
          have : bs = [] := List.eq_nil_of_length_eq_zero hm
          subst this
          exact b_Mo_order_16 (d := d + 1) ⟨fun _ => put [] cs τ2 eb hcs (fun x hx => absurd hx List.not_mem_nil) hF2 hA1 hA2, fun z => absurd (by show nI 0 ≤ 0; decide) z⟩
        | succ m ihm =>
          intro bs cs τ2 hm eb hcs hF2 hA1 hA2
          rcases last_sp bs with ⟨b1, _⟩ | ⟨a, x, b1, _⟩
          · rw [b1] at hm; cases hm
          have al : a.length = m := by rw [b1, List.length_append] at hm; simp at hm; omega
          have xm : x ∈ srt R xs := by rw [eb, b1]; exact List.mem_append_left _ (List.mem_append_right _ List.mem_cons_self)
          obtain ⟨x0, xne⟩ := accm x xm
          obtain ⟨x1, x2, x3, x4, x5⟩ := names x0
          have cx : (nI x).toNatClampNeg = x := nI_clamp (by omega)
          have bl' : bs.length ≤ xs.length := by rw [← sx, eb, List.length_append]; omega
          have v41 : gI τ2 41 m = nI x := by
            rw [hA1 m (by omega), b1, gD_mid, if_neg (by omega), if_pos al.symm]
          have n2 : ∀ p k, p ≠ 41 → gI τ2 p k = gI σ p k := fun p k hp => hF2.1 p k hp
          refine b_Mo_order_16 (d := d + 1) ⟨fun z => absurd z (nI_nle' (by omega) (by omega)), fun _ => ?_⟩
          rw [hm, nI_m1, nI_clamp (show m < 2 ^ 31 by omega), v41, cx, ck, n2 34 k (by decide), n2 35 k (by decide), n2 34 x (by decide), n2 35 x (by decide), k4, k5, x4, x5]
          refine ⟨vin (by omega) (by decide), vin (by omega) (by decide), vin (by omega) (by decide), vin (by omega) (by decide), vin (by omega) (by decide), vin (by omega) (by decide), ?_⟩
          have hR2 : RlM τ2 L := RlM_fg hF2 (by omega) (fun k => by omega) hR
          refine (c_compared (d := d) (o1 := 39) (o2 := 39) (s := rNm R k) (t := rNm R x) (by decide) (by decide) (RlM_str hR2 k3) (RlM_str hR2 x3) (by rw [l39]; have := k3.1; omega) (by rw [l39]; have := x3.1; omega) (by rw [l39]; decide) (by rw [l39]; decide) k2 x2).mono (fun r2 σ1 hq => ?_)
          obtain ⟨⟨q1, q2⟩, hσ⟩ := hq
          rw [hσ]
          refine ⟨fun z => ?_, fun z => ⟨vin (by omega) (by decide), vin (by omega) (by decide), ?_⟩⟩
          · -- here it goes
            have hxk : 0 ≤ cmN (rNm R k) (rNm R x) := by
              have : ¬ cmN (rNm R k) (rNm R x) < 0 := fun y => absurd (q1.mpr y) (Int32.not_lt.mpr z)
              omega
            have hxk0 : cmN (rNm R k) (rNm R x) ≠ 0 := fun y => xne (cmN_0.mp y).symm
            have hlt : cmN (rNm R x) (rNm R k) < 0 := (cmN_anti x2 k2).mpr (by omega)
            have P := put bs cs τ2 eb hcs (fun y hy => ?_) hF2 hA1 hA2
            · rw [hm] at P; exact P
            · rw [b1] at hy
              rcases List.mem_append.mp hy with w | w
              · have ym : y ∈ srt R xs := by rw [eb, b1]; exact List.mem_append_left _ (List.mem_append_left _ w)
                have hyx : cmN (rNm R y) (rNm R x) < 0 := by
                  rw [eb, b1, List.pairwise_append, List.pairwise_append] at hs
                  exact hs.1.2.2 y w x List.mem_cons_self
                have y2 := (names (accm y ym).1).2.1
                have := (cmN_anti y2 k2).mp (cmN_trans y2 x2 k2 hyx hlt)
                omega
              · rw [List.mem_singleton] at w
                rw [w]; exact hxk
          · -- one place on
            have hneg : cmN (rNm R k) (rNm R x) < 0 := q1.mp (Int32.not_le.mp z)
            rw [nI_clamp (show m + 1 < 2 ^ 31 by omega), v41, nI_dec]
            have P := ihm a (x :: cs) (sI τ2 41 (m + 1) (nI x)) al (by rw [eb, b1, List.append_assoc]; rfl) (fun y hy => by
              rcases List.mem_cons.mp hy with w | w
              · rw [w]; exact hneg
              · exact hcs y w) (hF2.si rfl) (fun i hi => by
              rw [gI_sI_n (Or.inr (by omega)), hA1 i (by omega), b1, gD_l hi]) (fun i hi => by
              rw [al]
              cases i with
              | zero => rw [Nat.add_zero, gI_sI_s]; rfl
              | succ i =>
                rw [gI_sI_n (Or.inr (by omega))]
                have := hA2 i (by simpa using hi)
                rw [hm] at this
                rw [show m + 1 + (i + 1) = m + 1 + 1 + i by omega, this]
                rfl)
            rw [al] at P
            exact P
      refine b_Mo_order_9 (d := d + 1) ⟨fun z => absurd z (nI_nn (by omega)), fun _ => ?_⟩
      have P := inner xs.length (srt R xs) [] τ sx (by rw [List.append_nil]) (fun y hy => absurd hy List.not_mem_nil) hF hA (fun i hi => absurd hi (Nat.not_lt_zero i))
      rw [sx] at P
      exact P
  refine CE.of (L := [(0, pv E 0), (1, .int (nI u))]) rfl (Nat.le_of_ble_eq_true rfl) rfl (b_Mo_order_0 (d := d + 1) ⟨vin (by omega) (by decide), ?_⟩)
  rw [cu]
  exact outer (kids R u) [] _ σ rfl hc Fg.rf (fun i hi => absurd hi (Nat.not_lt_zero i)) List.Pairwise.nil
