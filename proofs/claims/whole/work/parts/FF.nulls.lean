def bo (b : Bool) : Int32 := if b = true then 1 else 0
theorem nI_is0 (n : Nat) (h : n < 2 ^ 31) : nI n = 0 ↔ n = 0 := nI_eq (b := 0) h (by decide)
theorem nlW_end {R : List Row} {n j ed : Nat} (h : ed ≤ j) : nlW R n j ed = false := by
  cases n with
  | zero => rfl
  | succ n => exact if_neg (Nat.not_lt.mpr h)
theorem nlW_yes {R : List Row} {n j ed : Nat} (h : j < ed) (h0 : dK R j = 0) (h1 : 0 < j) : nlW R (n + 1) j ed = true := by
  show (if j < ed then _ else _) = true
  rw [if_pos h, if_pos ⟨h0, h1⟩]
theorem nlW_no {R : List Row} {n j ed : Nat} (h : j < ed) (h0 : ¬ (dK R j = 0 ∧ 0 < j)) : nlW R (n + 1) j ed = nlW R n (if dK R j = 5 then j + siz (dT R) R.length j else j + 1) ed := by
  show (if j < ed then (if dK R j = 0 ∧ 0 < j then true else nlW R n (if dK R j = 5 then j + siz (dT R) R.length j else j + 1) ed) else false) = _
  rw [if_pos h, if_neg h0]
/-- a value within another ends with it -/
theorem siz_nest {f : Nat → Nat} {n j p : Nat} (hj : j < n) (h1 : j < p) (h2 : p < j + siz f n j) : p + siz f n p ≤ j + siz f n j := by
  obtain ⟨a1, a2, a3, a4⟩ := siz_spec (f := f) (n := n) hj
  obtain ⟨b1, b2, b3, b4⟩ := siz_spec (f := f) (n := n) (k := p) (by omega)
  rcases Nat.lt_or_ge (j + siz f n j) (p + siz f n p) with q | q
  · have c1 := b3 (j + siz f n j) (by omega) q
    have c2 := a4 (by omega)
    have c3 := a3 p h1 h2
    omega
  · exact q
theorem c_hasNullPart {E : En_t} {d r t : Nat} {R : List Row} {σ : S_t} (ht : kindP t = 11) (hR : gR σ 71 1 = some t) (hW : WfR R) (hT : TrD σ t R) (hr : r < R.length) : CI E (d + 1) m_We_hasNullPart [pv E 71, .int (nI r)] σ (fun v σ' => v = bo (nl R r) ∧ σ' = σ) := by
  have h5 := hW.2.2.2.2.1
  obtain ⟨s1, s2, s3, s4⟩ := siz_spec (f := dT R) (n := R.length) hr
  have loop : ∀ (n j c : Nat), (r + siz (dT R) R.length r) - j ≤ n → c + ((r + siz (dT R) R.length r) - j) ≤ 500 → r ≤ j → j ≤ r + siz (dT R) R.length r → JE E (d + 1) m_We_hasNullPart 27 [(0, pv E 71), (2, .int (nI (r + siz (dT R) R.length r))), (3, .int (nI j)), (4, .int (nI c))] [] σ (fun q σ' => ∃ v, q = some (.int v) ∧ v = bo (nlW R n j (r + siz (dT R) R.length r)) ∧ σ' = σ) := by
    intro n
    induction n with
    | zero =>
      intro j c hn hc hrj hj
      have : j = r + siz (dT R) R.length r := by omega
      subst this
      exact b_We_hasNullPart_27 ⟨fun _ => ⟨_, rfl, rfl, rfl⟩, fun _ => ⟨fun _ => ⟨_, rfl, rfl, rfl⟩, fun q => absurd (Int32.le_refl _) q⟩⟩
    | succ n ih =>
      intro j c hn hc hrj hj
      by_cases hlt : j < r + siz (dT R) R.length r
      · have hjR : j < R.length := by omega
        have cj : (nI j).toNatClampNeg = j := nI_clamp (by omega)
        obtain ⟨z1, z2, z3, z4⟩ := siz_spec (f := dT R) (n := R.length) hjR
        have row := hT.1.2.2.2.2 j hjR
        have k6 := (hW.2.1 j hjR).1
        have hin : j + siz (dT R) R.length j ≤ r + siz (dT R) R.length r := by
          rcases Nat.eq_or_lt_of_le hrj with q | q
          · subst q; exact Nat.le_refl _
          · exact siz_nest hr q hlt
        have nx : ¬ (dK R j = 0 ∧ 0 < j) → JE E (d + 1) m_We_hasNullPart 58 [(0, pv E 71), (2, .int (nI (r + siz (dT R) R.length r))), (3, .int (nI j)), (4, .int (nI c))] [] σ (fun q σ' => ∃ v, q = some (.int v) ∧ v = bo (nlW R (n + 1) j (r + siz (dT R) R.length r)) ∧ σ' = σ) := by
          intro hno
          rw [nlW_no hlt hno]
          refine b_We_hasNullPart_58 ⟨t, hR, ht, vin (by omega) (by decide), ?_⟩
          rw [cj, row.1]
          refine ⟨fun q => b_We_hasNullPart_89 ?_, fun q => ⟨t, hR, ht, vin (by omega) (by decide), fun r3 e3 => b_We_hasNullPart_89 ?_⟩⟩
          · have : ¬ dK R j = 5 := fun z => q (by rw [z]; rfl)
            rw [if_neg this, nI_1, nI_1]
            exact ih (j + 1) (c + 1) (by omega) (by omega) (by omega) (by omega)
          · have : dK R j = 5 := (nI_eq (b := 5) (by omega) (by decide)).mp q
            rw [if_pos this, e3, hT.2 j hjR, show mxI (1 : Int32) (nI (siz (dT R) R.length j)) = nI (siz (dT R) R.length j) from by
              unfold mxI
              by_cases w : (1 : Int32) < nI (siz (dT R) R.length j)
              · rw [if_pos w]
              · rw [if_neg w]
                have : ¬ 1 < siz (dT R) R.length j := fun y => w (nI_lt (a := 1) (by omega) (by omega))
                rw [show siz (dT R) R.length j = 1 by omega]
                rfl, nI_add, nI_1]
            exact ih _ (c + 1) (by omega) (by omega) (by omega) (by omega)
        refine b_We_hasNullPart_27 ⟨fun q => absurd q (nI_ge (b := 500) (by omega) (by omega)), fun _ => ⟨fun q => absurd q (nI_ge (by omega) (by omega)), fun _ => ⟨t, hR, ht, vin (by omega) (by decide), ?_⟩⟩⟩
        rw [cj, row.1]
        refine ⟨fun q => nx (fun z => q (by rw [z.1]; rfl)), fun q => ⟨fun q2 => nx (fun z => absurd q2 (nI_ge (b := j) (a := 0) z.2 (by omega))), fun q2 => ?_⟩⟩
        have k0 : dK R j = 0 := (nI_is0 _ (by omega)).mp q
        have j0 : 0 < j := Nat.pos_of_ne_zero (fun z => q2 (by rw [z]; exact Int32.le_refl _))
        exact ⟨_, rfl, by rw [nlW_yes hlt k0 j0]; rfl, rfl⟩
      · have : j = r + siz (dT R) R.length r := by omega
        subst this
        rw [nlW_end (Nat.le_refl _)]
        exact b_We_hasNullPart_27 ⟨fun _ => ⟨_, rfl, rfl, rfl⟩, fun _ => ⟨fun _ => ⟨_, rfl, rfl, rfl⟩, fun q => absurd (Int32.le_refl _) q⟩⟩
  refine CE.of (L := [(0, pv E 71), (1, .int (nI r))]) rfl (Nat.le_of_ble_eq_true rfl) rfl (b_We_hasNullPart_0 ⟨t, hR, ht, t, hR, ht, vin (by omega) (by decide), fun r3 e3 => ?_⟩)
  rw [nI_clamp (by omega), hT.1.2.2.1, hT.2 r hr, nI_add, mn_n (by omega) (by omega), show min R.length (r + siz (dT R) R.length r) = r + siz (dT R) R.length r by omega] at e3
  rw [e3]
  exact loop _ r 0 (by omega) (by omega) (by omega) (by omega)
theorem c_hasNullM {E : En_t} {d s k : Nat} {R : List Row} {σ : S_t} (hs : s < 8) (hW : WfR R) (hM : MoR σ s R) (hk : k < R.length) (h0 : dK R k ≠ 0 ∨ k = 0) : CI E d m_Mo_hasNull [pv E 0, .int (nI s), .int (nI k)] σ (fun v σ' => v = bo (nl R k) ∧ σ' = σ) := by
  have h5 := hW.2.2.2.2.1
  obtain ⟨s1, s2, s3, s4⟩ := siz_spec (f := dT R) (n := R.length) hk
  obtain ⟨_, _, _, pm, _, _, rows⟩ := hM
  have ix : ∀ j, nI (500 * s) + nI j = nI (500 * s + j) := fun j => nI_add _ _
  have cx : ∀ j, j < R.length → (nI (500 * s + j)).toNatClampNeg = 500 * s + j := fun j hj => nI_clamp (by omega)
  have loop : ∀ (n j : Nat), (k + siz (dT R) R.length k) - j ≤ n → k ≤ j → j ≤ k + siz (dT R) R.length k → (∀ p, k ≤ p → p < j → dK R p = 5 → p + siz (dT R) R.length p ≤ j) → JE E d m_Mo_hasNull 21 [(0, pv E 0), (2, .int (nI k)), (3, .int (nI (500 * s))), (4, .int (nI (k + siz (dT R) R.length k))), (5, .int (nI j))] [] σ (fun q σ' => ∃ v, q = some (.int v) ∧ v = bo (nlW R n j (k + siz (dT R) R.length k)) ∧ σ' = σ) := by
    intro n
    induction n with
    | zero =>
      intro j hn hkj hj _
      have : j = k + siz (dT R) R.length k := by omega
      subst this
      exact b_Mo_hasNull_21 ⟨fun _ => ⟨_, rfl, rfl, rfl⟩, fun q => absurd (Int32.le_refl _) q⟩
    | succ n ih =>
      intro j hn hkj hj hA
      by_cases hlt : j < k + siz (dT R) R.length k
      · have hjR : j < R.length := by omega
        obtain ⟨z1, z2, z3, z4⟩ := siz_spec (f := dT R) (n := R.length) hjR
        have row := rows j hjR
        have k6 := (hW.2.1 j hjR).1
        have hin : j + siz (dT R) R.length j ≤ k + siz (dT R) R.length k := by
          rcases Nat.eq_or_lt_of_le hkj with q | q
          · subst q; exact Nat.le_refl _
          · exact siz_nest hk q hlt
        have nx : ¬ (dK R j = 0 ∧ 0 < j) → JE E d m_Mo_hasNull 69 [(0, pv E 0), (2, .int (nI k)), (3, .int (nI (500 * s))), (4, .int (nI (k + siz (dT R) R.length k))), (5, .int (nI j))] [] σ (fun q σ' => ∃ v, q = some (.int v) ∧ v = bo (nlW R (n + 1) j (k + siz (dT R) R.length k)) ∧ σ' = σ) := by
          intro hno
          rw [nlW_no hlt hno]
          refine b_Mo_hasNull_69 ?_
          rw [ix, cx j hjR, row.1, row.2.2.2.2.1]
          refine ⟨vin (by omega) (by decide), fun q => b_Mo_hasNull_97 ?_, fun q => ⟨vin (by omega) (by decide), b_Mo_hasNull_97 ?_⟩⟩
          · have h5' : ¬ dK R j = 5 := fun z => q (by rw [z]; rfl)
            rw [if_neg h5', nI_1]
            refine ih (j + 1) (by omega) (by omega) (by omega) (fun p p1 p2 p3 => ?_)
            rcases Nat.lt_or_ge p j with y | y
            · have := hA p p1 y p3; omega
            · have : p = j := by omega
              subst this; exact absurd p3 h5'
          · have h5' : dK R j = 5 := (nI_eq (b := 5) (by omega) (by decide)).mp q
            rw [if_pos h5', nI_add]
            refine ih _ (by omega) (by omega) (by omega) (fun p p1 p2 p3 => ?_)
            rcases Nat.lt_or_ge p j with y | y
            · have := hA p p1 y p3; omega
            · rcases Nat.eq_or_lt_of_le y with w | w
              · subst w; exact Nat.le_refl _
              · exact siz_nest hjR w p2
        refine b_Mo_hasNull_21 ⟨fun q => absurd q (nI_ge (by omega) (by omega)), fun _ => ⟨fun q => ?_, fun q => ?_⟩⟩
        · have : j = k := by
            rcases Nat.eq_or_lt_of_le hkj with w | w
            · exact w.symm
            · exact absurd q (nI_ge w (by omega))
          subst this
          exact nx (fun z => h0.elim (fun y => y z.1) (fun y => by omega))
        · have hkj' : k < j := by
            rcases Nat.eq_or_lt_of_le hkj with w | w
            · subst w; exact absurd (Int32.le_refl _) q
            · exact w
          rw [ix, cx j hjR, row.1]
          refine ⟨vin (by omega) (by decide), fun q => nx (fun z => q (by rw [z.1]; rfl)), fun q => ?_⟩
          have k0 : dK R j = 0 := (nI_is0 _ (by omega)).mp q
          obtain ⟨g1, g2⟩ := par_ge hW.1 hk hkj' hlt
          obtain ⟨p1, p2, p3⟩ := par_spec hW.1 (show 0 < j by omega) hjR
          have pin := par_in hW.1 (show 0 < j by omega) hjR
          have w1 := (hW.2.2.1 j (by omega) hjR).1
          have w6 := (hW.2.1 _ (show par (dT R) j < R.length by omega)).1
          have kp : dK R (par (dT R) j) = 6 := by
            rcases Nat.lt_or_ge (dK R (par (dT R) j)) 6 with y | y
            · have := hA _ g1 p1 (by omega); omega
            · omega
          have e14 : gI σ 14 (500 * s + j) = nI (par (dT R) j) := by
            rw [row.2.1]; unfold pI; rw [if_neg (by omega)]; exact zI_nI _
          rw [e14, ix, cx _ (show par (dT R) j < R.length by omega), (rows _ (show par (dT R) j < R.length by omega)).1, kp]
          exact ⟨vin (by omega) (by decide), vin (by omega) (by decide), fun y => absurd rfl y, fun _ => ⟨_, rfl, by rw [nlW_yes hlt k0 (by omega)]; rfl, rfl⟩⟩
      · have : j = k + siz (dT R) R.length k := by omega
        subst this
        rw [nlW_end (Nat.le_refl _)]
        exact b_Mo_hasNull_21 ⟨fun _ => ⟨_, rfl, rfl, rfl⟩, fun q => absurd (Int32.le_refl _) q⟩
  refine CE.of (L := [(0, pv E 0), (1, .int (nI s)), (2, .int (nI k))]) rfl (Nat.le_of_ble_eq_true rfl) rfl (b_Mo_hasNull_0 ?_)
  rw [show (500 : Int32) * nI s = nI (500 * s) from pk_mul 500 s, ix, cx k hk, (rows k hk).2.2.2.2.1, nI_add]
  exact ⟨vin (by omega) (by decide), loop _ k (by omega) (Nat.le_refl _) (by omega) (fun p p1 p2 => by omega)⟩
