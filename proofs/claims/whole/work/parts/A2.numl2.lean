/-! takeNumeral of the reference -/
theorem dg_of {σ : S_t} {k x : Nat} (h : gI σ 3 k = nI x) (hx : x < 10) : dg σ k = x := by unfold dg; rw [h]; exact un_nI (by omega)
theorem c_takeNumeral {E : En_t} {d a : Nat} {l : List Nat} {σ : S_t} (hT : TcM σ l) (hb : Bt l) (hl : l.length ≤ 2000) (ha : a ≤ l.length) (h9 : gI σ 0 9 = nI a) : CI E (d + 4) m_Mo_takeNumeral [pv E 0, .int (nI l.length)] σ (fun r σ' => Fg MNm σ σ' ∧ ((r = 0 ∧ ∃ b, NmF l a b ∧ gI σ' 0 9 = nI b) ∨ (r = 1 ∧ NmO l a ∧ gI σ' 0 9 = nI (nA4 l a) ∧ NmV l a (gL σ' 0 10)))) := by
  have l0 := nA0_le ha
  have l1 := nA1_le ha
  have l2 := nA2_le ha
  have l4 := nA4_le ha
  let Q : Option Value → S_t → Prop := fun q σ' => ∃ r, q = some (.int r) ∧ (Fg MNm σ σ' ∧ ((r = 0 ∧ ∃ b, NmF l a b ∧ gI σ' 0 9 = nI b) ∨ (r = 1 ∧ NmO l a ∧ gI σ' 0 9 = nI (nA4 l a) ∧ NmV l a (gL σ' 0 10))))
  -- the end: nearest
  have fin : ∀ (x2 : Int32) (τ : S_t), (x2 = 0 ↔ ¬ Chr l a 45) → NmO l a → Fg MNm σ τ → NsM τ l (nA4 l a) ((nS2 l a).1, nP l a) → JE E (d + 4) m_Mo_takeNumeral 415 [(0, pv E 0), (2, .int x2)] [] τ Q := by
    intro x2 τ hx hO hF hN
    obtain ⟨k1, k2, k3, k4, k5⟩ := nS2_ok l a ha
    have hp := nP_b ha hl
    have hdg : ∀ k, k < (nS2 l a).1.length → dg τ k = gA (nS2 l a).1 k := fun k hk => dg_of (hN.2.2.2.2 k hk) (k4 k hk)
    have hD : DecAt τ (dval (gA (nS2 l a).1) (nS2 l a).1.length) (nS2 l a).1.length (nP l a) := ⟨hN.2.2.1, hN.2.2.2.1, fun k hk => by rw [hdg k hk]; exact k4 k hk, dval_ext hdg⟩
    have hl0 : (nS2 l a).1.length = 0 ∨ dg τ 0 ≠ 0 := by
      rcases k5 with q | q
      · exact Or.inl (by rw [q]; rfl)
      · rcases Nat.eq_zero_or_pos (nS2 l a).1.length with z | z
        · exact Or.inl z
        · exact Or.inr (by rw [hdg 0 z]; exact q)
    refine b_Mo_takeNumeral_415 ((c_nearest (d := d) hD hl0 (by omega) (by omega) (by omega)).mono (fun x σ1 hq => ?_))
    obtain ⟨F1, hx1⟩ := hq
    have F2 : Fg MNm σ σ1 := hF.tr (F1.fg.mono (fun p k h => by unfold MP at h; unfold MNm; omega))
    have e9 : gI σ1 0 9 = nI (nA4 l a) := by rw [F1.1 0 9 (by unfold MP; omega)]; exact hN.2.1
    refine ⟨fun z => ⟨_, rfl, F2.sl MNm10, Or.inr ⟨rfl, hO, e9, x, hx1, ?_⟩⟩, fun z => ⟨_, rfl, F2.sl MNm10, Or.inr ⟨rfl, hO, e9, x, hx1, ?_⟩⟩⟩
    · rw [gL_sL_s]; unfold sgL; rw [if_neg (hx.mp z)]
    · rw [gL_sL_s]; unfold sgL; rw [if_pos (Classical.not_not.mp (fun y => z (hx.mpr y)))]
  -- the exponent
  have ex : ∀ (x2 : Int32) (τ : S_t), (x2 = 0 ↔ ¬ Chr l a 45) → Dgt l (nA0 l a) → (Chr l (nA1 l a) 46 → Dgt l (nA1 l a + 1)) → Fg MNm σ τ → NsM τ l (nA2 l a) (nS2 l a) → JE E (d + 4) m_Mo_takeNumeral 253 [(0, pv E 0), (1, .int (nI l.length)), (2, .int x2)] [] τ Q := by
    intro x2 τ hx hD0 hD1 hF hN
    have some : isEx l (nA2 l a) → JE E (d + 4) m_Mo_takeNumeral 273 [(0, pv E 0), (1, .int (nI l.length)), (2, .int x2)] [] τ Q := by
      intro hE
      have hlt : nA2 l a < l.length := by rcases hE with q | q <;> exact q.1
      have l3 := nA3_le ha hE
      refine b_Mo_takeNumeral_273 ?_
      rw [hN.2.1, nI_1]
      have hN1 := NsM_at (b := nA2 l a + 1) hN
      have hF1 : Fg MNm σ (sI τ 0 9 (nI (nA2 l a + 1))) := hF.si MNm9
      generalize sI τ 0 9 (nI (nA2 l a + 1)) = ρ at hN1 hF1 ⊢
      have dig : ∀ (x4 : Int32) (ρ : S_t), (x4 = 0 ↔ ¬ Chr l (nA2 l a + 1) 45) → Fg MNm σ ρ → NsM ρ l (nA3 l a) (nS2 l a) → JE E (d + 4) m_Mo_takeNumeral 325 [(0, pv E 0), (1, .int (nI l.length)), (2, .int x2), (4, .int x4)] [] ρ Q := by
        intro x4 ρ h4 hFr hNr
        refine b_Mo_takeNumeral_325 (CI.swap (hd_M hNr.1 hb hl (by omega) hNr.2.1 (fun hn => ⟨_, rfl, hFr, Or.inl ⟨rfl, nA3 l a, Or.inr (Or.inr ⟨hD0, hD1, hE, hn, rfl⟩), hNr.2.1⟩⟩) (fun hy => ?_)))
        refine tn_exp hb hl (nA3 l a) l3.1 (nS2 l a) x2 x4 σ (fun ρ' hF' hN' => fin x2 ρ' hx ⟨hD0, hD1, fun _ => hy⟩ hF' ?_) (nd l (nA3 l a)) 0 ρ (by omega) hFr hNr
        have e4 : nA4 l a = nA3 l a + nd l (nA3 l a) := by unfold nA4; rw [if_pos hE]
        have eP : nP l a = (nS2 l a).2 + (if x4 = 0 then (xe l (nA3 l a) (nd l (nA3 l a)) : Int) else -(xe l (nA3 l a) (nd l (nA3 l a)) : Int)) := by
          unfold nP nE
          rw [if_pos hE]
          by_cases z : Chr l (nA2 l a + 1) 45
          · rw [if_pos z, if_neg (fun y => h4.mp y z)]; rfl
          · rw [if_neg z, if_pos (h4.mpr z)]; rfl
        rw [e4, eP]
        exact hN'
      have sgn : ∀ (x4 : Int32) (ρ : S_t), (x4 = 0 ↔ ¬ Chr l (nA2 l a + 1) 45) → (Chr l (nA2 l a + 1) 45 ∨ Chr l (nA2 l a + 1) 43) → Fg MNm σ ρ → NsM ρ l (nA2 l a + 1) (nS2 l a) → JE E (d + 4) m_Mo_takeNumeral 315 [(0, pv E 0), (1, .int (nI l.length)), (2, .int x2), (4, .int x4)] [] ρ Q := by
        intro x4 ρ h4 hs hFr hNr
        have e3 : nA3 l a = nA2 l a + 1 + 1 := by unfold nA3; rw [if_pos hs]
        refine b_Mo_takeNumeral_315 ?_
        rw [hNr.2.1, nI_1]
        exact dig x4 _ h4 (hFr.si MNm9) (by rw [e3]; exact NsM_at hNr)
      refine ch_M 45 hN1.1 hb hl (by omega) hN1.2.1 (by decide) (fun z => ?_) (fun z => ?_)
      · refine b_Mo_takeNumeral_298 ⟨fun q => absurd rfl q, fun _ => ch_M 43 hN1.1 hb hl (by omega) hN1.2.1 (by decide) (fun y => ?_) (fun y => sgn 0 ρ ⟨fun _ => z, fun _ => rfl⟩ (Or.inr y) hF1 hN1)⟩
        have e3 : nA3 l a = nA2 l a + 1 := by unfold nA3; rw [if_neg (fun q => q.elim z y)]
        exact dig 0 ρ ⟨fun _ => z, fun _ => rfl⟩ hF1 (by rw [e3]; exact hN1)
      · exact b_Mo_takeNumeral_298 ⟨fun _ => sgn 1 ρ ⟨fun q => absurd q (by decide), fun q => absurd z q⟩ (Or.inl z) hF1 hN1, fun q => absurd q (by decide)⟩
    refine b_Mo_takeNumeral_253 ((c_hereM hN.1 hl (by omega) hN.2.1).mono (fun r σ1 hq => ?_))
    rw [hq.1, hq.2, show hr l (nA2 l a) = (101 : Int32) ↔ Chr l (nA2 l a) 101 from hr_chr (c := 101) hb (by decide)]
    refine ⟨fun z => some (Or.inl z), fun z => ch_M 69 hN.1 hb hl (by omega) hN.2.1 (by decide) (fun y => ?_) (fun y => some (Or.inr y))⟩
    have hno : ¬ isEx l (nA2 l a) := fun q => q.elim z y
    have e4 : nA4 l a = nA2 l a := by unfold nA4; rw [if_neg hno]
    have eP : nP l a = (nS2 l a).2 := by unfold nP nE; rw [if_neg hno, Int.add_zero]
    exact fin x2 τ hx ⟨hD0, hD1, fun q => absurd q hno⟩ hF (by rw [e4, eP]; exact hN)
  -- the fraction
  have fr : ∀ (x2 x3 : Int32) (τ : S_t), (x2 = 0 ↔ ¬ Chr l a 45) → (x3 = 0 ↔ (nS1 l a).1 = []) → Dgt l (nA0 l a) → Fg MNm σ τ → NsM τ l (nA1 l a) (nS1 l a) → JE E (d + 4) m_Mo_takeNumeral 141 [(0, pv E 0), (1, .int (nI l.length)), (2, .int x2), (3, .int x3)] [] τ Q := by
    intro x2 x3 τ hx h3 hD0 hF hN
    have hS1 := nS1_ok l a ha
    refine b_Mo_takeNumeral_141 (ch_M 46 hN.1 hb hl (by omega) hN.2.1 (by decide) (fun z => ?_) (fun z => ?_))
    · have e2 : nA2 l a = nA1 l a := by unfold nA2; rw [if_neg z]
      have eS : nS2 l a = nS1 l a := by unfold nS2; rw [if_neg z]
      exact ex x2 τ hx hD0 (fun q => absurd q z) hF (by rw [e2, eS]; exact hN)
    · rw [hN.2.1, nI_1]
      have hN1 := NsM_at (b := nA1 l a + 1) hN
      have hF1 : Fg MNm σ (sI τ 0 9 (nI (nA1 l a + 1))) := hF.si MNm9
      generalize sI τ 0 9 (nI (nA1 l a + 1)) = ρ at hN1 hF1 ⊢
      have hlt := z.1
      refine CI.swap (hd_M hN1.1 hb hl (by omega) hN1.2.1 (fun hn => ⟨_, rfl, hF1, Or.inl ⟨rfl, nA1 l a + 1, Or.inr (Or.inl ⟨hD0, z, hn, rfl⟩), hN1.2.1⟩⟩) (fun hy => ?_))
      have e2 : nA2 l a = nA1 l a + 1 + nd l (nA1 l a + 1) := by unfold nA2; rw [if_pos z]
      have eS : nS2 l a = kps 0 l (nA1 l a + 1) (nS1 l a) (nd l (nA1 l a + 1)) := by unfold nS2; rw [if_pos z]
      have hln : ∀ j, (kps 0 l (nA1 l a + 1) (nS1 l a) j).1.length ≤ 2000 + j := by
        intro j
        induction j with
        | zero => have := hS1.1; show (nS1 l a).1.length ≤ 2000 + 0; omega
        | succ j ih =>
          show (kp 0 (kps 0 l (nA1 l a + 1) (nS1 l a) j) (gA l (nA1 l a + 1 + j) - 48)).1.length ≤ _
          unfold kp
          split
          · show (kps 0 l (nA1 l a + 1) (nS1 l a) j).1.length ≤ _; omega
          · show ((kps 0 l (nA1 l a + 1) (nS1 l a) j).1 ++ [_]).length ≤ _; rw [len1]; omega
      exact tn_frac hb hl (nA1 l a + 1) (by omega) (nS1 l a) (by have := hS1.1; omega) x2 σ (fun ρ' hF' hN' => ex x2 ρ' hx hD0 (fun _ => hy) hF' (by rw [e2, eS]; exact hN')) hln (nd l (nA1 l a + 1)) 0 ρ x3 (by omega) hF1 hN1 h3
  -- the whole digits
  have wh : ∀ (x2 : Int32) (τ : S_t), (x2 = 0 ↔ ¬ Chr l a 45) → Fg MNm σ τ → TcM τ l → gI τ 0 9 = nI (nA0 l a) → JE E (d + 4) m_Mo_takeNumeral 30 [(0, pv E 0), (1, .int (nI l.length)), (2, .int x2)] [] τ Q := by
    intro x2 τ hx hF hTt h9t
    have hN : NsM (sI (sI τ 0 6 (0 : Int32)) 0 7 (0 : Int32)) l (nA0 l a) ([], 0) := ⟨fun k hk => by rw [gI_sI_n (Or.inl (by decide)), gI_sI_n (Or.inl (by decide))]; exact hTt k hk, by rw [gI_sI_n (Or.inr (by decide)), gI_sI_n (Or.inr (by decide))]; exact h9t, by rw [gI_sI_n (Or.inr (by decide)), gI_sI_s]; rfl, by rw [gI_sI_s]; rfl, fun k hk => absurd hk (Nat.not_lt_zero k)⟩
    have hF1 : Fg MNm σ (sI (sI τ 0 6 (0 : Int32)) 0 7 (0 : Int32)) := (hF.si MNm6).si MNm7
    refine b_Mo_takeNumeral_30 ?_
    generalize sI (sI τ 0 6 (0 : Int32)) 0 7 (0 : Int32) = ρ at hN hF1 ⊢
    refine CI.swap (hd_M hN.1 hb hl (by omega) hN.2.1 (fun hn => ⟨_, rfl, hF1, Or.inl ⟨rfl, nA0 l a, Or.inl ⟨hn, rfl⟩, hN.2.1⟩⟩) (fun hy => ?_))
    refine ch_M 48 hN.1 hb hl (by omega) hN.2.1 (by decide) (fun z => ?_) (fun z => ?_)
    · have e1 : nA1 l a = nA0 l a + nd l (nA0 l a) := by unfold nA1; rw [if_neg z]
      have eS : nS1 l a = kps 1 l (nA0 l a) ([], 0) (nd l (nA0 l a)) := by unfold nS1; rw [if_neg z]
      have h0 : gA l (nA0 l a) - 48 ≠ 0 := fun q => z ⟨hy.1, by omega⟩
      refine tn_int hb hl (nA0 l a) l0.1 h0 x2 σ (fun ρ' hF' hN' => fr x2 1 ρ' hx ⟨fun q => absurd q (by decide), fun q => ?_⟩ hy hF' (by rw [e1, eS]; exact hN')) (nd l (nA0 l a)) 0 ρ (by omega) hF1 hN
      rw [eS] at q
      exact absurd q (kps_ne h0 _ (nd_pos.mpr hy))
    · have e1 : nA1 l a = nA0 l a + 1 := by unfold nA1; rw [if_pos z]
      have eS : nS1 l a = ([], 0) := by unfold nS1; rw [if_pos z]
      rw [hN.2.1, nI_1]
      exact fr x2 0 _ hx ⟨fun _ => by rw [eS], fun _ => rfl⟩ hy (hF1.si MNm9) (by rw [e1, eS]; exact NsM_at hN)
  refine CE.of (L := [(0, pv E 0), (1, .int (nI l.length))]) rfl (Nat.le_of_ble_eq_true rfl) rfl (b_Mo_takeNumeral_0 (ch_M 45 hT hb hl (by omega) h9 (by decide) (fun z => ?_) (fun z => ?_)))
  · have e0 : nA0 l a = a := by unfold nA0; rw [if_neg z]
    exact b_Mo_takeNumeral_15 ⟨fun _ => wh 0 σ ⟨fun _ => z, fun _ => rfl⟩ Fg.rf hT (by rw [e0]; exact h9), fun q => absurd rfl q⟩
  · have e0 : nA0 l a = a + 1 := by unfold nA0; rw [if_pos z]
    refine b_Mo_takeNumeral_15 ⟨fun q => absurd q (by decide), fun _ => wh 1 _ ⟨fun q => absurd q (by decide), fun q => absurd z q⟩ (Fg.rf.si MNm9) (TcM_fg (Fg.rf.si MNm9) (fun k => by unfold MNm; omega) hT) ?_⟩
    rw [gI_sI_s, h9, nI_1, e0]
