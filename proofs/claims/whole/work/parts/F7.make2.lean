theorem ix4 (k : Nat) : (4000 : Int32) + nI k = nI (4000 + k) := nI_add 4000 k
/-- what a making leaves: too much, or a row more (without what is printed) -/
def MkP (σ σ' : S_t) (D : List Row) (r : Row) : Prop := (adR (some D) r = none ∧ gI σ' 0 39 = 1) ∨ (adR (some D) r = some (D ++ [r]) ∧ D.length < 500 ∧ gI σ' 0 39 = 0 ∧ MoA σ' 8 (D ++ [r]) ∧ OpA σ' (D ++ [r]) ∧ gI σ' 12 8 = gI σ 12 8 ∧ (∀ k, k < D.length → gI σ' 23 (4000 + k) = gI σ 23 (4000 + k) ∧ gI σ' 24 (4000 + k) = gI σ 24 (4000 + k)) ∧ (∀ k, gI σ' 27 k = gI σ 27 k) ∧ gI σ' 24 (4000 + D.length) = 0)
theorem c_make {E : En_t} {d a K e : Nat} {nm : Option (List Nat)} {x x3 x4 x5 : Int32} {D : List Row} {σ : S_t} (hW : WfR D) (hA : MoA σ 8 D) (hOp : OpA σ D) (h39 : gI σ 0 39 = 0) (hO : OwR D x e) (he : e ≤ 30) (h5 : x5 = if nm = none then -1 else nI (nm.getD []).length) (h34 : nm ≠ none → x3 + x4 = nI a) (ha : a + (nm.getD []).length ≤ 32000) (hst : StrA (gI σ 26) a (nm.getD [])) (hls : Ltrs (nm.getD [])) : CV E (d + 2) m_Mo_make [pv E 0, .int (nI K), .int (nI e), .int x3, .int x4, .int x5] σ (fun σ' => Fg MMk σ σ' ∧ MkP σ σ' D (K, e, nm, [], 0)) := by
  obtain ⟨f1, f2, f3⟩ := OwR_fit hW.1 hO
  have hV := hW.1
  have n5 := hW.2.2.2.2
  have hcc := cc_bts D
  obtain ⟨a1, a2, a3, a4⟩ := hA
  have hrB : rBt (K, e, nm, [], 0) = bls (nm.getD []) := by unfold rBt; show bls (nm.getD []) + 0 = _; rw [Nat.add_zero]
  have hrC : rCc (K, e, nm, [], 0) = (nm.getD []).length := by unfold rCc; show (nm.getD []).length + 0 = _; rw [Nat.add_zero]
  let Q : Option Value → S_t → Prop := fun q σ' => q = none ∧ (Fg MMk σ σ' ∧ MkP σ σ' D (K, e, nm, [], 0))
  have m39 : MMk 0 39 := Or.inr (Or.inr ⟨rfl, rfl⟩)
  have mq : ∀ {p k : Nat}, 13 ≤ p → p ≤ 25 → k < 500 → MMk p (4000 + k) := fun h1 h2 h3 => Or.inl (Or.inr (Or.inl ⟨h1, h2, by omega, by omega⟩))
  refine CE.of (L := [(0, pv E 0), (1, .int (nI K)), (2, .int (nI e)), (3, .int x3), (4, .int x4), (5, .int x5)]) rfl (Nat.le_of_ble_eq_true rfl) rfl (b_Mo_make_0 ⟨in8, ?_⟩)
  rw [cl8, a1, show nI D.length = (500 : Int32) ↔ D.length = 500 from nI_eq (b := 500) (by omega) (by decide)]
  refine ⟨fun hn => ?_, fun hn => b_Mo_make_18 ⟨fun q => absurd q (by rw [gI_sI_s]; decide), fun _ => ⟨rfl, Fg.rf.si m39, Or.inl ⟨adR_no (Or.inl hn), gI_sI_s _ _ _ _⟩⟩⟩⟩
  have hn : D.length < 500 := by omega
  refine b_Mo_make_18 ⟨fun _ => ⟨in8, ?_⟩, fun q => absurd h39 q⟩
  rw [cl8, a1, ix4, nI_clamp (by omega)]
  have iq : vp_in (nI (4000 + D.length)) 4500 := vin (by omega) (by decide)
  refine ⟨iq, iq, fun σ1 e1 => ⟨iq, iq, fun σ2 e2 => ⟨in8, iq, ?_⟩⟩⟩
  have e10 : gI σ2 10 8 = nI (cc D) := by
    rw [e2, gI_sI_n (Or.inl (by decide)), gI_sI_n (Or.inl (by decide)), e1, gI_sI_n (Or.inl (by decide)), gI_sI_n (Or.inl (by decide))]; exact a2
  -- from the names on
  have names : ∀ (y5 : Int32), y5 = x5 → JE E (d + 2) m_Mo_make 102 [(0, pv E 0), (2, .int (nI e)), (3, .int x3), (4, .int x4), (5, .int x5), (6, .int (nI (4000 + D.length)))] [.int y5, .int (nI (4000 + D.length)), pv E 20] (sI σ2 19 (4000 + D.length) (gI σ2 10 8)) Q := by
    intro y5 hy
    subst hy
    refine b_Mo_make_102 (rfl : kindP 20 = 20) ?_
    rw [nI_clamp (by omega), e10]
    refine ⟨vin (show 4000 + D.length < 4500 by omega) (show 4500 ≤ 1000000 by decide), iq, iq, iq, iq, fun σ3 e3 => ?_⟩
    have gi : ∀ p k, gI σ3 p k = if p = 13 ∧ k = 4000 + D.length then nI K else if p = 18 ∧ k = 4000 + D.length then nI e else if p = 17 ∧ k = 4000 + D.length then 1 else if p = 19 ∧ k = 4000 + D.length then nI (cc D) else if p = 20 ∧ k = 4000 + D.length then y5 else if (p = 16 ∨ p = 21 ∨ p = 22 ∨ p = 24) ∧ k = 4000 + D.length then 0 else gI σ p k := by
      intro p k
      rw [e3, e2, e1]
      simp only [gI_sI, gI_sL]
      repeat' split
      all_goals first | rfl | (exfalso; omega)
    have gl : ∀ p k, gL σ3 p k = if p = 25 ∧ k = 4000 + D.length then 0 else gL σ p k := by
      intro p k
      rw [e3, e2, e1]
      simp only [gL_sI, gL_sL]
    have F3 : Fg MMk σ σ3 := by
      rw [e3, e2, e1]
      exact (((((((((Fg.rf.si (mq (by omega) (by omega) hn)).si (mq (by omega) (by omega) hn)).si (mq (by omega) (by omega) hn)).si (mq (by omega) (by omega) hn)).si (mq (by omega) (by omega) hn)).si (mq (by omega) (by omega) hn)).si (mq (by omega) (by omega) hn)).si (mq (by omega) (by omega) hn)).sl (mq (by omega) (by omega) hn)).si (mq (by omega) (by omega) hn)
    clear e1 e2 e3
    -- the end
    have fin : ∀ (τ : S_t), Fg MLy σ3 τ → LyM τ (cc D + (nm.getD []).length) (bts D + bls (nm.getD [])) → StrA (fun i => gI τ 26 (32000 + i)) (cc D) (nm.getD []) → (∀ i, i < cc D → gI τ 26 (32000 + i) = gI σ 26 (32000 + i)) → ((gI τ 0 39) = 0 → vp_in (nI (4000 + D.length)) 4500 ∧ (vp_in (nI (4000 + D.length)) 4500 ∧ ((nI e ≤ 0 → JE E (d + 2) m_Mo_make 282 [(0, pv E 0), (2, .int (nI e))] [] (sI (sI τ 14 (nI (4000 + D.length)).toNatClampNeg (-1 : Int32)) 15 (nI (4000 + D.length)).toNatClampNeg (0 : Int32)) Q) ∧ (¬ nI e ≤ 0 → vp_in (nI e - (1 : Int32)) 40 ∧ (∀ v1, v1 = gI (sI (sI τ 14 (nI (4000 + D.length)).toNatClampNeg (-1 : Int32)) 15 (nI (4000 + D.length)).toNatClampNeg (0 : Int32)) 28 (nI e - (1 : Int32)).toNatClampNeg → (vp_in (nI (4000 + D.length)) 4500 ∧ (vp_in ((4000 : Int32) + v1) 4500 ∧ (∀ v2, v2 = gI (sI (sI (sI τ 14 (nI (4000 + D.length)).toNatClampNeg (-1 : Int32)) 15 (nI (4000 + D.length)).toNatClampNeg (0 : Int32)) 14 (nI (4000 + D.length)).toNatClampNeg v1) 16 ((4000 : Int32) + v1).toNatClampNeg → (vp_in (nI (4000 + D.length)) 4500 ∧ (vp_in ((4000 : Int32) + v1) 4500 ∧ (∀ v3, v3 = gI (sI (sI (sI (sI τ 14 (nI (4000 + D.length)).toNatClampNeg (-1 : Int32)) 15 (nI (4000 + D.length)).toNatClampNeg (0 : Int32)) 14 (nI (4000 + D.length)).toNatClampNeg v1) 15 (nI (4000 + D.length)).toNatClampNeg v2) 16 ((4000 : Int32) + v1).toNatClampNeg → (vp_in ((4000 : Int32) + v1) 4500 ∧ (∀ σ4, σ4 = sI (sI (sI (sI (sI τ 14 (nI (4000 + D.length)).toNatClampNeg (-1 : Int32)) 15 (nI (4000 + D.length)).toNatClampNeg (0 : Int32)) 14 (nI (4000 + D.length)).toNatClampNeg v1) 15 (nI (4000 + D.length)).toNatClampNeg v2) 16 ((4000 : Int32) + v1).toNatClampNeg (v3 + (1 : Int32)) → (JE E (d + 2) m_Mo_make 250 [(0, pv E 0), (2, .int (nI e)), (8, .int (0 : Int32))] [] σ4 Q)))))))))))))) := by
      intro τ F4 L4 S4 low h390
      have hbt : bts D + bls (nm.getD []) ≤ 4000 := L4.2.2.2.2
      have F4' : Fg MMk σ τ := F3.tr (F4.mono (fun _ _ z => ML_MM z))
      -- the last step, for any state that has the row's place among the others
      have last : ∀ (ρ : S_t), Fg (fun p k => p = 14 ∨ p = 15 ∨ p = 16 ∨ p = 17) τ ρ → (∀ k, k < D.length → gI ρ 14 (4000 + k) = gI τ 14 (4000 + k) ∧ gI ρ 15 (4000 + k) = gI τ 15 (4000 + k)) → (∀ k, k < D.length → gI ρ 16 (4000 + k) = nI (if 0 < D.length ∧ k = lst (dT D) (e - 1) D.length then prt (dT D) D.length k + 1 else prt (dT D) D.length k)) → (∀ k, k < D.length → gI ρ 17 (4000 + k) = nI (if dT D k < e ∧ lst (dT D) (dT D k) D.length = k then siz (dT D) D.length k + 1 else siz (dT D) D.length k)) → gI ρ 14 (4000 + D.length) = zI (if D.length = 0 then -1 else (lst (dT D) (e - 1) D.length : Int)) → gI ρ 15 (4000 + D.length) = nI (if D.length = 0 then 0 else prt (dT D) D.length (lst (dT D) (e - 1) D.length)) → gI ρ 16 (4000 + D.length) = 0 → gI ρ 17 (4000 + D.length) = 1 → Fg MMk σ ρ → JE E (d + 2) m_Mo_make 282 [(0, pv E 0), (2, .int (nI e))] [] ρ Q := by
        intro ρ Fρ h1415 h16 h17 n14 n15 n16 n17 FM
        have g9 : gI ρ 9 8 = nI D.length := by rw [Fρ.1 9 8 (by omega), F4.1 9 8 (by unfold MLy; omega), gi]; simpa using a1
        refine b_Mo_make_282 ⟨in8, vin (by omega) (by decide), in8, in8, fun σ5 e5 => ?_⟩
        rw [cl8, nI_clamp (by omega), gI_sI_n (Or.inl (by decide)), g9, nI_1] at e5
        have F5 : Fg MMk σ σ5 := by rw [e5]; exact (FM.si (Or.inr (Or.inl rfl))).si (Or.inl (Or.inl ⟨by omega, by omega, rfl⟩))
        have c5 : ∀ p k, p ≠ 28 → p ≠ 9 → gI σ5 p k = gI ρ p k := fun p k h1 h2 => by rw [e5, gI_sI_n (Or.inl h2), gI_sI_n (Or.inl h1)]
        have cρ : ∀ p k, p ≠ 28 → p ≠ 9 → p ≠ 14 → p ≠ 15 → p ≠ 16 → p ≠ 17 → gI σ5 p k = gI τ p k := fun p k h1 h2 h3 h4 h5 h6 => by rw [c5 p k h1 h2, Fρ.1 p k (by omega)]
        have cL : ∀ p k, p ≠ 14 → p ≠ 15 → p ≠ 16 → p ≠ 17 → gL σ5 p k = gL τ p k := fun p k h3 h4 h5 h6 => by rw [e5, gL_sI, gL_sI, Fρ.2.1 p k (by omega)]
        have cτ : ∀ p k, 13 ≤ p → p ≤ 25 → gI τ p k = gI σ3 p k := fun p k h1 h2 => F4.1 p k (by unfold MLy; omega)
        have cτL : ∀ p k, 13 ≤ p → p ≤ 25 → gL τ p k = gL σ3 p k := fun p k h1 h2 => F4.2.1 p k (by unfold MLy; omega)
        obtain ⟨s1, s2, s3, s4, s5⟩ := push_shape (r := (K, e, nm, [], 0)) hV hO
        obtain ⟨z1, z2⟩ := push_siz (r := (K, e, nm, [], 0)) hV hO
        refine ⟨rfl, F5, Or.inr ⟨adR_yes hn (by rw [hrB]; exact hbt), hn, ?_, ⟨?_, ?_, ?_, fun k hk => ?_⟩, ?_, ?_, fun k hk => ⟨?_, ?_⟩, fun k => ?_, ?_⟩⟩
        · rw [cρ 0 39 (by decide) (by decide) (by decide) (by decide) (by decide) (by decide)]; exact h390
        · rw [e5, gI_sI_s, lenR]
        · rw [cρ 10 8 (by decide) (by decide) (by decide) (by decide) (by decide) (by decide), cc_app, hrC]; exact L4.1
        · rw [cρ 11 8 (by decide) (by decide) (by decide) (by decide) (by decide) (by decide), bts_app, hrB]; exact L4.2.1
        · rw [lenR] at hk
          by_cases q : k = D.length
          · subst q
            unfold MoRowA
            rw [dK_n, dT_n, dX_n, dB_n, dN_n, nam_n, s3, s4, s5, z2]
            have row : ∀ p, 13 ≤ p → p ≤ 24 → p ≠ 14 → p ≠ 15 → p ≠ 16 → p ≠ 17 → gI σ5 p (500 * 8 + D.length) = gI σ3 p (4000 + D.length) := fun p h1 h2 h3 h4 h5 h6 => by rw [cρ p _ (by omega) (by omega) h3 h4 h5 h6, cτ p _ h1 (by omega)]
            refine ⟨?_, ?_, ?_, ?_, ?_, ?_, ?_, ?_, ⟨cc D, ?_, ?_, fun i hi => ?_⟩, ?_, ⟨0, ?_, Nat.zero_le _, fun i hi => absurd hi (Nat.not_lt_zero i)⟩⟩
            · rw [row 13 (by omega) (by omega) (by omega) (by omega) (by omega) (by omega), gi]; simp
            · rw [c5 14 _ (by decide) (by decide)]; exact n14
            · rw [c5 15 _ (by decide) (by decide)]; exact n15
            · rw [c5 16 _ (by decide) (by decide)]; exact n16
            · rw [c5 17 _ (by decide) (by decide)]; exact n17
            · rw [row 18 (by omega) (by omega) (by omega) (by omega) (by omega) (by omega), gi]; simp
            · rw [cL 25 _ (by omega) (by omega) (by omega) (by omega), cτL 25 _ (by omega) (by omega), gl]; simp; rfl
            · rw [row 20 (by omega) (by omega) (by omega) (by omega) (by omega) (by omega), gi]; simp [h5]
            · rw [row 19 (by omega) (by omega) (by omega) (by omega) (by omega) (by omega), gi]; simp
            · rw [cc_app, hrC]; exact Nat.le_refl _
            · show gI σ5 26 (32000 + (cc D + i)) = _
              rw [cρ 26 _ (by decide) (by decide) (by decide) (by decide) (by decide) (by decide)]; exact S4 i hi
            · rw [row 22 (by omega) (by omega) (by omega) (by omega) (by omega) (by omega), gi]; simp; rfl
            · rw [row 21 (by omega) (by omega) (by omega) (by omega) (by omega) (by omega), gi]; simp; rfl
          · have hk : k < D.length := by omega
            have kq : 4000 + k ≠ 4000 + D.length := by omega
            obtain ⟨u1, u2, u3, u4⟩ := s2 k hk
            refine MoRowA_same (a4 k hk) (fun p h1 h2 h3 h4 => ?_) ?_ (fun i hi => ?_) (by rw [cc_app]; omega) u1 u2 u3 ?_ ?_
            · by_cases y14 : p = 14
              · subst y14; rw [c5 14 _ (by decide) (by decide), (h1415 k hk).1, cτ 14 _ (by omega) (by omega), gi]; simp
              · by_cases y15 : p = 15
                · subst y15; rw [c5 15 _ (by decide) (by decide), (h1415 k hk).2, cτ 15 _ (by omega) (by omega), gi]; simp
                · rw [cρ p _ (by omega) (by omega) y14 y15 h3 h4, cτ p _ h1 (by omega), gi]; have hkn : k ≠ D.length := by omega
                  simp [hkn]
            · rw [cL 25 _ (by omega) (by omega) (by omega) (by omega), cτL 25 _ (by omega) (by omega), gl]; simp; intro y; omega
            · rw [cρ 26 _ (by decide) (by decide) (by decide) (by decide) (by decide) (by decide)]; exact low i hi
            · rw [c5 16 _ (by decide) (by decide), h16 k hk, u4]
            · rw [c5 17 _ (by decide) (by decide), h17 k hk, z1 k hk]
        · refine OpA_push (r := (K, e, nm, [], 0)) hV hO hOp (fun e' he' => ?_) ?_
          · rw [e5, gI_sI_n (Or.inl (by decide)), gI_sI_n (Or.inr he'), Fρ.1 28 e' (by omega), F4.1 28 e' (by unfold MLy; omega), gi]; simp
          · rw [e5, gI_sI_n (Or.inl (by decide)), gI_sI_s]
        · rw [cρ 12 8 (by decide) (by decide) (by decide) (by decide) (by decide) (by decide), F4.1 12 8 (by unfold MLy; omega), gi]; simp
        · rw [cρ 23 _ (by decide) (by decide) (by decide) (by decide) (by decide) (by decide), cτ 23 _ (by omega) (by omega), gi]; simp
        · rw [cρ 24 _ (by decide) (by decide) (by decide) (by decide) (by decide) (by decide), cτ 24 _ (by omega) (by omega), gi]; simp; intro y; omega
        · rw [cρ 27 _ (by decide) (by decide) (by decide) (by decide) (by decide) (by decide), F4.1 27 _ (by unfold MLy; omega), gi]; simp
        · rw [cρ 24 _ (by decide) (by decide) (by decide) (by decide) (by decide) (by decide), cτ 24 _ (by omega) (by omega), gi]; simp
      have τr : ∀ p k, 13 ≤ p → p ≤ 22 → k < D.length → gI τ p (4000 + k) = gI σ p (4000 + k) := fun p k h1 h2 hk => by
        have kq : 4000 + k ≠ 4000 + D.length := by omega
        have hkn : k ≠ D.length := by omega
        rw [F4.1 p _ (by unfold MLy; omega), gi]; simp [hkn]
      have τ16 : gI τ 16 (4000 + D.length) = 0 := by rw [F4.1 16 _ (by unfold MLy; omega), gi]; simp
      have τ17 : gI τ 17 (4000 + D.length) = 1 := by rw [F4.1 17 _ (by unfold MLy; omega), gi]; simp
      have mq' : ∀ {p : Nat}, 13 ≤ p → p ≤ 25 → MMk p (4000 + D.length) := fun h1 h2 => mq h1 h2 hn
      refine ⟨iq, iq, ?_⟩
      rw [nI_clamp (show 4000 + D.length < 2 ^ 31 by omega)]
      by_cases z : D.length = 0
      · have he0 := f1 z
        refine ⟨fun _ => last _ (((Fg.rf (P := fun p k => p = 14 ∨ p = 15 ∨ p = 16 ∨ p = 17)).si (Or.inl rfl)).si (Or.inr (Or.inl rfl))) (fun k hk => by omega) (fun k hk => by omega) (fun k hk => by omega) ?_ ?_ ?_ ?_ ((F4'.si (mq' (by omega) (by omega))).si (mq' (by omega) (by omega))), fun q => absurd (by rw [he0]; decide) q⟩
        · rw [gI_sI_n (Or.inl (by decide)), gI_sI_s, if_pos z]; rfl
        · rw [gI_sI_s, if_pos z]; rfl
        · rw [gI_sI_n (Or.inl (by decide)), gI_sI_n (Or.inl (by decide))]; exact τ16
        · rw [gI_sI_n (Or.inl (by decide)), gI_sI_n (Or.inl (by decide))]; exact τ17
      · obtain ⟨g1, g2⟩ := f2 (by omega)
        obtain ⟨hx, hO2, hep, h5p⟩ := f3 (by omega)
        have hpl := hO2.1
        refine ⟨fun q => absurd q (nI_nle (by omega) (by omega)), fun _ => ?_⟩
        rw [show nI e - (1 : Int32) = nI (e - 1) from pk_sub (b := 1) g1, nI_clamp (show e - 1 < 2 ^ 31 by omega)]
        refine ⟨vin (by omega) (by decide), fun v1 ev1 => ?_⟩
        rw [gI_sI_n (Or.inl (by decide)), gI_sI_n (Or.inl (by decide)), F4.1 28 _ (by unfold MLy; omega), gi] at ev1
        simp only [show ¬ (28 = 13) by decide, show ¬ (28 = 18) by decide, show ¬ (28 = 17) by decide, show ¬ (28 = 19) by decide, show ¬ (28 = 20) by decide, show ¬ (28 = 16 ∨ 28 = 21 ∨ 28 = 22 ∨ 28 = 24) by decide, false_and, if_false] at ev1
        rw [hOp (by omega) (e - 1) (by omega)] at ev1
        rw [ev1, ix4, nI_clamp (show 4000 + lst (dT D) (e - 1) D.length < 2 ^ 31 by omega)]
        have ip : vp_in (nI (4000 + lst (dT D) (e - 1) D.length)) 4500 := vin (by omega) (by decide)
        refine ⟨iq, ip, fun v2 ev2 => ⟨iq, ip, fun v3 ev3 => ⟨ip, fun σ4 e4 => ?_⟩⟩⟩
        rw [gI_sI_n (Or.inl (by decide)), gI_sI_n (Or.inl (by decide)), gI_sI_n (Or.inl (by decide)), τr 16 _ (by omega) (by omega) hpl, (a4 _ hpl).2.2.2.1] at ev2
        rw [gI_sI_n (Or.inl (by decide)), gI_sI_n (Or.inl (by decide)), gI_sI_n (Or.inl (by decide)), gI_sI_n (Or.inl (by decide)), τr 16 _ (by omega) (by omega) hpl, (a4 _ hpl).2.2.2.1] at ev3
        rw [ev2, ev3, nI_1] at e4
        have g4 : ∀ p k, gI σ4 p k = if p = 16 ∧ k = 4000 + lst (dT D) (e - 1) D.length then nI (prt (dT D) D.length (lst (dT D) (e - 1) D.length) + 1) else if p = 15 ∧ k = 4000 + D.length then nI (prt (dT D) D.length (lst (dT D) (e - 1) D.length)) else if p = 14 ∧ k = 4000 + D.length then nI (lst (dT D) (e - 1) D.length) else gI τ p k := by
          intro p k
          rw [e4]
          simp only [gI_sI]
          repeat' split
          all_goals first | rfl | (exfalso; omega)
        have FP4 : Fg (fun p k => p = 14 ∨ p = 15 ∨ p = 16 ∨ p = 17) τ σ4 := by
          rw [e4]
          exact (((((Fg.rf (P := fun p k => p = 14 ∨ p = 15 ∨ p = 16 ∨ p = 17)).si (Or.inl rfl)).si (Or.inr (Or.inl rfl))).si (Or.inl rfl)).si (Or.inr (Or.inl rfl))).si (Or.inr (Or.inr (Or.inl rfl)))
        have FM4 : Fg MMk σ σ4 := by
          rw [e4]
          exact ((((F4'.si (mq' (by omega) (by omega))).si (mq' (by omega) (by omega))).si (mq' (by omega) (by omega))).si (mq' (by omega) (by omega))).si (mq (by omega) (by omega) (by omega))
        have op : ∀ j, j < e → Opn (dT D) D.length (lst (dT D) j D.length) ∧ dT D (lst (dT D) j D.length) = j := fun j hj => lst_Opn hV (by omega) (by omega)
        have loop : ∀ (m J : Nat) (ρ : S_t), J + m = e → Fg (fun p k => p = 14 ∨ p = 15 ∨ p = 16 ∨ p = 17) τ ρ → Fg MMk σ ρ → (∀ p k, p ≠ 17 → gI ρ p k = gI σ4 p k) → (∀ k, k < D.length → gI ρ 17 (4000 + k) = nI (if dT D k < J ∧ lst (dT D) (dT D k) D.length = k then siz (dT D) D.length k + 1 else siz (dT D) D.length k)) → gI ρ 17 (4000 + D.length) = 1 → JE E (d + 2) m_Mo_make 250 [(0, pv E 0), (2, .int (nI e)), (8, .int (nI J))] [] ρ Q := by
          intro m
          induction m with
          | zero =>
            intro J ρ hJ hF hFM hne h17 n17
            have : J = e := by omega
            subst this
            refine b_Mo_make_250 ⟨fun _ => last ρ hF (fun k hk => ?_) (fun k hk => ?_) h17 ?_ ?_ ?_ n17 hFM, fun q => absurd (Int32.le_refl _) q⟩
            · have kq : 4000 + k ≠ 4000 + D.length := by omega
              rw [hne 14 _ (by decide), hne 15 _ (by decide), g4, g4]
              have hkn : k ≠ D.length := by omega
              constructor <;> simp [hkn]
            · rw [hne 16 _ (by decide), g4]
              by_cases y : k = lst (dT D) (J - 1) D.length
              · rw [if_pos ⟨rfl, by omega⟩, if_pos ⟨by omega, y⟩, y]
              · have : 4000 + k ≠ 4000 + lst (dT D) (J - 1) D.length := by omega
                rw [if_neg (fun q => this q.2), if_neg (fun q => absurd q.1 (by decide)), if_neg (fun q => absurd q.1 (by decide)), if_neg (fun q => y q.2), τr 16 k (by omega) (by omega) hk]
                exact (a4 k hk).2.2.2.1
            · rw [hne 14 _ (by decide), g4, if_neg z, zI_nI]; simp
            · rw [hne 15 _ (by decide), g4, if_neg z]; simp
            · rw [hne 16 _ (by decide), g4]
              have : 4000 + D.length ≠ 4000 + lst (dT D) (J - 1) D.length := by omega
              rw [if_neg (fun q => this q.2), if_neg (fun q => absurd q.1 (by decide)), if_neg (fun q => absurd q.1 (by decide))]; exact τ16
          | succ m ih =>
            intro J ρ hJ hF hFM hne h17 n17
            obtain ⟨o1, o2⟩ := op J (by omega)
            have hol := o1.1
            have e28 : gI ρ 28 J = nI (lst (dT D) J D.length) := by
              rw [hne 28 J (by decide), g4, if_neg (fun q => absurd q.1 (by decide)), if_neg (fun q => absurd q.1 (by decide)), if_neg (fun q => absurd q.1 (by decide)), F4.1 28 _ (by unfold MLy; omega), gi]
              simp only [show ¬ (28 = 13) by decide, show ¬ (28 = 18) by decide, show ¬ (28 = 17) by decide, show ¬ (28 = 19) by decide, show ¬ (28 = 20) by decide, show ¬ (28 = 16 ∨ 28 = 21 ∨ 28 = 22 ∨ 28 = 24) by decide, false_and, if_false]
              exact hOp (by omega) J (by omega)
            refine b_Mo_make_250 ⟨fun q => absurd q (nI_ge (by omega) (by omega)), fun _ => ?_⟩
            rw [nI_clamp (show J < 2 ^ 31 by omega), e28, ix4, nI_clamp (show 4000 + lst (dT D) J D.length < 2 ^ 31 by omega), h17 _ hol, o2]
            have c0 : ¬ (J < J ∧ lst (dT D) J D.length = lst (dT D) J D.length) := by omega
            rw [if_neg c0, nI_1, nI_1]
            refine ⟨vin (by omega) (by decide), vin (by omega) (by decide), vin (by omega) (by decide), fun σ5 e5 => ?_⟩
            refine ih (J + 1) σ5 (by omega) (by rw [e5]; exact hF.si (Or.inr (Or.inr (Or.inr rfl)))) (by rw [e5]; exact hFM.si (mq (by omega) (by omega) (by omega))) (fun p k hp => by rw [e5, gI_sI_n (Or.inl hp)]; exact hne p k hp) (fun k hk => ?_) (by rw [e5, gI_sI_n (Or.inr (by omega))]; exact n17)
            rw [e5]
            by_cases y : k = lst (dT D) J D.length
            · subst y
              rw [gI_sI_s, o2, if_pos ⟨by omega, rfl⟩]
            · rw [gI_sI_n (Or.inr (by omega)), h17 k hk]
              by_cases w : dT D k < J ∧ lst (dT D) (dT D k) D.length = k
              · rw [if_pos w, if_pos ⟨by omega, w.2⟩]
              · rw [if_neg w, if_neg]
                rintro ⟨w1, w2⟩
                by_cases v : dT D k = J
                · rw [v] at w2; exact y w2.symm
                · exact w ⟨by omega, w2⟩
        refine loop e 0 σ4 (by omega) FP4 FM4 (fun p k _ => rfl) (fun k hk => ?_) ?_
        · rw [g4, if_neg (fun q => absurd q.1 (by decide)), if_neg (fun q => absurd q.1 (by decide)), if_neg (fun q => absurd q.1 (by decide)), if_neg (fun q => absurd q.1 (Nat.not_lt_zero _)), τr 17 k (by omega) (by omega) hk]
          exact (a4 k hk).2.2.2.2.1
        · rw [g4, if_neg (fun q => absurd q.1 (by decide)), if_neg (fun q => absurd q.1 (by decide)), if_neg (fun q => absurd q.1 (by decide))]; exact τ17
    -- the name's letters
    have L3 : LyM σ3 (cc D) (bts D) := ⟨by rw [gi]; simpa using a2, by rw [gi]; simpa using a3, by rw [gi]; simpa using h39, hcc, n5.2⟩
    have bad : ∀ (τ : S_t), Fg MLy σ3 τ → gI τ 0 39 = 1 → 4000 < bts D + bls (nm.getD []) → Q none τ := fun τ hF h h4 => ⟨rfl, F3.tr (hF.mono (fun _ _ z => ML_MM z)), Or.inl ⟨adR_no (Or.inr (by rw [hrB]; exact h4)), h⟩⟩
    by_cases hnn : nm = none
    · have hs : nm.getD [] = [] := by rw [hnn]; rfl
      rw [hs] at fin
      refine b_Mo_make_138 ⟨fun _ => ⟨fin σ3 Fg.rf L3 (fun i hi => absurd hi (Nat.not_lt_zero i)) (fun i _ => by rw [gi]; simp), fun q => absurd L3.2.2.1 q⟩, fun q => absurd (by rw [h5, if_pos hnn]; decide) q⟩
    · rw [if_neg hnn] at h5
      rw [h5]
      have hsrc : ∀ j, j < (nm.getD []).length → gI σ3 26 (a + j) = nI (gA (nm.getD []) j) := fun j hj => by rw [gi]; simpa using hst j hj
      have full : 4000 < bts D + bls (nm.getD []) → ∀ (m j : Nat) (τ : S_t), j + m = (nm.getD []).length → Fg MLy σ3 τ → gI τ 0 39 = 1 → JE E (d + 2) m_Mo_make 138 [(0, pv E 0), (2, .int (nI e)), (3, .int x3), (4, .int x4), (5, .int (nI (nm.getD []).length)), (6, .int (nI (4000 + D.length))), (7, .int (nI j))] [] τ Q := by
        intro h4 m
        induction m with
        | zero =>
          intro j τ hj hF h1
          have : j = (nm.getD []).length := by omega
          subst this
          exact b_Mo_make_138 ⟨fun _ => ⟨fun q => absurd q (by rw [h1]; decide), fun _ => bad τ hF h1 h4⟩, fun q => absurd (Int32.le_refl _) q⟩
        | succ m ih =>
          intro j τ hj hF h1
          have hjs : j < (nm.getD []).length := by omega
          have hl := hls j hjs
          refine b_Mo_make_138 ⟨fun q => absurd q (nI_ge hjs (by omega)), fun _ => ?_⟩
          rw [h34 hnn, nI_add, nI_clamp (by omega), hF.1 26 (a + j) (by unfold MLy; omega), hsrc j hjs, nI_1]
          exact ⟨vin (by omega) (by decide), (c_lay1 (by unfold Ltr at hl; omega) h1).mono (fun σ5 hq => ih (j + 1) σ5 (by omega) (hF.tr hq.1) hq.2)⟩
      have loop : ∀ (m j : Nat) (τ : S_t), j + m = (nm.getD []).length → Fg MLy σ3 τ → LyM τ (cc D + j) (bts D + bls ((nm.getD []).take j)) → (∀ i, i < j → gI τ 26 (32000 + (cc D + i)) = nI (gA (nm.getD []) i)) → (∀ i, i < cc D → gI τ 26 (32000 + i) = gI σ 26 (32000 + i)) → JE E (d + 2) m_Mo_make 138 [(0, pv E 0), (2, .int (nI e)), (3, .int x3), (4, .int x4), (5, .int (nI (nm.getD []).length)), (6, .int (nI (4000 + D.length))), (7, .int (nI j))] [] τ Q := by
        intro m
        induction m with
        | zero =>
          intro j τ hj hF hL hs hlow
          have : j = (nm.getD []).length := by omega
          subst this
          rw [List.take_length] at hL
          exact b_Mo_make_138 ⟨fun _ => ⟨fin τ hF hL hs hlow, fun q => absurd hL.2.2.1 q⟩, fun q => absurd (Int32.le_refl _) q⟩
        | succ m ih =>
          intro j τ hj hF hL hs hlow
          have hjs : j < (nm.getD []).length := by omega
          have hl := hls j hjs
          have hbt := bls_take_succ hjs
          have hbl := bls_take_le (nm.getD []) (j + 1)
          refine b_Mo_make_138 ⟨fun q => absurd q (nI_ge hjs (by omega)), fun _ => ?_⟩
          rw [h34 hnn, nI_add, nI_clamp (by omega), hF.1 26 (a + j) (by unfold MLy; omega), hsrc j hjs, nI_1]
          refine ⟨vin (by omega) (by decide), (c_lay (by unfold Ltr at hl; omega) hL).mono (fun σ5 hq => ?_)⟩
          rcases hq with ⟨g, rfl⟩ | ⟨g, F5, L5, n5', o5⟩
          · exact full (by omega) m (j + 1) _ (by omega) (hF.si (Or.inr (Or.inr ⟨rfl, rfl⟩))) (gI_sI_s _ _ _ _)
          · refine ih (j + 1) σ5 (by omega) (hF.tr F5) (by rw [show bts D + bls ((nm.getD []).take (j + 1)) = bts D + bls ((nm.getD []).take j) + bl (gA (nm.getD []) j) by omega]; exact L5) (fun i hi => ?_) (fun i hi => ?_)
            · by_cases y : i = j
              · subst y; exact n5'
              · rw [o5 _ (by omega)]; exact hs i (by omega)
            · rw [o5 _ (by omega)]; exact hlow i hi
      exact loop (nm.getD []).length 0 σ3 (by omega) Fg.rf L3 (fun i hi => absurd hi (Nat.not_lt_zero i)) (fun i _ => by rw [gi]; simp)
  refine ⟨fun _ => names x5 rfl, fun q => names (-1) ?_⟩
  by_cases hnn : nm = none
  · rw [h5, if_pos hnn]
  · rw [h5, if_neg hnn] at q
    exact absurd (nI_pos' (by omega)) q
