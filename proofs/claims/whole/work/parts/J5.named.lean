/-! the model makes a row of what was read -/
def MkO (σ σ' : S_t) (D : List Row) (r : Row) : Prop := D.length < 500 ∧ gI σ' 0 39 = 0 ∧ MoA σ' 8 (D ++ [r]) ∧ OpA σ' (D ++ [r]) ∧ gI σ' 12 8 = gI σ 12 8 ∧ (∀ k, k < D.length → gI σ' 23 (4000 + k) = gI σ 23 (4000 + k) ∧ gI σ' 24 (4000 + k) = gI σ 24 (4000 + k)) ∧ (∀ k, gI σ' 27 k = gI σ 27 k) ∧ gI σ' 24 (4000 + D.length) = 0
theorem c_makeNamed {E : En_t} {d K e : Nat} {nm : Option (List Nat)} {x x3 : Int32} {D : List Row} {σ : S_t} (hB : MoB σ (some D)) (hO : OwR D x e) (he : e ≤ 30) (h3 : x3 = if nm = none then -1 else nI (nm.getD []).length) (hst : StrA (gI σ 42) 0 (nm.getD [])) (hls : Ltrs (nm.getD [])) (hn : D.length < 500) (hb : bts D + bls (nm.getD []) ≤ 2000) : CV E (d + 3) m_Mo_makeNamed [pv E 0, .int (nI K), .int (nI e), .int x3] σ (fun σ' => Fg MMk σ σ' ∧ MkO σ σ' D (K, e, nm, [], 0)) := by
  obtain ⟨h39, hMR, hOp, hW⟩ : gI σ 0 39 = 0 ∧ MoR σ 8 D ∧ OpA σ D ∧ WfR D := hB
  obtain ⟨hA, pm, hP⟩ := MoR_iff.mp hMR
  have n5 := hW.2.2.2.2
  have hcD := cc_bts D
  have hnl := bls_len (nm.getD [])
  have hc1 : rCc (K, e, none, [], 0) = 0 := rfl
  have hb1 : rBt (K, e, none, [], 0) = 0 := rfl
  have hb2 : rBt (K, e, nm, [], 0) = bls (nm.getD []) := by unfold rBt; show bls (nm.getD []) + 0 = _; rw [Nat.add_zero]
  have hc2 : rCc (K, e, nm, [], 0) = (nm.getD []).length := by unfold rCc; show (nm.getD []).length + 0 = _; rw [Nat.add_zero]
  have mq : ∀ {p n : Nat}, 13 ≤ p → p ≤ 25 → n < 500 → MMk p (4000 + n) := fun h1 h2 h3 => Or.inl (Or.inr (Or.inl ⟨h1, h2, by omega, by omega⟩))
  have iq : vp_in (nI (4000 + D.length)) 4500 := vin (by omega) (by decide)
  refine CE.of (L := [(0, pv E 0), (1, .int (nI K)), (2, .int (nI e)), (3, .int x3)]) rfl (Nat.le_of_ble_eq_true rfl) rfl (b_Mo_makeNamed_0 (d := d + 2) ((c_make (d := d) (a := 0) (nm := none) hW hA hOp h39 hO he rfl (fun z => absurd rfl z) (Nat.zero_le _) (fun i hi => absurd hi (Nat.not_lt_zero i)) Ltrs_nil).mono (fun σ1 hq => ?_)))
  obtain ⟨F1, hq⟩ := hq
  rcases hq with ⟨hno, _⟩ | ⟨_, _, h390, A1, O1, e12, eP, e27, e24⟩
  · rw [adR_yes hn (by rw [hb1]; omega)] at hno; cases hno
  have e10 : gI σ1 10 8 = nI (cc D) := by rw [A1.2.1, cc_app, hc1, Nat.add_zero]
  have e11 : gI σ1 11 8 = nI (bts D) := by rw [A1.2.2.1, bts_app, hb1, Nat.add_zero]
  have e9 : gI σ1 9 8 = nI (D.length + 1) := by rw [A1.1, lenR]
  have eT := dT_last (D := D) (r := (K, e, none, [], 0)) (r' := (K, e, nm, [], 0)) rfl
  obtain ⟨t1, t2, t3, t4, t5, t6, t7, t8, _, t10, ⟨tc, t11, t11', t11''⟩⟩ := A1.2.2.2 D.length (by rw [lenR]; omega)
  rw [dK_n] at t1
  rw [dB_n] at t7
  rw [dX_n] at t10 t11'
  rw [lenR] at t4 t5
  rw [cl8, e9, ix4, show nI (4000 + (D.length + 1)) - (1 : Int32) = nI (4000 + D.length) from nI_m1 (4000 + D.length), nI_clamp (show 4000 + D.length < 2 ^ 31 by omega)]
  refine ⟨in8, iq, in8, fun v2 e2 => ⟨iq, fun σ3 e3 => ?_⟩⟩
  rw [gI_sI_n (Or.inl (by decide)), e10] at e2
  subst e2
  have gi : ∀ p kk, gI σ3 p kk = if p = 19 ∧ kk = 4000 + D.length then nI (cc D) else if p = 20 ∧ kk = 4000 + D.length then x3 else gI σ1 p kk := fun p kk => by rw [e3]; simp only [gI_sI]
  have gl3 : ∀ p kk, gL σ3 p kk = gL σ1 p kk := fun p kk => by rw [e3]; rfl
  have F3 : Fg MMk σ σ3 := by rw [e3]; exact (F1.si (mq (by omega) (by omega) hn)).si (mq (by omega) (by omega) hn)
  clear e3
  have g3 : ∀ p kk, kk ≠ 4000 + D.length → gI σ3 p kk = gI σ1 p kk := fun p kk h => by rw [gi, if_neg (fun z => h z.2), if_neg (fun z => h z.2)]
  have g3p : ∀ p kk, p ≠ 19 → p ≠ 20 → gI σ3 p kk = gI σ1 p kk := fun p kk h1 h2 => by rw [gi, if_neg (fun z => h1 z.1), if_neg (fun z => h2 z.1)]
  have n19 : gI σ3 19 (4000 + D.length) = nI (cc D) := by rw [gi, if_pos ⟨rfl, rfl⟩]
  have n20 : gI σ3 20 (4000 + D.length) = x3 := by rw [gi, if_neg (by omega), if_pos ⟨rfl, rfl⟩]
  let Q : Option Value → S_t → Prop := fun q σ' => q = none ∧ (Fg MMk σ σ' ∧ MkO σ σ' D (K, e, nm, [], 0))
  have fin : ∀ (τ : S_t), Fg MLy σ3 τ → LyM τ (cc D + (nm.getD []).length) (bts D + bls (nm.getD [])) → (∀ i, i < (nm.getD []).length → gI τ 26 (32000 + (cc D + i)) = nI (gA (nm.getD []) i)) → (∀ i, i < cc D → gI τ 26 (32000 + i) = gI σ1 26 (32000 + i)) → Q none τ := by
    intro τ hF hL hS hlow
    have ct : ∀ p kk, (p ≠ 10 ∧ p ≠ 11 ∧ p ≠ 26 ∧ p ≠ 0) → gI τ p kk = gI σ3 p kk := fun p kk h => hF.1 p kk (by unfold MLy; omega)
    have cp : ∀ p kk, (p ≠ 10 ∧ p ≠ 11 ∧ p ≠ 26 ∧ p ≠ 0) → p ≠ 19 → p ≠ 20 → gI τ p kk = gI σ1 p kk := fun p kk h h1 h2 => by rw [ct p kk h, g3p p kk h1 h2]
    have cL : ∀ kk, gL τ 25 kk = gL σ1 25 kk := fun kk => by rw [hF.2.1 25 kk (by unfold MLy; omega), gl3]
    refine ⟨rfl, F3.tr (hF.mono (fun _ _ z => ML_MM z)), hn, hL.2.2.1, ?_, OpA_last (r := (K, e, none, [], 0)) rfl (fun e' => cp 28 e' (by decide) (by decide) (by decide)) O1, ?_, fun k hk => ⟨?_, ?_⟩, fun k => ?_, ?_⟩
    · refine MoA_last A1 rfl (by rw [hc1]; omega) (cp 9 8 (by decide) (by decide) (by decide)) ?_ ?_ (fun kk hkk => ⟨fun p h1 h2 => ?_, cL _⟩) (fun i hi => ?_) ?_
      · rw [hL.1, hc2]
      · rw [hL.2.1, hb2]
      · rw [ct p _ (by omega), g3 p _ (by omega)]
      · rw [cc_app, hc1, Nat.add_zero] at hi; exact hlow i hi
      · unfold MoRowA
        rw [dK_n, dX_n, dB_n, dN_n, nam_n, eT, lenR]
        refine ⟨?_, ?_, ?_, ?_, ?_, ?_, ?_, ?_, ⟨cc D, ?_, ?_, fun i hi => ?_⟩, ?_, ⟨tc, ?_, ?_, fun i hi => ?_⟩⟩
        · rw [cp 13 _ (by decide) (by decide) (by decide)]; exact t1
        · rw [cp 14 _ (by decide) (by decide) (by decide)]; exact t2
        · rw [cp 15 _ (by decide) (by decide) (by decide)]; exact t3
        · rw [cp 16 _ (by decide) (by decide) (by decide)]; exact t4
        · rw [cp 17 _ (by decide) (by decide) (by decide)]; exact t5
        · rw [cp 18 _ (by decide) (by decide) (by decide)]; exact t6
        · rw [cL]; exact t7
        · rw [ct 20 _ (by decide), n20]; exact h3
        · rw [ct 19 _ (by decide)]; exact n19
        · rw [cc_app, hc2]; exact Nat.le_refl _
        · exact hS i hi
        · rw [cp 22 _ (by decide) (by decide) (by decide)]; exact t10
        · rw [cp 21 _ (by decide) (by decide) (by decide)]; exact t11
        · rw [cc_app] at t11' ⊢; rw [hc1] at t11'; rw [hc2]; have : tc + 0 ≤ cc D + 0 := t11'; show tc + 0 ≤ _; omega
        · exact absurd hi (Nat.not_lt_zero i)
    · rw [cp 12 8 (by decide) (by decide) (by decide)]; exact e12
    · rw [cp 23 _ (by decide) (by decide) (by decide)]; exact (eP k hk).1
    · rw [cp 24 _ (by decide) (by decide) (by decide)]; exact (eP k hk).2
    · rw [cp 27 _ (by decide) (by decide) (by decide)]; exact e27 k
    · rw [cp 24 _ (by decide) (by decide) (by decide)]; exact e24
  cases nm with
  | none =>
    have : x3 = -1 := h3
    refine b_Mo_makeNamed_49 (d := d + 2) ⟨fun _ => fin σ3 Fg.rf ⟨by rw [g3p 10 8 (by decide) (by decide)]; exact e10, by rw [g3p 11 8 (by decide) (by decide)]; exact e11, by rw [g3p 0 39 (by decide) (by decide)]; exact h390, by show cc D + 0 ≤ bts D + 0; omega, by show bts D + 0 ≤ 4000; omega⟩ (fun i hi => absurd hi (Nat.not_lt_zero i)) (fun i _ => g3p 26 _ (by decide) (by decide)), fun q => absurd (by rw [this]; decide) q⟩
  | some s =>
    have h3' : x3 = nI s.length := h3
    have hst' : StrA (gI σ 42) 0 s := hst
    have hls' : Ltrs s := hls
    have hb' : bts D + bls s ≤ 2000 := hb
    have hnl' : s.length ≤ bls s := hnl
    have s42 : ∀ {τ : S_t} {j : Nat}, Fg MLy σ3 τ → j < s.length → gI τ 42 j = nI (gA s j) := fun {τ j} hF hj => by
      rw [hF.1 42 _ (by unfold MLy; omega), F3.1 42 _ (by unfold MMk MoC; omega)]
      have := hst' j hj
      rw [Nat.zero_add] at this; exact this
    have loop : ∀ (w j : Nat) (τ : S_t), j + w = s.length → Fg MLy σ3 τ → LyM τ (cc D + j) (bts D + bls (s.take j)) → (∀ i, i < j → gI τ 26 (32000 + (cc D + i)) = nI (gA s i)) → (∀ i, i < cc D → gI τ 26 (32000 + i) = gI σ1 26 (32000 + i)) → JE E (d + 3) m_Mo_makeNamed 49 [(0, pv E 0), (3, .int x3), (5, .int (nI j))] [] τ Q := by
      intro w
      induction w with
      | zero =>
        intro j τ hj hF hL hS hlow
        have : j = s.length := by omega
        subst this
        rw [List.take_length] at hL
        exact b_Mo_makeNamed_49 (d := d + 2) ⟨fun _ => fin τ hF hL hS hlow, fun q => absurd (by rw [h3']; exact Int32.le_refl _) q⟩
      | succ w ih =>
        intro j τ hj hF hL hS hlow
        have hjs : j < s.length := by omega
        have hl := hls' j hjs
        have htk := bls_take_succ hjs
        have htl := bls_take_le s (j + 1)
        refine b_Mo_makeNamed_49 (d := d + 2) ⟨fun q => absurd q (by rw [h3']; exact nI_ge hjs (by omega)), fun _ => ⟨vin (by omega) (by decide), ?_⟩⟩
        rw [nI_clamp (show j < 2 ^ 31 by omega), s42 hF hjs, nI_1]
        refine (c_lay (d := d + 1) (by unfold Ltr at hl; omega) hL).mono (fun σ5 hq => ?_)
        rcases hq with ⟨hq, _⟩ | ⟨_, F5, L5, S5, lo5⟩
        · omega
        · refine ih (j + 1) σ5 (by omega) (hF.tr F5) (by rw [htk]; exact ⟨by rw [L5.1]; rfl, by rw [L5.2.1]; congr 1; omega, L5.2.2.1, by have := L5.2.2.2.1; omega, by have := L5.2.2.2.2; omega⟩) (fun i hi => ?_) (fun i hi => ?_)
          · by_cases v : i = j
            · subst v; exact S5
            · rw [lo5 _ (by omega)]; exact hS i (by omega)
          · rw [lo5 _ (by omega)]; exact hlow i hi
    exact loop s.length 0 σ3 (by omega) Fg.rf ⟨by rw [g3p 10 8 (by decide) (by decide)]; exact e10, by rw [g3p 11 8 (by decide) (by decide)]; exact e11, by rw [g3p 0 39 (by decide) (by decide)]; exact h390, by show cc D + 0 ≤ bts D + 0; omega, by show bts D + 0 ≤ 4000; omega⟩ (fun i hi => absurd hi (Nat.not_lt_zero i)) (fun i _ => g3p 26 _ (by decide) (by decide))
