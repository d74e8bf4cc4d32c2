/-! add -/
theorem tr_k : ∀ j, j < 10 → kindP (tr j + 3) = 20 ∧ lenP (tr j + 3) = 500 ∧ kindP (tr j + 4) = 20 ∧ lenP (tr j + 4) = 500 ∧ kindP (tr j + 6) = 20 ∧ lenP (tr j + 6) = 500 := by decide +kernel
theorem TrRow_same2 {σ σ' : S_t} {t k : Nat} {D D' : List Row} (h : TrRow σ t D k) (hc : ∀ j, 1 ≤ j → j ≤ 10 → j ≠ 2 → gI σ' (t + j) k = gI σ (t + j) k) (hL : gL σ' (t + 7) k = gL σ (t + 7) k) (hch : ∀ i, i < cc D → gI σ' (t + 11) i = gI σ (t + 11) i) (hcc : cc D ≤ cc D') (h1 : dR D' k = dR D k) (h2 : pI (dT D') k = pI (dT D) k) (h3 : ordr (dT D') k = ordr (dT D) k) (h4 : gI σ' (t + 2) k = nI (if dK D k = 4 then (dX D k).length else prt (dT D') D'.length k)) : TrRow σ' t D' k := by
  obtain ⟨r1, r2, r3, r4, r5, r6, r7, ⟨a, r8, r9, r10⟩, ⟨b, r11, r12, r13⟩⟩ := h
  have eK : dK D' k = dK D k := by unfold dK; rw [h1]
  have eT : dT D' k = dT D k := by unfold dT; rw [h1]
  have eX : dX D' k = dX D k := by unfold dX; rw [h1]
  have eB : dB D' k = dB D k := by unfold dB; rw [h1]
  have eN : nam D' k = nam D k := by unfold nam dN; rw [h1]
  unfold TrRow
  rw [eK, eT, eX, eB, eN, h2, h3]
  exact ⟨by rw [hc 1 (by omega) (by omega) (by omega)]; exact r1, h4, by rw [hc 3 (by omega) (by omega) (by omega)]; exact r3, by rw [hc 4 (by omega) (by omega) (by omega)]; exact r4, by rw [hc 6 (by omega) (by omega) (by omega)]; exact r5, by rw [hL]; exact r6, by rw [hc 9 (by omega) (by omega) (by omega)]; exact r7, ⟨a, by rw [hc 8 (by omega) (by omega) (by omega)]; exact r8, by omega, StrA_congr (fun i hi => hch _ (by omega)) r10⟩, ⟨b, by rw [hc 10 (by omega) (by omega) (by omega)]; exact r11, by omega, StrA_congr (fun i hi => hch _ (by omega)) r13⟩⟩
/-- a plain row (no name, no text) behind the others -/
theorem TrR_add {σ σ' : S_t} {t K e : Nat} {nm : Option (List Nat)} {D : List Row} {x : Int32} (hT : TrR σ t D) (hV : VT (dT D) D.length) (hO : OwR D x e) (hnm : nm.getD [] = [])
    (c11 : gI σ' t 11 = gI σ t 11) (c12 : gI σ' t 12 = gI σ t 12) (c13 : gI σ' t 13 = nI (D.length + 1)) (c14 : gI σ' t 14 = 0)
    (hold : ∀ k, k < D.length → ∀ j, 1 ≤ j → j ≤ 10 → j ≠ 2 → gI σ' (t + j) k = gI σ (t + j) k) (holdL : ∀ k, k < D.length → gL σ' (t + 7) k = gL σ (t + 7) k) (hch : ∀ i, gI σ' (t + 11) i = gI σ (t + 11) i)
    (hm : ∀ k, k < D.length → gI σ' (t + 2) k = if 0 < D.length ∧ k = lst (dT D) (e - 1) D.length then gI σ (t + 2) k + 1 else gI σ (t + 2) k)
    (n1 : gI σ' (t + 1) D.length = nI K) (n2 : gI σ' (t + 2) D.length = 0) (n3 : gI σ' (t + 3) D.length = if D.length = 0 then -1 else x) (n4 : gI σ' (t + 4) D.length = if D.length = 0 then 0 else gI σ (t + 2) (lst (dT D) (e - 1) D.length)) (n6 : gI σ' (t + 6) D.length = nI e) (n7 : gL σ' (t + 7) D.length = 0) (n8 : gI σ' (t + 8) D.length = 0) (n9 : gI σ' (t + 9) D.length = 0) (n10 : gI σ' (t + 10) D.length = 0) : TrR σ' t (D ++ [(K, e, nm, [], 0)]) := by
  obtain ⟨f1, f2, f3⟩ := OwR_fit hV hO
  obtain ⟨s1, s2, s3, s4, s5⟩ := push_shape (r := (K, e, nm, [], 0)) hV hO
  have hcc : rCc (K, e, nm, [], 0) = 0 := by unfold rCc; show (nm.getD []).length + 0 = 0; rw [hnm]; rfl
  have hbt : rBt (K, e, nm, [], 0) = 0 := by unfold rBt; show bls (nm.getD []) + bls [] = 0; rw [hnm]; rfl
  obtain ⟨t1, t2, t3, t4, t5⟩ := hT
  refine ⟨by rw [cc_app, hcc, c11]; exact t1, by rw [bts_app, hbt, c12]; exact t2, by rw [lenR]; exact c13, c14, fun k hk => ?_⟩
  rw [lenR] at hk
  by_cases q : k = D.length
  · subst q
    have eR := dR_eq D (K, e, nm, [], 0)
    have eK : dK (D ++ [(K, e, nm, [], 0)]) D.length = K := by unfold dK; rw [eR]
    have eT : dT (D ++ [(K, e, nm, [], 0)]) D.length = e := by unfold dT; rw [eR]
    have eX : dX (D ++ [(K, e, nm, [], 0)]) D.length = [] := by unfold dX; rw [eR]
    have eB : dB (D ++ [(K, e, nm, [], 0)]) D.length = 0 := by unfold dB; rw [eR]
    have eN : nam (D ++ [(K, e, nm, [], 0)]) D.length = [] := by unfold nam dN; rw [eR]; exact hnm
    unfold TrRow
    rw [eK, eT, eX, eB, eN, s3, s4, s5]
    refine ⟨n1, by rw [n2]; split <;> rfl, ?_, ?_, n6, n7, n9, ⟨0, n8, Nat.zero_le _, fun i hi => absurd hi (Nat.not_lt_zero i)⟩, ⟨0, n10, Nat.zero_le _, fun i hi => absurd hi (Nat.not_lt_zero i)⟩⟩
    · rw [n3]
      by_cases z : D.length = 0
      · rw [if_pos z, if_pos z]; rfl
      · rw [if_neg z, if_neg z, zI_nI]; exact (f3 (by omega)).1
    · rw [n4]
      by_cases z : D.length = 0
      · rw [if_pos z, if_pos z]; rfl
      · rw [if_neg z, if_neg z]
        obtain ⟨_, hO2, _, h5⟩ := f3 (by omega)
        rw [(t5 _ hO2.1).2.1, if_neg (by show ¬ dK D (lst (dT D) (e - 1) D.length) = 4; have : 5 ≤ dK D (lst (dT D) (e - 1) D.length) := h5; omega)]
  · have hk : k < D.length := by omega
    obtain ⟨u1, u2, u3, u4⟩ := s2 k hk
    refine TrRow_same2 (t5 k hk) (hold k hk) (holdL k hk) (fun i _ => hch i) (by rw [cc_app]; omega) u1 u2 u3 ?_
    rw [hm k hk, (t5 k hk).2.1, u4]
    by_cases z : 0 < D.length ∧ k = lst (dT D) (e - 1) D.length
    · have h5 : 5 ≤ dK D k := by rw [z.2]; exact (f3 z.1).2.2.2
      rw [if_pos z, if_pos z, if_neg (by omega), if_neg (by omega), nI_1]
    · rw [if_neg z, if_neg z]
theorem c_add {E : En_t} {d j K e : Nat} {nm : Option (List Nat)} {x : Int32} {D : List Row} {σ : S_t} (hj : j < 10) (hT : TrR σ (tr j) D) (hV : VT (dT D) D.length) (hn : D.length ≤ 500) (hO : OwR D x e) (hnm : nm.getD [] = []) : CI E d m_Tr_add [pv E (tr j), .int (nI K), .int x] σ (fun r σ' => Fg (TPl (tr j)) σ σ' ∧ ((D.length = 500 ∧ r = -1 ∧ gI σ' (tr j) 14 = 1) ∨ (D.length < 500 ∧ r = nI D.length ∧ TrR σ' (tr j) (D ++ [(K, e, nm, [], 0)])))) := by
  obtain ⟨k1, k2, k3, k4, k5, k6⟩ := tr_k j hj
  have ht := kind_tr j hj
  generalize htt : tr j = t at *
  obtain ⟨f1, f2, f3⟩ := OwR_fit hV hO
  obtain ⟨t1, t2, t3, t4, t5⟩ := id hT
  let Q : Option Value → S_t → Prop := fun q σ' => ∃ r, q = some (.int r) ∧ (Fg (TPl t) σ σ' ∧ ((D.length = 500 ∧ r = -1 ∧ gI σ' t 14 = 1) ∨ (D.length < 500 ∧ r = nI D.length ∧ TrR σ' t (D ++ [(K, e, nm, [], 0)]))))
  have P : ∀ {i k : Nat}, i ≤ 11 → TPl t (t + i) k := fun h => ⟨by omega, by omega⟩
  have P0 : ∀ {k : Nat}, TPl t t k := ⟨Nat.le_refl _, by omega⟩
  refine CE.of (L := [(0, pv E t), (1, .int (nI K)), (2, .int x)]) rfl (Nat.le_of_ble_eq_true rfl) rfl (b_Tr_add_0 ht ⟨fun q => absurd t4 q, fun _ => ?_⟩)
  rw [t3]
  refine pk_lt D.length 500 (fun g => ?_) (fun g => ⟨_, rfl, Fg.rf.si P0, Or.inl ⟨by omega, rfl, gI_sI_s _ _ _ _⟩⟩)
  have i1 : vp_in (nI D.length) 500 := vin g (by decide)
  rw [nI_clamp (by omega), nI_1]
  refine ⟨i1, i1, i1, fun σ1 e1 => ⟨i1, i1, i1, fun σ2 e2 => ?_⟩⟩
  -- what is common to both ways
  have F2 : Fg (TPl t) σ σ2 := by
    rw [e2, e1]
    exact ((((((Fg.rf.si P0).si (P (by omega))).si (P (by omega))).sl (P (by omega))).si (P (by omega))).si (P (by omega))).si (P (by omega))
  have gi : ∀ p k, gI σ2 p k = if p = t ∧ k = 13 then nI (D.length + 1) else if p = t + 1 ∧ k = D.length then nI K else if (p = t + 2 ∨ p = t + 8 ∨ p = t + 9 ∨ p = t + 10) ∧ k = D.length then 0 else gI σ p k := by
    intro p k
    rw [e2, e1]
    simp only [gI_sI, gI_sL]
    repeat' split
    all_goals first | rfl | (exfalso; omega)
  have gl : ∀ p k, gL σ2 p k = if p = t + 7 ∧ k = D.length then 0 else gL σ p k := by
    intro p k
    rw [e2, e1]
    rfl
  have z0 : D.length = 0 → x < 0 := fun h => by
    rcases hO with ⟨_, q, _⟩ | ⟨p, _, q, _⟩
    · exact q
    · have := q.1; omega
  have fin : ∀ (y : Int32) (σ3 : S_t) (s0 : Int32), y = (if D.length = 0 then 0 else 1) → (∀ p k, gI σ3 p k = if p = t + 3 ∧ k = D.length then (if D.length = 0 then -1 else x) else if p = t + 4 ∧ k = D.length then (if D.length = 0 then 0 else gI σ (t + 2) (lst (dT D) (e - 1) D.length)) else gI σ2 p k) → Fg (TPl t) σ σ3 → (∀ p k, gL σ3 p k = gL σ2 p k) → s0 = nI e → JE E d m_Tr_add 156 [(0, pv E t), (2, .int x), (3, .int (nI D.length)), (4, .int y)] [.int s0, .int (nI D.length), pv E (t + 6)] σ3 Q := by
    intro y σ3 s0 hy h3 hF3 hL3 hs
    refine b_Tr_add_156 ht k5 ?_
    rw [k6, nI_clamp (by omega), hs]
    by_cases z : D.length = 0
    · rw [hy, if_pos z]
      refine ⟨vin g (by decide), fun _ => ⟨_, rfl, hF3.si (P (by omega)), Or.inr ⟨g, rfl, ?_⟩⟩, fun q => absurd rfl q⟩
      refine TrR_add hT hV hO hnm ?_ ?_ ?_ ?_ (fun k hk => by omega) (fun k hk => by omega) (fun i => ?_) (fun k hk => by omega) ?_ ?_ ?_ ?_ ?_ ?_ ?_ ?_ ?_
      all_goals first | (rw [gL_sI, hL3, gl]; simp) | (simp only [gI_sI]; rw [h3, gi]; simp [z, t1, t2, t4]) | (simp only [gI_sI]; simp) | skip
    · obtain ⟨hx, hO2, he, h5⟩ := f3 (by omega)
      have hpl := hO2.1
      generalize hp : lst (dT D) (e - 1) D.length = p at *
      rw [hy, if_neg z, hx, nI_clamp (by omega)]
      have hpn : p ≠ D.length := by omega
      refine ⟨vin g (by decide), fun q => absurd q (by decide), fun _ => ⟨vin (by omega) (by decide), vin (by omega) (by decide), _, rfl, (hF3.si (P (by omega))).si (P (by omega)), Or.inr ⟨g, rfl, ?_⟩⟩⟩
      have e2' : gI (sI σ3 (t + 6) D.length (nI e)) (t + 2) p = gI σ (t + 2) p := by
        rw [gI_sI_n (Or.inl (by omega)), h3, gi]
        simp [hpn]
      rw [e2']
      refine TrR_add hT hV hO hnm ?_ ?_ ?_ ?_ (fun k hk i h1 h2 h3' => ?_) (fun k hk => ?_) (fun i => ?_) (fun k hk => ?_) ?_ ?_ ?_ ?_ ?_ ?_ ?_ ?_ ?_
      · simp only [gI_sI]; rw [h3, gi]; simp
      · simp only [gI_sI]; rw [h3, gi]; simp
      · simp only [gI_sI]; rw [h3, gi]; simp
      · simp only [gI_sI]; rw [h3, gi]; simp [t4]
      · have hkn : k ≠ D.length := by omega
        rw [gI_sI_n (Or.inl (by omega)), gI_sI_n (Or.inr hkn), h3, gi]
        simp [hkn]
        intro a; omega
      · have hkn : k ≠ D.length := by omega
        rw [gL_sI, gL_sI, hL3, gl]; simp [hkn]
      · simp only [gI_sI]; rw [h3, gi]; simp
      · have hkn : k ≠ D.length := by omega
        rw [hp]
        by_cases y : k = p
        · subst y
          rw [gI_sI_s, if_pos ⟨by omega, rfl⟩]
        · rw [if_neg (fun (q : 0 < D.length ∧ k = p) => y q.2), gI_sI_n (Or.inr y), gI_sI_n (Or.inl (by omega)), h3, gi]
          simp [hkn]
      · rw [gI_sI_n (Or.inl (by omega)), gI_sI_n (Or.inl (by omega)), h3, gi]; simp
      · rw [gI_sI_n (Or.inr (fun q => hpn q.symm)), gI_sI_n (Or.inl (by omega)), h3, gi]; simp
      · rw [gI_sI_n (Or.inl (by omega)), gI_sI_n (Or.inl (by omega)), h3]; simp
      · rw [gI_sI_n (Or.inl (by omega)), gI_sI_n (Or.inl (by omega)), h3, hp]; simp
      · rw [gI_sI_n (Or.inl (by omega)), gI_sI_s]
      · rw [gL_sI, gL_sI, hL3, gl]; simp
      · rw [gI_sI_n (Or.inl (by omega)), gI_sI_n (Or.inl (by omega)), h3, gi]; simp
      · rw [gI_sI_n (Or.inl (by omega)), gI_sI_n (Or.inl (by omega)), h3, gi]; simp
      · rw [gI_sI_n (Or.inl (by omega)), gI_sI_n (Or.inl (by omega)), h3, gi]; simp
  by_cases z : D.length = 0
  · have hx := z0 z
    refine ⟨fun _ => b_Tr_add_94 ht (b_Tr_add_95 ht ⟨fun _ => b_Tr_add_112 ht k1 ⟨by rw [k2]; exact i1, fun _ => b_Tr_add_133 ht k3 ⟨by rw [k4]; exact i1, fun _ => fin 0 _ _ (by rw [if_pos z]) (fun p k => ?_) ((F2.si (P (by omega))).si (P (by omega))) (fun p k => rfl) (by rw [f1 z]; rfl), fun q => absurd rfl q⟩, fun q => absurd rfl q⟩, fun q => absurd rfl q⟩), fun q => absurd hx q⟩
    rw [nI_clamp (by omega), if_pos z, if_pos z]
    simp only [gI_sI]
    repeat' split
    all_goals first | rfl | (exfalso; omega)
  · obtain ⟨hx, hO2, he, h5⟩ := f3 (by omega)
    have hpl := hO2.1
    have h13 : gI σ2 (t + 2) (lst (dT D) (e - 1) D.length) = gI σ (t + 2) (lst (dT D) (e - 1) D.length) := by
      have hpn : lst (dT D) (e - 1) D.length ≠ D.length := by omega
      rw [gi]; simp [hpn]
    have h16 : gI σ2 (t + 6) (lst (dT D) (e - 1) D.length) = nI (dT D (lst (dT D) (e - 1) D.length)) := by
      rw [gi]; simp; exact (t5 _ hpl).2.2.2.2.1
    refine ⟨fun q => absurd q (by rw [hx]; exact nI_pos (by omega)), fun _ => ⟨fun q => absurd q (by rw [hx]; exact nI_ge hpl (by omega)), fun _ => b_Tr_add_95 ht ⟨fun q => absurd q (by decide), fun _ => b_Tr_add_112 ht k1 ⟨by rw [k2]; exact i1, fun q => absurd q (by decide), fun _ => ⟨by rw [hx]; exact vin (by omega) (by decide), b_Tr_add_133 ht k3 ⟨by rw [k4]; exact i1, fun q => absurd q (by decide), fun _ => ⟨by rw [hx]; exact vin (by omega) (by decide), fin 1 _ _ (by rw [if_neg z]) (fun p k => ?_) ((F2.si (P (by omega))).si (P (by omega))) (fun p k => rfl) ?_⟩⟩⟩⟩⟩⟩⟩
    · have e13 : gI (sI σ2 (t + 3) D.length (nI (lst (dT D) (e - 1) D.length))) (t + 2) (lst (dT D) (e - 1) D.length) = gI σ (t + 2) (lst (dT D) (e - 1) D.length) := by rw [gI_sI_n (Or.inl (by omega)), h13]
      rw [hx, nI_clamp (show D.length < 2 ^ 31 by omega), nI_clamp (show lst (dT D) (e - 1) D.length < 2 ^ 31 by omega), if_neg z, if_neg z, e13]
      simp only [gI_sI]
      repeat' split
      all_goals first | rfl | (exfalso; omega)
    · rw [hx, nI_clamp (show D.length < 2 ^ 31 by omega), nI_clamp (show lst (dT D) (e - 1) D.length < 2 ^ 31 by omega), gI_sI_n (Or.inl (by omega)), gI_sI_n (Or.inl (by omega)), h16, nI_1, he]
