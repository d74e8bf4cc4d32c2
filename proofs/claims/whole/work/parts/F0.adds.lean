/-! letters come to a tree -/
/-- the cells of the tree at t that letters change -/
def TLc (t : Nat) : Nat → Nat → Prop := fun p k => (p = t ∧ (k = 11 ∨ k = 12 ∨ k = 14)) ∨ p = t + 11
/-- the tree at t has C letters of B bytes, and there is room -/
def TCt (σ : S_t) (t C B : Nat) : Prop := gI σ t 11 = nI C ∧ gI σ t 12 = nI B ∧ gI σ t 14 = 0 ∧ C ≤ B ∧ B ≤ 4000
theorem c_addCh {E : En_t} {d t C B c : Nat} {σ : S_t} (ht : kindP t = 11) (hc : c < 1114112) (h : TCt σ t C B) : CV E d m_Tr_addCharacter [pv E t, .int (nI c)] σ (fun σ' => (4000 < B + bl c ∧ σ' = sI σ t 14 1) ∨ (B + bl c ≤ 4000 ∧ Fg (TLc t) σ σ' ∧ TCt σ' t (C + 1) (B + bl c) ∧ gI σ' (t + 11) C = nI c ∧ ∀ k, k ≠ C → gI σ' (t + 11) k = gI σ (t + 11) k)) := by
  obtain ⟨h1, h2, h3, h4, h5⟩ := h
  have hb := bl_pos c
  have go : ∀ s0, s0 = nI (bl c) → JE E d m_Tr_addCharacter 33 [(0, pv E t), (1, .int (nI c))] [.int s0] σ (fun q σ' => q = none ∧ ((4000 < B + bl c ∧ σ' = sI σ t 14 1) ∨ (B + bl c ≤ 4000 ∧ Fg (TLc t) σ σ' ∧ TCt σ' t (C + 1) (B + bl c) ∧ gI σ' (t + 11) C = nI c ∧ ∀ k, k ≠ C → gI σ' (t + 11) k = gI σ (t + 11) k))) := by
    intro s0 hs
    subst hs
    refine b_Tr_addCharacter_33 ht ⟨fun q => absurd h3 q, fun _ => ?_⟩
    rw [h1, h2, show (4000 : Int32) - nI (bl c) = nI (4000 - bl c) from pk_sub (a := 4000) (by omega)]
    refine pk_lt (4000 - bl c) B (fun g => ⟨rfl, Or.inl ⟨by omega, rfl⟩⟩) (fun g => pk_lt C 4000 (fun g2 => ⟨vin g2 (by decide), fun v1 e1 σ2 e2 => ⟨rfl, Or.inr ⟨by omega, ?_⟩⟩⟩) (fun g2 => by omega))
    rw [nI_clamp (by omega)] at e1 e2
    rw [gI_sI_n (Or.inr (by decide)), gI_sI_n (Or.inl (by omega)), h2] at e1
    rw [gI_sI_n (Or.inl (by omega)), h1, nI_1, e1, nI_add] at e2
    rw [e2]
    refine ⟨((Fg.rf.si (Or.inr rfl)).si (Or.inl ⟨rfl, Or.inl rfl⟩)).si (Or.inl ⟨rfl, Or.inr (Or.inl rfl)⟩), ⟨?_, gI_sI_s _ _ _ _, ?_, by omega, by omega⟩, ?_, fun k hk => ?_⟩
    · rw [gI_sI_n (Or.inr (by decide)), gI_sI_s]
    · rw [gI_sI_n (Or.inr (by decide)), gI_sI_n (Or.inr (by decide)), gI_sI_n (Or.inl (by omega))]; exact h3
    · rw [gI_sI_n (Or.inl (by omega)), gI_sI_n (Or.inl (by omega)), gI_sI_s]
    · rw [gI_sI_n (Or.inl (by omega)), gI_sI_n (Or.inl (by omega)), gI_sI_n (Or.inr hk)]
  refine CE.of (L := [(0, pv E t), (1, .int (nI c))]) rfl (Nat.le_of_ble_eq_true rfl) rfl (b_Tr_addCharacter_0 ht (pk_le 128 c (fun g1 => pk_le 2048 c (fun g2 => pk_le 65536 c (fun g3 => go _ ?_) (fun g3 => go _ ?_)) (fun g2 => go _ ?_)) (fun g1 => go _ ?_)))
  · unfold bl; rw [if_neg (by omega), if_neg (by omega), if_neg (by omega)]; rfl
  · unfold bl; rw [if_neg (by omega), if_neg (by omega), if_pos (by omega)]; rfl
  · unfold bl; rw [if_neg (by omega), if_pos (by omega)]; rfl
  · unfold bl; rw [if_pos (by omega)]; rfl
theorem c_addCh1 {E : En_t} {d t : Nat} {x : Int32} {σ : S_t} (ht : kindP t = 11) (h : ¬ gI σ t 14 = 0) : CV E d m_Tr_addCharacter [pv E t, .int x] σ (fun σ' => σ' = sI σ t 14 1) := by
  have go : ∀ s0, JE E d m_Tr_addCharacter 33 [(0, pv E t), (1, .int x)] [.int s0] σ (fun q σ' => q = none ∧ σ' = sI σ t 14 1) := fun s0 => b_Tr_addCharacter_33 ht ⟨fun _ => ⟨rfl, rfl⟩, fun q => absurd q h⟩
  exact CE.of (L := [(0, pv E t), (1, .int x)]) rfl (Nat.le_of_ble_eq_true rfl) rfl (b_Tr_addCharacter_0 ht ⟨fun _ => ⟨fun _ => ⟨fun _ => go _, fun _ => go _⟩, fun _ => go _⟩, fun _ => go _⟩)
theorem bls_take_succ {s : List Nat} {j : Nat} (h : j < s.length) : bls (s.take (j + 1)) = bls (s.take j) + bl (gA s j) := by
  rw [List.take_succ_eq_append_getElem h, bls_app, bls_1]
  unfold gA
  rw [List.getD_eq_getElem?_getD, List.getElem?_eq_getElem h]
  rfl
theorem bls_take_le (s : List Nat) (j : Nat) : bls (s.take j) ≤ bls s := by
  have := bls_app (s.take j) (s.drop j)
  rw [List.take_append_drop] at this
  omega
theorem c_addChs {E : En_t} {d t t' C B a cc' : Nat} {s : List Nat} {σ : S_t} (ht : kindP t = 11) (ht' : kindP t' = 11) (hd : ∀ j, j ≤ 11 → t' + j ≠ t ∧ t' + j ≠ t + 11) (hs : Ltrs s) (h : TCt σ t C B) (hst : StrA (gI σ (t' + 11)) a s) (hcc : gI σ t' 11 = nI cc') (hal : a + s.length ≤ cc') (hcc4 : cc' ≤ 4000) : CV E (d + 1) m_Tr_addCharacters [pv E t, pv E t', .int (nI a), .int (nI s.length)] σ (fun σ' => Fg (TLc t) σ σ' ∧ ((4000 < B + bls s ∧ gI σ' t 14 = 1) ∨ (B + bls s ≤ 4000 ∧ TCt σ' t (C + s.length) (B + bls s) ∧ StrA (gI σ' (t + 11)) C s ∧ ∀ k, k < C → gI σ' (t + 11) k = gI σ (t + 11) k))) := by
  let Q : Option Value → S_t → Prop := fun q σ' => q = none ∧ (Fg (TLc t) σ σ' ∧ ((4000 < B + bls s ∧ gI σ' t 14 = 1) ∨ (B + bls s ≤ 4000 ∧ TCt σ' t (C + s.length) (B + bls s) ∧ StrA (gI σ' (t + 11)) C s ∧ ∀ k, k < C → gI σ' (t + 11) k = gI σ (t + 11) k)))
  have m14 : TLc t t 14 := Or.inl ⟨rfl, Or.inr (Or.inr rfl)⟩
  -- too much: on to the end
  have full : 4000 < B + bls s → ∀ (m j : Nat) (τ : S_t), j + m = s.length → Fg (TLc t) σ τ → gI τ t 14 = 1 → JE E (d + 1) m_Tr_addCharacters 15 [(0, pv E t), (1, pv E t'), (4, .int (nI (a + s.length))), (5, .int (nI (a + j)))] [] τ Q := by
    intro hfull m
    induction m with
    | zero =>
      intro j τ hj hF h14
      have : j = s.length := by omega
      subst this
      exact b_Tr_addCharacters_15 ht ht' ⟨fun _ => ⟨rfl, hF, Or.inl ⟨hfull, h14⟩⟩, fun q => absurd (Int32.le_refl _) q⟩
    | succ m ih =>
      intro j τ hj hF h14
      refine b_Tr_addCharacters_15 ht ht' ⟨fun q => absurd q (nI_ge (by omega) (by omega)), fun _ => ⟨by rw [show a + j = a + j from rfl]; exact vin (by omega) (by decide), (c_addCh1 ht (by rw [h14]; decide)).mono (fun σ1 hq => ?_)⟩⟩
      rw [hq, nI_1]
      exact ih (j + 1) _ (by omega) (hF.si m14) (gI_sI_s _ _ _ _)
  have loop : ∀ (m j : Nat) (τ : S_t), j + m = s.length → Fg (TLc t) σ τ → TCt τ t (C + j) (B + bls (s.take j)) → (∀ i, i < j → gI τ (t + 11) (C + i) = nI (gA s i)) → (∀ k, k < C → gI τ (t + 11) k = gI σ (t + 11) k) → JE E (d + 1) m_Tr_addCharacters 15 [(0, pv E t), (1, pv E t'), (4, .int (nI (a + s.length))), (5, .int (nI (a + j)))] [] τ Q := by
    intro m
    induction m with
    | zero =>
      intro j τ hj hF hT hst' hlow
      have : j = s.length := by omega
      subst this
      rw [List.take_length] at hT
      exact b_Tr_addCharacters_15 ht ht' ⟨fun _ => ⟨rfl, hF, Or.inr ⟨hT.2.2.2.2, hT, hst', hlow⟩⟩, fun q => absurd (Int32.le_refl _) q⟩
    | succ m ih =>
      intro j τ hj hF hT hst' hlow
      have hjs : j < s.length := by omega
      have hl := hs j hjs
      have hbt := bls_take_succ hjs
      have hbl := bls_take_le s (j + 1)
      refine b_Tr_addCharacters_15 ht ht' ⟨fun q => absurd q (nI_ge (by omega) (by omega)), fun _ => ⟨vin (by omega) (by decide), ?_⟩⟩
      rw [nI_clamp (by omega), hF.1 (t' + 11) (a + j) (by have := hd 11 (by omega); unfold TLc; omega), hst j hjs, nI_1]
      refine (c_addCh ht (by unfold Ltr at hl; omega) hT).mono (fun σ1 hq => ?_)
      rcases hq with ⟨g, rfl⟩ | ⟨g, F1, T1, e1, e2⟩
      · exact full (by omega) m (j + 1) _ (by omega) (hF.si m14) (gI_sI_s _ _ _ _)
      · refine ih (j + 1) σ1 (by omega) (hF.tr F1) (by rw [show B + bls (s.take (j + 1)) = B + bls (s.take j) + bl (gA s j) by omega]; exact T1) (fun i hi => ?_) (fun k hk => ?_)
        · by_cases e : i = j
          · subst e; exact e1
          · rw [e2 _ (by omega)]; exact hst' i (by omega)
        · rw [e2 _ (by omega)]; exact hlow k hk
  refine CE.of (L := [(0, pv E t), (1, pv E t'), (2, .int (nI a)), (3, .int (nI s.length))]) rfl (Nat.le_of_ble_eq_true rfl) rfl (b_Tr_addCharacters_0 ht ht' (fun r1 e1 => ?_))
  rw [nI_add, hcc, mn_n (by omega) (by omega), show min (a + s.length) cc' = a + s.length by omega] at e1
  rw [e1]
  exact loop s.length 0 σ (by omega) Fg.rf h (fun i hi => absurd hi (Nat.not_lt_zero i)) (fun k _ => rfl)
/-! a row more in a tree -/
def adR : Option (List Row) → Row → Option (List Row)
  | none, _ => none
  | some D, r => if D.length = 500 ∨ 4000 < bts D + rBt r then none else some (D ++ [r])
/-- the cells of the tree at t -/
def TPl (t : Nat) : Nat → Nat → Prop := fun p _ => t ≤ p ∧ p ≤ t + 11
theorem TL_TP {t p k : Nat} (h : TLc t p k) : TPl t p k := by unfold TLc at h; unfold TPl; omega
/-- the owner of a new row, as the class is told: its depth and where it is -/
def OwR (D : List Row) (x : Int32) (e : Nat) : Prop := (D = [] ∧ x < 0 ∧ e = 0) ∨ ∃ p, x = nI p ∧ Opn (dT D) D.length p ∧ 5 ≤ dK D p ∧ e = dT D p + 1
/-- is the owner an object -/
def OwN (D : List Row) (x : Int32) : Prop := ∃ p, x = nI p ∧ p < D.length ∧ dK D p = 6
theorem TrRow_same {σ σ' : S_t} {t k : Nat} {D D' : List Row} (h : TrRow σ t D k) (hc : ∀ j, 1 ≤ j → j ≤ 10 → gI σ' (t + j) k = gI σ (t + j) k) (hL : gL σ' (t + 7) k = gL σ (t + 7) k) (hch : ∀ i, i < cc D → gI σ' (t + 11) i = gI σ (t + 11) i) (hcc : cc D ≤ cc D') (h1 : dR D' k = dR D k) (h2 : pI (dT D') k = pI (dT D) k) (h3 : ordr (dT D') k = ordr (dT D) k) (h4 : prt (dT D') D'.length k = prt (dT D) D.length k) : TrRow σ' t D' k := by
  obtain ⟨r1, r2, r3, r4, r5, r6, r7, ⟨a, r8, r9, r10⟩, ⟨b, r11, r12, r13⟩⟩ := h
  have eK : dK D' k = dK D k := by unfold dK; rw [h1]
  have eT : dT D' k = dT D k := by unfold dT; rw [h1]
  have eX : dX D' k = dX D k := by unfold dX; rw [h1]
  have eB : dB D' k = dB D k := by unfold dB; rw [h1]
  have eN : nam D' k = nam D k := by unfold nam dN; rw [h1]
  unfold TrRow
  rw [eK, eT, eX, eB, eN, h2, h3, h4]
  exact ⟨by rw [hc 1 (by omega) (by omega)]; exact r1, by rw [hc 2 (by omega) (by omega)]; exact r2, by rw [hc 3 (by omega) (by omega)]; exact r3, by rw [hc 4 (by omega) (by omega)]; exact r4, by rw [hc 6 (by omega) (by omega)]; exact r5, by rw [hL]; exact r6, by rw [hc 9 (by omega) (by omega)]; exact r7, ⟨a, by rw [hc 8 (by omega) (by omega)]; exact r8, by omega, StrA_congr (fun i hi => hch _ (by omega)) r10⟩, ⟨b, by rw [hc 10 (by omega) (by omega)]; exact r11, by omega, StrA_congr (fun i hi => hch _ (by omega)) r13⟩⟩
/-- the depth of a row told by its owner fits -/
theorem OwR_fit {D : List Row} {x : Int32} {e : Nat} (hV : VT (dT D) D.length) (h : OwR D x e) : (D.length = 0 → e = 0) ∧ (0 < D.length → 1 ≤ e ∧ e ≤ dT D (D.length - 1) + 1) ∧ (0 < D.length → x = nI (lst (dT D) (e - 1) D.length) ∧ Opn (dT D) D.length (lst (dT D) (e - 1) D.length) ∧ dT D (lst (dT D) (e - 1) D.length) + 1 = e ∧ 5 ≤ dK D (lst (dT D) (e - 1) D.length)) := by
  rcases h with ⟨rfl, _, rfl⟩ | ⟨p, rfl, hO, h5, rfl⟩
  · exact ⟨fun _ => rfl, fun h => absurd h (Nat.lt_irrefl 0), fun h => absurd h (Nat.lt_irrefl 0)⟩
  · have hp := hO.1
    have hl : lst (dT D) (dT D p + 1 - 1) D.length = p := Opn_lst hO
    refine ⟨fun h => by omega, fun _ => ⟨by omega, ?_⟩, fun _ => ?_⟩
    · by_cases g : p = D.length - 1
      · rw [← g]; omega
      · have := hO.2 (D.length - 1) (by omega) (by omega); omega
    · rw [hl]; exact ⟨rfl, hO, rfl, h5⟩
/-- the new row's own derived numbers, and those of the others -/
theorem push_shape {D : List Row} {r : Row} {x : Int32} (hV : VT (dT D) D.length) (h : OwR D x r.2.1) : VT (dT (D ++ [r])) (D ++ [r]).length ∧ (∀ k, k < D.length → dR (D ++ [r]) k = dR D k ∧ pI (dT (D ++ [r])) k = pI (dT D) k ∧ ordr (dT (D ++ [r])) k = ordr (dT D) k ∧ prt (dT (D ++ [r])) (D ++ [r]).length k = if 0 < D.length ∧ k = lst (dT D) (r.2.1 - 1) D.length then prt (dT D) D.length k + 1 else prt (dT D) D.length k) ∧ pI (dT (D ++ [r])) D.length = (if D.length = 0 then -1 else (lst (dT D) (r.2.1 - 1) D.length : Int)) ∧ ordr (dT (D ++ [r])) D.length = (if D.length = 0 then 0 else prt (dT D) D.length (lst (dT D) (r.2.1 - 1) D.length)) ∧ prt (dT (D ++ [r])) (D ++ [r]).length D.length = 0 := by
  obtain ⟨f1, f2, f3⟩ := OwR_fit hV h
  have hg : ∀ k, k < D.length → dT (D ++ [r]) k = dT D k := fun k hk => by unfold dT; rw [dR_lt hk]
  have hn : dT (D ++ [r]) D.length = r.2.1 := by unfold dT; rw [dR_eq]
  rw [lenR]
  refine ⟨ap_VT hg hn hV f1 f2, fun k hk => ⟨dR_lt hk, ?_, ap_ord hg hk, ?_⟩, ?_, ?_, ap_prt_n hg hn⟩
  · unfold pI; rw [ap_par hg hk]
  · by_cases z : 0 < D.length
    · obtain ⟨g1, g2⟩ := f2 z
      rw [ap_prt hg hn hV z g1 g2 hk]
      by_cases y : k = lst (dT D) (r.2.1 - 1) D.length
      · rw [if_pos y, if_pos ⟨z, y⟩]
      · rw [if_neg y, if_neg (fun q => y q.2)]
    · omega
  · unfold pI
    by_cases z : D.length = 0
    · rw [if_pos z, if_pos z]
    · obtain ⟨g1, g2⟩ := f2 (by omega)
      rw [if_neg z, if_neg z, (ap_par_n hg hn hV (by omega) g1 g2).1]
  · by_cases z : D.length = 0
    · rw [if_pos z]; unfold ordr; rw [if_pos z]
    · obtain ⟨g1, g2⟩ := f2 (by omega)
      rw [if_neg z, ap_ord_n hg hn hV (by omega) g1 g2]
