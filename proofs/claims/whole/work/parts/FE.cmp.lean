theorem c_rank {E : En_t} {d c : Nat} {σ : S_t} (hc : c < 1114112) : CI E d m_Tr_rank [.int (nI c)] σ (fun r σ' => r = nI (rk c) ∧ σ' = σ) := by
  refine CE.of (L := [(0, .int (nI c))]) rfl (Nat.le_of_ble_eq_true rfl) rfl (b_Tr_rank_0 (pk_le 55296 c (fun g => pk_le 65536 c (fun g2 => ⟨_, rfl, ?_, rfl⟩) (fun g2 => ⟨_, rfl, ?_, rfl⟩)) (fun g => ⟨_, rfl, ?_, rfl⟩)))
  · unfold rk
    rw [if_neg (by omega), if_neg (by omega), show nI c - (65536 : Int32) = nI (c - 65536) from pk_sub (b := 65536) g2]
    exact nI_add _ 55296
  · unfold rk
    rw [if_neg (by omega), if_pos g2]
    exact nI_add _ 1048576
  · unfold rk; rw [if_pos g]
theorem c_cmpI {E : En_t} {d x y : Nat} {σ : S_t} (hx : x < 2 ^ 31) (hy : y < 2 ^ 31) : CI E d m_JIn_compare [.int (nI x), .int (nI y)] σ (fun r σ' => ((r < 0 ↔ x < y) ∧ (r = 0 ↔ x = y)) ∧ σ' = σ) := by
  refine CE.of (L := [(0, .int (nI x)), (1, .int (nI y))]) rfl (Nat.le_of_ble_eq_true rfl) rfl (b_JIn_compare_0 ?_)
  rw [nI_eq hx hy]
  refine ⟨fun q => ?_, fun q => ?_⟩
  · have g : y ≤ x := Nat.not_lt.mp (fun z => absurd q (nI_ge z (by omega)))
    exact ⟨fun z => ⟨_, rfl, ⟨⟨fun w => absurd w (by decide), fun w => by omega⟩, ⟨fun w => absurd w (by decide), fun w => absurd w z⟩⟩, rfl⟩, fun z => ⟨_, rfl, ⟨⟨fun w => absurd w (by decide), fun w => by omega⟩, ⟨fun _ => z, fun _ => rfl⟩⟩, rfl⟩⟩
  · have g : x < y := Nat.not_le.mp (fun z => q (nI_le z hx))
    exact ⟨_, rfl, ⟨⟨fun _ => g, fun _ => by decide⟩, ⟨fun w => absurd w (by decide), fun w => by omega⟩⟩, rfl⟩
theorem rk_lt {c : Nat} (h : c < 1114112) : rk c < 2 ^ 31 := by
  unfold rk
  (repeat' split) <;> omega
theorem rk_ne {a b : Nat} (ha : a < 1114112) (hb : b < 1114112) (h : a ≠ b) : rk a ≠ rk b := by
  unfold rk
  (repeat' split) <;> omega
/-- a name of a tree compared -/
theorem c_compareW {E : En_t} {d o0 o3 a b j : Nat} {s t : List Nat} {σ : S_t} (k0 : kindP o0 = 11) (k3 : kindP o3 = 11) (hj : j < 500) (h1 : StrA (gI σ (o0 + 11)) a s) (l1 : a + s.length ≤ 4000) (n9 : gI σ (o3 + 9) j = nI t.length) (n8 : gI σ (o3 + 8) j = nI b) (h2 : StrA (gI σ (o3 + 11)) b t) (l2 : b + t.length ≤ 4000) (hs : Ltrs s) (ht : Ltrs t) : CI E (d + 1) m_Tr_compareWithName [pv E o0, .int (nI a), .int (nI s.length), pv E o3, .int (nI j)] σ (fun r σ' => CmR s t r ∧ σ' = σ) := by
  have cj : (nI j).toNatClampNeg = j := nI_clamp (by omega)
  have loop : ∀ (m k : Nat), k + m = min s.length t.length → cmN (s.drop k) (t.drop k) = cmN s t → JE E (d + 1) m_Tr_compareWithName 20 [(0, pv E o0), (1, .int (nI a)), (2, .int (nI s.length)), (3, pv E o3), (4, .int (nI j)), (5, .int (nI t.length)), (6, .int (nI (min s.length t.length))), (7, .int (nI k))] [] σ (fun q σ' => ∃ r, q = some (.int r) ∧ CmR s t r ∧ σ' = σ) := by
    intro m
    induction m with
    | zero =>
      intro k hk hc
      refine b_Tr_compareWithName_20 k0 k3 ⟨fun _ => (c_cmpI (by omega) (by omega)).mono (fun r σ1 hq => ⟨_, rfl, ?_, hq.2⟩), fun q => absurd (nI_le (by omega) (by omega)) q⟩
      rw [cmN_end (by omega) (by omega) (by omega)] at hc
      unfold CmR
      rw [hq.1.1, hq.1.2, ← hc]
      constructor
      · constructor
        · intro q; rw [if_pos q]; decide
        · intro q; split at q
          · assumption
          · split at q <;> exact absurd q (by decide)
      · constructor
        · intro q; rw [if_neg (by omega), if_pos q]
        · intro q; split at q
          · exact absurd q (by decide)
          · split at q
            · assumption
            · exact absurd q (by decide)
    | succ m ih =>
      intro k hk hc
      have hks : k < s.length := by omega
      have hkt : k < t.length := by omega
      refine b_Tr_compareWithName_20 k0 k3 ⟨fun q => absurd q (nI_ge (by omega) (by omega)), fun _ => ?_⟩
      rw [cj, n8, nI_add, nI_add, nI_clamp (by omega), nI_clamp (by omega), h1 k hks, h2 k hkt, nI_1]
      have hls := hs k hks
      have hlt := ht k hkt
      have b1 : gA s k < 1114112 := by unfold Ltr at hls; omega
      have b2 : gA t k < 1114112 := by unfold Ltr at hlt; omega
      refine ⟨vin (by omega) (by decide), vin hj (by decide), vin (by omega) (by decide), ?_⟩
      rw [nI_eq (by omega) (by omega)]
      refine ⟨fun q => ih (k + 1) (by omega) (by rw [← hc, cmN_eq hks hkt q]), fun q => (c_rank b1).mono (fun r2 σ1 hq => ?_)⟩
      rw [hq.1, hq.2]
      refine (c_rank b2).mono (fun r4 σ2 hq => ?_)
      rw [hq.1, hq.2]
      refine (c_cmpI (rk_lt b1) (rk_lt b2)).mono (fun r σ3 hq => ⟨_, rfl, ?_, hq.2⟩)
      rw [cmN_ne hks hkt q] at hc
      have := rk_ne b1 b2 q
      unfold CmR
      rw [hq.1.1, hq.1.2, ← hc]
      constructor
      · constructor
        · intro z; rw [if_pos z]; decide
        · intro z; split at z
          · assumption
          · exact absurd z (by decide)
      · constructor
        · intro z; exact absurd z this
        · intro z; split at z <;> exact absurd z (by decide)
  refine CE.of (L := [(0, pv E o0), (1, .int (nI a)), (2, .int (nI s.length)), (3, pv E o3), (4, .int (nI j))]) rfl (Nat.le_of_ble_eq_true rfl) rfl (b_Tr_compareWithName_0 k0 k3 ⟨vin hj (by decide), fun r1 e1 => ?_⟩)
  rw [cj, n9, mn_n (by omega) (by omega)] at e1
  rw [e1, cj, n9]
  exact loop (min s.length t.length) 0 (by omega) rfl
theorem c_compareNames {E : En_t} {d t t' k j : Nat} {D F : List Row} {σ : S_t} (ht : kindP t = 11) (ht' : kindP t' = 11) (hD : WfR D) (hF : WfR F) (mD : TrR σ t D) (mF : TrR σ t' F) (hk : k < D.length) (hj : j < F.length) : CI E (d + 2) m_Tr_compareNames [pv E t, .int (nI k), pv E t', .int (nI j)] σ (fun r σ' => CmR (nam D k) (nam F j) r ∧ σ' = σ) := by
  have h5 := hD.2.2.2.2
  have h5' := hF.2.2.2.2
  have c1 : cc D ≤ bts D := cc_bts D
  have c2 : cc F ≤ bts F := cc_bts F
  obtain ⟨_, _, _, _, _, _, a9, ⟨a, a8, al, as⟩, _⟩ := mD.2.2.2.2 k hk
  obtain ⟨_, _, _, _, _, _, b9, ⟨b, b8, bl, bs⟩, _⟩ := mF.2.2.2.2 j hj
  have lk := (hD.2.1 k hk).2.2.2.2.2.2.1
  have lj := (hF.2.1 j hj).2.2.2.2.2.2.1
  refine CE.of (L := [(0, pv E t), (1, .int (nI k)), (2, pv E t'), (3, .int (nI j))]) rfl (Nat.le_of_ble_eq_true rfl) rfl (b_Tr_compareNames_0 ht ht' ⟨vin (by omega) (by decide), vin (by omega) (by decide), ?_⟩)
  rw [nI_clamp (by omega), a8, a9]
  exact (c_compareW ht ht' (by omega) as (by omega) b9 b8 bs (by omega) lk lj).mono (fun r σ1 hq => ⟨_, rfl, hq⟩)
