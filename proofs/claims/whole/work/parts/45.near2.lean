theorem tk_of {k : Nat} (h : k = 20000) : 10 ^ k = TK := by rw [h]; rfl
theorem tk_k {k : Nat} (h : k ≤ 19999) : 10 ^ k * 10 ^ ((0 : Int) - ((k + 1 : Nat) : Int) + 20000).toNat * 10 ^ 1 = TK := by
  have e : ((0 : Int) - ((k + 1 : Nat) : Int) + 20000).toNat = 19999 - k := by
    have e1 : (0 : Int) - ((k + 1 : Nat) : Int) + 20000 = ((19999 - k : Nat) : Int) := by omega
    rw [e1]; rfl
  rw [e, ← Nat.pow_add, ← Nat.pow_add]
  exact tk_of (by omega)
theorem p2c (a b : Nat) (h : a = b) (X : Nat) : X * 2 ^ a = X * 2 ^ b := by rw [h]
/-- from what stands when the value lies in [1/2, 1) to the answer -/
theorem nr_exit {E : En_t} {d : Nat} {Q : Option Value → S_t → Prop} (σ0 : S_t) (X0 a b : Nat) (hQ : ∀ σ' B, Fs MP σ0 σ' → RdB X0 B → Q (some (.long (lN B))) σ') {σ : S_t} {N n : Nat} (hF : Fs MP σ0 σ) (hN : Nrm σ N n 0) (h5 : 5 ≤ dg σ 0) (hab : SV N n 0 * 2 ^ a = X0 * 2 ^ b) (ha : a ≤ 1090) (hb : b ≤ 1160) (hn : n ≤ 4500) :
    ((zI ((a : Int) - b) + (-1 : Int32)) ≤ (1023 : Int32) → ((-1022 : Int32) ≤ (zI ((a : Int) - b) + (-1 : Int32)) → JE E (d + 3) m_Mo_nearest 180 [(0, pv E 0), (1, .int (zI ((a : Int) - b) + (-1 : Int32)))] [] σ Q) ∧ (¬ (-1022 : Int32) ≤ (zI ((a : Int) - b) + (-1 : Int32)) → CV E (d + 2) m_Mo_halvedBy [pv E 0, .int ((-1022 : Int32) - (zI ((a : Int) - b) + (-1 : Int32)))] σ (fun σ1 => JE E (d + 3) m_Mo_nearest 180 [(0, pv E 0), (1, .int (-1022 : Int32))] [] σ1 Q))) ∧ (¬ (zI ((a : Int) - b) + (-1 : Int32)) ≤ (1023 : Int32) → Q (some (.long (9218868437227405312 : Int64))) σ) := by
  have e1 : zI ((a : Int) - b) + (-1 : Int32) = zI ((a : Int) - b - 1) := by
    have : (-1 : Int32) = zI (-1) := rfl
    rw [this, zI_add]; congr 1
  rw [e1]
  generalize hL : (a : Int) - b - 1 = L
  generalize hY : SV N n 0 = Y at hab
  -- the value lies in [1/2, 1)
  have hY2 : Y < TK := by rw [← hY]; exact hN.sv_hi (by omega)
  have hY1 : TK ≤ 2 * Y := by
    obtain ⟨⟨-, -, -, hval⟩, hn0, -, -⟩ := hN
    obtain ⟨k, rfl⟩ : ∃ k, n = k + 1 := ⟨n - 1, by omega⟩
    have h6 : 5 * 10 ^ k ≤ N := by
      rw [← hval, dval_cons]
      have := Nat.mul_le_mul_right (10 ^ k) h5
      omega
    rw [← hY]
    unfold SV
    have h7 := Nat.mul_le_mul_right (10 ^ ((0 : Int) - ((k + 1 : Nat) : Int) + 20000).toNat) h6
    have h8 : 10 ^ k * 10 ^ ((0 : Int) - ((k + 1 : Nat) : Int) + 20000).toNat * 10 ^ 1 = TK := by
      exact tk_k (by omega)
    rw [Nat.mul_assoc] at h7
    omega
  have hlg : lg2 X0 L := by
    have hp := pw_pos b
    refine ⟨?_, ?_⟩
    · refine Nat.le_of_mul_le_mul_right ?_ hp
      rw [Nat.mul_right_comm X0, ← hab, Nat.mul_assoc, Nat.mul_assoc, ← Nat.pow_add, ← Nat.pow_add]
      rw [show a + (-L).toNat = (L.toNat + b) + 1 by omega, Nat.pow_succ]
      have := Nat.mul_le_mul_right (2 ^ (L.toNat + b)) hY1
      rw [Nat.mul_comm (2 ^ (L.toNat + b)) 2, ← Nat.mul_assoc, Nat.mul_comm Y 2]; exact this
    · refine Nat.lt_of_mul_lt_mul_right (a := 2 ^ b) ?_
      rw [Nat.mul_right_comm X0, ← hab, Nat.mul_assoc, Nat.mul_assoc, ← Nat.pow_add, ← Nat.pow_add]
      rw [show a + (-(L + 1)).toNat = (L + 1).toNat + b by omega]
      exact Nat.mul_lt_mul_of_pos_right hY2 (pw_pos _)
  have big : 1023 < L → RdB X0 9218868437227405312 := fun h => ⟨L, hlg, Or.inl ⟨h, rfl⟩⟩
  -- behind the halving by c
  have go : ∀ (c : Nat) (e' : Int) (σ1 : S_t) (N1 n1 : Nat) (p1 : Int), L ≤ 1023 → e' = L + c → e' = max L (-1022) → c ≤ 200 → Fs MP σ0 σ1 → Nrm σ1 N1 n1 p1 → SV N1 n1 p1 * 2 ^ c = Y → n1 ≤ 4800 → -2000 ≤ p1 → p1 ≤ 0 → JE E (d + 3) m_Mo_nearest 180 [(0, pv E 0), (1, .int (zI e'))] [] σ1 Q := by
    intro c e' σ1 N1 n1 p1 hL1 he he' hc F1 hN1 hX1 hn1 hp1 hp0
    refine b_Mo_nearest_180 ((c_doubledBy (s := 53) hN1 (by omega) (by omega) (by omega)).mono (fun σ2 hq => ?_))
    obtain ⟨F2, N2, n2, p2, g1, g2, g3, g4, g5⟩ := hq
    have hX3 : SV N2 n2 p2 * 2 ^ c = Y * 2 ^ 53 := by rw [g2, Nat.mul_right_comm, hX1]
    have hpc := pw_pos c
    have hlt : SV N2 n2 p2 < 2 ^ 53 * TK := by
      refine Nat.lt_of_le_of_lt (Nat.le_mul_of_pos_right _ hpc) ?_
      rw [hX3, Nat.mul_comm]
      exact Nat.mul_lt_mul_of_pos_left hY2 (by decide)
    have hu : uOf L = e' - 52 := by unfold uOf; omega
    have key : SV N2 n2 p2 * 2 ^ (uOf L).toNat = X0 * 2 ^ (-(uOf L)).toNat := by
      refine Nat.eq_of_mul_eq_mul_right (pw_pos (c + a)) ?_
      have k1 : SV N2 n2 p2 * 2 ^ (uOf L).toNat * 2 ^ (c + a) = (SV N2 n2 p2 * 2 ^ c) * (2 ^ a * 2 ^ (uOf L).toNat) := by
        rw [Nat.pow_add]; generalize SV N2 n2 p2 = W; ac_rfl
      have k2 : (Y * 2 ^ 53) * (2 ^ a * 2 ^ (uOf L).toNat) = (Y * 2 ^ a) * 2 ^ (53 + (uOf L).toNat) := by
        rw [Nat.pow_add]; generalize 2 ^ 53 = P53; ac_rfl
      rw [k1, hX3, k2, hab, Nat.mul_assoc, Nat.mul_assoc, ← Nat.pow_add, ← Nat.pow_add]
      exact p2c _ _ (by omega) X0
    refine nr_round g1 (by omega) (by omega) hlt (by omega) (by omega) ?_ ?_
    · rcases Int.lt_or_le L (-1022) with q | q
      · exact Or.inr (by omega)
      · left
        have hc0 : c = 0 := by omega
        subst hc0
        rw [Nat.pow_zero, Nat.mul_one] at hX3
        rw [hX3, show (2 : Nat) ^ 53 = 2 * 2 ^ 52 from rfl, ← Nat.mul_assoc, Nat.mul_comm Y 2, Nat.mul_comm (2 ^ 52)]
        exact Nat.mul_le_mul_right _ hY1
    · refine hQ _ _ (F1.tr F2) ⟨L, hlg, Or.inr ⟨hL1, ?_⟩⟩
      rw [← key, rhe_scale (pw_pos _), hu]
      congr 2; omega
  refine ⟨fun h1 => ⟨fun h2 => ?_, fun h2 => ?_⟩, fun h1 => ?_⟩
  · have h1 : L ≤ 1023 := (zI_le (b := 1023) (by omega) (by omega) (by omega) (by omega)).mp h1
    have h2 : -1022 ≤ L := (zI_le (a := -1022) (by omega) (by omega) (by omega) (by omega)).mp h2
    exact go 0 L σ N n 0 h1 (by omega) (by omega) (by omega) hF hN (by rw [Nat.pow_zero, Nat.mul_one, hY]) (by omega) (by omega) (by omega)
  · have h1 : L ≤ 1023 := (zI_le (b := 1023) (by omega) (by omega) (by omega) (by omega)).mp h1
    have h2 : L < -1022 := by
      rcases Int.lt_or_le L (-1022) with g | g
      · exact g
      · exact absurd ((zI_le (a := -1022) (by omega) (by omega) (by omega) (by omega)).mpr g) h2
    have e2 : (-1022 : Int32) - zI L = nI (-1022 - L).toNat := by
      have : (-1022 : Int32) = zI (-1022) := rfl
      rw [this, zI_sub, ← zI_nI]; congr 1; omega
    rw [e2]
    refine (c_halvedBy hN (by omega) (by omega) (by omega)).mono (fun σ1 hq => ?_)
    obtain ⟨F1, N1, n1, p1, g1, g2, g3, g4, g5⟩ := hq
    exact go (-1022 - L).toNat (-1022) σ1 N1 n1 p1 h1 (by omega) (by omega) (by omega) (hF.tr F1) g1 (by rw [g2, hY]) (by omega) (by omega) (by omega)
  · have h1 : 1023 < L := by
      rcases Int.lt_or_le 1023 L with g | g
      · exact g
      · exact absurd ((zI_le (b := 1023) (by omega) (by omega) (by omega) (by omega)).mpr g) h1
    exact hQ σ _ hF (big h1)
theorem nr_loop2 {E : En_t} {d : Nat} {Q : Option Value → S_t → Prop} (σ0 : S_t) (X0 a S1 n1 : Nat) (hQ : ∀ σ' B, Fs MP σ0 σ' → RdB X0 B → Q (some (.long (lN B))) σ') (hS1 : S1 * 2 ^ a = X0) (hlow : 10 ^ (20000 - 341) ≤ S1) (ha : a ≤ 1090) (hn1 : n1 ≤ 3250) :
    ∀ (m b N n : Nat) (pt : Int) (σ : S_t), 1140 ≤ b + m → b ≤ 1160 → Fs MP σ0 σ → Nrm σ N n pt → pt ≤ 0 → -500 ≤ pt → SV N n pt = S1 * 2 ^ b → n ≤ n1 + b → JE E (d + 3) m_Mo_nearest 81 [(0, pv E 0), (1, .int (zI ((a : Int) - b)))] [] σ Q := by
  have hbb : ∀ b, S1 * 2 ^ b * 2 < TK → b ≤ 1132 := by
    intro b h
    have h1 := Nat.mul_le_mul_right (2 ^ b * 2) hlow
    rw [← Nat.mul_assoc, ← Nat.mul_assoc] at h1
    have h2 : 10 ^ (20000 - 341) * (2 ^ b * 2) < 10 ^ (20000 - 341) * 10 ^ 341 := by
      rw [tk_dn (by decide), ← Nat.mul_assoc]
      exact Nat.lt_of_le_of_lt h1 h
    have h3 := Nat.lt_of_mul_lt_mul_left h2
    rw [← Nat.pow_succ] at h3
    have h4 : (10 : Nat) ^ 341 < 2 ^ 1133 := by decide +kernel
    have := (Nat.pow_lt_pow_iff_right (a := 2) (by decide)).mp (Nat.lt_trans h3 h4)
    omega
  -- either it is done, or the value is below 1/2
  have way : ∀ (b N n : Nat) (pt : Int) (σ : S_t), b ≤ 1160 → Fs MP σ0 σ → Nrm σ N n pt → pt ≤ 0 → -500 ≤ pt → SV N n pt = S1 * 2 ^ b → n ≤ n1 + b → (S1 * 2 ^ b * 2 < TK → JE E (d + 3) m_Mo_nearest 98 [(0, pv E 0), (1, .int (zI ((a : Int) - b)))] [] σ Q) → JE E (d + 3) m_Mo_nearest 81 [(0, pv E 0), (1, .int (zI ((a : Int) - b)))] [] σ Q := by
    intro b N n pt σ hb hF hN hp0 hp1 hS hn h98
    obtain ⟨⟨h6, h7, hdig, hval⟩, hn0, hlead, hlast⟩ := id hN
    refine b_Mo_nearest_81 ⟨fun h => ?_, fun h => ⟨vin (n := 0) (by decide) (by decide), fun h5 => ?_, fun h5 => ?_⟩⟩
    · refine h98 ?_
      rw [h7] at h
      have h : pt < 0 := (zI_lt (b := 0) (by omega) (by omega) (by omega) (by omega)).mp h
      have h1 := hN.sv_hi (by omega)
      rw [hS] at h1
      have h2 : 10 ^ (pt + 20000).toNat ≤ 10 ^ (20000 - 1) := Nat.pow_le_pow_right (by decide) (by omega)
      have h3 := tk_dn (j := 1) (by decide)
      omega
    · have hpt : pt = 0 := by
        rw [h7] at h
        rcases Int.lt_or_le pt 0 with g | g
        · exact absurd ((zI_lt (b := 0) (by omega) (by omega) (by omega) (by omega)).mpr g) h
        · omega
      subst hpt
      have h5 : 5 ≤ dg σ 0 := by
        rw [tc0, ← nI_un (gI σ 3 0)] at h5
        have := hdig 0 hn0
        exact (nI_leI (a := 5) (by omega) (by show dg σ 0 < _; omega)).mp h5
      refine nr_exit σ0 X0 a b hQ hF hN h5 ?_ ha hb (by omega)
      rw [hS, ← hS1]; ac_rfl
    · refine h98 ?_
      have hpt : pt = 0 := by
        rw [h7] at h
        rcases Int.lt_or_le pt 0 with g | g
        · exact absurd ((zI_lt (b := 0) (by omega) (by omega) (by omega) (by omega)).mpr g) h
        · omega
      subst hpt
      have h5 : dg σ 0 < 5 := by
        rw [tc0, ← nI_un (gI σ 3 0)] at h5
        have := hdig 0 hn0
        rcases Nat.lt_or_ge (dg σ 0) 5 with g | g
        · exact g
        · exact absurd (nI_le (a := 5) g (by show dg σ 0 < _; omega)) h5
      obtain ⟨k, rfl⟩ : ∃ k, n = k + 1 := ⟨n - 1, by omega⟩
      have hr := dval_lt (f := fun t => dg σ (t + 1)) (n := k) (fun i hi => hdig (i + 1) (by omega))
      have h9 : N < 5 * 10 ^ k := by
        rw [← hval, dval_cons]
        have := Nat.mul_le_mul_right (10 ^ k) (show dg σ 0 ≤ 4 by omega)
        omega
      rw [← hS]
      unfold SV
      have h10 := Nat.mul_lt_mul_of_pos_right h9 (p10 ((0 : Int) - ((k + 1 : Nat) : Int) + 20000).toNat)
      have h11 : 10 ^ k * 10 ^ ((0 : Int) - ((k + 1 : Nat) : Int) + 20000).toNat * 10 ^ 1 = TK := by
        exact tk_k (by omega)
      rw [Nat.mul_assoc] at h10
      omega
  intro m
  induction m with
  | zero =>
    intro b N n pt σ hbm hb hF hN hp0 hp1 hS hn
    exact way b N n pt σ hb hF hN hp0 hp1 hS hn (fun h => absurd (hbb b h) (by omega))
  | succ m ih =>
    intro b N n pt σ hbm hb hF hN hp0 hp1 hS hn
    refine way b N n pt σ hb hF hN hp0 hp1 hS hn (fun hlt => ?_)
    have hb2 := hbb b hlt
    have h7 : gI σ 0 7 = zI pt := hN.1.2.1
    have doub : ∀ s : Nat, 1 ≤ s → s ≤ 20 → (pt = 0 ∧ s = 1 ∨ (s : Int) ≤ -3 * pt) → JE E (d + 3) m_Mo_nearest 133 [(0, pv E 0), (1, .int (zI ((a : Int) - b)))] [.int (nI s)] σ Q := by
      intro s hs1 hs2 hs
      refine b_Mo_nearest_133 ((c_doubled hN hs1 hs2 (by omega) (by omega) (by omega)).mono (fun σ1 hq => ?_))
      obtain ⟨F1, N1, n1', p1, g1, g2, g3, g4, g5⟩ := hq
      have e : zI ((a : Int) - b) - nI s = zI ((a : Int) - (b + s : Nat)) := by
        rw [← zI_nI, zI_sub]; congr 1; omega
      have hSV : SV N1 n1' p1 = S1 * 2 ^ (b + s) := by rw [g2, hS, Nat.mul_assoc, ← Nat.pow_add]
      have hbelow : SV N1 n1' p1 < TK := by
        rw [g2]
        rcases hs with ⟨q1, q2⟩ | q
        · subst q2; rw [hS]; exact hlt
        · have h1 := hN.sv_hi (by omega)
          have h2 : 2 ^ s ≤ 10 ^ (-pt).toNat := by
            refine Nat.le_trans (Nat.pow_le_pow_right (by decide) (show s ≤ 3 * (-pt).toNat by omega)) ?_
            rw [Nat.pow_mul]
            exact Nat.pow_le_pow_left (by decide) _
          have h3 : SV N n pt * 2 ^ s < 10 ^ (pt + 20000).toNat * 10 ^ (-pt).toNat :=
            Nat.lt_of_le_of_lt (Nat.mul_le_mul_left _ h2) (Nat.mul_lt_mul_of_pos_right h1 (p10 _))
          rw [← Nat.pow_add] at h3
          rw [tk_of (k := (pt + 20000).toNat + (-pt).toNat) (by omega)] at h3
          exact h3
      rw [e]
      exact ih (b + s) N1 n1' p1 σ1 (by omega) (by omega) (hF.tr F1) g1 (g1.pt_le (by omega) (by omega) hbelow) (by omega) hSV (by omega)
    have e3 : (-3 : Int32) * gI σ 0 7 = nI (-3 * pt).toNat := by
      have : (-3 : Int32) = zI (-3) := rfl
      rw [h7, this, zI_mul, ← zI_nI]; congr 1; omega
    refine b_Mo_nearest_98 ⟨fun h => ⟨fun h2 => ?_, fun h2 => ?_⟩, fun h => ?_⟩
    · rw [e3] at h2
      have h2 : 20 ≤ (-3 * pt).toNat := (nI_leI (a := 20) (by omega) (by omega)).mp h2
      exact doub 20 (by omega) (by omega) (Or.inr (by omega))
    · rw [e3] at h2 ⊢
      have hne : pt ≠ 0 := fun q => h (by rw [h7, q]; rfl)
      have h2 : (-3 * pt).toNat < 20 := by
        rcases Nat.lt_or_ge (-3 * pt).toNat 20 with g | g
        · exact g
        · exact absurd (nI_le (a := 20) g (by omega)) h2
      exact doub (-3 * pt).toNat (by omega) (by omega) (Or.inr (by omega))
    · rw [h7] at h
      have h : pt = 0 := (zI_eq (b := 0) (by omega) (by omega) (by omega) (by omega)).mp h
      exact doub 1 (by omega) (by omega) (Or.inl ⟨h, rfl⟩)
theorem nr_loop1 {E : En_t} {d : Nat} {Q : Option Value → S_t → Prop} (σ0 : S_t) (X0 n0 : Nat) (hQ : ∀ σ' B, Fs MP σ0 σ' → RdB X0 B → Q (some (.long (lN B))) σ') (hX0 : X0 < TK * 10 ^ 320) (hn0 : n0 ≤ 2100) :
    ∀ (m a N n : Nat) (pt : Int) (σ : S_t), 1070 ≤ a + m → a ≤ 1090 → Fs MP σ0 σ → Nrm σ N n pt → pt ≤ 320 → -340 ≤ pt → SV N n pt * 2 ^ a = X0 → n ≤ n0 + a → JE E (d + 3) m_Mo_nearest 39 [(0, pv E 0), (1, .int (nI a))] [] σ Q := by
  have way : ∀ (a N n : Nat) (pt : Int) (σ : S_t), a ≤ 1090 → Fs MP σ0 σ → Nrm σ N n pt → pt ≤ 0 → -340 ≤ pt → SV N n pt * 2 ^ a = X0 → n ≤ n0 + a → JE E (d + 3) m_Mo_nearest 81 [(0, pv E 0), (1, .int (nI a))] [] σ Q := by
    intro a N n pt σ ha hF hN hp0 hp1 hS hn
    have hlow : 10 ^ (20000 - 341) ≤ SV N n pt := by
      refine Nat.le_trans (Nat.pow_le_pow_right (by decide) (show 20000 - 341 ≤ (pt - 1 + 20000).toNat by omega)) (hN.sv_lo (by omega))
    have := nr_loop2 σ0 X0 a (SV N n pt) n hQ hS hlow ha (by omega) 1140 0 N n pt σ (by omega) (by omega) hF hN hp0 (by omega) (by rw [Nat.pow_zero, Nat.mul_one]) (by omega) (E := E) (d := d)
    have e : zI ((a : Int) - (0 : Nat)) = nI a := by rw [← zI_nI]; congr 1
    rw [e] at this
    exact this
  have hab : ∀ (a : Nat) (S : Nat), TK ≤ S → S * 2 ^ a = X0 → a ≤ 1064 := by
    intro a S h1 h2
    have h3 := Nat.mul_le_mul_right (2 ^ a) h1
    rw [h2] at h3
    have h4 := Nat.lt_of_mul_lt_mul_left (Nat.lt_of_le_of_lt h3 hX0)
    have h5 : (10 : Nat) ^ 320 < 2 ^ 1065 := by decide +kernel
    have := (Nat.pow_lt_pow_iff_right (a := 2) (by decide)).mp (Nat.lt_trans h4 h5)
    omega
  intro m
  induction m with
  | zero =>
    intro a N n pt σ hbm hb hF hN hp0 hp1 hS hn
    have h7 : gI σ 0 7 = zI pt := hN.1.2.1
    have hpt : pt ≤ 0 := by
      rcases Int.lt_or_le 0 pt with g | g
      · exfalso
        have h1 : TK ≤ SV N n pt := Nat.le_trans (Nat.pow_le_pow_right (by decide) (show 20000 ≤ (pt - 1 + 20000).toNat by omega)) (hN.sv_lo (by omega))
        have := hab a _ h1 hS
        omega
      · exact g
    refine b_Mo_nearest_39 ⟨fun _ => way a N n pt σ hb hF hN hpt hp1 hS hn, fun h => absurd (by rw [h7]; exact (zI_le (b := 0) (by omega) (by omega) (by omega) (by omega)).mpr hpt) h⟩
  | succ m ih =>
    intro a N n pt σ hbm hb hF hN hp0 hp1 hS hn
    have h7 : gI σ 0 7 = zI pt := hN.1.2.1
    refine b_Mo_nearest_39 ⟨fun h => ?_, fun h => ?_⟩
    · rw [h7] at h
      exact way a N n pt σ hb hF hN ((zI_le (b := 0) (by omega) (by omega) (by omega) (by omega)).mp h) hp1 hS hn
    · have hpt : 0 < pt := by
        rw [h7] at h
        rcases Int.lt_or_le 0 pt with g | g
        · exact g
        · exact absurd ((zI_le (b := 0) (by omega) (by omega) (by omega) (by omega)).mpr g) h
      have h1 : TK ≤ SV N n pt := Nat.le_trans (Nat.pow_le_pow_right (by decide) (show 20000 ≤ (pt - 1 + 20000).toNat by omega)) (hN.sv_lo (by omega))
      have ha := hab a _ h1 hS
      have halv : ∀ s : Nat, 1 ≤ s → s ≤ 20 → JE E (d + 3) m_Mo_nearest 68 [(0, pv E 0), (1, .int (nI a))] [.int (nI s)] σ Q := by
        intro s hs1 hs2
        refine b_Mo_nearest_68 ((c_halved hN hs1 hs2 (by omega) (by omega) (by omega)).mono (fun σ1 hq => ?_))
        obtain ⟨F1, N1, n1', p1, g1, g2, g3, g4, g5⟩ := hq
        rw [nI_add]
        refine ih (a + s) N1 n1' p1 σ1 (by omega) (by omega) (hF.tr F1) g1 (by omega) (by omega) ?_ (by omega)
        rw [← hS, ← g2, Nat.mul_assoc, ← Nat.pow_add, Nat.add_comm s a]
      have e3 : (3 : Int32) * gI σ 0 7 = nI (3 * pt).toNat := by
        have : (3 : Int32) = zI 3 := rfl
        rw [h7, this, zI_mul, ← zI_nI]; congr 1; omega
      rw [e3]
      refine ⟨fun h2 => halv 20 (by omega) (by omega), fun h2 => ?_⟩
      have h2 : (3 * pt).toNat < 20 := by
        rcases Nat.lt_or_ge (3 * pt).toNat 20 with g | g
        · exact g
        · exact absurd (nI_le (a := 20) g (by omega)) h2
      exact halv (3 * pt).toNat (by omega) (by omega)
/-- nearest(): what the decimal is read as -/
theorem c_nearest {E : En_t} {d N n : Nat} {pt : Int} {σ : S_t} (hD : DecAt σ N n pt) (hl : n = 0 ∨ dg σ 0 ≠ 0) (hn : n ≤ 2100) (hp1 : -2000000 ≤ pt) (hp2 : pt ≤ 2000000) : CL E (d + 3) m_Mo_nearest [pv E 0] σ (fun x σ' => Fs MP σ σ' ∧ ((n = 0 ∧ x = lN 0) ∨ (0 < n ∧ ((pt < -340 ∧ x = lN 0) ∨ (320 < pt ∧ x = lN 9218868437227405312) ∨ (-340 ≤ pt ∧ pt ≤ 320 ∧ ∃ B, RdB (SV N n pt) B ∧ x = lN B))))) := by
  refine CE.of (L := [(0, pv E 0)]) rfl (Nat.le_of_ble_eq_true rfl) rfl (b_Mo_nearest_0 ((c_trim hD (by omega)).mono (fun σ1 hq => ?_)))
  obtain ⟨F1, row1, N', n', D1, hle, hmul, hlast⟩ := hq
  have hN0 : n = 0 ↔ n' = 0 := by
    constructor
    · intro e; omega
    · rintro rfl
      rcases hl with g | g
      · exact g
      · rcases Nat.eq_zero_or_pos n with q | q
        · exact q
        · exfalso
          have h1 := dval_ge g q
          rw [hD.2.2.2] at h1
          have h2 := D1.2.2.2
          rw [dval] at h2
          rw [← h2, Nat.zero_mul] at hmul
          have := p10 (n - 1)
          omega
  refine ⟨fun h => ?_, fun h => ?_⟩
  · have : n' = 0 := by
      rw [D1.1] at h
      exact (nI_eq (b := 0) (by omega) (by omega)).mp h
    exact ⟨_, rfl, F1, Or.inl ⟨hN0.mpr this, rfl⟩⟩
  · have hn' : n' ≠ 0 := by rintro rfl; exact h D1.1
    have hnp : 0 < n := by omega
    rw [if_neg hn'] at D1
    have hl' : dg σ 0 ≠ 0 := by
      rcases hl with g | g
      · omega
      · exact g
    have hNpos : 0 < N := by
      have := dval_ge hl' hnp
      rw [hD.2.2.2] at this
      exact Nat.lt_of_lt_of_le (p10 _) this
    have h7 : gI σ1 0 7 = zI pt := D1.2.1
    rw [h7]
    refine ⟨fun h1 => ⟨fun h2 => ?_, fun h2 => ?_⟩, fun h1 => ?_⟩
    · have h1 : -340 ≤ pt := (zI_le (a := -340) (by omega) (by omega) (by omega) (by omega)).mp h1
      have h2 : pt ≤ 320 := (zI_le (b := 320) (by omega) (by omega) (by omega) (by omega)).mp h2
      obtain ⟨q1, q2⟩ := trim_nrm (pt := pt) row1 hl' hNpos (by rw [if_neg hn']; exact D1) hle hmul hlast (by omega)
      have hX0 : SV N n pt < TK * 10 ^ 320 := by
        rw [← q2, ← tk_up]
        exact Nat.lt_of_lt_of_le (q1.sv_hi (by omega)) (Nat.pow_le_pow_right (by decide) (by omega))
      exact nr_loop1 σ (SV N n pt) n (fun σ' B g1 g2 => ⟨_, rfl, g1, Or.inr ⟨hnp, Or.inr (Or.inr ⟨h1, h2, B, g2, rfl⟩)⟩⟩) hX0 (by omega) 1070 0 N' n' pt σ1 (by omega) (by omega) F1 q1 h2 h1 (by rw [Nat.pow_zero, Nat.mul_one]; exact q2) (by omega)
    · have h2 : 320 < pt := by
        rcases Int.lt_or_le 320 pt with g | g
        · exact g
        · exact absurd ((zI_le (b := 320) (by omega) (by omega) (by omega) (by omega)).mpr g) h2
      exact ⟨_, rfl, F1, Or.inr ⟨hnp, Or.inr (Or.inl ⟨h2, rfl⟩)⟩⟩
    · have h1 : pt < -340 := by
        rcases Int.lt_or_le pt (-340) with g | g
        · exact g
        · exact absurd ((zI_le (a := -340) (by omega) (by omega) (by omega) (by omega)).mpr g) h1
      exact ⟨_, rfl, F1, Or.inr ⟨hnp, Or.inl ⟨h1, rfl⟩⟩⟩
