/-! the class's nearest number -/
theorem ex_log : ∀ V : Nat, 0 < V → ∃ K, 2 ^ K ≤ V ∧ V < 2 ^ (K + 1) := by
  intro V
  induction V using Nat.strongRecOn with
  | _ V ih =>
    intro h
    rcases Nat.lt_or_ge V 2 with g | g
    · exact ⟨0, by rw [Nat.pow_zero]; omega, by rw [Nat.zero_add, Nat.pow_one]; omega⟩
    · obtain ⟨K, h1, h2⟩ := ih (V / 2) (by omega) (by omega)
      refine ⟨K + 1, ?_, ?_⟩
      · rw [Nat.pow_succ]; omega
      · rw [Nat.pow_succ]; omega
theorem sc_le {A B a b a' b' : Nat} (h : a + b' = a' + b) : A * 2 ^ a ≤ B * 2 ^ b ↔ A * 2 ^ a' ≤ B * 2 ^ b' := by
  have e1 : A * 2 ^ a * 2 ^ b' = A * 2 ^ a' * 2 ^ b := by rw [Nat.mul_assoc, Nat.mul_assoc, ← Nat.pow_add, ← Nat.pow_add, h]
  have e2 : B * 2 ^ b * 2 ^ b' = B * 2 ^ b' * 2 ^ b := by ac_rfl
  constructor
  · intro q
    have := Nat.mul_le_mul_right (2 ^ b') q
    rw [e1, e2] at this
    exact Nat.le_of_mul_le_mul_right this (pw_pos b)
  · intro q
    have := Nat.mul_le_mul_right (2 ^ b) q
    rw [← e1, ← e2] at this
    exact Nat.le_of_mul_le_mul_right this (pw_pos b')
theorem sc_lt {A B a b a' b' : Nat} (h : a + b' = a' + b) : A * 2 ^ a < B * 2 ^ b ↔ A * 2 ^ a' < B * 2 ^ b' := by
  have := sc_le (A := B) (B := A) (a := b) (b := a) (a' := b') (b' := a') (by omega)
  omega
/-- quotients and remainders by their ratio alone -/
theorem cross {A D A' D' : Nat} (hD : 0 < D) (hD' : 0 < D') (h : A * D' = A' * D) : A / D = A' / D' ∧ (A % D = 0 ↔ A' % D' = 0) := by
  have e1 : A / D = (A * D') / (D * D') := (Nat.mul_div_mul_right A D hD').symm
  have e2 : A' / D' = (A' * D) / (D' * D) := (Nat.mul_div_mul_right A' D' hD).symm
  have m1 : A * D' % (D * D') = A % D * D' := Nat.mul_mod_mul_right D' A D
  have m2 : A' * D % (D' * D) = A' % D' * D := Nat.mul_mod_mul_right D A' D'
  refine ⟨by rw [e1, e2, h, Nat.mul_comm D D'], ?_⟩
  rw [h, Nat.mul_comm D D', m2] at m1
  constructor
  · intro q
    rw [q, Nat.zero_mul] at m1
    rcases Nat.mul_eq_zero.mp m1 with z | z
    · exact z
    · omega
  · intro q
    rw [q, Nat.zero_mul] at m1
    rcases Nat.mul_eq_zero.mp m1.symm with z | z
    · exact z
    · omega
def hW (X : Nat) (u : Int) : Nat := X * 2 ^ (1 - u).toNat / (TK * 2 ^ (u - 1).toNat)
def hR (X : Nat) (u : Int) : Bool := decide (X * 2 ^ (1 - u).toNat % (TK * 2 ^ (u - 1).toNat) ≠ 0)
def rdh (W : Nat) (r : Bool) : Nat := if W % 2 = 1 ∧ (r = true ∨ W / 2 % 2 = 1) then W / 2 + 1 else W / 2
def RdC (X : Nat) (c : Bool) (B : Nat) : Prop := ∃ L, lg2 X L ∧ ((1023 < L ∧ B = 9218868437227405312) ∨ (L ≤ 1023 ∧ B = rdh (hW X (uOf L)) (c || hR X (uOf L)) + (uOf L + 1074).toNat * 2 ^ 52))
theorem c_shiftLeftN {E : En_t} {d b : Nat} {x : Int32} {σ : S_t} (hk : kindP b = 5) (hx : x ≤ 0) : CV E (d + 1) m_Bi_shiftLeft [pv E b, .int x] σ (fun σ' => σ' = σ) := by
  refine CE.of (L := [(0, pv E b), (1, .int x)]) rfl (Nat.le_of_ble_eq_true rfl) rfl (b_Bi_shiftLeft_0 hk ⟨fun h0 => ⟨rfl, rfl⟩, fun h0 => ⟨fun h6 => ⟨rfl, rfl⟩, fun h6 => absurd hx h6⟩⟩)
theorem c_shiftRightN {E : En_t} {d b : Nat} {x : Int32} {σ : S_t} (hk : kindP b = 5) (hx : ¬ 0 < x) : CV E (d + 1) m_Bi_shiftRight [pv E b, .int x] σ (fun σ' => σ' = σ) := by
  refine CE.of (L := [(0, pv E b), (1, .int x)]) rfl (Nat.le_of_ble_eq_true rfl) rfl (b_Bi_shiftRight_0 hk ⟨fun h0 => absurd h0 hx, fun h0 => ⟨rfl, rfl⟩⟩)
theorem mxI_zI {a b : Int} (h1 : -2147483648 ≤ a) (h2 : a < 2147483648) (h3 : -2147483648 ≤ b) (h4 : b < 2147483648) : mxI (zI a) (zI b) = zI (max a b) := by
  unfold mxI
  split
  · rename_i h
    have h := (zI_lt h1 h2 h3 h4).mp h
    rw [Int.max_eq_right (by omega)]
  · rename_i h
    have h : ¬ a < b := fun q => h ((zI_lt h1 h2 h3 h4).mpr q)
    rw [Int.max_eq_left (by omega)]
theorem bI_1 (r : Bool) : ¬ bI r = 0 ↔ r = true := by cases r <;> decide
/-- the last of the class's nearest: half a unit, and what is lost -/
theorem nu_round {E : En_t} {d W : Nat} {r : Bool} {u : Int} {Q : Option Value → S_t → Prop} {σ : S_t} (hW : W < 2 ^ 62) (hr : gI σ 57 2 = bI r) (hu1 : -1074 ≤ u) (hu2 : u ≤ 971) (hQ : Q (some (.long (lN (rdh W r + (u + 1074).toNat * 2 ^ 52)))) σ) :
    ((lg_cmp (lN W &&& (1 : Int64)) (0 : Int64)) = 0 → JE E (d + 1) m_Nu_nearest 90 [(0, pv E 55), (3, .int (zI u)), (7, .long (((lN W).toUInt64 >>> ((1 : Int32).toInt64.toUInt64 &&& Int64.toUInt64 63)).toInt64))] [.int (0 : Int32)] σ Q) ∧ (¬ (lg_cmp (lN W &&& (1 : Int64)) (0 : Int64)) = 0 → JE E (d + 1) m_Nu_nearest 90 [(0, pv E 55), (3, .int (zI u)), (7, .long (((lN W).toUInt64 >>> ((1 : Int32).toInt64.toUInt64 &&& Int64.toUInt64 63)).toInt64))] [.int (1 : Int32)] σ Q) := by
  have e1 : ((lN W).toUInt64 >>> ((1 : Int32).toInt64.toUInt64 &&& Int64.toUInt64 63)).toInt64 = lN (W / 2) := by
    have := wb_shr (n := W) (k := 1) (by omega) (by decide)
    rw [Nat.pow_one] at this; exact this
  rw [e1, and1_l (by omega)]
  have z : ∀ m : Nat, m < 2 ^ 62 → ((lg_cmp (lN m) (0 : Int64)) = 0 ↔ m = 0) := fun m hm => by
    rw [lg_cmp_eq]
    exact pk_lEQ (b := 0) (by omega) (by omega)
  have fin : ∀ v : Nat, v = rdh W r → JE E (d + 1) m_Nu_nearest 122 [(3, .int (zI u)), (7, .long (lN v))] [] σ Q := by
    intro v hv
    refine b_Nu_nearest_122 ?_
    have e2 : zI u - (-1074 : Int32) = nI (u + 1074).toNat := by
      have : (-1074 : Int32) = zI (-1074) := rfl
      rw [this, zI_sub, ← zI_nI]; congr 1; omega
    have e3 : (nI (u + 1074).toNat).toInt64 <<< ((52 : Int32).toInt64 &&& 63) = lN ((u + 1074).toNat * 2 ^ 52) := by
      rw [nI_l (by omega)]; exact wb_shl (k := 52) _ (by decide)
    rw [e2, e3, lN_add, hv, Nat.add_comm]
    exact hQ
  rw [z _ (by omega)]
  refine ⟨fun h => b_Nu_nearest_90 ⟨fun _ => fin _ ?_, fun q => absurd rfl q⟩, fun h => b_Nu_nearest_90 ⟨fun q => absurd q (by decide), fun _ => ⟨fun q => ?_, fun q => ⟨fun q2 => ?_, fun q2 => ?_⟩⟩⟩⟩
  · unfold rdh; rw [if_neg (by omega)]
  · refine b_Nu_nearest_116 ?_
    rw [lN_1]
    refine fin _ ?_
    rw [hr, bI_1] at q
    unfold rdh; rw [if_pos ⟨by omega, Or.inl q⟩]
  · rw [and1_l (by omega), z _ (by omega)] at q2
    refine fin _ ?_
    have hrf : r = false := by
      rw [hr] at q
      cases r with
      | false => rfl
      | true => exact absurd q (by decide)
    unfold rdh; rw [if_neg]
    rintro ⟨-, w | w⟩
    · rw [hrf] at w; cases w
    · omega
  · rw [and1_l (by omega), z _ (by omega)] at q2
    refine b_Nu_nearest_116 ?_
    rw [lN_1]
    refine fin _ ?_
    unfold rdh; rw [if_pos ⟨by omega, Or.inr (by omega)⟩]
theorem k57 : kindP 57 = 5 := rfl
theorem c_nuNearest {E : En_t} {d V X : Nat} {r c : Bool} {t : Int} {σ : S_t} (h : BigAt σ 57 V r) (hV0 : 0 < V) (hV2 : V < 2 ^ 2900) (ht1 : -5000 ≤ t) (ht2 : t ≤ 5000) (hV : V = X * 2 ^ (-t).toNat / (TK * 2 ^ t.toNat)) (hr : r = (c || decide (X * 2 ^ (-t).toNat % (TK * 2 ^ t.toNat) ≠ 0))) (hbig : X * 2 ^ (-t).toNat % (TK * 2 ^ t.toNat) ≠ 0 → 2 ^ 64 ≤ V) :
    CL E (d + 2) m_Nu_nearest [pv E 55, .int (zI t)] σ (fun x σ' => Fr (BP 57) σ σ' ∧ ∃ B, RdC X c B ∧ x = lN B) := by
  obtain ⟨K, hK1, hK2⟩ := ex_log V hV0
  have hK : K < 2900 := (Nat.pow_lt_pow_iff_right (a := 2) (by decide)).mp (Nat.lt_of_le_of_lt hK1 hV2)
  have hDpos : 0 < TK * 2 ^ t.toNat := Nat.mul_pos TK_pos (pw_pos _)
  generalize hP : X * 2 ^ (-t).toNat = P at *
  generalize hD : TK * 2 ^ t.toNat = D at *
  have hVP1 : V * D ≤ P := by rw [hV]; exact Nat.div_mul_le_self P D
  have hVP2 : P < (V + 1) * D := by rw [hV]; exact Nat.lt_mul_of_div_lt (by omega) hDpos
  generalize hL : (K : Int) + t = L
  have hlg : lg2 X L := by
    refine ⟨?_, ?_⟩
    · rw [← sc_le (a := t.toNat + K) (b := (-t).toNat) (by omega)]
      rw [hP, Nat.pow_add, ← Nat.mul_assoc, hD, Nat.mul_comm]
      exact Nat.le_trans (Nat.mul_le_mul_right _ hK1) hVP1
    · rw [← sc_lt (a := (-t).toNat) (b := t.toNat + (K + 1)) (by omega)]
      rw [hP, Nat.pow_add, ← Nat.mul_assoc, hD, Nat.mul_comm D]
      exact Nat.lt_of_lt_of_le hVP2 (Nat.mul_le_mul_right _ hK2)
  refine CE.of (L := [(0, pv E 55), (1, .int (zI t))]) rfl (Nat.le_of_ble_eq_true rfl) rfl (b_Nu_nearest_0 ((c_bitLength k57 h hK1 hK2).mono (fun x s hx => ?_)))
  obtain ⟨rfl, rfl⟩ := hx
  have e1 : nI (K + 1) - (1 : Int32) + zI t = zI L := by rw [nI_m1, ← zI_nI, zI_add, hL]
  rw [e1]
  refine ⟨fun h1 r3 e3 => ?_, fun h1 => ?_⟩
  · have h1 : L ≤ 1023 := (zI_le (b := 1023) (by omega) (by omega) (by omega) (by omega)).mp h1
    have e3 : r3 = zI (uOf L) := by
      rw [e3]
      have a1 : (52 : Int32) = zI 52 := rfl
      have a2 : (-1074 : Int32) = zI (-1074) := rfl
      rw [a1, a2, zI_sub, mxI_zI (by omega) (by omega) (by omega) (by omega)]; rfl
    subst e3
    have hu : uOf L = max (L - 52) (-1074) := rfl
    generalize huL : uOf L = u at *
    have e4 : (1 : Int32) - (zI u - zI t) = zI (1 - (u - t)) := by rw [zI_sub]; exact zI_sub 1 (u - t)
    have e5 : zI u - zI t - (1 : Int32) = zI (u - t - 1) := by rw [zI_sub]; exact zI_sub (u - t) 1
    rw [e4, e5]
    have hWb : ∀ (k : Nat), (K : Int) + 1 ≤ 54 + k → V / 2 ^ k < 2 ^ 54 := by
      intro k hk
      rw [Nat.div_lt_iff_lt_mul (pw_pos k), ← Nat.pow_add]
      exact Nat.lt_of_lt_of_le hK2 (Nat.pow_le_pow_right (by decide) (by omega))
    have hD' : 0 < TK * 2 ^ (u - 1).toNat := Nat.mul_pos TK_pos (pw_pos _)
    rcases Int.lt_or_le 0 (u - t) with hd | hd
    · -- bits are dropped
      generalize hk : (u - t - 1).toNat = k
      have e6 : zI (u - t - 1) = nI k := by rw [← zI_nI]; congr 1; omega
      refine (c_shiftLeftN k57 ?_).mono (fun σ4 q4 => ?_)
      · exact (zI_le (b := 0) (by omega) (by omega) (by omega) (by omega)).mpr (by omega)
      · subst q4
        rw [e6]
        refine (c_shiftRight k57 h (by omega)).mono (fun σ5 q5 => ?_)
        obtain ⟨F5, B5⟩ := q5
        have hx : P * (TK * 2 ^ (u - 1).toNat) = X * 2 ^ (1 - u).toNat * (D * 2 ^ k) := by
          rw [← hP, ← hD]
          have z1 : X * 2 ^ (-t).toNat * (TK * 2 ^ (u - 1).toNat) = X * TK * 2 ^ ((-t).toNat + (u - 1).toNat) := by rw [Nat.pow_add]; generalize TK = T0; ac_rfl
          have z2 : X * 2 ^ (1 - u).toNat * (TK * 2 ^ t.toNat * 2 ^ k) = X * TK * 2 ^ ((1 - u).toNat + t.toNat + k) := by rw [Nat.pow_add, Nat.pow_add]; generalize TK = T0; ac_rfl
          rw [z1, z2]
          exact p2c _ _ (by omega) _
        obtain ⟨c1, c2⟩ := cross (Nat.mul_pos hDpos (pw_pos k)) hD' hx
        have hWv : V / 2 ^ k = hW X u := by
          rw [hV, Nat.div_div_eq_div_mul]; exact c1
        have hRv : (r || decide (V % 2 ^ k ≠ 0)) = (c || hR X u) := by
          have m1 : P % (D * 2 ^ k) = P % D + D * (V % 2 ^ k) := by rw [Nat.mod_mul, ← hV]
          have m2 : P % (D * 2 ^ k) = 0 ↔ (P % D = 0 ∧ V % 2 ^ k = 0) := by
            rw [m1, Nat.add_eq_zero_iff, Nat.mul_eq_zero]
            constructor
            · rintro ⟨q1, q2 | q2⟩
              · omega
              · exact ⟨q1, q2⟩
            · rintro ⟨q1, q2⟩; exact ⟨q1, Or.inr q2⟩
          unfold hR
          rw [hr]
          have m3 := c2.symm.trans m2
          generalize X * 2 ^ (1 - u).toNat % (TK * 2 ^ (u - 1).toNat) = z at m3 ⊢
          generalize P % D = z1 at m3 ⊢
          generalize V % 2 ^ k = z2 at m3 ⊢
          by_cases q1 : z1 = 0 <;> by_cases q2 : z2 = 0 <;> by_cases q3 : z = 0 <;> simp [q1, q2, q3] at m3 ⊢
        have hlt := hWb k (by omega)
        refine (c_low k57 B5).mono (fun x7 σ6 q7 => ?_)
        obtain ⟨rfl, rfl⟩ := q7
        rw [Nat.mod_eq_of_lt (by omega)]
        refine nu_round (by omega) B5.choose_spec.2.2.2.2 (by omega) (by omega) ?_
        refine ⟨_, rfl, F5, _, ⟨L, hlg, Or.inr ⟨h1, ?_⟩⟩, rfl⟩
        rw [huL, hWv, hRv]
    · -- nothing is lost: the number is exact
      have hPD : P % D = 0 := by
        rcases Nat.eq_zero_or_pos (P % D) with g | g
        · exact g
        · exfalso
          have := hbig (by omega)
          have := (Nat.pow_lt_pow_iff_right (a := 2) (by decide)).mp (Nat.lt_of_le_of_lt this hK2)
          omega
      have hrc : r = c := by rw [hr, hPD]; simp
      generalize hk : (1 - (u - t)).toNat = k
      have e6 : zI (1 - (u - t)) = nI k := by rw [← zI_nI]; congr 1; omega
      rw [e6]
      have hVk : V * 2 ^ k < 2 ^ 54 := by
        have := Nat.mul_lt_mul_of_pos_right hK2 (pw_pos k)
        rw [← Nat.pow_add] at this
        exact Nat.lt_of_lt_of_le this (Nat.pow_le_pow_right (by decide) (by omega))
      refine (c_shiftLeft k57 h (by omega) (Nat.lt_trans hVk (by decide +kernel))).mono (fun σ4 q4 => ?_)
      obtain ⟨F4, B4⟩ := q4
      refine (c_shiftRightN k57 ?_).mono (fun σ5 q5 => ?_)
      · intro q
        have := (zI_lt (a := 0) (by omega) (by omega) (by omega) (by omega)).mp q
        omega
      · subst q5
        have hPV : P = V * D := by
          have := Nat.div_add_mod P D
          rw [hPD, Nat.add_zero, ← hV, Nat.mul_comm] at this
          exact this.symm
        have hx : P * 2 ^ k * (TK * 2 ^ (u - 1).toNat) = X * 2 ^ (1 - u).toNat * D := by
          rw [← hP, ← hD]
          have z1 : X * 2 ^ (-t).toNat * 2 ^ k * (TK * 2 ^ (u - 1).toNat) = X * TK * 2 ^ ((-t).toNat + k + (u - 1).toNat) := by rw [Nat.pow_add, Nat.pow_add]; generalize TK = T0; ac_rfl
          have z2 : X * 2 ^ (1 - u).toNat * (TK * 2 ^ t.toNat) = X * TK * 2 ^ ((1 - u).toNat + t.toNat) := by rw [Nat.pow_add]; generalize TK = T0; ac_rfl
          rw [z1, z2]
          exact p2c _ _ (by omega) _
        obtain ⟨c1, c2⟩ := cross hDpos hD' hx
        have hPk : P * 2 ^ k = V * 2 ^ k * D := by rw [hPV]; ac_rfl
        have hWv : V * 2 ^ k = hW X u := by
          unfold hW
          rw [← c1, hPk, Nat.mul_div_cancel _ hDpos]
        have hRv : r = (c || hR X u) := by
          have : X * 2 ^ (1 - u).toNat % (TK * 2 ^ (u - 1).toNat) = 0 := c2.mp (by rw [hPk, Nat.mul_mod_left])
          rw [hrc]
          unfold hR
          rw [this]; simp
        refine (c_low k57 B4).mono (fun x7 σ6 q7 => ?_)
        obtain ⟨rfl, rfl⟩ := q7
        rw [Nat.mod_eq_of_lt (by omega)]
        refine nu_round (by omega) B4.choose_spec.2.2.2.2 (by omega) (by omega) ?_
        refine ⟨_, rfl, F4, _, ⟨L, hlg, Or.inr ⟨h1, ?_⟩⟩, rfl⟩
        rw [huL, hWv, hRv]
  · have h1 : 1023 < L := by
      rcases Int.lt_or_le 1023 L with g | g
      · exact g
      · exact absurd ((zI_le (b := 1023) (by omega) (by omega) (by omega) (by omega)).mpr g) h1
    exact ⟨_, rfl, Fr.rf, _, ⟨L, hlg, Or.inl ⟨h1, rfl⟩⟩, rfl⟩
