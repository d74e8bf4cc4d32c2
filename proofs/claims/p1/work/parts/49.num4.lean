theorem five_bits : ∀ k, k < 1200 → 5 ^ k < 2 ^ (k * 2378 / 1024 + 1) := by decide +kernel
def sgB (neg : Bool) : Nat := if neg then 9223372036854775808 else 0
theorem tb_129 {E : En_t} {d V X c : Nat} {r cut neg : Bool} {t : Int} {Q : Option Value → S_t → Prop} (σ0 : S_t) {σ : S_t} (hF : Fr (BP 57) σ0 σ) (h : BigAt σ 57 V r) (hV0 : 0 < V) (hV2 : V < 2 ^ 2900) (ht1 : -5000 ≤ t) (ht2 : t ≤ 5000) (hV : V = X * 2 ^ (-t).toNat / (TK * 2 ^ t.toNat)) (hr : r = (cut || decide (X * 2 ^ (-t).toNat % (TK * 2 ^ t.toNat) ≠ 0))) (hbig : X * 2 ^ (-t).toNat % (TK * 2 ^ t.toNat) ≠ 0 → 2 ^ 64 ≤ V) (hQ : ∀ σ' B, Fr (BP 57) σ0 σ' → RdC X cut B → Q (some (.long (lN (sgB neg) ||| lN B))) σ') :
    JE E (d + 3) m_Nu_toBits 129 [(0, pv E 55), (1, .long (lN (sgB neg))), (4, .int (zI t))] [] σ Q := by
  refine b_Nu_toBits_129 ((c_nuNearest h hV0 hV2 ht1 ht2 hV hr hbig).mono (fun x s hx => ?_))
  obtain ⟨F1, B, h1, rfl⟩ := hx
  exact hQ s B (hF.tr F1) h1
theorem c_toBits {E : En_t} {d c : Nat} {f : Nat → Nat} {p : Int} {cut neg : Bool} {σ : S_t} (hN : NumAt σ f c p cut neg) (hc : c ≤ 800) (hl : c = 0 ∨ f 0 ≠ 0) (hp1 : -1000000 ≤ p) (hp2 : p ≤ 1000000) : CL E (d + 3) m_Nu_toBits [pv E 55] σ (fun x σ' => Fr (BP 57) σ σ' ∧ ((c = 0 ∧ x = lN (sgB neg)) ∨ (0 < c ∧ ((p < -330 ∧ x = lN (sgB neg)) ∨ (310 < p ∧ x = lN (sgB neg) ||| lN 9218868437227405312) ∨ (-330 ≤ p ∧ p ≤ 310 ∧ ∃ B, RdC (SV (dval f c) c p) cut B ∧ x = lN (sgB neg) ||| lN B))))) := by
  obtain ⟨h2, h3, h4, h5, h6⟩ := id hN
  refine CE.of (L := [(0, pv E 55)]) rfl (Nat.le_of_ble_eq_true rfl) rfl ?_
  have main : JE E (d + 3) m_Nu_toBits 14 [(0, pv E 55)] [.long (lN (sgB neg))] σ (fun r σ' => ∃ x, r = some (.long x) ∧ Fr (BP 57) σ σ' ∧ ((c = 0 ∧ x = lN (sgB neg)) ∨ (0 < c ∧ ((p < -330 ∧ x = lN (sgB neg)) ∨ (310 < p ∧ x = lN (sgB neg) ||| lN 9218868437227405312) ∨ (-330 ≤ p ∧ p ≤ 310 ∧ ∃ B, RdC (SV (dval f c) c p) cut B ∧ x = lN (sgB neg) ||| lN B))))) := by
    refine b_Nu_toBits_14 ⟨fun h => ?_, fun h => ?_⟩
    · have : c = 0 := by rw [h2] at h; exact (nI_eq (b := 0) (by omega) (by omega)).mp h
      exact ⟨_, rfl, Fr.rf, Or.inl ⟨this, rfl⟩⟩
    · have hc0 : 0 < c := Nat.pos_of_ne_zero (fun q => h (by rw [h2, q]; rfl))
      have hl' : f 0 ≠ 0 := by
        rcases hl with q | q
        · omega
        · exact q
      rw [h3]
      refine ⟨fun h7 => ⟨fun h8 => ?_, fun h8 => ?_⟩, fun h7 => ?_⟩
      · have h7 : -330 ≤ p := (zI_le (a := -330) (by omega) (by omega) (by omega) (by omega)).mp h7
        have h8 : p ≤ 310 := (zI_le (b := 310) (by omega) (by omega) (by omega) (by omega)).mp h8
        refine (c_loadDigits hN hc).mono (fun σ1 hq => ?_)
        obtain ⟨F1, B1⟩ := hq
        have hN1 := hN.fr F1
        have hfd : ∀ k, k < c → f k < 10 := fun k hk => (h6 k hk).2
        have hNlo := dval_ge (f := f) (n := c) hl' hc0
        have hNhi := dval_lt (f := f) (n := c) hfd
        generalize hNe : dval f c = N at *
        have hN0 : 0 < N := Nat.lt_of_lt_of_le (p10 _) hNlo
        have e1 : gI σ1 55 3 - gI σ1 55 2 = zI (p - c) := by rw [hN1.1, hN1.2.1, ← zI_nI, zI_sub]
        rw [e1]
        have hQ : ∀ σ' B, Fr (BP 57) σ σ' → RdC (SV N c p) cut B → (∃ x, some (Value.long (lN (sgB neg) ||| lN B)) = some (.long x) ∧ Fr (BP 57) σ σ' ∧ ((c = 0 ∧ x = lN (sgB neg)) ∨ (0 < c ∧ ((p < -330 ∧ x = lN (sgB neg)) ∨ (310 < p ∧ x = lN (sgB neg) ||| lN 9218868437227405312) ∨ (-330 ≤ p ∧ p ≤ 310 ∧ ∃ B, RdC (SV N c p) cut B ∧ x = lN (sgB neg) ||| lN B))))) :=
          fun σ' B q1 q2 => ⟨_, rfl, q1, Or.inr ⟨hc0, Or.inr (Or.inr ⟨h7, h8, B, q2, rfl⟩)⟩⟩
        refine ⟨fun h9 => ?_, fun h9 => ?_⟩
        · have h9 : p - c < 0 := (zI_lt (b := 0) (by omega) (by omega) (by omega) (by omega)).mp h9
          generalize hk : (c - p).toNat = k
          have hk1 : k ≤ 1130 := by omega
          have e2 : -(zI (p - c)) = nI k := by
            have : -(zI (p - c)) = zI (-(p - c)) := (Int32.ofInt_neg _).symm
            rw [this, ← zI_nI]; congr 1; omega
          rw [e2]
          refine (c_bitsOfFives (by omega)).mono (fun r3 σ2 q => ?_)
          obtain ⟨rfl, rfl⟩ := q
          obtain ⟨K, hK1, hK2⟩ := ex_log N hN0
          refine (c_bitLength k57 B1 hK1 hK2).mono (fun r5 σ4 q => ?_)
          obtain ⟨rfl, rfl⟩ := q
          intro r6 e6
          generalize hF5 : k * 2378 / 1024 + 1 = g5 at *
          have hg5 : g5 ≤ 2700 := by omega
          have h55 : 5 ^ k < 2 ^ g5 := by rw [← hF5]; exact five_bits k (by omega)
          have hK3 : K < 2660 := by
            have a1 : (10 : Nat) ^ c ≤ 10 ^ 800 := Nat.pow_le_pow_right (by decide) hc
            have a2 : (10 : Nat) ^ 800 < 2 ^ 2660 := by decide +kernel
            exact (Nat.pow_lt_pow_iff_right (a := 2) (by decide)).mp (Nat.lt_of_le_of_lt hK1 (Nat.lt_trans hNhi (Nat.lt_of_le_of_lt a1 a2)))
          generalize hm : g5 + 66 - (K + 1) = m
          have e7 : r6 = nI m := by
            rw [e6]
            have a1 : nI g5 + (66 : Int32) = zI ((g5 : Int) + 66) := by
              have : (66 : Int32) = zI 66 := rfl
              rw [this, ← zI_nI, zI_add]
            have a2 : (0 : Int32) = zI 0 := rfl
            rw [a1, ← zI_nI (K + 1), zI_sub, a2, mxI_zI (by omega) (by omega) (by omega) (by omega), ← zI_nI]
            congr 1; omega
          rw [e7]
          have hNm : N * 2 ^ m < 2 ^ 2800 := by
            have a1 := Nat.mul_lt_mul_of_pos_right hK2 (pw_pos m)
            rw [← Nat.pow_add] at a1
            exact Nat.lt_of_lt_of_le a1 (Nat.pow_le_pow_right (by decide) (by omega))
          have hNm2 : 2 ^ (g5 + 65) ≤ N * 2 ^ m := by
            have a1 := Nat.mul_le_mul_right (2 ^ m) hK1
            rw [← Nat.pow_add] at a1
            exact Nat.le_trans (Nat.pow_le_pow_right (by decide) (by omega)) a1
          have h28 : (2 : Nat) ^ 2800 < 2 ^ 3040 := by decide +kernel
          refine (c_shiftLeft k57 B1 (by omega) (Nat.lt_trans hNm h28)).mono (fun σ7 q7 => ?_)
          obtain ⟨F7, B7⟩ := q7
          refine (c_overFive k57 B7 (by omega)).mono (fun σ8 q8 => ?_)
          obtain ⟨F8, B8⟩ := q8
          have e8 : zI (p - c) - nI m = zI (p - c - m) := by rw [← zI_nI, zI_sub]
          rw [e8]
          have h5p : 0 < 5 ^ k := Nat.pow_pos (by decide)
          have hVbig : 2 ^ 64 ≤ N * 2 ^ m / 5 ^ k := by
            rw [Nat.le_div_iff_mul_le h5p]
            have a1 : 2 ^ 64 * 5 ^ k ≤ 2 ^ 64 * 2 ^ g5 := Nat.mul_le_mul_left _ (by omega)
            rw [← Nat.pow_add] at a1
            exact Nat.le_trans a1 (Nat.le_trans (Nat.pow_le_pow_right (by decide) (by omega)) hNm2)
          have ht : (-(p - c - m)).toNat = k + m := by omega
          have ht2 : (p - c - (m : Int)).toNat = 0 := by omega
          have hcr : (N * 2 ^ m) * (TK * 2 ^ 0) = SV N c p * 2 ^ (k + m) * 5 ^ k := by
            unfold SV
            rw [show (p - c + 20000).toNat = 20000 - k by omega, Nat.pow_zero, Nat.mul_one, ← tk_dn (j := k) (by omega)]
            have : (10 : Nat) ^ k = 2 ^ k * 5 ^ k := by rw [← Nat.mul_pow]
            rw [this, Nat.pow_add]
            generalize 10 ^ (20000 - k) = T0
            ac_rfl
          obtain ⟨c1, c2⟩ := cross h5p (Nat.mul_pos TK_pos (pw_pos 0)) hcr
          refine tb_129 (X := SV N c p) (cut := cut) (c := c) σ (((F1.tr F7).tr F8)) B8 (Nat.lt_of_lt_of_le (by decide) hVbig) ?_ (by omega) (by omega) ?_ ?_ (fun _ => hVbig) hQ
          · exact Nat.lt_of_le_of_lt (Nat.div_le_self _ _) (Nat.lt_trans hNm (by decide +kernel))
          · rw [ht, ht2]; exact c1
          · rw [ht, ht2]
            by_cases z : N * 2 ^ m % 5 ^ k = 0
            · rw [z, c2.mp z]
            · have z2 : SV N c p * 2 ^ (k + m) % (TK * 2 ^ 0) ≠ 0 := fun w => z (c2.mpr w)
              rw [decide_eq_true z, decide_eq_true z2]
        · have h9 : 0 ≤ p - c := by
            rcases Int.lt_or_le (p - c) 0 with g | g
            · exact absurd ((zI_lt (b := 0) (by omega) (by omega) (by omega) (by omega)).mpr g) h9
            · exact g
          generalize hk : (p - c).toNat = k
          have e2 : zI (p - c) = nI k := by rw [← zI_nI]; congr 1; omega
          rw [e2]
          have hV2 : N * 5 ^ k < 2 ^ 1031 := by
            have a1 : N * 5 ^ k ≤ N * 10 ^ k := Nat.mul_le_mul_left _ (Nat.pow_le_pow_left (by decide) _)
            have a2 := Nat.mul_lt_mul_of_pos_right hNhi (p10 k)
            rw [← Nat.pow_add] at a2
            have a3 : (10 : Nat) ^ (c + k) ≤ 10 ^ 310 := Nat.pow_le_pow_right (by decide) (by omega)
            have a4 : (10 : Nat) ^ 310 < 2 ^ 1031 := by decide +kernel
            omega
          have b1 : (2 : Nat) ^ 1031 < 2 ^ 3072 := by decide +kernel
          have b2 : (2 : Nat) ^ 1031 < 2 ^ 2900 := by decide +kernel
          refine (c_timesFive k57 B1 (by omega) (Nat.lt_trans hV2 b1)).mono (fun σ9 q9 => ?_)
          obtain ⟨F9, B9⟩ := q9
          have ht : (-((k : Int))).toNat = 0 := by omega
          have hS : SV N c p = N * 10 ^ k * TK := by
            unfold SV
            rw [show (p - c + 20000).toNat = 20000 + k by omega, tk_up, Nat.mul_comm TK, Nat.mul_assoc]
          have hcr : SV N c p * 2 ^ 0 = N * 5 ^ k * (TK * 2 ^ k) := by
            rw [hS, Nat.pow_zero, Nat.mul_one]
            have : (10 : Nat) ^ k = 2 ^ k * 5 ^ k := by rw [← Nat.mul_pow]
            rw [this]
            generalize TK = T0
            ac_rfl
          rw [← zI_nI]
          refine tb_129 (X := SV N c p) (cut := cut) (c := c) σ (F1.tr F9) B9 (Nat.mul_pos hN0 (Nat.pow_pos (by decide))) (Nat.lt_trans hV2 b2) (by omega) (by omega) ?_ ?_ (fun q => absurd (by rw [ht, Int.toNat_natCast, hcr, Nat.mul_mod_left]) q) hQ
          · rw [ht, Int.toNat_natCast, hcr, Nat.mul_div_cancel _ (Nat.mul_pos TK_pos (pw_pos k))]
          · rw [ht, Int.toNat_natCast, hcr, Nat.mul_mod_left]; simp
      · have h8 : 310 < p := by
          rcases Int.lt_or_le 310 p with g | g
          · exact g
          · exact absurd ((zI_le (b := 310) (by omega) (by omega) (by omega) (by omega)).mpr g) h8
        exact ⟨_, rfl, Fr.rf, Or.inr ⟨hc0, Or.inr (Or.inl ⟨h8, rfl⟩)⟩⟩
      · have h7 : p < -330 := by
          rcases Int.lt_or_le p (-330) with g | g
          · exact g
          · exact absurd ((zI_le (a := -330) (by omega) (by omega) (by omega) (by omega)).mpr g) h7
        exact ⟨_, rfl, Fr.rf, Or.inr ⟨hc0, Or.inl ⟨h7, rfl⟩⟩⟩
  refine b_Nu_toBits_0 ⟨fun h => ?_, fun h => ?_⟩
  · have hn : neg = false := by
      rw [h5] at h
      cases neg with
      | false => rfl
      | true => exact absurd h (by decide)
    rw [hn] at main ⊢
    exact main
  · have hn : neg = true := by rw [h5] at h; exact (bI_1 neg).mp h
    rw [hn] at main ⊢
    exact main
