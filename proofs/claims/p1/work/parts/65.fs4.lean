theorem nI_dec (n : Nat) : nI (n + 1) + (-1 : Int32) = nI n := by
  rw [← zI_nI, ← zI_nI, show (-1 : Int32) = zI (-1) from rfl, zI_add]
  exact congrArg zI (by omega)
theorem lg_lt {a b : Nat} (ha : a < 2 ^ 63) (hb : b < 2 ^ 63) : lg_cmp (lN a) (lN b) < 0 ↔ a < b := by rw [lg_cmp_lt]; exact pk_lLT ha hb
theorem lg_gt {a b : Nat} (ha : a < 2 ^ 63) (hb : b < 2 ^ 63) : 0 < lg_cmp (lN a) (lN b) ↔ b < a := by rw [lg_cmp_gt]; exact pk_lLT hb ha
theorem lg_le {a b : Nat} (ha : a < 2 ^ 63) (hb : b < 2 ^ 63) : lg_cmp (lN a) (lN b) ≤ 0 ↔ a ≤ b := by rw [lg_cmp_le]; exact pk_lLE ha hb
theorem lg_eq {a b : Nat} (ha : a < 2 ^ 63) (hb : b < 2 ^ 63) : lg_cmp (lN a) (lN b) = 0 ↔ a = b := by rw [lg_cmp_eq]; exact pk_lEQ ha hb
theorem fs_keep {E : En_t} {d b z : Nat} {T : Int} (σ0 : S_t) {σ : S_t} (hF : Fr (BP 61) σ0 σ) (hb : 0 < b) (hb2 : b < 9218868437227405312) (hz1 : 1 ≤ z) (hz : z ≤ 18) (hT : -345 ≤ T ∧ T ≤ 300) (hV1 : 100000000000000000 * Gz T ≤ FV b) (hV2 : FV b < 2000000000000000000 * Gz T)
    (hi : ∀ z', z < z' → z' ≤ 18 → ¬ OKz (FV b) b ((20000 + T).toNat + z')) {up : Bool} (hu : Upz (FV b) b ((20000 + T).toNat + z) up) {w : Nat} (hw : w = FV b / Gz T / 10 ^ z + bN up) :
    JE E (d + 2) m_Pr_findShortest 286 [(5, .int (zI T)), (14, .int (nI z))] [.long (lN w), pv E 59] σ (fun r σ' => r = none ∧ Fs PB σ0 σ' ∧ ∃ Z up, Shrt (FV b) b Z up ∧ ShP σ' (cz (FV b) Z up)) := by
  obtain ⟨s1, Z', up', s2, s3⟩ := fs_shrt hb hb2 hz1 hz hT hV1 hV2 hi hu
  have hge : Gz T = 10 ^ (20000 + T).toNat := rfl
  have ew : FV b / 10 ^ ((20000 + T).toNat + z) + bN up = w := by rw [hw, hge, Nat.div_div_eq_div_mul, ← Nat.pow_add]
  rw [ew] at s1
  have hw0 : 0 < w := by
    rcases Nat.eq_zero_or_pos w with g | g
    · rw [g] at s1; exact absurd rfl s1
    · exact g
  have hwb : w < 9000000000000000000 := by
    have h1 : FV b / Gz T < 2000000000000000000 := (Nat.div_lt_iff_lt_mul (Gz_pos T)).mpr hV2
    have h2 : FV b / Gz T / 10 ^ z ≤ FV b / Gz T := Nat.div_le_self _ _
    have h3 : bN up ≤ 1 := by cases up <;> decide
    rw [hw]
    generalize FV b / Gz T / 10 ^ z = A at *
    generalize FV b / Gz T = B at *
    omega
  refine b_Pr_findShortest_286 ?_
  have e : zI T + nI z = zI (T + z) := by rw [← zI_nI, zI_add]
  rw [e]
  refine (c_keepDigits hw0 hwb).mono (fun σ1 hq => ?_)
  obtain ⟨F1, D, c, hP, hc1, hc2, hD0, hD⟩ := hq
  refine ⟨rfl, (Fr_Fs hF (fun p k h => Or.inr h)).tr (F1.mono (fun p k h => Or.inl h)), Z', up', s2, D, c, _, hP, hc1, hc2, hD0, dval_last hc1 (by rw [hD]; exact s1), ?_, by omega, by omega⟩
  rw [s3, hD]
  unfold SV cz
  rw [ew, show ((c : Int) + (T + z) - c + 20000).toNat = (20000 + T).toNat + z by omega]
theorem bI_d (P : Prop) [Decidable P] : bI (decide P) = 0 ↔ ¬ P := by
  by_cases h : P
  · rw [decide_eq_true h]; exact ⟨fun q => absurd q (by decide), fun q => absurd h q⟩
  · rw [decide_eq_false h]; exact ⟨fun _ => h, fun _ => rfl⟩
theorem cz_f (V g z : Nat) (up : Bool) : cz V (g + z) up = (V / 10 ^ g / 10 ^ z + bN up) * 10 ^ z * 10 ^ g := by
  unfold cz
  rw [Nat.div_div_eq_div_mul, ← Nat.pow_add, Nat.mul_assoc, ← Nat.pow_add, Nat.add_comm z g]
theorem fs_loop {E : En_t} {d b : Nat} {T : Int} (σ0 : S_t) {σ : S_t} (hF : Fr (BP 61) σ0 σ) (hb : 0 < b) (hb2 : b < 9218868437227405312) (hT : -345 ≤ T ∧ T ≤ 300) (hV1 : 100000000000000000 * Gz T ≤ FV b) (hV2 : FV b < 2000000000000000000 * Gz T) (hYH : Gz T ≤ YH b)
    (hls : lsB b T < 2 ^ 63) (hms : msB b T < 2 ^ 63) (hr : gI σ 61 2 = bI (rB (FV b) T)) : ∀ z : Nat, z ≤ 18 →
    (∀ z', z < z' → z' ≤ 18 → ¬ OKz (FV b) b ((20000 + T).toNat + z')) →
    JE E (d + 2) m_Pr_findShortest 173 [(0, pv E 59), (5, .int (zI T)), (8, .long (lN (lsB b T))), (10, .long (lN (msB b T))), (12, .long (lN (FV b / Gz T))), (14, .int (nI z)), (15, .long (lN (10 ^ z)))] [] σ (fun r σ' => r = none ∧ Fs PB σ0 σ' ∧ ∃ Z up, Shrt (FV b) b Z up ∧ ShP σ' (cz (FV b) Z up)) := by
  have hM : FV b / Gz T < 2000000000000000000 := (Nat.div_lt_iff_lt_mul (Gz_pos T)).mpr hV2
  have hge : Gz T = 10 ^ (20000 + T).toNat := rfl
  intro z
  induction z with
  | zero =>
    intro _ hi
    exfalso
    apply hi 1 (by omega) (by omega)
    apply ok17 hb hb2
    rw [Nat.pow_add, ← hge, Nat.pow_one]
    generalize Gz T = G at *
    generalize FV b = A at *
    omega
  | succ y ih =>
    intro hz hi
    have hp := p10 y
    have hst : 10 ^ (y + 1) ≤ 1000000000000000000 := Nat.pow_le_pow_right (n := 10) (j := 18) (by decide) hz
    have hst2 : 1 < 10 ^ (y + 1) := by rw [Nat.pow_succ]; omega
    have hes : 10 ^ (y + 1) = 2 * (5 * 10 ^ y) := by rw [Nat.pow_succ]; omega
    have elz : FV b / Gz T / 10 ^ (y + 1) = FV b / 10 ^ ((20000 + T).toNat + (y + 1)) := by rw [hge, Nat.div_div_eq_div_mul, ← Nat.pow_add]
    have ecf : FV b / Gz T / 10 ^ (y + 1) * 10 ^ (y + 1) * Gz T = cz (FV b) ((20000 + T).toNat + (y + 1)) false := by
      rw [hge, cz_f]; rfl
    have ect : (FV b / Gz T / 10 ^ (y + 1) + 1) * 10 ^ (y + 1) * Gz T = cz (FV b) ((20000 + T).toNat + (y + 1)) true := by
      rw [hge, cz_f]; rfl
    have hdn : lsB b T ≤ FV b / Gz T / 10 ^ (y + 1) * 10 ^ (y + 1) ↔ RdB (cz (FV b) ((20000 + T).toNat + (y + 1)) false) b := by
      rw [ls_iff hb, ecf]; exact dn_iff hb hb2 (cz_le _ _)
    have hup : (FV b / Gz T / 10 ^ (y + 1) + 1) * 10 ^ (y + 1) ≤ msB b T ↔ RdB (cz (FV b) ((20000 + T).toNat + (y + 1)) true) b := by
      rw [ms_iff hYH, ect]; exact up_iff hb hb2 (Nat.le_of_lt (cz_lt _ _))
    have hnr : upz (FV b) ((20000 + T).toNat + (y + 1)) ↔ (10 ^ (y + 1) / 2 < FV b / Gz T - FV b / Gz T / 10 ^ (y + 1) * 10 ^ (y + 1) ∨ (FV b / Gz T - FV b / Gz T / 10 ^ (y + 1) * 10 ^ (y + 1) = 10 ^ (y + 1) / 2 ∧ (rB (FV b) T = true ∨ FV b / Gz T / 10 ^ (y + 1) % 2 = 1))) := by
      have h := upz_aux (V := FV b) (G := Gz T) (s := 10 ^ (y + 1)) (h := 5 * 10 ^ y) hes (Gz_pos T) (by omega)
      have eZ : 10 ^ ((20000 + T).toNat + (y + 1)) = Gz T * 10 ^ (y + 1) := by rw [Nat.pow_add, ← hge]
      unfold upz
      rw [eZ, h, ← Nat.div_div_eq_div_mul]
      have e1 : 10 ^ (y + 1) / 2 = 5 * 10 ^ y := by rw [hes]; exact Nat.mul_div_cancel_left _ (by decide)
      have e2 : FV b / Gz T - FV b / Gz T / 10 ^ (y + 1) * 10 ^ (y + 1) = FV b / Gz T % 10 ^ (y + 1) := by
        have := Nat.div_add_mod (FV b / Gz T) (10 ^ (y + 1))
        rw [Nat.mul_comm] at this
        generalize FV b / Gz T / 10 ^ (y + 1) * 10 ^ (y + 1) = A at *
        generalize FV b / Gz T % 10 ^ (y + 1) = B at *
        generalize FV b / Gz T = C at *
        omega
      rw [e1, e2]
      unfold rB
      rw [decide_eq_true_iff]
    have hdl : FV b / Gz T / 10 ^ (y + 1) * 10 ^ (y + 1) ≤ FV b / Gz T := Nat.div_mul_le_self _ _
    have hll : FV b / Gz T / 10 ^ (y + 1) ≤ FV b / Gz T := Nat.div_le_self _ _
    have e10 : lN (10 ^ (y + 1)) / (10 : Int64) = lN (10 ^ y) := by
      have := pk_lDiv (a := 10 ^ (y + 1)) (b := 10) (by omega) (by decide) (by decide)
      refine this.trans ?_
      rw [Nat.pow_succ, Nat.mul_div_cancel _ (by decide)]
    have ediv : lN (FV b / Gz T) / lN (10 ^ (y + 1)) = lN (FV b / Gz T / 10 ^ (y + 1)) := pk_lDiv (by omega) (by omega) (by omega)
    have next : ¬ RdB (cz (FV b) ((20000 + T).toNat + (y + 1)) false) b → ¬ RdB (cz (FV b) ((20000 + T).toNat + (y + 1)) true) b → JE E (d + 2) m_Pr_findShortest 173 [(0, pv E 59), (5, .int (zI T)), (8, .long (lN (lsB b T))), (10, .long (lN (msB b T))), (12, .long (lN (FV b / Gz T))), (14, .int (nI (y + 1) + (-1 : Int32))), (15, .long (lN (10 ^ (y + 1)) / (10 : Int64)))] [] σ (fun r σ' => r = none ∧ Fs PB σ0 σ' ∧ ∃ Z up, Shrt (FV b) b Z up ∧ ShP σ' (cz (FV b) Z up)) := by
      intro n1 n2
      rw [e10, nI_dec y]
      refine ih (by omega) (fun z' h1 h2 => ?_)
      rcases Nat.lt_or_ge (y + 1) z' with g | g
      · exact hi z' g h2
      · have : z' = y + 1 := by omega
        subst this
        rintro (q | q)
        · exact n1 q
        · exact n2 q
    have keep : ∀ up : Bool, Upz (FV b) b ((20000 + T).toNat + (y + 1)) up → JE E (d + 2) m_Pr_findShortest 269 [(0, pv E 59), (5, .int (zI T)), (14, .int (nI (y + 1))), (17, .long (lN (FV b / Gz T / 10 ^ (y + 1))))] [.int (bI up)] σ (fun r σ' => r = none ∧ Fs PB σ0 σ' ∧ ∃ Z up, Shrt (FV b) b Z up ∧ ShP σ' (cz (FV b) Z up)) := by
      intro up hu
      cases up
      · exact b_Pr_findShortest_269 ⟨fun _ => fs_keep σ0 hF hb hb2 (by omega) hz hT hV1 hV2 hi hu rfl, fun h => absurd rfl h⟩
      · refine b_Pr_findShortest_269 ⟨fun h => absurd h (by decide), fun _ => ?_⟩
        rw [show lN (FV b / Gz T / 10 ^ (y + 1)) + (1 : Int64) = lN (FV b / Gz T / 10 ^ (y + 1) + 1) from lN_add _ 1]
        exact fs_keep σ0 hF hb hb2 (by omega) hz hT hV1 hV2 hi hu rfl
    have at223 : ∀ dn up : Bool, (dn = true ↔ RdB (cz (FV b) ((20000 + T).toNat + (y + 1)) false) b) → (up = true ↔ RdB (cz (FV b) ((20000 + T).toNat + (y + 1)) true) b) → JE E (d + 2) m_Pr_findShortest 223 [(0, pv E 59), (5, .int (zI T)), (8, .long (lN (lsB b T))), (10, .long (lN (msB b T))), (12, .long (lN (FV b / Gz T))), (14, .int (nI (y + 1))), (15, .long (lN (10 ^ (y + 1)))), (17, .long (lN (FV b / Gz T / 10 ^ (y + 1)))), (19, .int (bI dn))] [.int (bI up)] σ (fun r σ' => r = none ∧ Fs PB σ0 σ' ∧ ∃ Z up, Shrt (FV b) b Z up ∧ ShP σ' (cz (FV b) Z up)) := by
      intro dn up h1 h2
      have at235 : dn = true ∨ up = true → JE E (d + 2) m_Pr_findShortest 235 [(0, pv E 59), (5, .int (zI T)), (12, .long (lN (FV b / Gz T))), (14, .int (nI (y + 1))), (15, .long (lN (10 ^ (y + 1)))), (17, .long (lN (FV b / Gz T / 10 ^ (y + 1)))), (19, .int (bI dn)), (20, .int (bI up))] [] σ (fun r σ' => r = none ∧ Fs PB σ0 σ' ∧ ∃ Z up, Shrt (FV b) b Z up ∧ ShP σ' (cz (FV b) Z up)) := by
        intro hor
        refine b_Pr_findShortest_235 ⟨fun h => ?_, fun h => ⟨fun g => ?_, fun g => ?_⟩⟩
        · have hd : dn = false := by cases dn; rfl; exact absurd h (by decide)
          have hu : up = true := by rcases hor with q | q; rw [hd] at q; exact absurd q (by decide); exact q
          exact b_Pr_findShortest_264 (keep true (Or.inl ⟨rfl, h2.mp hu, fun q => by rw [h1.mpr q] at hd; exact absurd hd (by decide)⟩))
        · have hd : dn = true := (bI_1 dn).mp h
          have hu : up = false := by cases up; rfl; exact absurd g (by decide)
          exact b_Pr_findShortest_268 (keep false (Or.inr (Or.inl ⟨rfl, h1.mp hd, fun q => by rw [h2.mpr q] at hu; exact absurd hu (by decide)⟩)))
        · have hd : dn = true := (bI_1 dn).mp h
          have hu : up = true := (bI_1 up).mp g
          have em : lN (FV b / Gz T / 10 ^ (y + 1)) * lN (10 ^ (y + 1)) = lN (FV b / Gz T / 10 ^ (y + 1) * 10 ^ (y + 1)) := lN_mul _ _
          rw [em, lN_sub hdl]
          refine (c_isUpperNearer hr (by omega) (by omega) (by omega)).mono (fun x σ1 hq => ?_)
          obtain ⟨rfl, rfl⟩ := hq
          rw [bI_d]
          refine ⟨fun q => b_Pr_findShortest_268 (keep false (Or.inr (Or.inr ⟨h1.mp hd, h2.mp hu, ?_⟩))), fun q => b_Pr_findShortest_264 (keep true (Or.inr (Or.inr ⟨h1.mp hd, h2.mp hu, ?_⟩)))⟩
          · rw [hnr]; exact ⟨fun q' => absurd q' (by decide), fun q' => absurd q' q⟩
          · rw [hnr]; exact ⟨fun _ => Classical.not_not.mp q, fun _ => rfl⟩
      refine b_Pr_findShortest_223 ⟨fun h => at235 (Or.inl ((bI_1 dn).mp h)), fun h => ⟨fun g => ?_, fun g => at235 (Or.inr ((bI_1 up).mp g))⟩⟩
      have hd : dn = false := by cases dn; rfl; exact absurd h (by decide)
      have hu : up = false := by cases up; rfl; exact absurd g (by decide)
      exact next (fun q => by rw [h1.mpr q] at hd; exact absurd hd (by decide)) (fun q => by rw [h2.mpr q] at hu; exact absurd hu (by decide))
    have at203 : ∀ dn : Bool, (dn = true ↔ RdB (cz (FV b) ((20000 + T).toNat + (y + 1)) false) b) → JE E (d + 2) m_Pr_findShortest 203 [(0, pv E 59), (5, .int (zI T)), (8, .long (lN (lsB b T))), (10, .long (lN (msB b T))), (12, .long (lN (FV b / Gz T))), (14, .int (nI (y + 1))), (15, .long (lN (10 ^ (y + 1)))), (17, .long (lN (FV b / Gz T / 10 ^ (y + 1))))] [.int (bI dn)] σ (fun r σ' => r = none ∧ Fs PB σ0 σ' ∧ ∃ Z up, Shrt (FV b) b Z up ∧ ShP σ' (cz (FV b) Z up)) := by
      intro dn h1
      have ea : lN (FV b / Gz T / 10 ^ (y + 1)) + (1 : Int64) = lN (FV b / Gz T / 10 ^ (y + 1) + 1) := lN_add _ 1
      have em : lN (FV b / Gz T / 10 ^ (y + 1) + 1) * lN (10 ^ (y + 1)) = lN ((FV b / Gz T / 10 ^ (y + 1) + 1) * 10 ^ (y + 1)) := lN_mul _ _
      have hb3 : (FV b / Gz T / 10 ^ (y + 1) + 1) * 10 ^ (y + 1) < 2 ^ 63 := by
        rw [Nat.add_mul, Nat.one_mul]
        generalize FV b / Gz T / 10 ^ (y + 1) * 10 ^ (y + 1) = A at *
        omega
      refine b_Pr_findShortest_203 ?_
      rw [ea, em, lg_gt hb3 hms]
      refine ⟨fun h => at223 dn false h1 ⟨fun q => absurd q (by decide), fun q => absurd (hup.mpr q) (Nat.not_le.mpr h)⟩, fun h => at223 dn true h1 ⟨fun _ => hup.mp (Nat.not_lt.mp h), fun _ => rfl⟩⟩
    refine b_Pr_findShortest_173 ⟨fun h => ?_, fun _ => ⟨?_, ?_⟩⟩
    · have := (lg_le (b := 1) (by omega) (by omega)).mp h
      omega
    · intro h
      have := (pk_lEQ (a := 10 ^ (y + 1)) (b := 0) (by omega) (by omega)).mp h
      omega
    · rw [ediv]
      have em : lN (FV b / Gz T / 10 ^ (y + 1)) * lN (10 ^ (y + 1)) = lN (FV b / Gz T / 10 ^ (y + 1) * 10 ^ (y + 1)) := lN_mul _ _
      rw [em, lg_lt (by omega) hls]
      exact ⟨fun h => at203 false ⟨fun q => absurd q (by decide), fun q => absurd (hdn.mpr q) (Nat.not_le.mpr h)⟩, fun h => at203 true ⟨fun _ => hdn.mp (Nat.not_lt.mp h), fun _ => rfl⟩⟩
