/-! the law's start: the statics -/
def stTm (i : Nat) : Term := .static (stL.getD i ("", "", [])).1 (stL.getD i ("", "", [])).2.1 "[I"
def srTm (i : Nat) : Term := .string (srL.getD i ("", 0, "", 0)).1 (srL.getD i ("", 0, "", 0)).2.1
theorem stat_start {s : State} {b : Nat} (hts : ∀ w ∈ lw_tbl, w.before #[Value.ref b] s = true) (hgv : (Jvm.Cond.and given_1 narrow_1).before #[Value.ref b] s = true) : ∃ ad : Nat → Nat, ∀ E : En_t, (∀ p, 1000 ≤ p → ro E p = ad p) → (∀ q, AE E q → s.heap.size ≤ q) → StatE E s s.heap := by
  have hs := flat_of_before _ hgv
  have hA : ∀ a : Nat, a < s.heap.size → ¬ (fun q : Nat => s.heap.size ≤ q) a := fun a h => Nat.not_le.mpr h
  have e0 : ∀ j, j < 10 → (Term.elem (stTm 0) (.int (Int32.ofNat j))).eval #[Value.ref b] s none [] s = some (tabF (stL.getD 0 ("", "", [])).2.2 j) := fun j hj => va_eqt (hs (Cond.eq (.elem (stTm 0) (.int (Int32.ofNat j))) (.int ((stL.getD 0 ("", "", [])).2.2.getD j 0))) (by revert hj; revert j; decide +kernel))
  have e1 : ∀ j, j < 14 → (Term.elem (stTm 1) (.int (Int32.ofNat j))).eval #[Value.ref b] s none [] s = some (tabF (stL.getD 1 ("", "", [])).2.2 j) := fun j hj => va_eqt (hs (Cond.eq (.elem (stTm 1) (.int (Int32.ofNat j))) (.int ((stL.getD 1 ("", "", [])).2.2.getD j 0))) (by revert hj; revert j; decide +kernel))
  have e2 : ∀ j, j < 8 → (Term.elem (stTm 2) (.int (Int32.ofNat j))).eval #[Value.ref b] s none [] s = some (tabF (stL.getD 2 ("", "", [])).2.2 j) := fun j hj => va_eqt (hs (Cond.eq (.elem (stTm 2) (.int (Int32.ofNat j))) (.int ((stL.getD 2 ("", "", [])).2.2.getD j 0))) (by revert hj; revert j; decide +kernel))
  obtain ⟨t0, h0, T0⟩ := va_Tof (f := tabF (stL.getD 0 ("", "", [])).2.2) (A := fun q : Nat => s.heap.size ≤ q) (N := 10) (by decide) (hs (.arrayOf (stTm 0) .int) (by decide +kernel)) (va_eqt (hs (Cond.eq (.length (stTm 0)) (.int 10)) (by decide +kernel))) e0 hA
  obtain ⟨t1, h1, T1⟩ := va_Tof (f := tabF (stL.getD 1 ("", "", [])).2.2) (A := fun q : Nat => s.heap.size ≤ q) (N := 14) (by decide) (hs (.arrayOf (stTm 1) .int) (by decide +kernel)) (va_eqt (hs (Cond.eq (.length (stTm 1)) (.int 14)) (by decide +kernel))) e1 hA
  obtain ⟨t2, h2, T2⟩ := va_Tof (f := tabF (stL.getD 2 ("", "", [])).2.2) (A := fun q : Nat => s.heap.size ≤ q) (N := 8) (by decide) (hs (.arrayOf (stTm 2) .int) (by decide +kernel)) (va_eqt (hs (Cond.eq (.length (stTm 2)) (.int 8)) (by decide +kernel))) e2 hA
  have Z0 := va_Zof (A := fun q : Nat => s.heap.size ≤ q) (hts (.laysStatic "CanonPress" "TENS" "[I") (List.mem_of_getElem? (i := 556) (by decide +kernel))) (hts (.initialized "CanonPress") (List.mem_of_getElem? (i := 112) (by decide +kernel))) h0 hA
  have Z1 := va_Zof (A := fun q : Nat => s.heap.size ≤ q) (hts (.laysStatic "CanonPress$Big" "FIVES" "[I") (List.mem_of_getElem? (i := 567) (by decide +kernel))) (hts (.initialized "CanonPress$Big") (List.mem_of_getElem? (i := 116) (by decide +kernel))) h1 hA
  have Z2 := va_Zof (A := fun q : Nat => s.heap.size ≤ q) (hts (.laysStatic "CanonPress$Reader" "SHORT_ESCAPED" "[I") (List.mem_of_getElem? (i := 906) (by decide +kernel))) (hts (.initialized "CanonPress$Reader") (List.mem_of_getElem? (i := 118) (by decide +kernel))) h2 hA
  have Zc := va_Zof (A := fun q : Nat => s.heap.size ≤ q) (hts (.laysStatic "java/lang/String" "COMPACT_STRINGS" "Z") (List.mem_of_getElem? (i := 782) (by decide +kernel))) (hts (.initialized "java/lang/String") (List.mem_of_getElem? (i := 128) (by decide +kernel))) (va_eqt (hs (Cond.eq (.static "java/lang/String" "COMPACT_STRINGS" "Z") (.int 1)) (by decide +kernel))) hA
  have Zq := va_Zqof (A := fun q : Nat => s.heap.size ≤ q) (hts (.laysStatic "jdk/internal/util/Preconditions" "SIOOBE_FORMATTER" "Ljava/util/function/BiFunction;") (List.mem_of_getElem? (i := 798) (by decide +kernel))) (hts (.initialized "jdk/internal/util/Preconditions") (List.mem_of_getElem? (i := 130) (by decide +kernel))) (hs (.isRef (.static "jdk/internal/util/Preconditions" "SIOOBE_FORMATTER" "Ljava/util/function/BiFunction;")) (by decide +kernel)) hA
  obtain ⟨adK, adV, hS, hK⟩ := vk_Sof (args := #[Value.ref b]) (s := s) (N := 7) (tm := srTm) (len := lenS) (byt := bytS) (A := fun q : Nat => s.heap.size ≤ q) (by decide) (fun i hi => hs _ (by revert hi; revert i; decide +kernel)) (fun i hi => hs _ (by revert hi; revert i; decide +kernel)) (fun i hi => hs _ (by revert hi; revert i; decide +kernel)) (fun i hi => hs _ (by revert hi; revert i; decide +kernel)) (fun i hi j hj => hs _ (by revert hj; revert j; revert hi; revert i; decide +kernel)) (fun i j hi hj hij => by
    have hne : ∀ i, i < 7 → ∀ j, j < 7 → i < j → Cond.not (Cond.eq (srTm i) (srTm j)) ∈ flatC (Jvm.Cond.and given_1 narrow_1) := by decide +kernel
    rcases Nat.lt_or_ge i j with g | g
    · exact Or.inl (hs _ (hne i hi j hj g))
    · exact Or.inr (hs _ (hne j hj i hi (by omega)))) hA
  have q7 : (srTm 7).eval #[Value.ref b] s none [] s = some (.ref (adK 0)) := va_eqR (hs (Cond.eq (srTm 0) (srTm 7)) (by decide +kernel)) (hK 0 (by decide))
  have q8 : (srTm 8).eval #[Value.ref b] s none [] s = some (.ref (adK 1)) := va_eqR (hs (Cond.eq (srTm 1) (srTm 8)) (by decide +kernel)) (hK 1 (by decide))
  have q9 : (srTm 9).eval #[Value.ref b] s none [] s = some (.ref (adK 2)) := va_eqR (hs (Cond.eq (srTm 2) (srTm 9)) (by decide +kernel)) (hK 2 (by decide))
  refine ⟨fun p => if p = 1000 then t0 else if p = 1001 then t1 else if p = 1002 then t2 else if p < 3000 then adK (p - 2000) else adV (p - 3000), fun E hE hAE => ?_⟩
  have r0 : ro E 1000 = t0 := by rw [hE 1000 (by decide)]; rfl
  have r1 : ro E 1001 = t1 := by rw [hE 1001 (by decide)]; rfl
  have r2 : ro E 1002 = t2 := by rw [hE 1002 (by decide)]; rfl
  have rK : ∀ i, i < 7 → ro E (2000 + i) = adK i := fun i hi => by
    rw [hE (2000 + i) (by omega)]
    show (if 2000 + i = 1000 then t0 else if 2000 + i = 1001 then t1 else if 2000 + i = 1002 then t2 else if 2000 + i < 3000 then adK (2000 + i - 2000) else adV (2000 + i - 3000)) = adK i
    rw [if_neg (by omega), if_neg (by omega), if_neg (by omega), if_pos (by omega), show 2000 + i - 2000 = i by omega]
  have rV : ∀ i, i < 7 → ro E (3000 + i) = adV i := fun i hi => by
    rw [hE (3000 + i) (by omega)]
    show (if 3000 + i = 1000 then t0 else if 3000 + i = 1001 then t1 else if 3000 + i = 1002 then t2 else if 3000 + i < 3000 then adK (3000 + i - 2000) else adV (3000 + i - 3000)) = adV i
    rw [if_neg (by omega), if_neg (by omega), if_neg (by omega), if_neg (by omega), show 3000 + i - 3000 = i by omega]
  have rR : ∀ {own tx : String} {k i : Nat} (hi : i < 7), (Cond.stringRef own k tx) ∈ lw_tbl → (Term.string own k).eval #[Value.ref b] s none [] s = some (.ref (adK i)) → vk_R own k tx (ro E (2000 + i)) s := fun hi hw he => by
    rw [rK _ hi]; exact vk_R.of (hts _ hw) he
  refine ⟨fun i q hq => ?_, ⟨fun i hi => ?_, fun i j hi hj e => ?_⟩, ⟨Zc.narrow hAE, Zq.narrow hAE⟩, va_Nw.of rfl (hts _ (List.mem_of_getElem? (i := 555) (by decide +kernel))), va_Nw.of rfl (hts _ (List.mem_of_getElem? (i := 834) (by decide +kernel))), fun i q hq => ?_⟩
  · match i, hq with
    | 0, hq => cases hq; exact ⟨by show va_Z _ _ _ (.ref (ro E 1000)) _ _ _; rw [r0]; exact Z0.narrow hAE, by show va_T _ (ro E 1000) _ _ _ _ _; rw [r0]; exact T0.narrow hAE⟩
    | 1, hq => cases hq; exact ⟨by show va_Z _ _ _ (.ref (ro E 1001)) _ _ _; rw [r1]; exact Z1.narrow hAE, by show va_T _ (ro E 1001) _ _ _ _ _; rw [r1]; exact T1.narrow hAE⟩
    | 2, hq => cases hq; exact ⟨by show va_Z _ _ _ (.ref (ro E 1002)) _ _ _; rw [r2]; exact Z2.narrow hAE, by show va_T _ (ro E 1002) _ _ _ _ _; rw [r2]; exact T2.narrow hAE⟩
    | i + 3, hq => simp [stL] at hq
  · have h := (hS.narrow hAE).1 i hi
    show va_O _ (ro E (2000 + i)) _ _ _ ∧ va_OF _ _ _ _ (ro E (2000 + i)) _ _ _ ∧ va_OF _ _ _ (.ref (ro E (3000 + i))) (ro E (2000 + i)) _ _ _ ∧ va_T _ (ro E (3000 + i)) _ _ _ _ _
    rw [rK i hi, rV i hi]
    exact h
  · have e : ro E (2000 + i) = ro E (2000 + j) := e
    rw [rK i hi, rK j hj] at e
    exact hS.2 i j hi hj e
  · match i, hq with
    | 0, hq => cases hq; exact rR (i := 0) (by decide) (List.mem_of_getElem? (i := 764) (by decide +kernel)) (hK 0 (by decide))
    | 1, hq => cases hq; exact rR (i := 1) (by decide) (List.mem_of_getElem? (i := 826) (by decide +kernel)) (hK 1 (by decide))
    | 2, hq => cases hq; exact rR (i := 2) (by decide) (List.mem_of_getElem? (i := 827) (by decide +kernel)) (hK 2 (by decide))
    | 3, hq => cases hq; exact rR (i := 3) (by decide) (List.mem_of_getElem? (i := 849) (by decide +kernel)) (hK 3 (by decide))
    | 4, hq => cases hq; exact rR (i := 4) (by decide) (List.mem_of_getElem? (i := 1068) (by decide +kernel)) (hK 4 (by decide))
    | 5, hq => cases hq; exact rR (i := 5) (by decide) (List.mem_of_getElem? (i := 1070) (by decide +kernel)) (hK 5 (by decide))
    | 6, hq => cases hq; exact rR (i := 6) (by decide) (List.mem_of_getElem? (i := 1073) (by decide +kernel)) (hK 6 (by decide))
    | 7, hq => cases hq; exact rR (i := 0) (by decide) (List.mem_of_getElem? (i := 1078) (by decide +kernel)) q7
    | 8, hq => cases hq; exact rR (i := 1) (by decide) (List.mem_of_getElem? (i := 1085) (by decide +kernel)) q8
    | 9, hq => cases hq; exact rR (i := 2) (by decide) (List.mem_of_getElem? (i := 1086) (by decide +kernel)) q9
    | i + 10, hq => simp [srL] at hq
