theorem rhe_le {a b c : Nat} (hb : 0 < b) (h : a < c * b) : rhe a b ≤ c := by
  have : a / b < c := (Nat.div_lt_iff_lt_mul hb).mpr h
  unfold rhe
  split
  · omega
  · split <;> omega
theorem rhe_ge {a b c : Nat} (hb : 0 < b) (h : c * b ≤ a) : c ≤ rhe a b := by
  have : c ≤ a / b := (Nat.le_div_iff_mul_le hb).mpr h
  unfold rhe
  split
  · omega
  · split <;> omega
theorem zI_mul (a b : Int) : zI a * zI b = zI (a * b) := (Int32.ofInt_mul a b).symm
theorem and1_l {m : Nat} (h : m < 2 ^ 64) : lN m &&& (1 : Int64) = lN (m % 2) := wb_a1 h
/-- the end of nearest: the bits of m units at e -/
theorem nr_fin {E : En_t} {d m : Nat} {e : Int} {Q : Option Value → S_t → Prop} {σ : S_t} (hm : m ≤ 2 ^ 53) (he1 : -1022 ≤ e) (he2 : e ≤ 1023) (hme : 2 ^ 52 ≤ m ∨ e = -1022) (hQ : Q (some (.long (lN (m + (e + 1022).toNat * 2 ^ 52)))) σ) : JE E (d + 1) m_Mo_nearest 318 [(1, .int (zI e)), (2, .long (lN m))] [] σ Q := by
  have fin : ∀ (m' : Nat) (e' : Int), m' < 2 ^ 53 → -1022 ≤ e' → e' ≤ 1023 → (2 ^ 52 ≤ m' ∨ e' = -1022) → m' + (e' + 1022).toNat * 2 ^ 52 = m + (e + 1022).toNat * 2 ^ 52 → JE E (d + 1) m_Mo_nearest 344 [(1, .int (zI e')), (2, .long (lN m'))] [] σ Q := by
    intro m' e' h1 h2 h3 h4 h5
    refine b_Mo_nearest_344 ⟨fun h => ?_, fun h => ?_⟩
    · have h : 2 ^ 52 ≤ m' := (pk_lLE (a := 2 ^ 52) (by omega) (by omega)).mp ((lg_cmp_ge _ _).mp h)
      have a1 : lN m' &&& (4503599627370495 : Int64) = lN (m' % 2 ^ 52) := wb_mask (k := 52) (by omega) (by decide)
      have a2 : zI e' + (1023 : Int32) = nI (e' + 1023).toNat := by
        have : (1023 : Int32) = zI 1023 := rfl
        rw [this, zI_add, ← zI_nI]; congr 1; omega
      have a3 : (nI (e' + 1023).toNat).toInt64 <<< ((52 : Int32).toInt64 &&& 63) = lN ((e' + 1023).toNat * 2 ^ 52) := by
        rw [nI_l (by omega)]; exact wb_shl (k := 52) _ (by decide)
      rw [a1, a2, a3, g_or' (k := 52) (p := 2 ^ 52) rfl (by omega) (by omega)]
      have : m' % 2 ^ 52 + (e' + 1023).toNat * 2 ^ 52 = m + (e + 1022).toNat * 2 ^ 52 := by rw [← h5]; omega
      rw [this]; exact hQ
    · have h : m' < 2 ^ 52 := by
        rcases Nat.lt_or_ge m' (2 ^ 52) with g | g
        · exact g
        · exact absurd ((lg_cmp_ge _ _).mpr ((pk_lLE (a := 2 ^ 52) (by omega) (by omega)).mpr g)) h
      have : m' = m + (e + 1022).toNat * 2 ^ 52 := by
        rw [← h5]
        rcases h4 with g | g
        · omega
        · subst g; simp
      rw [this]; exact hQ
  refine b_Mo_nearest_318 ⟨fun h => ?_, fun h => ⟨fun h2 => ?_, fun h2 => ?_⟩⟩
  · have hne : m ≠ 2 ^ 53 := fun q => h ((lg_cmp_eq _ _).mpr (by rw [q]; rfl))
    exact fin m e (by omega) he1 he2 hme rfl
  · have hm' : m = 2 ^ 53 := (pk_lEQ (b := 2 ^ 53) (by omega) (by omega)).mp ((lg_cmp_eq _ _).mp h)
    have e1 : zI e + (1 : Int32) = zI (e + 1) := by
      have : (1 : Int32) = zI 1 := rfl
      rw [this, zI_add]
    rw [e1] at h2 ⊢
    have h2 : e + 1 ≤ 1023 := (zI_le (b := 1023) (by omega) (by omega) (by omega) (by omega)).mp h2
    exact fin (2 ^ 52) (e + 1) (by omega) (by omega) h2 (Or.inl (Nat.le_refl _)) (by rw [hm']; omega)
  · have hm' : m = 2 ^ 53 := (pk_lEQ (b := 2 ^ 53) (by omega) (by omega)).mp ((lg_cmp_eq _ _).mp h)
    have e1 : zI e + (1 : Int32) = zI (e + 1) := by
      have : (1 : Int32) = zI 1 := rfl
      rw [this, zI_add]
    rw [e1] at h2
    have h2 : e = 1023 := by
      rcases Int.lt_or_le 1023 (e + 1) with g | g
      · omega
      · exact absurd ((zI_le (b := 1023) (by omega) (by omega) (by omega) (by omega)).mpr g) h2
    have : (9218868437227405312 : Int64) = lN (m + (e + 1022).toNat * 2 ^ 52) := by rw [hm', h2]; rfl
    rw [this]; exact hQ
/-- rounding a decimal at its point -/
theorem rhe_dec {f : Nat → Nat} {n p : Nat} (hf : ∀ k, k < n → f k < 10) (hlast : f (n - 1) ≠ 0) (hpn : p < n) :
    (f p < 5 → rhe (dval f n) (10 ^ (n - p)) = dval f p) ∧ (5 ≤ f p → (f p ≠ 5 ∨ n ≠ p + 1) → rhe (dval f n) (10 ^ (n - p)) = dval f p + 1) ∧ (f p = 5 → n = p + 1 → rhe (dval f n) (10 ^ (n - p)) = dval f p + dval f p % 2) := by
  obtain ⟨j, rfl⟩ : ∃ j, n = p + (j + 1) := ⟨n - p - 1, by omega⟩
  rw [Nat.add_sub_cancel_left, dval_app]
  have hR := dval_lt (f := fun t => f (p + t)) (n := j + 1) (fun k hk => hf (p + k) (by omega))
  have hR1 : dval (fun t => f (p + t)) (j + 1) = f p * 10 ^ j + dval (fun t => f (p + (t + 1))) j := dval_cons (fun t => f (p + t)) j
  have hP1 : j = 0 → 10 ^ j = 1 := fun e => by rw [e]
  have hR2 := dval_lt (f := fun t => f (p + (t + 1))) (n := j) (fun k hk => hf (p + (k + 1)) (by omega))
  have hR3 : 0 < j → 0 < dval (fun t => f (p + (t + 1))) j := by
    intro hj
    obtain ⟨i, rfl⟩ : ∃ i, j = i + 1 := ⟨j - 1, by omega⟩
    rw [dval]
    have : f (p + (i + 1)) ≠ 0 := by
      rw [show p + (i + 1 + 1) - 1 = p + (i + 1) by omega] at hlast; exact hlast
    omega
  have hd : (dval f p * 10 ^ (j + 1) + dval (fun t => f (p + t)) (j + 1)) / 10 ^ (j + 1) = dval f p := by
    rw [Nat.mul_comm, Nat.mul_add_div (p10 _), Nat.div_eq_of_lt hR, Nat.add_zero]
  have hm : (dval f p * 10 ^ (j + 1) + dval (fun t => f (p + t)) (j + 1)) % 10 ^ (j + 1) = dval (fun t => f (p + t)) (j + 1) := by
    rw [Nat.mul_comm, Nat.mul_add_mod, Nat.mod_eq_of_lt hR]
  unfold rhe
  rw [hd, hm, hR1]
  have hP := p10 j
  rw [Nat.pow_succ]
  generalize dval (fun t => f (p + (t + 1))) j = r at *
  generalize 10 ^ j = P at *
  generalize dval f p = M at *
  refine ⟨fun h => ?_, fun h h2 => ?_, fun h h2 => ?_⟩
  · have : f p * P ≤ 4 * P := Nat.mul_le_mul_right _ (by omega)
    rw [if_pos (by omega)]
  · have h3 : 5 * P ≤ f p * P := Nat.mul_le_mul_right _ h
    have h4 : P * 10 < 2 * (f p * P + r) := by
      rcases Nat.eq_zero_or_pos j with g | g
      · have h5 : f p ≠ 5 := by
          rcases h2 with q | q
          · exact q
          · omega
        have : 6 * P ≤ f p * P := Nat.mul_le_mul_right _ (by omega)
        omega
      · have := hR3 g
        omega
    rw [if_neg (by omega), if_pos h4]
  · have hj : j = 0 := by omega
    have hP1 := hP1 hj
    have hr0 : r = 0 := by omega
    rw [h, hP1, hr0]
    simp
/-- nearest behind the last doubling: the digits ahead of the point, and rounding -/
theorem nr_round {E : En_t} {d N n : Nat} {pt e : Int} {Q : Option Value → S_t → Prop} {σ : S_t} (hN : Nrm σ N n pt) (hn : n ≤ 5990) (hp1 : -9000 ≤ pt) (hX : SV N n pt < 2 ^ 53 * TK) (he1 : -1022 ≤ e) (he2 : e ≤ 1023) (hme : 2 ^ 52 * TK ≤ SV N n pt ∨ e = -1022) (hQ : Q (some (.long (lN (rhe (SV N n pt) TK + (e + 1022).toNat * 2 ^ 52)))) σ) :
    JE E (d + 1) m_Mo_nearest 191 [(0, pv E 0), (1, .int (zI e)), (2, .long (lN 0)), (4, .int (nI 0))] [] σ Q := by
  obtain ⟨⟨h6, h7, hdig, hval⟩, hn0, hlead, hlast⟩ := id hN
  have hpt : pt ≤ 16 := by
    refine hN.pt_le (by omega) (by omega) (Nat.lt_of_lt_of_le hX ?_)
    rw [show ((16 : Int) + 20000).toNat = 20000 + 16 from rfl, tk_up, Nat.mul_comm]
    exact Nat.mul_le_mul_left _ (by decide)
  have end318 : ∀ r : Nat, r = rhe (SV N n pt) TK → JE E (d + 1) m_Mo_nearest 318 [(1, .int (zI e)), (2, .long (lN r))] [] σ Q := by
    intro r hr
    rw [hr]
    refine nr_fin (rhe_le TK_pos hX) he1 he2 ?_ hQ
    rcases hme with g | g
    · exact Or.inl (rhe_ge TK_pos g)
    · exact Or.inr g
  rcases Int.lt_or_le pt 0 with hneg | hpos
  · -- nothing ahead of the point, and less than a tenth
    have hr0 : 0 = rhe (SV N n pt) TK := by
      have h1 := hN.sv_hi (by omega)
      have h2 : 10 ^ (pt + 20000).toNat * 10 ≤ TK := by
        rw [← Nat.pow_succ]
        show _ ≤ 10 ^ 20000
        exact Nat.pow_le_pow_right (by decide) (by omega)
      have h3 : SV N n pt / TK = 0 := Nat.div_eq_of_lt (by omega)
      have h4 : SV N n pt % TK = SV N n pt := Nat.mod_eq_of_lt (by omega)
      unfold rhe
      rw [h3, h4, if_pos (by omega)]
    refine b_Mo_nearest_191 ⟨fun _ => ⟨fun _ => end318 0 hr0, fun h => absurd ((by rw [h7]; exact (zI_lt (b := 0) (by omega) (by omega) (by omega) (by omega)).mpr hneg)) h⟩, fun h => absurd (by rw [h7, ← zI_nI]; exact (zI_le (by omega) (by omega) (by omega) (by omega)).mpr (by omega)) h⟩
  · obtain ⟨p, rfl⟩ : ∃ p : Nat, pt = p := ⟨pt.toNat, by omega⟩
    rw [zI_nI] at h7
    have hp16 : p ≤ 16 := by omega
    have h10 : ∀ k, k ≤ p → dval (fz (dg σ) n) k < 10 ^ 16 := by
      intro k hk
      refine Nat.lt_of_lt_of_le (dval_lt (fun i hi => ?_)) (Nat.pow_le_pow_right (by decide) (show k ≤ 16 by omega))
      unfold fz; split
      · rename_i g; exact hdig i g
      · omega
    have loop : ∀ (m k : Nat), k + m = p → JE E (d + 1) m_Mo_nearest 191 [(0, pv E 0), (1, .int (zI e)), (2, .long (lN (dval (fz (dg σ) n) k))), (4, .int (nI k))] [] σ Q := by
      intro m
      induction m with
      | zero =>
        intro k hk
        have : k = p := by omega
        subst this
        refine b_Mo_nearest_191 ⟨fun _ => ⟨fun h => absurd h (by rw [h7]; exact nI_pos (by omega)), fun _ => ⟨fun h => ?_, fun h => ?_⟩⟩, fun h => absurd (by rw [h7]; exact Int32.le_refl _) h⟩
        · -- all the digits are ahead of the point
          have hnp : n ≤ k := by rw [h6, h7] at h; exact (nI_leI (by omega) (by omega)).mp h
          refine end318 _ ?_
          obtain ⟨j, rfl⟩ : ∃ j, k = n + j := ⟨k - n, by omega⟩
          rw [fz_val, hval]
          have e1 : SV N n ((n + j : Nat) : Int) = N * 10 ^ j * TK := by
            unfold SV
            rw [show (((n + j : Nat) : Int) - n + 20000).toNat = 20000 + j by omega, tk_up, Nat.mul_comm TK, Nat.mul_assoc]
          rw [e1]
          unfold rhe
          rw [Nat.mul_mod_left, Nat.mul_div_cancel _ TK_pos, if_pos (by have := TK_pos; omega)]
        · have hnp : k < n := by
            rw [h6, h7] at h
            rcases Nat.lt_or_ge k n with g | g
            · exact g
            · exact absurd (nI_le g (by omega)) h
          have e0 : dval (fz (dg σ) n) k = dval (dg σ) k := dval_ext (fun i hi => by unfold fz; rw [if_pos (by omega)])
          have e1 : rhe (SV N n (k : Int)) TK = rhe N (10 ^ (n - k)) := by
            have e2 : SV N n (k : Int) = N * 10 ^ (20000 - (n - k)) := by
              unfold SV; congr 2; omega
            have e3 : TK = 10 ^ (n - k) * 10 ^ (20000 - (n - k)) := by rw [Nat.mul_comm]; exact (tk_dn (by omega)).symm
            rw [e2, e3, rhe_scale (p10 _)]
          obtain ⟨r1, r2, r3⟩ := rhe_dec hdig hlast hnp
          rw [hval, ← e1] at r1 r2 r3
          have hdk := hdig k hnp
          have hgk : gI σ 3 k = nI (dg σ k) := (nI_un _).symm
          have hM : dval (dg σ) k < 10 ^ 16 := by rw [← e0]; exact h10 k (Nat.le_refl _)
          have plus1 : rhe (SV N n (k : Int)) TK = dval (dg σ) k + 1 → JE E (d + 1) m_Mo_nearest 314 [(1, .int (zI e)), (2, .long (lN (dval (dg σ) k)))] [] σ Q := by
            intro hr
            refine b_Mo_nearest_314 ?_
            rw [lN_1]
            exact end318 _ hr.symm
          have no1 : JE E (d + 1) m_Mo_nearest 283 [(0, pv E 0), (1, .int (zI e)), (2, .long (lN (dval (dg σ) k)))] [.int (0 : Int32)] σ Q ∨ (dg σ k = 5 ∧ n = k + 1) := by
            by_cases hq : dg σ k = 5 ∧ n = k + 1
            · exact Or.inr hq
            · left
              refine b_Mo_nearest_283 ⟨fun _ => ⟨by rw [h7]; exact vin (by omega) (by omega), fun h5 => ?_, fun h5 => ?_⟩, fun h => absurd rfl h⟩
              · rw [h7, nI_clamp (by omega), hgk] at h5
                have h5 : dg σ k < 5 := (nI_ltI (b := 5) (by omega) (by omega)).mp h5
                exact end318 _ (r1 h5).symm
              · rw [h7, nI_clamp (by omega), hgk] at h5
                have h5 : 5 ≤ dg σ k := by
                  rcases Nat.lt_or_ge (dg σ k) 5 with g | g
                  · exact absurd (nI_lt (b := 5) g (by omega)) h5
                  · exact g
                refine plus1 (r2 h5 ?_)
                by_cases q : dg σ k = 5
                · exact Or.inr (fun z => hq ⟨q, z⟩)
                · exact Or.inl q
          rw [e0]
          refine ⟨by rw [h7]; exact vin (by omega) (by omega), fun h5 => ?_, fun h5 => ⟨fun h8 => ?_, fun h8 => ?_⟩⟩
          · refine b_Mo_nearest_282 ?_
            rcases no1 with q | q
            · exact q
            · rw [h7, nI_clamp (by omega), hgk, q.1] at h5; exact absurd rfl h5
          · refine b_Mo_nearest_282 ?_
            rcases no1 with q | q
            · exact q
            · rw [h6, h7, nI_1, q.2] at h8; exact absurd rfl h8
          · rw [h7, nI_clamp (by omega), hgk] at h5
            have h5 : dg σ k = 5 := (nI_eq (b := 5) (by omega) (by omega)).mp h5
            rw [h6, h7, nI_1] at h8
            have h8 : n = k + 1 := (nI_eq (by omega) (by omega)).mp h8
            have hr := r3 h5 h8
            refine b_Mo_nearest_283 ⟨fun h => absurd h (by decide), fun _ => ⟨fun h9 => ?_, fun h9 => ?_⟩⟩
            · refine end318 _ ?_
              rw [and1_l (by omega)] at h9
              have : dval (dg σ) k % 2 ≠ 1 := fun q => h9 ((lg_cmp_eq _ _).mpr (by rw [q]; rfl))
              rw [hr]; omega
            · rw [and1_l (by omega)] at h9
              have : dval (dg σ) k % 2 = 1 := (pk_lEQ (b := 1) (by omega) (by omega)).mp ((lg_cmp_eq _ _).mp h9)
              exact plus1 (by rw [hr, this])
      | succ m ih =>
        intro k hk
        have hb := h10 k (by omega)
        have nxt : ∀ v : Int32, v = nI (fz (dg σ) n k) → JE E (d + 1) m_Mo_nearest 225 [(0, pv E 0), (1, .int (zI e)), (4, .int (nI k))] [.int v, .long ((10 : Int64) * lN (dval (fz (dg σ) n) k))] σ Q := by
          intro v hv
          have hz : fz (dg σ) n k < 10 := by
            unfold fz; split
            · rename_i g; exact hdig k g
            · omega
          refine b_Mo_nearest_225 ?_
          rw [hv, nI_l (by omega), ten64, lN_mul, lN_add, nI_1, Nat.mul_comm]
          exact ih (k + 1) (by omega)
        refine b_Mo_nearest_191 ⟨fun h => absurd h (by rw [h7]; exact nI_ge (by omega) (by omega)), fun _ => ⟨fun h => ?_, fun h => ⟨vin (by omega) (by omega), ?_⟩⟩⟩
        · refine nxt _ ?_
          have : n ≤ k := by rw [h6] at h; exact (nI_leI (by omega) (by omega)).mp h
          unfold fz; rw [if_neg (by omega)]; rfl
        · refine nxt _ ?_
          have : k < n := by
            rw [h6] at h
            rcases Nat.lt_or_ge k n with g | g
            · exact g
            · exact absurd (nI_le g (by omega)) h
          rw [nI_clamp (by omega)]
          unfold fz; rw [if_pos this]; exact (nI_un _).symm
    exact loop p 0 (by omega)
