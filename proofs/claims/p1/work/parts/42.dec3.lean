/-! halved -/
theorem shr_l {a s : Nat} (hs : s < 64) (h : a < 2 ^ 62) : lN a >>> ((nI s).toInt64 &&& 63) = lN (a / 2 ^ s) := by
  rw [wb_c s hs]
  refine pf_shr ?_ h
  rw [wb_tb, wb_sm s hs, BitVec.toNat_ofNat, Nat.mod_eq_of_lt (by omega)]
theorem mask_l {s : Nat} (hs : s < 62) : ((1 : Int64) <<< ((nI s).toInt64 &&& 63)) - (1 : Int64) = lN (2 ^ s - 1) := by
  have e : (1 : Int64) <<< ((nI s).toInt64 &&& 63) = lN (1 * 2 ^ s) := wb_shl 1 (by omega)
  rw [e, Nat.one_mul]
  exact lN_sub (b := 1) (pw_pos s)
/-- a decimal's digits, zeros behind -/
def fz (f : Nat → Nat) (n k : Nat) : Nat := if k < n then f k else 0
theorem fz_val (f : Nat → Nat) (n : Nat) : ∀ j, dval (fz f n) (n + j) = dval f n * 10 ^ j
  | 0 => by rw [Nat.add_zero, Nat.pow_zero, Nat.mul_one]; exact dval_ext (fun i hi => by simp [fz, hi])
  | j + 1 => by
    rw [← Nat.add_assoc, dval, fz_val f n j, Nat.pow_succ]
    have : fz f n (n + j) = 0 := by unfold fz; rw [if_neg (by omega)]
    rw [this, Nat.add_zero, Nat.mul_assoc]
theorem hlv_loop {E : En_t} {d : Nat} {Q : Option Value → S_t → Prop} (s n N : Nat) (pt : Int) (hs0 : 1 ≤ s) (hs : s ≤ 20) (hn0 : 0 < n) (hn : n + s ≤ 5980) (hp1 : -10000 ≤ pt) (hp2 : pt ≤ 10000) (f : Nat → Nat) (hf : ∀ k, k < n → f k < 10) (hN : dval f n = N) (σ0 : S_t)
    (hX : ∀ σ t F, n ≤ F → F ≤ n + s → t ≤ F → Fs MP σ0 σ → gI σ 0 7 = zI (pt - (F - t : Nat)) → (∀ k, k < t → dg σ k < 10) → dval (dg σ) t * 2 ^ s = N * 10 ^ (F - n) → (t = 0 ∨ dg σ 0 ≠ 0) → CV E d m_Mo_trim [pv E 0] (sI σ 0 6 (nI t)) (fun σ1 => Q none σ1)) :
    ∀ (m F t R : Nat) (σ : S_t), F + m = n + s → t ≤ F → Fs MP σ0 σ → gI σ 0 7 = zI (pt - (F - t : Nat)) → (∀ k, F ≤ k → k < n → dg σ k = f k) → (∀ k, k < t → dg σ k < 10) → dval (dg σ) t = dval (fz f n) F / 2 ^ s → R = dval (fz f n) F % 2 ^ s → (t = 0 ∨ dg σ 0 ≠ 0) →
    JE E (d + 1) m_Mo_halved 23 [(0, pv E 0), (1, .int (nI s)), (2, .int (nI t)), (3, .long (lN R)), (5, .long (lN (2 ^ s - 1))), (7, .int (nI F)), (8, .int (nI n)), (9, .int (if t = 0 then 1 else 0))] [] σ Q := by
  have hs2 : 2 ^ s ≤ 2 ^ 20 := Nat.pow_le_pow_right (by decide) hs
  have exit0 : ∀ (F t : Nat) (σ : S_t), n ≤ F → F ≤ n + s → t ≤ F → Fs MP σ0 σ → gI σ 0 7 = zI (pt - (F - t : Nat)) → (∀ k, k < t → dg σ k < 10) → dval (dg σ) t = dval (fz f n) F / 2 ^ s → 0 = dval (fz f n) F % 2 ^ s → (t = 0 ∨ dg σ 0 ≠ 0) → CV E d m_Mo_trim [pv E 0] (sI σ 0 6 (nI t)) (fun σ1 => Q none σ1) := by
    intro F t σ hF1 hF2 ht hF hp hd hq hr hl
    refine hX σ t F hF1 hF2 ht hF hp hd ?_ hl
    have := Nat.div_add_mod (dval (fz f n) F) (2 ^ s)
    rw [← hr, Nat.add_zero, Nat.mul_comm] at this
    rw [hq, this]
    obtain ⟨j, rfl⟩ : ∃ j, F = n + j := ⟨F - n, by omega⟩
    rw [fz_val, hN, Nat.add_sub_cancel_left]
  intro m
  induction m with
  | zero =>
    intro F t R σ hFm ht hF hp hu hd hq hr hl
    have hFe : F = n + s := by omega
    have hR0 : R = 0 := by
      rw [hr, hFe, fz_val]
      rw [show (10 : Nat) ^ s = 2 ^ s * 5 ^ s by rw [← Nat.mul_pow]]
      rw [← Nat.mul_assoc, Nat.mul_comm (dval f n), Nat.mul_assoc, Nat.mul_mod_right]
    subst hR0
    refine b_Mo_halved_23 ⟨fun h => absurd h (nI_nlt (by omega) (by omega)), fun _ => ⟨fun _ => ?_, fun h => absurd ((lg_cmp_le _ _).mpr (Int64.le_refl _)) h⟩⟩
    exact exit0 F t σ (by omega) (by omega) ht hF hp hd hq hr hl
  | succ m ih =>
    intro F t R σ hFm ht hF hp hu hd hq hr hl
    have hRl : R < 2 ^ s := by rw [hr]; exact Nat.mod_lt _ (pw_pos s)
    have hfz : fz f n F < 10 := by
      unfold fz; split
      · rename_i g; exact hf F g
      · omega
    -- one step, with the digit that comes
    have hV : dval (fz f n) (F + 1) = 2 ^ s * (10 * (dval (fz f n) F / 2 ^ s)) + (10 * R + fz f n F) := by
      rw [dval]
      have := Nat.div_add_mod (dval (fz f n) F) (2 ^ s)
      rw [← hr] at this
      have e : 2 ^ s * (10 * (dval (fz f n) F / 2 ^ s)) = 10 * (2 ^ s * (dval (fz f n) F / 2 ^ s)) := by ac_rfl
      rw [e]
      omega
    have hq' : dval (fz f n) (F + 1) / 2 ^ s = dval (dg σ) t * 10 + (10 * R + fz f n F) / 2 ^ s := by
      rw [hV, Nat.mul_add_div (pw_pos s), hq]; omega
    have hr' : dval (fz f n) (F + 1) % 2 ^ s = (10 * R + fz f n F) % 2 ^ s := by rw [hV, Nat.mul_add_mod]
    have hql : (10 * R + fz f n F) / 2 ^ s < 10 := by
      rw [Nat.div_lt_iff_lt_mul (pw_pos s)]
      have : 10 * (R + 1) ≤ 10 * 2 ^ s := Nat.mul_le_mul_left _ hRl
      omega
    have step : JE E (d + 1) m_Mo_halved 59 [(0, pv E 0), (1, .int (nI s)), (2, .int (nI t)), (5, .long (lN (2 ^ s - 1))), (7, .int (nI F)), (8, .int (nI n)), (9, .int (if t = 0 then 1 else 0))] [.int (nI (fz f n F)), .long ((10 : Int64) * lN R)] σ Q := by
      have e1 : (10 : Int64) * lN R + (nI (fz f n F)).toInt64 = lN (10 * R + fz f n F) := by
        rw [ten64, lN_mul, nI_l (by omega), lN_add]
      generalize hw : 10 * R + fz f n F = w at *
      have hwl : w < 2 ^ 62 := by omega
      have e2 : (lN w >>> ((nI s).toInt64 &&& 63)).toInt32 = nI (w / 2 ^ s) := by
        rw [shr_l (by omega) hwl, lN_low, Nat.mod_eq_of_lt (by omega)]
      have e3 : lN w &&& lN (2 ^ s - 1) = lN (w % 2 ^ s) := wb_mask (by omega) (by omega)
      have put : JE E (d + 1) m_Mo_halved 99 [(0, pv E 0), (1, .int (nI s)), (2, .int (nI t)), (3, .long (lN (w % 2 ^ s))), (5, .long (lN (2 ^ s - 1))), (7, .int (nI (F + 1))), (8, .int (nI n)), (10, .int (nI (w / 2 ^ s)))] [] σ Q ∨ (t = 0 ∧ w / 2 ^ s = 0) := by
        by_cases hz : t = 0 ∧ w / 2 ^ s = 0
        · exact Or.inr hz
        · left
          refine b_Mo_halved_99 ⟨vin (by omega) (by omega), ?_⟩
          rw [nI_clamp (by omega), nI_1]
          refine b_Mo_halved_113 ?_
          have hne : ∀ k, k ≠ t → dg (sI σ 3 t (nI (w / 2 ^ s))) k = dg σ k := fun k hk => by unfold dg; rw [gI_sI_n (Or.inr hk)]
          have heq : dg (sI σ 3 t (nI (w / 2 ^ s))) t = w / 2 ^ s := by unfold dg; rw [gI_sI_s, un_nI (by omega)]
          have := ih (F + 1) (t + 1) (w % 2 ^ s) (sI σ 3 t (nI (w / 2 ^ s))) (by omega) (by omega) (hF.si MP3) (by rw [gI_sI_n (Or.inl (by decide)), hp]; congr 2; omega) (fun k h1 h2 => by rw [hne k (by omega)]; exact hu k (by omega) h2) (fun k hk => ?_) ?_ hr'.symm ?_
          · rw [if_neg (by omega)] at this; exact this
          · by_cases e : k = t
            · subst e; rw [heq]; omega
            · rw [hne k e]; exact hd k (by omega)
          · rw [hq', dval, heq, dval_ext (g := dg σ) (fun k hk => hne k (by omega))]
          · right
            by_cases ht0 : t = 0
            · subst ht0; rw [heq]; intro q; exact hz ⟨rfl, q⟩
            · rw [hne 0 (by omega)]
              rcases hl with q | q
              · exact absurd q ht0
              · exact q
      refine b_Mo_halved_59 ?_
      rw [e1, e2, e3, nI_1]
      refine ⟨fun h9 => ?_, fun h9 => ⟨fun h10 => ?_, fun h10 => ?_⟩⟩
      · rcases put with q | q
        · exact q
        · rw [if_pos q.1] at h9; exact absurd h9 (by decide)
      · rcases put with q | q
        · exact q
        · exact absurd (by rw [q.2]; rfl) h10
      · have ht0 : t = 0 := by
          by_cases q : t = 0
          · exact q
          · rw [if_neg q] at h9; exact absurd rfl h9
        have hz : w / 2 ^ s = 0 := (nI_eq (b := 0) (by omega) (by omega)).mp h10
        subst ht0
        refine b_Mo_halved_113 ?_
        refine ih (F + 1) 0 (w % 2 ^ s) _ (by omega) (by omega) (hF.si MP07) ?_ (fun k h1 h2 => ?_) (fun k hk => absurd hk (by omega)) ?_ hr'.symm (Or.inl rfl)
        · rw [gI_sI_s, hp]
          have : (1 : Int32) = zI 1 := rfl
          rw [this, zI_sub]; congr 1; omega
        · unfold dg; rw [gI_sI_n (Or.inl (by decide))]; exact hu k (by omega) h2
        · rw [hq', hz]; simp [dval]
    by_cases hFn : F < n
    · refine b_Mo_halved_23 ⟨fun _ => ?_, fun h => absurd (nI_lt hFn (by omega)) h⟩
      refine b_Mo_halved_36 ⟨fun h => absurd h (nI_ge hFn (by omega)), fun _ => ⟨vin (by omega) (by omega), ?_⟩⟩
      have e : gI σ 3 F = nI (fz f n F) := by
        rw [← nI_un (gI σ 3 F)]; congr 1
        unfold fz; rw [if_pos hFn]; exact hu F (Nat.le_refl _) hFn
      rw [nI_clamp (by omega), e]
      exact step
    · by_cases hR0 : R = 0
      · subst hR0
        refine b_Mo_halved_23 ⟨fun h => absurd h (nI_nlt (by omega) (by omega)), fun _ => ⟨fun _ => ?_, fun h => absurd ((lg_cmp_le _ _).mpr (Int64.le_refl _)) h⟩⟩
        exact exit0 F t σ (by omega) (by omega) ht hF hp hd hq hr hl
      · refine b_Mo_halved_23 ⟨fun h => absurd h (nI_nlt (by omega) (by omega)), fun _ => ⟨fun h => ?_, fun _ => ?_⟩⟩
        · exfalso
          have := (lg_cmp_le _ _).mp h
          have := (pk_lLE (a := R) (b := 0) (by omega) (by omega)).mp this
          omega
        · refine b_Mo_halved_36 ⟨fun _ => ?_, fun h => absurd (nI_le (by omega) (by omega)) h⟩
          have e : nI (fz f n F) = 0 := by unfold fz; rw [if_neg hFn]; rfl
          rw [e] at step
          exact step
theorem c_halved {E : En_t} {d N n s : Nat} {pt : Int} {σ : S_t} (h : Nrm σ N n pt) (hs0 : 1 ≤ s) (hs : s ≤ 20) (hn : n + s ≤ 5980) (hp1 : -10000 ≤ pt) (hp2 : pt ≤ 10000) : CV E (d + 1) m_Mo_halved [pv E 0, .int (nI s)] σ (fun σ' => Fs MP σ σ' ∧ ∃ N' n' pt', Nrm σ' N' n' pt' ∧ SV N' n' pt' * 2 ^ s = SV N n pt ∧ n' ≤ n + s ∧ pt' ≤ pt ∧ pt - 7 ≤ pt') := by
  have hlo := h.lo
  obtain ⟨⟨h1, h2, h3, h4⟩, hn0, hl, hlast⟩ := h
  have hs2 : 2 ^ s ≤ 2 ^ 20 := Nat.pow_le_pow_right (by decide) hs
  have hNpos : 0 < N := Nat.lt_of_lt_of_le (p10 _) hlo
  refine CE.of (L := [(0, pv E 0), (1, .int (nI s))]) rfl (Nat.le_of_ble_eq_true rfl) rfl (b_Mo_halved_0 ?_)
  rw [h1, mask_l (by omega)]
  refine hlv_loop s n N pt hs0 hs hn0 hn hp1 hp2 (dg σ) h3 h4 σ (fun σ1 t F hF1 hF2 htF F1 p1 d1 q1 l1 => ?_) (n + s) 0 0 0 σ (by omega) (by omega) Fs.rf (by rw [h2]; simp) (fun _ _ _ => rfl) (fun k hk => absurd hk (by omega)) (by simp [dval]) (by simp [dval]) (Or.inl rfl)
  have hQpos : 0 < dval (dg σ1) t := by
    rcases Nat.eq_zero_or_pos (dval (dg σ1) t) with g | g
    · rw [g, Nat.zero_mul] at q1
      have := Nat.mul_pos hNpos (p10 (F - n))
      omega
    · exact g
  have ht0 : t ≠ 0 := by rintro rfl; simp [dval] at hQpos
  have hdg : ∀ k, dg (sI σ1 0 6 (nI t)) k = dg σ1 k := by intro k; unfold dg; rw [gI_sI_n (Or.inl (by decide))]
  have D : DecAt (sI σ1 0 6 (nI t)) (dval (dg σ1) t) t (pt - (F - t : Nat)) := ⟨gI_sI_s _ _ _ _, by rw [gI_sI_n (Or.inr (by decide))]; exact p1, fun k hk => by rw [hdg]; exact d1 k hk, dval_ext (fun k _ => hdg k)⟩
  have hlead : dg (sI σ1 0 6 (nI t)) 0 ≠ 0 := by
    rw [hdg]
    rcases l1 with q | q
    · exact absurd q ht0
    · exact q
  refine (c_trim D (by omega)).mono (fun σ6 hq => ?_)
  obtain ⟨F6, row6, N', n', D6, hle, hmul, hlast'⟩ := hq
  obtain ⟨r1, r2⟩ := trim_nrm row6 hlead hQpos D6 hle hmul hlast' (by omega)
  have hFt : F - t ≤ 7 := by
    rcases Nat.lt_or_ge 7 (F - t) with g | g
    · exfalso
      have a1 := dval_lt d1
      have a2 : 10 ^ (n - 1) * 10 ^ (F - n) ≤ N * 10 ^ (F - n) := Nat.mul_le_mul_right _ hlo
      rw [← Nat.pow_add, ← q1] at a2
      have a3 : dval (dg σ1) t * 2 ^ s < 10 ^ t * 10 ^ 7 := by
        have b1 : dval (dg σ1) t * 2 ^ s ≤ dval (dg σ1) t * 10 ^ 7 := Nat.mul_le_mul_left _ (by omega)
        have b2 : dval (dg σ1) t * 10 ^ 7 < 10 ^ t * 10 ^ 7 := Nat.mul_lt_mul_of_pos_right a1 (by decide)
        omega
      rw [← Nat.pow_add] at a3
      have a4 := Nat.lt_of_le_of_lt a2 a3
      have := (Nat.pow_lt_pow_iff_right (a := 10) (by decide)).mp a4
      omega
    · exact g
  refine ⟨rfl, ((F1.si MP06).tr F6), N', n', pt - (F - t : Nat), r1, ?_, by omega, by omega, by omega⟩
  rw [r2]
  unfold SV
  have e1 : (pt - (F - t : Nat) - (t : Int) + 20000).toNat + (F - n) = (pt - n + 20000).toNat := by omega
  rw [Nat.mul_right_comm, q1, Nat.mul_assoc, ← Nat.pow_add, Nat.add_comm (F - n), e1]
