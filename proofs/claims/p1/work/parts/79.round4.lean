theorem lN_dec {B : Nat} (hB : B < 2 ^ 64) (hfin : B % 2 ^ 63 < 9218868437227405312) : SgX (lN B) (B % 2 ^ 63) := by
  have h1 : B % 2 ^ 63 / 2 ^ 52 ≤ 2046 := by
    rw [show (2 : Nat) ^ 52 = 4503599627370496 from rfl]
    generalize B % 2 ^ 63 = b at *
    omega
  have h2 : B % 2 ^ 63 < 2 ^ 63 := Nat.mod_lt _ (by decide)
  rcases Nat.lt_or_ge B (2 ^ 63) with g | g
  · have : B % 2 ^ 63 = B := Nat.mod_eq_of_lt g
    rw [this] at h1 h2 ⊢
    exact SgX_0 h2 h1
  · have e : B = B % 2 ^ 63 + 9223372036854775808 := by omega
    have := SgX_1 h2 h1
    rw [← e] at this
    exact this
theorem up_M {F : Nat → Nat} {n n0 : Nat} (hn : 1 ≤ n) (hnn : n < n0) (hl : F (n0 - 1) ≠ 0) : (F n = 5 ∧ n0 = n + 1 → (upD (pd F n0) n ↔ F (n - 1) % 2 = 1)) ∧ (¬ (F n = 5 ∧ n0 = n + 1) → (upD (pd F n0) n ↔ 5 ≤ F n)) := by
  have pn : ∀ i, i < n0 → pd F n0 i = F i := fun i hi => by unfold pd; rw [if_pos hi]
  unfold upD
  rw [pn n hnn, pn (n - 1) (by omega)]
  refine ⟨fun h => ⟨fun z => ?_, fun z => Or.inr ⟨h.1, Or.inr z⟩⟩, fun h => ⟨fun z => ?_, fun z => ?_⟩⟩
  · rcases z with z | ⟨z1, ⟨i, i1, i2⟩ | z2⟩
    · omega
    · exfalso
      unfold pd at i2
      rw [if_neg (by omega)] at i2
      exact i2 rfl
    · exact z2
  · omega
  · rcases Nat.lt_or_ge 5 (F n) with q | q
    · exact Or.inl q
    · refine Or.inr ⟨by omega, Or.inl ⟨n0 - 1, by omega, ?_⟩⟩
      rw [pn _ (by omega)]; exact hl
theorem c_roundM {E : En_t} {d B : Nat} {x : Int32} {σ : S_t} (hB : B < 2 ^ 64) : CI E (d + 5) m_Mo_round [pv E 0, .long (lN B), .int x] σ (fun r σ' => ((¬ B % 2 ^ 63 < 9218868437227405312 ∨ x < 1 ∨ ¬ x ≤ 800) ∧ r = -1 ∧ σ' = σ) ∨ (B % 2 ^ 63 < 9218868437227405312 ∧ ∃ n, 1 ≤ n ∧ n ≤ 800 ∧ x = nI n ∧ Fs MY σ σ' ∧ ∃ m, RnL B n m ∧ OuM σ' m ∧ m.length ≤ 900 ∧ r = nI m.length)) := by
  refine CE.of (L := [(0, pv E 0), (1, .long (lN B)), (3, .int x)]) rfl (Nat.le_of_ble_eq_true rfl) rfl (b_Mo_round_0 ((c_isNumM hB).mono (fun y σ1 hq => ?_)))
  rw [hq.1, hq.2]
  unfold isN
  rw [bI_d]
  refine ⟨fun g => ⟨_, rfl, Or.inl ⟨Or.inl g, rfl, rfl⟩⟩, fun g => ⟨fun g2 => ⟨_, rfl, Or.inl ⟨Or.inr (Or.inl g2), rfl, rfl⟩⟩, fun g2 => ⟨fun g3 => ?_, fun g3 => ⟨_, rfl, Or.inl ⟨Or.inr (Or.inr g3), rfl, rfl⟩⟩⟩⟩⟩
  have g := Classical.not_not.mp g
  obtain ⟨n, hn, rfl⟩ := nI_of2 (x := x) (M := 800) (n := 800) rfl (fun q => g2 (Int32.lt_trans q (by decide))) g3
  have hn1 : 1 ≤ n := by
    rcases Nat.eq_zero_or_pos n with q | q
    · subst q; exact absurd (by decide) g2
    · exact q
  clear g2 g3
  have hbf : B % 2 ^ 63 / 2 ^ 52 ≤ 2046 := by
    rw [show (2 : Nat) ^ 52 = 4503599627370496 from rfl]
    generalize B % 2 ^ 63 = b at *
    omega
  refine (c_keepExactX (lN_dec hB g) (Nat.mod_lt _ (by decide)) hbf).mono (fun σ3 hq3 => ?_)
  obtain ⟨F3, F, n0, pt, ⟨h13, h14, hdig⟩, hn0, hv⟩ := hq3
  -- the digits that round takes
  have hDB : DecB (B % 2 ^ 63) (pd F n0) (if n0 = 0 then 1 else pt) := by
    rcases hv with ⟨a1, a2, a3⟩ | ⟨a1, a2, a3, a4, a5, a6, a7⟩
    · subst a2
      rw [if_pos rfl]
      exact Or.inl ⟨a1, fun i => by unfold pd; rw [if_neg (by omega)], rfl⟩
    · rw [if_neg (by omega)]
      exact DecB_pd (fun i hi => (hdig i hi).2) a2 (by omega) a6 a7 (Or.inr ⟨a1, a3, a5⟩)
  have hpr : -8000 ≤ (if n0 = 0 then 1 else pt) ∧ (if n0 = 0 then 1 else pt) ≤ 8000 := by
    rcases hv with ⟨a1, a2, a3⟩ | ⟨a1, a2, a3, a4, a5, a6, a7⟩
    · rw [if_pos a2]; omega
    · rw [if_neg (by omega)]; omega
  have hlast : 0 < n0 → F (n0 - 1) ≠ 0 := fun h => by
    rcases hv with ⟨a1, a2, a3⟩ | ⟨a1, a2, a3, a4, a5, a6, a7⟩
    · omega
    · exact a4
  generalize hP : (if n0 = 0 then 1 else pt) = P at *
  have pdl : ∀ i, pd F n0 i < 10 := fun i => by
    unfold pd
    by_cases q : i < n0
    · rw [if_pos q]; exact (hdig i q).2
    · rw [if_neg q]; decide
  have m13 : ¬ n0 ≤ n → n < n0 := fun h => by omega
  -- the end
  have out : ∀ (τ : S_t) (R : Nat → Nat) (dp : Nat), Fs MY σ τ → RAt τ R n (P + dp) → Rnd (pd F n0) n R dp → dp ≤ 1 → JE E (d + 5) m_Mo_round 242 [(0, pv E 0), (1, .long (lN B)), (3, .int (nI n)), (4, .int (bI (decide (n0 = 0))))] [] τ (fun q σ' => ∃ r, q = some (.int r) ∧ (((¬ B % 2 ^ 63 < 9218868437227405312 ∨ nI n < 1 ∨ ¬ nI n ≤ 800) ∧ r = -1 ∧ σ' = σ) ∨ (B % 2 ^ 63 < 9218868437227405312 ∧ ∃ n', 1 ≤ n' ∧ n' ≤ 800 ∧ nI n = nI n' ∧ Fs MY σ σ' ∧ ∃ m, RnL B n' m ∧ OuM σ' m ∧ m.length ≤ 900 ∧ r = nI m.length))) := by
    intro τ R dp hF hR hRn hdp
    refine (rM_out σ hB hn1 hn hF hR (fun z i hi => ?_) (by omega) (by omega)).mono (fun q σ' hq => ?_)
    · have hz : n0 = 0 := of_decide_eq_true z
      rcases hRn with ⟨a1, a2, a3⟩ | ⟨a1, a2⟩
      · rw [a3 i hi]; unfold pd; rw [if_neg (by omega)]
      · exact absurd a1 (upD_no (by omega))
    · obtain ⟨r, h1, h2, m, h3, h4, h5⟩ := hq
      refine ⟨r, h1, Or.inr ⟨g, n, hn1, hn, rfl, h2, m, ⟨pd F n0, P, R, dp, hDB, hRn, h3⟩, h4, ?_, h5⟩⟩
      rw [h3, List.length_append, List.length_append]
      have := dg_len R n n
      have := pw_len (P + dp)
      have : (if B < 2 ^ 63 then ([] : List Nat) else [45]).length ≤ 1 := by split <;> simp
      omega
  -- the carry
  have carry : upD (pd F n0) n → n < n0 → ∀ (i : Nat) (τ : S_t), i ≤ n → Fs MY σ τ → gI τ 0 14 = zI P → (∀ k, k < i → gI τ 5 k = nI (pd F n0 k)) → (∀ k, i ≤ k → k < n → gI τ 5 k = 0 ∧ pd F n0 k = 9) →
      JE E (d + 5) m_Mo_round 160 [(0, pv E 0), (1, .long (lN B)), (3, .int (nI n)), (4, .int (bI (decide (n0 = 0)))), (6, .int (1 : Int32)), (7, .int (zI ((i : Int) - 1)))] [] τ (fun q σ' => ∃ r, q = some (.int r) ∧ (((¬ B % 2 ^ 63 < 9218868437227405312 ∨ nI n < 1 ∨ ¬ nI n ≤ 800) ∧ r = -1 ∧ σ' = σ) ∨ (B % 2 ^ 63 < 9218868437227405312 ∧ ∃ n', 1 ≤ n' ∧ n' ≤ 800 ∧ nI n = nI n' ∧ Fs MY σ σ' ∧ ∃ m, RnL B n' m ∧ OuM σ' m ∧ m.length ≤ 900 ∧ r = nI m.length))) := by
    intro hup hnn i
    induction i with
    | zero =>
      intro τ _ hF h3 hlo hhi
      refine b_Mo_round_160 ⟨fun q => absurd q (by decide), fun _ => ⟨fun _ => b_Mo_round_220 ⟨fun q => absurd q (by decide), fun _ => ⟨vin (n := 0) (by omega) (by omega), ?_⟩⟩, fun q => absurd ?_ q⟩⟩
      · have z0 : (0 : Int32).toNatClampNeg = 0 := rfl
        rw [z0]
        refine out _ (fun i => if i = 0 then 1 else 0) 1 ((hF.si MY5).si MY014) ⟨?_, fun i hi => ?_⟩ (Or.inr ⟨hup, Or.inr ⟨fun i hi => (hhi i (by omega) hi).2, rfl, fun _ _ => rfl⟩⟩) (by omega)
        · rw [gI_sI_s, gI_sI_n (Or.inl (by decide)), h3, show (1 : Int32) = zI 1 from rfl, zI_add]; rfl
        · rw [gI_sI_n (Or.inl (by decide))]
          by_cases q : i = 0
          · subst q; exact gI_sI_s _ _ _ _
          · rw [gI_sI_n (Or.inr q), (hhi i (by omega) hi).1]
            show (0 : Int32) = nI (if i = 0 then 1 else 0)
            rw [if_neg q]; rfl
      · exact (zI_lt (b := 0) (by omega) (by omega) (by omega) (by omega)).mpr (by omega)
    | succ i ih =>
      intro τ hi hF h3 hlo hhi
      have ei : zI (((i + 1 : Nat) : Int) - 1) = nI i := by rw [← zI_nI]; exact congrArg zI (by omega)
      rw [ei]
      have hpl := pdl i
      have e9 : nI (pd F n0 i) = (9 : Int32) ↔ pd F n0 i = 9 := nI_eq (b := 9) (by omega) (by omega)
      have ed : nI i + (-1 : Int32) = zI ((i : Int) - 1) := by
        rw [← zI_nI, show (-1 : Int32) = zI (-1) from rfl, zI_add]; exact congrArg zI (by omega)
      refine b_Mo_round_160 ⟨fun q => absurd q (by decide), fun _ => ⟨fun q => absurd q (nI_pos (by omega)), fun _ => ⟨vin (by omega) (by omega), ?_⟩⟩⟩
      rw [nI_clamp (by omega), hlo i (by omega), e9]
      refine ⟨fun q => b_Mo_round_187 ⟨fun _ => ⟨vin (by omega) (by omega), ?_⟩, fun z => absurd rfl z⟩, fun q => b_Mo_round_187 ⟨fun z => absurd z (by decide), fun _ => ?_⟩⟩
      · rw [nI_clamp (by omega), hlo i (by omega), nI_1]
        refine b_Mo_round_213 (q2 := 5) rfl ⟨show vp_in (nI i) 1200 from vin (by omega) (by decide), ?_⟩
        rw [nI_clamp (by omega), ed]
        have fin := out (sI τ 5 i (nI (pd F n0 i + 1))) (upT (pd F n0) i) 0 (hF.si MY5) ⟨by rw [gI_sI_n (Or.inl (by decide)), h3]; exact congrArg zI (by omega), fun k hk => ?_⟩ (Or.inr ⟨hup, Or.inl ⟨i, by omega, q, fun k k1 k2 => (hhi k (by omega) k2).2, rfl, fun _ _ => rfl⟩⟩) (by omega)
        · exact b_Mo_round_160 ⟨fun _ => b_Mo_round_220 ⟨fun _ => fin, fun z => absurd rfl z⟩, fun z => absurd rfl z⟩
        · rcases Nat.lt_trichotomy k i with z | z | z
          · rw [gI_sI_n (Or.inr (by omega)), upT_lt z]; exact hlo k (by omega)
          · subst z; rw [gI_sI_s, upT_eq]
          · rw [gI_sI_n (Or.inr (by omega)), upT_gt z]; exact (hhi k (by omega) hk).1
      · refine b_Mo_round_213 (q2 := 5) rfl ⟨show vp_in (nI i) 1200 from vin (by omega) (by decide), ?_⟩
        rw [nI_clamp (by omega), ed]
        refine ih _ (by omega) (hF.si MY5) (by rw [gI_sI_n (Or.inl (by decide))]; exact h3) (fun k hk => ?_) (fun k k1 k2 => ?_)
        · rw [gI_sI_n (Or.inr (by omega))]; exact hlo k (by omega)
        · by_cases z : k = i
          · subst z; exact ⟨gI_sI_s _ _ _ _, q⟩
          · rw [gI_sI_n (Or.inr z)]; exact hhi k (by omega) k2
  -- up or not
  have at153 : ∀ (u : Bool) (τ : S_t), n < n0 → (u = true ↔ upD (pd F n0) n) → Fs MY σ τ → gI τ 0 14 = zI P → (∀ k, k < n0 → gI τ 5 k = nI (pd F n0 k)) → JE E (d + 5) m_Mo_round 153 [(0, pv E 0), (1, .long (lN B)), (3, .int (nI n)), (4, .int (bI (decide (n0 = 0))))] [.int (bI u)] τ (fun q σ' => ∃ r, q = some (.int r) ∧ (((¬ B % 2 ^ 63 < 9218868437227405312 ∨ nI n < 1 ∨ ¬ nI n ≤ 800) ∧ r = -1 ∧ σ' = σ) ∨ (B % 2 ^ 63 < 9218868437227405312 ∧ ∃ n', 1 ≤ n' ∧ n' ≤ 800 ∧ nI n = nI n' ∧ Fs MY σ σ' ∧ ∃ m, RnL B n' m ∧ OuM σ' m ∧ m.length ≤ 900 ∧ r = nI m.length))) := by
    intro u τ hnn hu hF h14' h5
    refine b_Mo_round_153 ?_
    have e1 : nI n - (1 : Int32) = zI ((n : Int) - 1) := by rw [← zI_nI, show (1 : Int32) = zI 1 from rfl, zI_sub]
    rw [e1]
    cases u
    · have hnu : ¬ upD (pd F n0) n := fun z => absurd (hu.mpr z) (by decide)
      exact b_Mo_round_160 ⟨fun _ => b_Mo_round_220 ⟨fun _ => out τ (pd F n0) 0 hF ⟨by rw [h14']; exact congrArg zI (by omega), fun i hi => h5 i (by omega)⟩ (Or.inl ⟨hnu, rfl, fun _ _ => rfl⟩) (by omega), fun z => absurd rfl z⟩, fun z => absurd rfl z⟩
    · exact carry (hu.mp rfl) hnn n τ (Nat.le_refl _) hF h14' (fun k hk => h5 k (by omega)) (fun k k1 k2 => absurd k1 (by omega))
  -- the zeros behind
  have zeros : ∀ (m j : Nat) (τ : S_t), (j + m = n ∨ (m = 0 ∧ n ≤ j ∧ j = n0)) → n0 ≤ j → j ≤ 1100 → Fs MY σ τ → gI τ 0 13 = nI n0 → gI τ 0 14 = zI P → (∀ k, k < j → gI τ 5 k = nI (pd F n0 k)) → JE E (d + 5) m_Mo_round 56 [(0, pv E 0), (1, .long (lN B)), (3, .int (nI n)), (4, .int (bI (decide (n0 = 0)))), (5, .int (nI j))] [] τ (fun q σ' => ∃ r, q = some (.int r) ∧ (((¬ B % 2 ^ 63 < 9218868437227405312 ∨ nI n < 1 ∨ ¬ nI n ≤ 800) ∧ r = -1 ∧ σ' = σ) ∨ (B % 2 ^ 63 < 9218868437227405312 ∧ ∃ n', 1 ≤ n' ∧ n' ≤ 800 ∧ nI n = nI n' ∧ Fs MY σ σ' ∧ ∃ m, RnL B n' m ∧ OuM σ' m ∧ m.length ≤ 900 ∧ r = nI m.length))) := by
    intro m
    induction m with
    | zero =>
      intro j τ hj hj0 hj1 hF a13 a14 a5
      have hnj : n ≤ j := by omega
      refine b_Mo_round_56 ⟨fun _ => ?_, fun q => absurd (nI_le hnj (by omega)) q⟩
      rw [a13]
      refine ⟨fun q => ?_, fun q => ?_⟩
      · have hle := (nI_leI (by omega) (by omega)).mp q
        exact out τ (pd F n0) 0 hF ⟨by rw [a14]; exact congrArg zI (by omega), fun i hi => a5 i (by omega)⟩ (Or.inl ⟨upD_no hle, rfl, fun _ _ => rfl⟩) (by omega)
      · have hnn : n < n0 := by
          rcases Nat.lt_or_ge n n0 with z | z
          · exact z
          · exact absurd (nI_le z (by omega)) q
        have hFn : gI τ 5 n = nI (F n) := by rw [a5 n (by omega)]; unfold pd; rw [if_pos hnn]
        have hFm : gI τ 5 (n - 1) = nI (F (n - 1)) := by rw [a5 (n - 1) (by omega)]; unfold pd; rw [if_pos (by omega)]
        have hln := (hdig n hnn).2
        have hlm := (hdig (n - 1) (by omega)).2
        have hupm := up_M hn1 hnn (hlast (by omega))
        have e5 : nI (F n) = (5 : Int32) ↔ F n = 5 := nI_eq (b := 5) (by omega) (by omega)
        have l5 : nI (F n) < (5 : Int32) ↔ F n < 5 := nI_ltI (b := 5) (by omega) (by omega)
        have en : nI n0 = nI n + (1 : Int32) ↔ n0 = n + 1 := by rw [nI_1]; exact nI_eq (by omega) (by omega)
        have h5' : ∀ k, k < n0 → gI τ 5 k = nI (pd F n0 k) := fun k hk => a5 k (by omega)
        have at108 : ¬ (F n = 5 ∧ n0 = n + 1) → JE E (d + 5) m_Mo_round 108 [(0, pv E 0), (1, .long (lN B)), (3, .int (nI n)), (4, .int (bI (decide (n0 = 0))))] [] τ (fun q σ' => ∃ r, q = some (.int r) ∧ (((¬ B % 2 ^ 63 < 9218868437227405312 ∨ nI n < 1 ∨ ¬ nI n ≤ 800) ∧ r = -1 ∧ σ' = σ) ∨ (B % 2 ^ 63 < 9218868437227405312 ∧ ∃ n', 1 ≤ n' ∧ n' ≤ 800 ∧ nI n = nI n' ∧ Fs MY σ σ' ∧ ∃ m, RnL B n' m ∧ OuM σ' m ∧ m.length ≤ 900 ∧ r = nI m.length))) := by
          intro hh
          refine b_Mo_round_108 (b_Mo_round_109 ⟨fun _ => ⟨vin (by omega) (by omega), ?_⟩, fun z => absurd rfl z⟩)
          rw [nI_clamp (by omega), hFn, l5]
          exact ⟨fun z => at153 false τ hnn ⟨fun y => absurd y (by decide), fun y => by have := (hupm.2 hh).mp y; omega⟩ hF a14 h5', fun z => at153 true τ hnn ⟨fun _ => (hupm.2 hh).mpr (by omega), fun _ => rfl⟩ hF a14 h5'⟩
        rw [nI_clamp (by omega), hFn, e5, en]
        refine ⟨vin (by omega) (by omega), fun z => at108 (fun y => z y.1), fun z => ⟨fun y => at108 (fun w => y w.2), fun y => ?_⟩⟩
        refine b_Mo_round_109 ⟨fun w => absurd w (by decide), fun _ => ?_⟩
        have em : nI n - (1 : Int32) = nI (n - 1) := by
          obtain ⟨t, rfl⟩ : ∃ t, n = t + 1 := ⟨n - 1, by omega⟩
          exact nI_pred t
        rw [em, nI_clamp (by omega), hFm, nI_half hlm]
        refine ⟨vin (by omega) (by omega), fun v1 hv1 => ?_⟩
        have e1 : v1 = (1 : Int32) ↔ F (n - 1) % 2 = 1 := by rw [hv1]; exact nI_eq (b := 1) (by omega) (by omega)
        rw [e1]
        exact ⟨fun w => at153 false τ hnn ⟨fun v => absurd v (by decide), fun v => absurd ((hupm.1 ⟨z, y⟩).mp v) w⟩ hF a14 h5', fun w => at153 true τ hnn ⟨fun _ => (hupm.1 ⟨z, y⟩).mpr w, fun _ => rfl⟩ hF a14 h5'⟩
    | succ m ih =>
      intro j τ hj hj0 hj1 hF a13 a14 a5
      have hj : j + (m + 1) = n := by omega
      refine b_Mo_round_56 ⟨fun q => absurd q (nI_ge (by omega) (by omega)), fun _ => ⟨vin (by omega) (by omega), ?_⟩⟩
      rw [nI_clamp (by omega), nI_1]
      refine ih (j + 1) _ (Or.inl (by omega)) (by omega) (by omega) (hF.si MY5) (by rw [gI_sI_n (Or.inl (by decide))]; exact a13) (by rw [gI_sI_n (Or.inl (by decide))]; exact a14) (fun k hk => ?_)
      by_cases q : k = j
      · subst q; rw [gI_sI_s]; unfold pd; rw [if_neg (by omega)]; rfl
      · rw [gI_sI_n (Or.inr q)]; exact a5 k (by omega)
  have at50 : ∀ (τ : S_t), Fs MY σ τ → gI τ 0 13 = nI n0 → gI τ 0 14 = zI P → (∀ k, k < n0 → gI τ 5 k = nI (F k)) → JE E (d + 5) m_Mo_round 50 [(0, pv E 0), (1, .long (lN B)), (3, .int (nI n)), (4, .int (bI (decide (n0 = 0))))] [] τ (fun q σ' => ∃ r, q = some (.int r) ∧ (((¬ B % 2 ^ 63 < 9218868437227405312 ∨ nI n < 1 ∨ ¬ nI n ≤ 800) ∧ r = -1 ∧ σ' = σ) ∨ (B % 2 ^ 63 < 9218868437227405312 ∧ ∃ n', 1 ≤ n' ∧ n' ≤ 800 ∧ nI n = nI n' ∧ Fs MY σ σ' ∧ ∃ m, RnL B n' m ∧ OuM σ' m ∧ m.length ≤ 900 ∧ r = nI m.length))) := by
    intro τ hF a13 a14 a5
    refine b_Mo_round_50 ?_
    rw [a13]
    exact zeros (n - n0) n0 τ (by omega) (Nat.le_refl _) (by omega) hF a13 a14 (fun k hk => by rw [a5 k hk]; unfold pd; rw [if_pos hk])
  rw [h13]
  have hz : nI n0 = 0 ↔ n0 = 0 := nI_eq (b := 0) (by omega) (by omega)
  rw [hz]
  refine ⟨fun q => b_Mo_round_38 ⟨fun _ => ?_, fun z => absurd rfl z⟩, fun q => b_Mo_round_38 ⟨fun z => absurd z (by decide), fun _ => ?_⟩⟩
  · have e : bI (decide (n0 = 0)) = 0 := by rw [decide_eq_false q]; rfl
    have := at50 σ3 (MY_K F3) h13 (by rw [h14, ← hP, if_neg q]) (fun k hk => (hdig k hk).1)
    rw [e] at this
    exact this
  · have e : bI (decide (n0 = 0)) = 1 := by rw [decide_eq_true q]; rfl
    have := at50 (sI σ3 0 14 1) ((MY_K F3).si MY014) (by rw [gI_sI_n (Or.inr (by decide))]; exact h13) (by rw [gI_sI_s, ← hP, if_pos q]; rfl) (fun k hk => absurd hk (by omega))
    rw [e] at this
    exact this
