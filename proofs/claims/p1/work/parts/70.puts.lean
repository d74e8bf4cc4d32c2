/-! the class's putPower, putPlain, putShortest -/
theorem n_div {a d : Nat} (ha : a < 2 ^ 31) (h0 : 0 < d) (hd : d < 2 ^ 31) : nI a / nI d = nI (a / d) := pk_div ha h0 hd
theorem n_mod10 {a : Nat} (ha : a < 2 ^ 31) : nI a - nI a / (10 : Int32) * (10 : Int32) = nI (a % 10) := by
  have e1 : nI a / (10 : Int32) = nI (a / 10) := n_div (d := 10) ha (by decide) (by decide)
  have e2 : nI (a / 10) * (10 : Int32) = nI (a / 10 * 10) := by
    rw [← zI_nI, show (10 : Int32) = zI 10 from rfl, zI_mul, ← zI_nI]
    exact congrArg zI (by omega)
  rw [e1, e2, ← zI_nI, ← zI_nI, zI_sub, ← zI_nI]
  exact congrArg zI (by omega)
theorem n_d10 {a : Nat} (ha : a < 2 ^ 31) : nI a / (10 : Int32) = nI (a / 10) := n_div (d := 10) ha (by decide) (by decide)
theorem n_d100 {a : Nat} (ha : a < 2 ^ 31) : nI a / (100 : Int32) = nI (a / 100) := n_div (d := 100) ha (by decide) (by decide)
theorem ab_zI {z : Int} (h1 : -100000 ≤ z) (h2 : z ≤ 100000) : abI (zI z) = nI z.natAbs := by
  unfold abI
  have c : (0 : Int32) ≤ zI z ↔ 0 ≤ z := zI_le (a := 0) (by omega) (by omega) (by omega) (by omega)
  by_cases g : 0 ≤ z
  · rw [if_pos (c.mpr g), ← zI_nI]; exact congrArg zI (by omega)
  · rw [if_neg (fun q => g (c.mp q)), ← zI_nI]
    have : -(zI z) = zI (-z) := (Int32.ofInt_neg _).symm
    rw [this]; exact congrArg zI (by omega)
theorem c_putPower {E : En_t} {d c : Nat} {T : Nat → Nat} {p : Int} {l : List Nat} {σ : S_t} (hP : PrAt σ T c p) (hp1 : -10000 ≤ p) (hp2 : p ≤ 10000) (h : OuC σ l) (hl : l.length ≤ 1100000) : CV E (d + 1) m_Pr_putPower [pv E 59, pv E 53] σ (fun σ' => Fs MO σ σ' ∧ OuC σ' (l ++ pwL p)) := by
  refine CE.of (L := [(0, pv E 59), (1, pv E 53)]) rfl (Nat.le_of_ble_eq_true rfl) rfl (b_Pr_putPower_0 ?_)
  intro r1 hr1
  have e1 : gI σ 59 3 - (1 : Int32) = zI (p - 1) := by rw [hP.2.1, show (1 : Int32) = zI 1 from rfl, zI_sub]
  rw [e1, ab_zI (by omega) (by omega)] at hr1
  subst hr1
  refine (c_putC (x := 101) h (by omega)).mono (fun σ1 hq => ?_)
  obtain ⟨F1, O1⟩ := hq
  have hN : (p - 1).natAbs < 2 ^ 31 := by omega
  have en : l ++ pwL p = l ++ [101] ++ [if p < 1 then 45 else 43] ++ numL (p - 1).natAbs := by unfold pwL; rw [← List.append_assoc, ← List.append_assoc]
  rw [(hP.fs F1).2.1, en]
  generalize (p - 1).natAbs = n at *
  have c99 : nI n ≤ (99 : Int32) ↔ n ≤ 99 := nI_leI (b := 99) hN (by omega)
  have c9 : nI n ≤ (9 : Int32) ↔ n ≤ 9 := nI_leI (b := 9) hN (by omega)
  have at72 : ∀ τ m, Fs MO σ τ → OuC τ m → m.length < 1200000 → JE E (d + 1) m_Pr_putPower 72 [(1, pv E 53), (2, .int (nI n))] [] τ (fun r σ' => r = none ∧ Fs MO σ σ' ∧ OuC σ' (m ++ [48 + n % 10])) := by
    intro τ m F O hm
    refine b_Pr_putPower_72 ?_
    rw [n_mod10 hN, i48]
    exact (c_putC O (by omega)).mono (fun σ1 hq => ⟨rfl, F.tr hq.1, hq.2⟩)
  have at52 : ∀ τ m, Fs MO σ τ → OuC τ m → m.length < 1150000 → JE E (d + 1) m_Pr_putPower 52 [(1, pv E 53), (2, .int (nI n))] [] τ (fun r σ' => r = none ∧ Fs MO σ σ' ∧ OuC σ' (m ++ ((if 9 < n then [48 + n / 10 % 10] else []) ++ [48 + n % 10]))) := by
    intro τ m F O hm
    refine b_Pr_putPower_52 ?_
    rw [c9, n_d10 hN, n_mod10 (by omega), i48]
    refine ⟨fun g => ?_, fun g => ?_⟩
    · rw [if_neg (by omega), List.nil_append]; exact at72 τ m F O (by omega)
    · rw [if_pos (by omega), ← List.append_assoc]
      exact (c_putC O (by omega)).mono (fun σ1 hq => at72 σ1 _ (F.tr hq.1) hq.2 (by rw [len1]; omega))
  have at32 : ∀ τ m s, Fs MO σ τ → OuC τ m → m.length < 1110000 → JE E (d + 1) m_Pr_putPower 32 [(1, pv E 53), (2, .int (nI n))] [.int (nI s), pv E 53] τ (fun r σ' => r = none ∧ Fs MO σ σ' ∧ OuC σ' (m ++ [s] ++ numL n)) := by
    intro τ m s F O hm
    refine b_Pr_putPower_32 ((c_putC O (by omega)).mono (fun σ1 hq => ?_))
    rw [c99, n_d100 hN, i48]
    unfold numL
    refine ⟨fun g => ?_, fun g => ?_⟩
    · rw [if_neg (by omega), List.nil_append]; exact at52 σ1 _ (F.tr hq.1) hq.2 (by rw [len1]; omega)
    · rw [if_pos (by omega), List.append_assoc [48 + n / 100], ← List.append_assoc (m ++ [s]) [48 + n / 100]]
      exact (c_putC hq.2 (by rw [len1]; omega)).mono (fun σ2 hq2 => at52 σ2 _ ((F.tr hq.1).tr hq2.1) hq2.2 (by rw [len1, len1]; omega))
  have c1 : (1 : Int32) ≤ zI p ↔ 1 ≤ p := zI_le (a := 1) (by omega) (by omega) (by omega) (by omega)
  rw [c1]
  refine ⟨fun g => ?_, fun g => ?_⟩
  · rw [if_neg (by omega)]; exact at32 σ1 _ 43 F1 O1 (by rw [len1]; omega)
  · rw [if_pos (by omega)]; exact at32 σ1 _ 45 F1 O1 (by rw [len1]; omega)
theorem c_putPlain {E : En_t} {d c : Nat} {T : Nat → Nat} {p : Int} {l : List Nat} {σ : S_t} (hP : PrAt σ T c p) (hc : c ≤ 810) (hp1 : -1000 ≤ p) (hp2 : p ≤ 1000) (h : OuC σ l) (hl : l.length ≤ 100000) : CV E (d + 2) m_Pr_putPlain [pv E 59, pv E 53] σ (fun σ' => Fs MO σ σ' ∧ OuC σ' (l ++ plL T c p)) := by
  refine CE.of (L := [(0, pv E 59), (1, pv E 53)]) rfl (Nat.le_of_ble_eq_true rfl) rfl (b_Pr_putPlain_0 ?_)
  have loop : ∀ l1 : List Nat, l1.length ≤ 200000 → ∀ (m i : Nat) (τ : S_t), i + m = c → Fs MO σ τ → OuC τ (l1 ++ gl (plF T p) i) → JE E (d + 2) m_Pr_putPlain 30 [(0, pv E 59), (1, pv E 53), (2, .int (nI i))] [] τ (fun r σ' => r = none ∧ Fs MO σ σ' ∧ OuC σ' (l1 ++ gl (plF T p) c ++ zrL (p - c).toNat)) := by
    intro l1 hl1 m
    induction m with
    | zero =>
      intro i τ him hF hO
      have : i = c := by omega
      subst this
      have P1 := hP.fs hF
      have hlen := pl_len T p i
      refine b_Pr_putPlain_30 ?_
      rw [P1.1, P1.2.1]
      refine ⟨fun _ => ?_, fun h => absurd (Int32.le_refl _) h⟩
      have e : zI p - nI i = zI (p - i) := by rw [← zI_nI, zI_sub]
      rw [e]
      exact (c_putZeros hO (by rw [List.length_append]; omega) (by omega) (by omega)).mono (fun σ1 hq => ⟨rfl, hF.tr hq.1, hq.2⟩)
    | succ m ih =>
      intro i τ him hF hO
      have P1 := hP.fs hF
      have hlen := pl_len T p i
      have hln : (l1 ++ gl (plF T p) i).length ≤ 300000 := by rw [List.length_append]; omega
      have at56 : ∀ (τ1 : S_t) (l2 : List Nat), Fs MO σ τ1 → OuC τ1 l2 → l2.length ≤ 310000 → l2 = l1 ++ gl (plF T p) i ++ (if 0 < i ∧ (i : Int) = p then [46] else []) → JE E (d + 2) m_Pr_putPlain 56 [(0, pv E 59), (1, pv E 53), (2, .int (nI i))] [] τ1 (fun r σ' => r = none ∧ Fs MO σ σ' ∧ OuC σ' (l1 ++ gl (plF T p) c ++ zrL (p - c).toNat)) := by
        intro τ1 l2 F1 O1 hl2 he
        have P2 := hP.fs F1
        refine b_Pr_putPlain_56 ⟨vin (by omega) (by omega), ?_⟩
        rw [nI_clamp (by omega), (P2.2.2 i (by omega)).1, i48]
        refine (c_putC O1 (by omega)).mono (fun σ1 hq => ?_)
        rw [nI_1]
        refine ih (i + 1) σ1 (by omega) (F1.tr hq.1) ?_
        have : l1 ++ gl (plF T p) (i + 1) = l2 ++ [48 + T i] := by
          rw [he]
          show l1 ++ (gl (plF T p) i ++ ((if 0 < i ∧ (i : Int) = p then [46] else []) ++ [48 + T i])) = _
          rw [← List.append_assoc, ← List.append_assoc]
        rw [this]
        exact hq.2
      refine b_Pr_putPlain_30 ?_
      rw [P1.1, P1.2.1]
      refine ⟨fun h => absurd h (nI_ge (by omega) (by omega)), fun _ => ⟨fun h => ?_, fun h => ⟨fun g => ?_, fun g => ?_⟩⟩⟩
      · have : i = 0 := by
          rcases Nat.eq_zero_or_pos i with q | q
          · exact q
          · exact absurd h (nI_nle q (by omega))
        exact at56 τ _ hF hO (by omega) (by rw [if_neg (by omega), List.append_nil])
      · refine at56 τ _ hF hO (by omega) ?_
        rw [if_neg, List.append_nil]
        rintro ⟨q1, q2⟩
        exact g (by rw [← zI_nI, q2])
      · refine (c_putC (x := 46) hO (by omega)).mono (fun σ1 hq => ?_)
        refine at56 σ1 _ (hF.tr hq.1) hq.2 (by rw [len1]; omega) ?_
        rw [if_pos]
        have hi : 0 < i := by
          rcases Nat.eq_zero_or_pos i with q | q
          · subst q; exact absurd (Int32.le_refl _) h
          · exact q
        rw [← zI_nI] at g
        exact ⟨hi, (zI_eq (by omega) (by omega) (by omega) (by omega)).mp g⟩
  have start : ∀ (l1 : List Nat) (τ : S_t), l1.length ≤ 200000 → Fs MO σ τ → OuC τ l1 → l1 = l ++ (if p ≤ 0 then [48] ++ [46] ++ zrL (-p).toNat else []) → JE E (d + 2) m_Pr_putPlain 28 [(0, pv E 59), (1, pv E 53)] [] τ (fun r σ' => r = none ∧ Fs MO σ σ' ∧ OuC σ' (l ++ plL T c p)) := by
    intro l1 τ h1 hF hO he
    have : l ++ plL T c p = l1 ++ gl (plF T p) c ++ zrL (p - c).toNat := by
      rw [he]; unfold plL
      rw [← List.append_assoc, ← List.append_assoc]
    rw [this]
    exact b_Pr_putPlain_28 (loop l1 h1 c 0 τ (by omega) hF (by rw [show gl (plF T p) 0 = [] from rfl, List.append_nil]; exact hO))
  rw [hP.2.1]
  have c0 : (0 : Int32) < zI p ↔ 0 < p := zI_lt (a := 0) (by omega) (by omega) (by omega) (by omega)
  rw [c0]
  refine ⟨fun g => start l σ (by omega) Fs.rf h (by rw [if_neg (by omega), List.append_nil]), fun g => ?_⟩
  refine (c_putC (x := 48) h (by omega)).mono (fun σ1 hq1 => ?_)
  refine (c_putC (x := 46) hq1.2 (by rw [len1]; omega)).mono (fun σ2 hq2 => ?_)
  have F2 := hq1.1.tr hq2.1
  rw [(hP.fs F2).2.1]
  have e : -(zI p) = zI (-p) := (Int32.ofInt_neg _).symm
  rw [e]
  refine (c_putZeros hq2.2 (by rw [len1, len1]; omega) (by omega) (by omega)).mono (fun σ3 hq3 => ?_)
  refine start _ σ3 ?_ (F2.tr hq3.1) hq3.2 ?_
  · rw [List.length_append, len1, len1, zr_len]; omega
  · rw [if_pos (by omega), ← List.append_assoc, ← List.append_assoc]
/-- what putShortest may change -/
def MW : Nat → Nat → Prop := fun p k => MO p k ∨ PB p k
theorem MO_PB {p k : Nat} (h : PB p k) : ¬ MO p k := by
  rintro (rfl | ⟨rfl, rfl⟩)
  · rcases h with (h | ⟨h, _⟩) | (h | h) <;> exact absurd h (by decide)
  · rcases h with (h | ⟨h, _⟩) | (h | h) <;> exact absurd h (by decide)
theorem OuC.fs {σ σ' : S_t} {l : List Nat} (h : OuC σ l) (hF : Fs PB σ σ') : OuC σ' l := by
  have n1 : ¬ PB 53 1 := fun q => MO_PB q (Or.inr ⟨rfl, rfl⟩)
  have n2 : ∀ k, ¬ PB 54 k := fun k q => MO_PB q (Or.inl rfl)
  exact ⟨by rw [hF.1 53 1 n1]; exact h.1, h.2.1, fun k hk => by rw [hF.1 54 k (n2 k)]; exact h.2.2 k hk⟩
/-- the row of bytes of a number, as the class writes it -/
def SpB (B : Nat) (l : List Nat) : Prop :=
  (B % 2 ^ 63 = 0 ∧ l = [48]) ∨
  (0 < B % 2 ^ 63 ∧ ∃ T c p Z up, Shrt (FV (B % 2 ^ 63)) (B % 2 ^ 63) Z up ∧ 1 ≤ c ∧ c ≤ 19 ∧ (∀ i, i < c → T i < 10) ∧ T 0 ≠ 0 ∧ T (c - 1) ≠ 0 ∧ SV (dval T c) c p = cz (FV (B % 2 ^ 63)) Z up ∧ -400 ≤ p ∧ p ≤ 400 ∧ l = (if B < 2 ^ 63 then [] else [45]) ++ spL T c p)
theorem c_putShortest {E : En_t} {d B : Nat} {l : List Nat} {σ : S_t} (hB : B < 2 ^ 64) (hfin : B % 2 ^ 63 < 9218868437227405312) (h : OuC σ l) (hl : l.length ≤ 50000) : CV E (d + 5) m_Pr_putShortest [pv E 59, .long (lN B), pv E 53] σ (fun σ' => Fs MW σ σ' ∧ ∃ m, SpB B m ∧ OuC σ' (l ++ m)) := by
  refine CE.of (L := [(0, pv E 59), (1, .long (lN B)), (3, pv E 53)]) rfl (Nat.le_of_ble_eq_true rfl) rfl (b_Pr_putShortest_0 ?_)
  rw [x_pos hB, x_neg hB]
  have hz : lg_cmp (lN (B % 2 ^ 63)) (0 : Int64) = 0 ↔ B % 2 ^ 63 = 0 := lg_eq (b := 0) (by omega) (by omega)
  rw [hz]
  have wO : ∀ {τ τ'}, Fs MO τ τ' → Fs MW τ τ' := fun h => h.mono (fun _ _ q => Or.inl q)
  have main : ∀ (τ : S_t) (l1 : List Nat), 0 < B % 2 ^ 63 → Fs MW σ τ → OuC τ l1 → l1 = l ++ (if B < 2 ^ 63 then [] else [45]) → JE E (d + 5) m_Pr_putShortest 29 [(0, pv E 59), (1, .long (lN B)), (3, pv E 53)] [] τ (fun r σ' => r = none ∧ Fs MW σ σ' ∧ ∃ m, SpB B m ∧ OuC σ' (l ++ m)) := by
    intro τ l1 hb hF hO he
    have hl1 : l1.length ≤ 60000 := by rw [he, List.length_append]; split <;> simp <;> omega
    refine b_Pr_putShortest_29 ((c_fractionOf hB).mono (fun x σ1 hq => ?_))
    rw [hq.1, hq.2]
    refine (c_twosOf hB).mono (fun x σ2 hq => ?_)
    rw [hq.1, hq.2]
    refine (c_findShortest hb hfin).mono (fun σ3 hq => ?_)
    obtain ⟨F3, Z, up, hS, T, c, p, hP, hc1, hc2, hT0, hTl, hSV, hp1, hp2⟩ := hq
    have O3 := hO.fs F3
    have G3 : Fs MW σ σ3 := hF.tr (F3.mono (fun _ _ q => Or.inr q))
    have fin : ∀ m, m = (if B < 2 ^ 63 then [] else [45]) ++ spL T c p → SpB B m := fun m hm => Or.inr ⟨hb, T, c, p, Z, up, hS, hc1, hc2, fun i hi => (hP.2.2 i hi).2, hT0, hTl, hSV, hp1, hp2, hm⟩
    have elm : ∀ k, l1 ++ k = l ++ ((if B < 2 ^ 63 then [] else [45]) ++ k) := fun k => by rw [he, List.append_assoc]
    rw [hP.2.1]
    have c21 : (21 : Int32) < zI p ↔ 21 < p := zI_lt (a := 21) (by omega) (by omega) (by omega) (by omega)
    have c5 : (-5 : Int32) ≤ zI p ↔ -5 ≤ p := by
      rw [show (-5 : Int32) = zI (-5) from rfl]; exact zI_le (by omega) (by omega) (by omega) (by omega)
    rw [c21, c5]
    have pow : (21 < p ∨ p < -5) → JE E (d + 5) m_Pr_putShortest 59 [(0, pv E 59), (3, pv E 53)] [] σ3 (fun r σ' => r = none ∧ Fs MW σ σ' ∧ ∃ m, SpB B m ∧ OuC σ' (l ++ m)) := by
      intro hp
      refine b_Pr_putShortest_59 ?_
      rw [hP.1]
      refine (c_putDigits hP (by omega) O3 (by omega) (by omega)).mono (fun σ4 hq4 => ?_)
      have hlen := dg_len T c c
      refine (c_putPower (hP.fs hq4.1) (by omega) (by omega) hq4.2 (by rw [List.length_append]; omega)).mono (fun σ5 hq5 => ?_)
      refine ⟨rfl, (G3.tr (wO hq4.1)).tr (wO hq5.1), _, fin _ rfl, ?_⟩
      rw [← elm]
      unfold spL
      rw [if_pos hp, ← List.append_assoc]
      exact hq5.2
    refine ⟨fun g => pow (Or.inl g), fun g => ⟨fun g2 => ?_, fun g2 => pow (Or.inr (by omega))⟩⟩
    refine (c_putPlain hP (by omega) (by omega) (by omega) O3 (by omega)).mono (fun σ4 hq4 => ?_)
    refine ⟨rfl, G3.tr (wO hq4.1), _, fin _ rfl, ?_⟩
    rw [← elm]
    unfold spL
    rw [if_neg (by omega)]
    exact hq4.2
  refine ⟨fun g => ⟨fun g2 => main σ l (by omega) Fs.rf h (by rw [if_pos g2, List.append_nil]), fun g2 => ?_⟩, fun g => ?_⟩
  · exact (c_putC (x := 45) h (by omega)).mono (fun σ1 hq => main σ1 _ (by omega) (wO hq.1) hq.2 (by rw [if_neg g2]))
  · exact (c_putC (x := 48) h (by omega)).mono (fun σ1 hq => ⟨rfl, wO hq.1, [48], Or.inl ⟨g, rfl⟩, hq.2⟩)
theorem c_printC {E : En_t} {d B : Nat} {σ : S_t} (hB : B < 2 ^ 64) : CI E (d + 6) m_Cp_print [pv E 49, .long (lN B)] σ (fun x σ' => (¬ B % 2 ^ 63 < 9218868437227405312 ∧ x = -1 ∧ σ' = σ) ∨ (B % 2 ^ 63 < 9218868437227405312 ∧ Fs MW σ σ' ∧ ∃ m, SpB B m ∧ OuC σ' m ∧ x = nI m.length)) := by
  refine CE.of (L := [(0, pv E 49), (1, .long (lN B))]) rfl (Nat.le_of_ble_eq_true rfl) rfl (b_Cp_print_0 ((c_isNumC hB).mono (fun x σ1 hq => ?_)))
  rw [hq.1, hq.2]
  unfold isN
  rw [bI_d]
  refine ⟨fun g => ?_, fun g => ⟨_, rfl, Or.inl ⟨g, rfl, rfl⟩⟩⟩
  have g := Classical.not_not.mp g
  refine c_clearC.mono (fun σ1 hq => ?_)
  refine (c_putShortest hB g hq.2 (by simp)).mono (fun σ2 hq2 => ?_)
  obtain ⟨F2, m, hm, O2⟩ := hq2
  rw [List.nil_append] at O2
  exact ⟨_, rfl, Or.inr ⟨g, (hq.1.mono (fun _ _ q => Or.inl q)).tr F2, m, hm, O2, O2.1⟩⟩
