/-! end, out, take of the reference -/
theorem TpM.cut {σ : S_t} {l : List Nat} {n : Nat} (h : TpM σ l) (hn : n ≤ l.length) : TpM (sI σ 0 1 (nI n)) (l.take n) := by
  have e : (l.take n).length = n := by rw [List.length_take]; omega
  refine ⟨by rw [gI_sI_s, e], fun k hk => ?_⟩
  rw [e] at hk
  rw [gI_sI_n (Or.inl (by decide)), h.2 k (by omega)]
  unfold gA
  rw [List.getD_eq_getElem?_getD, List.getD_eq_getElem?_getD, List.getElem?_take, if_pos hk]
theorem TpC.cut {σ : S_t} {l : List Nat} {n : Nat} (h : TpC σ l) (hn : n ≤ l.length) : TpC (sI σ 51 1 (nI n)) (l.take n) := by
  have e : (l.take n).length = n := by rw [List.length_take]; omega
  refine ⟨by rw [gI_sI_s, e], fun k hk => ?_⟩
  rw [e] at hk
  rw [gI_sI_n (Or.inl (by decide)), h.2 k (by omega)]
  unfold gA
  rw [List.getD_eq_getElem?_getD, List.getD_eq_getElem?_getD, List.getElem?_take, if_pos hk]
theorem c_endM {E : En_t} {d : Nat} {x : Int32} {l : List Nat} {σ : S_t} (h : TpM σ l) (hl : l.length ≤ 2000) : CI E d m_Mo_end [pv E 0, .int x] σ (fun r σ' => ((x < 0 ∨ ¬ x ≤ nI l.length) ∧ r = -1 ∧ σ' = σ) ∨ ∃ n, x = nI n ∧ n ≤ l.length ∧ r = nI n ∧ Fs MTp σ σ' ∧ TpM σ' (l.take n)) := by
  refine CE.of (L := [(0, pv E 0), (1, .int x)]) rfl (Nat.le_of_ble_eq_true rfl) rfl (b_Mo_end_0 ?_)
  rw [h.1]
  refine ⟨fun g => ⟨_, rfl, Or.inl ⟨Or.inl g, rfl, rfl⟩⟩, fun g => ⟨fun g2 => ?_, fun g2 => ⟨_, rfl, Or.inl ⟨Or.inr g2, rfl, rfl⟩⟩⟩⟩
  obtain ⟨n, hn, rfl⟩ := nI_of2 (x := x) (M := nI l.length) (n := l.length) (nI_toInt (by omega)) g g2
  exact ⟨_, rfl, Or.inr ⟨n, rfl, hn, rfl, Fs.rf.si (Or.inr ⟨rfl, rfl⟩), h.cut hn⟩⟩
theorem c_endC {E : En_t} {d : Nat} {x : Int32} {l : List Nat} {σ : S_t} (h : TpC σ l) (hl : l.length ≤ 2000) : CI E d m_Cp_end [pv E 49, .int x] σ (fun r σ' => ((x < 0 ∨ ¬ x ≤ nI l.length) ∧ r = -1 ∧ σ' = σ) ∨ ∃ n, x = nI n ∧ n ≤ l.length ∧ r = nI n ∧ Fs CTp σ σ' ∧ TpC σ' (l.take n)) := by
  refine CE.of (L := [(0, pv E 49), (1, .int x)]) rfl (Nat.le_of_ble_eq_true rfl) rfl (b_Cp_end_0 ?_)
  rw [h.1]
  refine ⟨fun g => ⟨_, rfl, Or.inl ⟨Or.inl g, rfl, rfl⟩⟩, fun g => ⟨fun g2 => ?_, fun g2 => ⟨_, rfl, Or.inl ⟨Or.inr g2, rfl, rfl⟩⟩⟩⟩
  obtain ⟨n, hn, rfl⟩ := nI_of2 (x := x) (M := nI l.length) (n := l.length) (nI_toInt (by omega)) g g2
  exact ⟨_, rfl, Or.inr ⟨n, rfl, hn, rfl, Fs.rf.si (Or.inr ⟨rfl, Or.inl rfl⟩), h.cut hn⟩⟩
/-- what out(x) answers -/
def outA (l : List Nat) (x : Int32) (r : Int32) : Prop := ((x < 0 ∨ nI (min l.length 12000) ≤ x) ∧ r = -1) ∨ ∃ k, x = nI k ∧ k < min l.length 12000 ∧ r = nI (gA l k)
theorem outA_uniq {l : List Nat} {x r r' : Int32} (h : outA l x r) (h' : outA l x r') : r = r' := by
  rcases h with ⟨a1, a2⟩ | ⟨k, a1, a2, a3⟩
  · rcases h' with ⟨b1, b2⟩ | ⟨k', b1, b2, b3⟩
    · rw [a2, b2]
    · exfalso
      rw [b1] at a1
      rcases a1 with q | q
      · exact nI_pos (by omega) q
      · exact nI_ge b2 (by omega) q
  · rcases h' with ⟨b1, b2⟩ | ⟨k', b1, b2, b3⟩
    · exfalso
      rw [a1] at b1
      rcases b1 with q | q
      · exact nI_pos (by omega) q
      · exact nI_ge a2 (by omega) q
    · have : k = k' := (nI_eq (by omega) (by omega)).mp (a1.symm.trans b1)
      subst this
      rw [a3, b3]
theorem x_of {x : Int32} {m : Nat} (h : ¬ x < 0) (h2 : ¬ nI m ≤ x) (hm : m < 2 ^ 31) : ∃ k, x = nI k ∧ k < m := by
  obtain ⟨k, hk, rfl⟩ := nI_of h
  refine ⟨k, rfl, ?_⟩
  rcases Nat.lt_or_ge k m with g | g
  · exact g
  · exact absurd (nI_le g hk) h2
theorem c_outM {E : En_t} {d : Nat} {x : Int32} {l : List Nat} {σ : S_t} (h : OuM σ l) : CI E d m_Mo_out [pv E 0, .int x] σ (fun r σ' => outA l x r ∧ σ' = σ) := by
  refine CE.of (L := [(0, pv E 0), (1, .int x)]) rfl (Nat.le_of_ble_eq_true rfl) rfl (b_Mo_out_0 ?_)
  rw [h.1]
  refine ⟨fun g => ⟨_, rfl, Or.inl ⟨Or.inl g, rfl⟩, rfl⟩, fun g => ⟨fun g2 => ⟨_, rfl, Or.inl ⟨Or.inr g2, rfl⟩, rfl⟩, fun g2 => ?_⟩⟩
  obtain ⟨k, rfl, hk⟩ := x_of g g2 (by omega)
  rw [nI_clamp (by omega), h.2.2 k hk]
  exact ⟨vin (by omega) (by decide), _, rfl, Or.inr ⟨k, rfl, hk, rfl⟩, rfl⟩
theorem mn_12 {n : Nat} (hn : n < 2 ^ 31) : mnI (nI n) (12000 : Int32) = nI (min n 12000) := by
  unfold mnI
  have c : (12000 : Int32) < nI n ↔ 12000 < n := nI_ltI (a := 12000) (by omega) (by omega)
  by_cases g : 12000 < n
  · rw [if_pos (c.mpr g), show min n 12000 = 12000 by omega]; rfl
  · rw [if_neg (fun q => g (c.mp q)), show min n 12000 = n by omega]
theorem c_kept {E : En_t} {d : Nat} {l : List Nat} {σ : S_t} (h : OuC σ l) : CI E (d + 1) m_Ou_keptBytes [pv E 53] σ (fun r σ' => r = nI (min l.length 12000) ∧ σ' = σ) := by
  refine CE.of (L := [(0, pv E 53)]) rfl (Nat.le_of_ble_eq_true rfl) rfl (b_Ou_keptBytes_0 (fun r1 hr1 => ?_))
  rw [h.1, mn_12 h.2.1] at hr1
  exact ⟨_, rfl, hr1, rfl⟩
theorem c_outC {E : En_t} {d : Nat} {x : Int32} {l : List Nat} {σ : S_t} (h : OuC σ l) (hb : ∀ k, gA l k < 256) : CI E (d + 2) m_Cp_out [pv E 49, .int x] σ (fun r σ' => outA l x r ∧ σ' = σ) := by
  refine CE.of (L := [(0, pv E 49), (1, .int x)]) rfl (Nat.le_of_ble_eq_true rfl) rfl (b_Cp_out_0 ⟨fun g => b_Cp_out_15 ⟨_, rfl, Or.inl ⟨Or.inl g, rfl⟩, rfl⟩, fun g => (c_kept h).mono (fun r2 σ1 hq => ?_)⟩)
  rw [hq.1, hq.2]
  refine ⟨fun g2 => ?_, fun g2 => b_Cp_out_15 ⟨_, rfl, Or.inl ⟨Or.inr (fa_of_nlt g2), rfl⟩, rfl⟩⟩
  obtain ⟨k, rfl, hk⟩ := x_of g (fun z => absurd g2 (by
    intro y
    exact (fa_of_lt y).2.1 z)) (by omega)
  rw [nI_clamp (by omega), h.2.2 k hk, bC_lt (hb k)]
  exact ⟨vin (by omega) (by decide), _, rfl, Or.inr ⟨k, rfl, hk, rfl⟩, rfl⟩
theorem c_takeM {E : En_t} {d : Nat} {l : List Nat} {σ : S_t} (h : OuM σ l) (hl : l.length < 2 ^ 31) : CI E d m_Mo_take [pv E 0] σ (fun r σ' => (2000 < l.length ∧ r = -1 ∧ σ' = σ) ∨ (l.length ≤ 2000 ∧ r = nI l.length ∧ Fs MTp σ σ' ∧ TpM σ' l)) := by
  refine CE.of (L := [(0, pv E 0)]) rfl (Nat.le_of_ble_eq_true rfl) rfl (b_Mo_take_0 ?_)
  have c : nI l.length ≤ (2000 : Int32) ↔ l.length ≤ 2000 := nI_leI (b := 2000) hl (by omega)
  rw [h.2.1, c]
  refine ⟨fun g => ?_, fun g => ⟨_, rfl, Or.inl ⟨by omega, rfl, rfl⟩⟩⟩
  have hmin : min l.length 12000 = l.length := by omega
  have loop : ∀ (m j : Nat) (τ : S_t), j + m = l.length → Fs MTp σ τ → (∀ k, k < j → gI τ 1 k = nI (gA l k)) → JE E d m_Mo_take 14 [(0, pv E 0), (1, .int (nI j))] [] τ (fun q σ' => ∃ r, q = some (.int r) ∧ ((2000 < l.length ∧ r = -1 ∧ σ' = σ) ∨ (l.length ≤ 2000 ∧ r = nI l.length ∧ Fs MTp σ σ' ∧ TpM σ' l))) := by
    intro m
    have n3 : ¬ MTp 0 3 := by unfold MTp; omega
    have n2 : ∀ k, ¬ MTp 2 k := fun k => by unfold MTp; omega
    induction m with
    | zero =>
      intro j τ hj hF h1
      have : j = l.length := by omega
      subst this
      have a3 : gI τ 0 3 = nI l.length := by rw [hF.1 0 3 n3, h.1, hmin]
      refine b_Mo_take_14 ?_
      rw [a3]
      refine ⟨fun _ => ⟨_, rfl, Or.inr ⟨g, by rw [gI_sI_s], hF.si (Or.inr ⟨rfl, rfl⟩), gI_sI_s _ _ _ _, fun k hk => ?_⟩⟩, fun q => absurd (Int32.le_refl _) q⟩
      rw [gI_sI_n (Or.inl (by decide))]; exact h1 k hk
    | succ m ih =>
      intro j τ hj hF h1
      have a3 : gI τ 0 3 = nI l.length := by rw [hF.1 0 3 n3, h.1, hmin]
      refine b_Mo_take_14 ?_
      rw [a3]
      refine ⟨fun q => absurd q (nI_ge (by omega) (by omega)), fun _ => ⟨vin (by omega) (by omega), vin (by omega) (by omega), ?_⟩⟩
      rw [nI_clamp (by omega), nI_1, hF.1 2 j (n2 j), h.2.2 j (by omega)]
      refine ih (j + 1) _ (by omega) (hF.si (Or.inl rfl)) (fun k hk => ?_)
      by_cases q : k = j
      · subst q; exact gI_sI_s _ _ _ _
      · rw [gI_sI_n (Or.inr q)]; exact h1 k (by omega)
  exact loop l.length 0 σ (by omega) Fs.rf (fun k hk => absurd hk (Nat.not_lt_zero k))
