/-! the tape -/
def MTp : Nat → Nat → Prop := fun p k => p = 1 ∨ (p = 0 ∧ k = 1)
def CTp : Nat → Nat → Prop := fun p k => p = 52 ∨ (p = 51 ∧ (k = 1 ∨ k = 2))
def TpM (σ : S_t) (l : List Nat) : Prop := gI σ 0 1 = nI l.length ∧ ∀ k, k < l.length → gI σ 1 k = nI (gA l k)
def TpC (σ : S_t) (l : List Nat) : Prop := gI σ 51 1 = nI l.length ∧ ∀ k, k < l.length → gI σ 52 k = bC (gA l k)
theorem bC_mod (m : Nat) : bC m = bC (m % 256) := by
  unfold bC
  have e : nI m &&& 255 = nI (m % 256) := fa_mask m 8
  rw [← fa_byte_low (nI m), e]
theorem bC_and (m : Nat) : bC m &&& 255 = nI (m % 256) := by
  unfold bC
  rw [vp_nar_byte, bp_b, bp_b]
  exact fa_mask m 8
theorem bC_lt {m : Nat} (h : m < 256) : bC m &&& 255 = nI m := by rw [bC_and, Nat.mod_eq_of_lt h]
theorem zI_per (z : Int) : zI z = zI (z + 4294967296) := by
  rw [← zI_add]
  have : zI 4294967296 = 0 := rfl
  rw [this, Int32.add_zero]
theorem un_int (x : Int32) : x = zI (un x : Int) := by rw [zI_nI, nI_un]
theorem un_cases (x : Int32) : (un x < 2147483648 ∧ x.toInt = (un x : Int)) ∨ (2147483648 ≤ un x ∧ x.toInt = (un x : Int) - 4294967296) := by
  have h := un_lt x
  rcases Nat.lt_or_ge (un x) 2147483648 with g | g
  · refine Or.inl ⟨g, ?_⟩
    have := nI_toInt (n := un x) (by omega)
    rw [nI_un] at this; exact this
  · refine Or.inr ⟨g, ?_⟩
    have := nI_negv (n := un x) (by omega) (by omega)
    rw [nI_un] at this; exact this
theorem zI_self (x : Int32) : zI x.toInt = x := Int32.ofInt_toInt x
theorem sh255 (x s : Int32) (k : Nat) (hs : (s.toBitVec.smod 32).toNat = k) (hk : k = 24 ∨ k = 16 ∨ k = 8 ∨ k = 0) : (x >>> s) &&& 255 = nI (un x / 2 ^ k % 256) := by
  have h1 := pk_shr x s k hs
  have h2 : x >>> s = zI (x.toInt >>> k) := by rw [← h1, zI_self]
  have hl := un_lt x
  have key : ∃ m : Nat, x >>> s = nI m ∧ m % 256 = un x / 2 ^ k % 256 := by
    rcases un_cases x with ⟨g1, g2⟩ | ⟨g1, g2⟩
    · refine ⟨un x / 2 ^ k, ?_, rfl⟩
      rw [h2, g2, Int.shiftRight_eq_div_pow, ← zI_nI]
      exact congrArg zI (by simp)
    · rw [g2, Int.shiftRight_eq_div_pow] at h2
      rcases hk with rfl | rfl | rfl | rfl
      · refine ⟨un x / 16777216 + 4294967040, ?_, by omega⟩
        rw [h2, zI_per, ← zI_nI]; exact congrArg zI (by omega)
      · refine ⟨un x / 65536 + 4294901760, ?_, by omega⟩
        rw [h2, zI_per, ← zI_nI]; exact congrArg zI (by omega)
      · refine ⟨un x / 256 + 4278190080, ?_, by omega⟩
        rw [h2, zI_per, ← zI_nI]; exact congrArg zI (by omega)
      · refine ⟨un x, ?_, by omega⟩
        rw [h2, zI_per, ← zI_nI]; exact congrArg zI (by omega)
  obtain ⟨m, e1, e2⟩ := key
  rw [e1, ← e2]
  exact fa_mask m 8
def by4 (x : Int32) : List Nat := [un x / 2 ^ 24 % 256] ++ [un x / 2 ^ 16 % 256] ++ [un x / 2 ^ 8 % 256] ++ [un x / 2 ^ 0 % 256]
theorem TpM_push {σ : S_t} {l : List Nat} {y : Nat} {z : Int32} (h : TpM σ l) (hl : l.length < 2000) (hz : z = nI y) : Fs MTp σ (sI (sI σ 1 (gI σ 0 1).toNatClampNeg z) 0 1 ((gI (sI σ 1 (gI σ 0 1).toNatClampNeg z) 0 1) + (1 : Int32))) ∧ TpM (sI (sI σ 1 (gI σ 0 1).toNatClampNeg z) 0 1 ((gI (sI σ 1 (gI σ 0 1).toNatClampNeg z) 0 1) + (1 : Int32))) (l ++ [y]) := by
  refine ⟨(Fs.rf.si (Or.inl rfl)).si (Or.inr ⟨rfl, rfl⟩), ?_, fun k hk => ?_⟩
  · rw [gI_sI_s, gI_sI_n (Or.inl (by decide)), h.1, len1, nI_1]
  · rw [gI_sI_n (Or.inl (by decide)), h.1, nI_clamp (by omega)]
    rw [len1] at hk
    by_cases q : k = l.length
    · subst q; rw [gI_sI_s, gA_eq, hz]
    · rw [gI_sI_n (Or.inr q), gA_lt (by omega)]; exact h.2 k (by omega)
theorem c_four {E : En_t} {d : Nat} {x : Int32} {l : List Nat} {σ : S_t} (h : TpM σ l) (hl : l.length + 4 ≤ 2000) : CV E d m_Mo_four [pv E 0, .int x] σ (fun σ' => Fs MTp σ σ' ∧ TpM σ' (l ++ by4 x)) := by
  refine CE.of (L := [(0, pv E 0), (1, .int x)]) rfl (Nat.le_of_ble_eq_true rfl) rfl (b_Mo_four_0 ?_)
  have hv : ∀ {τ : S_t} {m : List Nat}, TpM τ m → m.length < 2000 → vp_in (gI τ 0 1) 2000 := fun h h2 => by rw [h.1]; exact vin h2 (by decide)
  refine b_Mo_four_3 ⟨fun q => absurd q (by decide), fun _ => ⟨hv h (by omega), fun σ1 e1 => ?_⟩⟩
  obtain ⟨F1, T1⟩ := TpM_push (z := (x >>> ((24 : Int32) &&& 31)) &&& (255 : Int32)) h (by omega) (sh255 x _ 24 (by decide) (by simp))
  rw [← e1] at F1 T1
  refine b_Mo_four_3 ⟨fun q => absurd q (by decide), fun _ => ⟨hv T1 (by rw [len1]; omega), fun σ2 e2 => ?_⟩⟩
  obtain ⟨F2, T2⟩ := TpM_push (z := (x >>> (((24 : Int32) + (-8 : Int32)) &&& 31)) &&& (255 : Int32)) T1 (by rw [len1]; omega) (sh255 x _ 16 (by decide) (by simp))
  rw [← e2] at F2 T2
  refine b_Mo_four_3 ⟨fun q => absurd q (by decide), fun _ => ⟨hv T2 (by rw [len1, len1]; omega), fun σ3 e3 => ?_⟩⟩
  obtain ⟨F3, T3⟩ := TpM_push (z := (x >>> (((24 : Int32) + (-8 : Int32) + (-8 : Int32)) &&& 31)) &&& (255 : Int32)) T2 (by rw [len1, len1]; omega) (sh255 x _ 8 (by decide) (by simp))
  rw [← e3] at F3 T3
  refine b_Mo_four_3 ⟨fun q => absurd q (by decide), fun _ => ⟨hv T3 (by rw [len1, len1, len1]; omega), fun σ4 e4 => ?_⟩⟩
  obtain ⟨F4, T4⟩ := TpM_push (z := (x >>> (((24 : Int32) + (-8 : Int32) + (-8 : Int32) + (-8 : Int32)) &&& 31)) &&& (255 : Int32)) T3 (by rw [len1, len1, len1]; omega) (sh255 x _ 0 (by decide) (by simp))
  rw [← e4] at F4 T4
  refine b_Mo_four_3 ⟨fun _ => ⟨rfl, ((F1.tr F2).tr F3).tr F4, ?_⟩, fun q => absurd (by decide) q⟩
  unfold by4
  rw [← List.append_assoc, ← List.append_assoc, ← List.append_assoc]
  exact T4
theorem by4_len (x : Int32) : (by4 x).length = 4 := rfl
theorem c_feedM {E : En_t} {d : Nat} {x1 x2 x3 x4 x5 : Int32} {l : List Nat} {σ : S_t} (h : TpM σ l) (hl : l.length ≤ 2000) : CI E (d + 1) m_Mo_feed [pv E 0, .int x1, .int x2, .int x3, .int x4, .int x5] σ (fun r σ' => (1980 < l.length ∧ r = -1 ∧ σ' = σ) ∨ (l.length ≤ 1980 ∧ Fs MTp σ σ' ∧ TpM σ' (l ++ (by4 x1 ++ by4 x2 ++ by4 x3 ++ by4 x4 ++ by4 x5)) ∧ r = nI (l.length + 20))) := by
  refine CE.of (L := [(0, pv E 0), (1, .int x1), (2, .int x2), (3, .int x3), (4, .int x4), (5, .int x5)]) rfl (Nat.le_of_ble_eq_true rfl) rfl (b_Mo_feed_0 ?_)
  have e : gI σ 0 1 + (20 : Int32) = nI (l.length + 20) := by rw [h.1]; exact nI_add _ 20
  have c : nI (l.length + 20) ≤ (2000 : Int32) ↔ l.length + 20 ≤ 2000 := nI_leI (b := 2000) (by omega) (by omega)
  rw [e, c]
  refine ⟨fun g => ?_, fun g => ⟨_, rfl, Or.inl ⟨by omega, rfl, rfl⟩⟩⟩
  refine (c_four h (by omega)).mono (fun σ1 q1 => (c_four q1.2 (by rw [List.length_append, by4_len]; omega)).mono (fun σ2 q2 => (c_four q2.2 (by rw [List.length_append, List.length_append, by4_len, by4_len]; omega)).mono (fun σ3 q3 => (c_four q3.2 (by rw [List.length_append, List.length_append, List.length_append, by4_len, by4_len, by4_len]; omega)).mono (fun σ4 q4 => (c_four q4.2 (by rw [List.length_append, List.length_append, List.length_append, List.length_append, by4_len, by4_len, by4_len, by4_len]; omega)).mono (fun σ5 q5 => ?_)))))
  refine ⟨_, rfl, Or.inr ⟨by omega, (((q1.1.tr q2.1).tr q3.1).tr q4.1).tr q5.1, ?_, ?_⟩⟩
  · have := q5.2
    simp only [List.append_assoc] at this ⊢
    exact this
  · rw [q5.2.1]
    congr 1
    simp only [List.length_append, by4_len]
theorem TpC_push {σ : S_t} {l : List Nat} {y : Nat} {z : Int32} (h : TpC σ l) (hl : l.length < 2000) (hz : z = bC y) : Fs CTp σ (sI (sI σ 52 (gI σ 51 1).toNatClampNeg z) 51 1 ((gI (sI σ 52 (gI σ 51 1).toNatClampNeg z) 51 1) + (1 : Int32))) ∧ TpC (sI (sI σ 52 (gI σ 51 1).toNatClampNeg z) 51 1 ((gI (sI σ 52 (gI σ 51 1).toNatClampNeg z) 51 1) + (1 : Int32))) (l ++ [y]) := by
  refine ⟨(Fs.rf.si (Or.inl rfl)).si (Or.inr ⟨rfl, Or.inl rfl⟩), ?_, fun k hk => ?_⟩
  · rw [gI_sI_s, gI_sI_n (Or.inl (by decide)), h.1, len1, nI_1]
  · rw [gI_sI_n (Or.inl (by decide)), h.1, nI_clamp (by omega)]
    rw [len1] at hk
    by_cases q : k = l.length
    · subst q; rw [gI_sI_s, gA_eq, hz]
    · rw [gI_sI_n (Or.inr q), gA_lt (by omega)]; exact h.2 k (by omega)
theorem us_bC (x s : Int32) (k : Nat) (hk : k < 32) (hs : s = nI k) : vp_nar .byte (((x.toUInt32 >>> (s.toUInt32 &&& Int32.toUInt32 31)).toInt32).toInt8.toInt32) = bC (un x / 2 ^ k % 256) := by
  rw [hs, ushr_v x hk, ← bC_mod]
  rfl
theorem c_push {E : En_t} {d : Nat} {x : Int32} {l : List Nat} {σ : S_t} (h : TpC σ l) (hl : l.length + 4 ≤ 2000) : CV E d m_Te_push [pv E 51, .int x] σ (fun σ' => Fs CTp σ σ' ∧ TpC σ' (l ++ by4 x)) := by
  refine CE.of (L := [(0, pv E 51), (1, .int x)]) rfl (Nat.le_of_ble_eq_true rfl) rfl (b_Te_push_0 ?_)
  have hv : ∀ {τ : S_t} {m : List Nat}, TpC τ m → m.length < 2000 → vp_in (gI τ 51 1) 2000 := fun h h2 => by rw [h.1]; exact vin h2 (by decide)
  have hno : ∀ {τ : S_t} {m : List Nat}, TpC τ m → m.length < 2000 → ¬ (2000 : Int32) ≤ gI τ 51 1 := fun h h2 => by rw [h.1]; exact nI_ge (b := 2000) h2 (by decide)
  refine b_Te_push_3 ⟨fun q => absurd q (by decide), fun _ => ⟨fun q => absurd q (hno h (by omega)), fun _ => ⟨hv h (by omega), fun v1 ev1 σ1 e1 => ?_⟩⟩⟩
  rw [ev1] at e1
  obtain ⟨F1, T1⟩ := TpC_push h (by omega) (us_bC x (24 : Int32) 24 (by decide) rfl)
  rw [← e1] at F1 T1
  refine b_Te_push_3 ⟨fun q => absurd q (by decide), fun _ => ⟨fun q => absurd q (hno T1 (by rw [len1]; omega)), fun _ => ⟨hv T1 (by rw [len1]; omega), fun v2 ev2 σ2 e2 => ?_⟩⟩⟩
  rw [ev2] at e2
  obtain ⟨F2, T2⟩ := TpC_push T1 (by rw [len1]; omega) (us_bC x ((24 : Int32) + (-8 : Int32)) 16 (by decide) rfl)
  rw [← e2] at F2 T2
  refine b_Te_push_3 ⟨fun q => absurd q (by decide), fun _ => ⟨fun q => absurd q (hno T2 (by rw [len1, len1]; omega)), fun _ => ⟨hv T2 (by rw [len1, len1]; omega), fun v3 ev3 σ3 e3 => ?_⟩⟩⟩
  rw [ev3] at e3
  obtain ⟨F3, T3⟩ := TpC_push T2 (by rw [len1, len1]; omega) (us_bC x ((24 : Int32) + (-8 : Int32) + (-8 : Int32)) 8 (by decide) rfl)
  rw [← e3] at F3 T3
  refine b_Te_push_3 ⟨fun q => absurd q (by decide), fun _ => ⟨fun q => absurd q (hno T3 (by rw [len1, len1, len1]; omega)), fun _ => ⟨hv T3 (by rw [len1, len1, len1]; omega), fun v4 ev4 σ4 e4 => ?_⟩⟩⟩
  rw [ev4] at e4
  obtain ⟨F4, T4⟩ := TpC_push T3 (by rw [len1, len1, len1]; omega) (us_bC x ((24 : Int32) + (-8 : Int32) + (-8 : Int32) + (-8 : Int32)) 0 (by decide) rfl)
  rw [← e4] at F4 T4
  refine b_Te_push_3 ⟨fun _ => ⟨rfl, ((F1.tr F2).tr F3).tr F4, ?_⟩, fun q => absurd (by decide) q⟩
  unfold by4
  rw [← List.append_assoc, ← List.append_assoc, ← List.append_assoc]
  exact T4
theorem c_feedC {E : En_t} {d : Nat} {x1 x2 x3 x4 x5 : Int32} {l : List Nat} {σ : S_t} (h : TpC σ l) (hl : l.length ≤ 2000) : CI E (d + 1) m_Cp_feed [pv E 49, .int x1, .int x2, .int x3, .int x4, .int x5] σ (fun r σ' => (1980 < l.length ∧ r = -1 ∧ σ' = σ) ∨ (l.length ≤ 1980 ∧ Fs CTp σ σ' ∧ TpC σ' (l ++ (by4 x1 ++ by4 x2 ++ by4 x3 ++ by4 x4 ++ by4 x5)) ∧ r = nI (l.length + 20))) := by
  refine CE.of (L := [(0, pv E 49), (1, .int x1), (2, .int x2), (3, .int x3), (4, .int x4), (5, .int x5)]) rfl (Nat.le_of_ble_eq_true rfl) rfl (b_Cp_feed_0 ?_)
  have c : nI l.length ≤ (1980 : Int32) ↔ l.length ≤ 1980 := nI_leI (b := 1980) (by omega) (by omega)
  rw [h.1, c]
  refine ⟨fun g => ?_, fun g => ⟨_, rfl, Or.inl ⟨by omega, rfl, rfl⟩⟩⟩
  refine (c_push h (by omega)).mono (fun σ1 q1 => (c_push q1.2 (by rw [List.length_append, by4_len]; omega)).mono (fun σ2 q2 => (c_push q2.2 (by rw [List.length_append, List.length_append, by4_len, by4_len]; omega)).mono (fun σ3 q3 => (c_push q3.2 (by rw [List.length_append, List.length_append, List.length_append, by4_len, by4_len, by4_len]; omega)).mono (fun σ4 q4 => (c_push q4.2 (by rw [List.length_append, List.length_append, List.length_append, List.length_append, by4_len, by4_len, by4_len, by4_len]; omega)).mono (fun σ5 q5 => ?_)))))
  refine ⟨_, rfl, Or.inr ⟨by omega, (((q1.1.tr q2.1).tr q3.1).tr q4.1).tr q5.1, ?_, ?_⟩⟩
  · have := q5.2
    simp only [List.append_assoc] at this ⊢
    exact this
  · rw [q5.2.1]
    congr 1
    simp only [List.length_append, by4_len]
