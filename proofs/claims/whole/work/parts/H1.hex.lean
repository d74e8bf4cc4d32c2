/-! hexadecimals, and what an escape says -/
def hxv (g : Nat) : Option Nat := if 48 ≤ g ∧ g ≤ 57 then some (g - 48) else if 97 ≤ g ∧ g ≤ 102 then some (g - 87) else if 65 ≤ g ∧ g ≤ 70 then some (g - 55) else none
def hxd (l : List Nat) (a : Nat) : Option Nat := if a < l.length then hxv (gA l a) else none
theorem hxd_lt {l : List Nat} {a h : Nat} (e : hxd l a = some h) : h < 16 ∧ a < l.length := by
  unfold hxd hxv at e
  (repeat' split at e)
  all_goals (cases e; try omega)
theorem hx_key : ∀ g, g < 256 → (nI g < (48 : Int32) ↔ g < 48) ∧ ((57 : Int32) < nI g ↔ 57 < g) ∧ (nI g < (97 : Int32) ↔ g < 97) ∧ ((102 : Int32) < nI g ↔ 102 < g) ∧ (nI g < (65 : Int32) ↔ g < 65) ∧ ((70 : Int32) < nI g ↔ 70 < g) := by decide +kernel
theorem hx_v1 : ∀ g, g < 256 → (48 ≤ g ∧ g ≤ 57) → nI g - (48 : Int32) = oI (hxv g) := by decide +kernel
theorem hx_v2 : ∀ g, g < 256 → (97 ≤ g ∧ g ≤ 102) → (nI g - (97 : Int32)) + (10 : Int32) = oI (hxv g) := by decide +kernel
theorem hx_v3 : ∀ g, g < 256 → (65 ≤ g ∧ g ≤ 70) → (nI g - (65 : Int32)) + (10 : Int32) = oI (hxv g) := by decide +kernel
theorem hx_v4 {g : Nat} (h1 : ¬ (48 ≤ g ∧ g ≤ 57)) (h2 : ¬ (97 ≤ g ∧ g ≤ 102)) (h3 : ¬ (65 ≤ g ∧ g ≤ 70)) : (-1 : Int32) = oI (hxv g) := by
  unfold hxv
  rw [if_neg h1, if_neg h2, if_neg h3]; rfl
theorem c_hexC {E : En_t} {d a : Nat} {l : List Nat} {σ : S_t} (hb : Bt l) : CI E d m_Re_hexadecimal [.int (hr l a)] σ (fun r σ' => r = oI (hxd l a) ∧ σ' = σ) := by
  refine CE.of (L := [(0, .int (hr l a))]) rfl (Nat.le_of_ble_eq_true rfl) rfl (b_Re_hexadecimal_0 ?_)
  by_cases h : a < l.length
  · have hg := Bt_gA hb a
    have e : hxd l a = hxv (gA l a) := if_pos h
    rw [hr_lt h, e]
    generalize gA l a = g at hg
    obtain ⟨k1, k2, k3, k4, k5, k6⟩ := hx_key g hg
    have at37 : ¬ (48 ≤ g ∧ g ≤ 57) → ¬ (97 ≤ g ∧ g ≤ 102) → JE E d m_Re_hexadecimal 37 [(0, .int (nI g))] [] σ (fun q σ' => ∃ r, q = some (.int r) ∧ r = oI (hxv g) ∧ σ' = σ) := fun n1 n2 => by
      refine b_Re_hexadecimal_37 ?_
      rw [k5, k6]
      exact ⟨fun q => ⟨_, rfl, hx_v4 n1 n2 (by omega), rfl⟩, fun q => ⟨fun q2 => ⟨_, rfl, hx_v4 n1 n2 (by omega), rfl⟩, fun q2 => ⟨_, rfl, hx_v3 g hg ⟨by omega, by omega⟩, rfl⟩⟩⟩
    have at17 : ¬ (48 ≤ g ∧ g ≤ 57) → JE E d m_Re_hexadecimal 17 [(0, .int (nI g))] [] σ (fun q σ' => ∃ r, q = some (.int r) ∧ r = oI (hxv g) ∧ σ' = σ) := fun n1 => by
      refine b_Re_hexadecimal_17 ?_
      rw [k3, k4]
      exact ⟨fun q => at37 n1 (by omega), fun q => ⟨fun q2 => at37 n1 (by omega), fun q2 => ⟨_, rfl, hx_v2 g hg ⟨by omega, by omega⟩, rfl⟩⟩⟩
    rw [k1, k2]
    exact ⟨fun q => at17 (by omega), fun q => ⟨fun q2 => at17 (by omega), fun q2 => ⟨_, rfl, hx_v1 g hg ⟨by omega, by omega⟩, rfl⟩⟩⟩
  · have e : hxd l a = none := if_neg h
    rw [hr_ge h, e]
    exact ⟨fun _ => b_Re_hexadecimal_17 ⟨fun _ => b_Re_hexadecimal_37 ⟨fun _ => ⟨_, rfl, rfl, rfl⟩, fun q => absurd (by decide) q⟩, fun q => absurd (by decide) q⟩, fun q => absurd (by decide) q⟩
theorem c_hexM {E : En_t} {d a : Nat} {l : List Nat} {σ : S_t} (hb : Bt l) : CI E d m_Mo_hex [.int (hr l a)] σ (fun r σ' => r = oI (hxd l a) ∧ σ' = σ) := by
  refine CE.of (L := [(0, .int (hr l a))]) rfl (Nat.le_of_ble_eq_true rfl) rfl (b_Mo_hex_0 ?_)
  by_cases h : a < l.length
  · have hg := Bt_gA hb a
    have e : hxd l a = hxv (gA l a) := if_pos h
    rw [hr_lt h, e]
    generalize gA l a = g at hg
    obtain ⟨k1, k2, k3, k4, k5, k6⟩ := hx_key g hg
    have at37 : ¬ (48 ≤ g ∧ g ≤ 57) → ¬ (97 ≤ g ∧ g ≤ 102) → JE E d m_Mo_hex 41 [(0, .int (nI g))] [] σ (fun q σ' => ∃ r, q = some (.int r) ∧ r = oI (hxv g) ∧ σ' = σ) := fun n1 n2 => by
      refine b_Mo_hex_41 ?_
      rw [k5, k6]
      exact ⟨fun q => ⟨_, rfl, hx_v4 n1 n2 (by omega), rfl⟩, fun q => ⟨fun q2 => ⟨_, rfl, hx_v4 n1 n2 (by omega), rfl⟩, fun q2 => ⟨_, rfl, hx_v3 g hg ⟨by omega, by omega⟩, rfl⟩⟩⟩
    have at17 : ¬ (48 ≤ g ∧ g ≤ 57) → JE E d m_Mo_hex 19 [(0, .int (nI g))] [] σ (fun q σ' => ∃ r, q = some (.int r) ∧ r = oI (hxv g) ∧ σ' = σ) := fun n1 => by
      refine b_Mo_hex_19 ?_
      rw [k3, k4]
      exact ⟨fun q => at37 n1 (by omega), fun q => ⟨fun q2 => at37 n1 (by omega), fun q2 => ⟨_, rfl, hx_v2 g hg ⟨by omega, by omega⟩, rfl⟩⟩⟩
    rw [k1, k2]
    exact ⟨fun q => at17 (by omega), fun q => ⟨fun q2 => at17 (by omega), fun q2 => ⟨_, rfl, hx_v1 g hg ⟨by omega, by omega⟩, rfl⟩⟩⟩
  · have e : hxd l a = none := if_neg h
    rw [hr_ge h, e]
    exact ⟨fun _ => b_Mo_hex_19 ⟨fun _ => b_Mo_hex_41 ⟨fun _ => ⟨_, rfl, rfl, rfl⟩, fun q => absurd (by decide) q⟩, fun q => absurd (by decide) q⟩, fun q => absurd (by decide) q⟩
/-- n hexadecimals from a on, behind v -/
def unS (l : List Nat) : Nat → Nat → Nat → Option Nat × Nat
  | 0, a, v => (some v, a)
  | n + 1, a, v => match hxd l a with
    | none => (none, a)
    | some h => unS l n (a + 1) (16 * v + h)
theorem unS_no {l : List Nat} {n a v : Nat} (h : hxd l a = none) : unS l (n + 1) a v = (none, a) := by
  show (match hxd l a with | none => (none, a) | some h => unS l n (a + 1) (16 * v + h)) = _
  rw [h]
theorem unS_yes {l : List Nat} {n a v h : Nat} (e : hxd l a = some h) : unS l (n + 1) a v = unS l n (a + 1) (16 * v + h) := by
  show (match hxd l a with | none => (none, a) | some h => unS l n (a + 1) (16 * v + h)) = _
  rw [e]
theorem unS_fit {l : List Nat} : ∀ (n a v : Nat), (v + 1) * 16 ^ n ≤ 65536 → a ≤ l.length → (∀ w, (unS l n a v).1 = some w → w < 65536 ∧ (unS l n a v).2 = a + n) ∧ a ≤ (unS l n a v).2 ∧ (unS l n a v).2 ≤ l.length
  | 0, a, v, h, ha => ⟨fun w e => by cases e; exact ⟨by omega, rfl⟩, Nat.le_refl _, ha⟩
  | n + 1, a, v, h, ha => by
    cases e : hxd l a with
    | none => rw [unS_no e]; exact ⟨fun w q => (by cases q), Nat.le_refl _, ha⟩
    | some x =>
      obtain ⟨x1, x2⟩ := hxd_lt e
      rw [unS_yes e]
      have h' : (16 * v + x + 1) * 16 ^ n ≤ 65536 := by
        have : (16 * v + x + 1) * 16 ^ n ≤ (16 * (v + 1)) * 16 ^ n := Nat.mul_le_mul_right _ (by omega)
        have e2 : (16 * (v + 1)) * 16 ^ n = (v + 1) * 16 ^ (n + 1) := by rw [Nat.pow_succ, Nat.mul_comm 16 (v + 1), Nat.mul_assoc, Nat.mul_comm 16]
        omega
      obtain ⟨i1, i2, i3⟩ := unS_fit n (a + 1) (16 * v + x) h' x2
      exact ⟨fun w q => ⟨(i1 w q).1, by have := (i1 w q).2; omega⟩, by omega, i3⟩
theorem c_unitC {E : En_t} {d a : Nat} {l : List Nat} {σ : S_t} (hT : TpC σ l) (hb : Bt l) (hl : l.length ≤ 2000) (ha : a ≤ l.length) (h9 : gI σ 51 2 = nI a) : CI E (d + 1) m_Re_readUnit [pv E 63] σ (fun r σ' => Fg (fun p k => p = 51 ∧ k = 2) σ σ' ∧ r = oI (unS l 4 a 0).1 ∧ gI σ' 51 2 = nI (unS l 4 a 0).2) := by
  have loop : ∀ (n j b v : Nat) (τ : S_t), j + n = 4 → Fg (fun p k => p = 51 ∧ k = 2) σ τ → gI τ 51 2 = nI b → b ≤ l.length → (v + 1) * 16 ^ n ≤ 65536 → JE E (d + 1) m_Re_readUnit 4 [(0, pv E 63), (1, .int (nI v)), (2, .int (nI j))] [] τ (fun q σ' => ∃ r, q = some (.int r) ∧ Fg (fun p k => p = 51 ∧ k = 2) σ σ' ∧ r = oI (unS l n b v).1 ∧ gI σ' 51 2 = nI (unS l n b v).2) := by
    intro n
    induction n with
    | zero =>
      intro j b v τ hj hF h2 hbl hv
      have : j = 4 := by omega
      subst this
      exact b_Re_readUnit_4 ⟨fun _ => ⟨_, rfl, hF, rfl, h2⟩, fun q => absurd (Int32.le_refl _) q⟩
    | succ n ih =>
      intro j b v τ hj hF h2 hbl hv
      have hT1 : TpC τ l := TpC_fg hF (by omega) (fun k => by omega) hT
      refine b_Re_readUnit_4 ⟨fun q => absurd q (nI_ge (b := 4) (by omega) (by omega)), fun _ => (c_hereC hT1 hb hl (by omega) h2).mono (fun r σ1 hq => ?_)⟩
      obtain ⟨rfl, rfl⟩ := hq
      refine (c_hexC hb).mono (fun r σ2 hq => ?_)
      obtain ⟨rfl, rfl⟩ := hq
      cases e : hxd l b with
      | none => exact ⟨fun q => absurd rfl q, fun _ => ⟨_, rfl, hF, by rw [unS_no e]; rfl, by rw [unS_no e]; exact h2⟩⟩
      | some x =>
        obtain ⟨x1, x2⟩ := hxd_lt e
        have hv16 : v < 4096 := by
          have : (v + 1) * 16 ≤ (v + 1) * 16 ^ (n + 1) := Nat.mul_le_mul_left _ (by rw [Nat.pow_succ]; have := Nat.one_le_pow n 16 (by decide); omega)
          omega
        refine ⟨fun _ => ?_, fun q => (nI_neg1 (show x < 2 ^ 31 by omega) q.symm).elim⟩
        rw [h2, nI_1, nI_1, show (nI v <<< ((4 : Int32) &&& 31)) ||| oI (some x) = nI (16 * v + x) from by
          rw [pk_shlN _ 4 (by decide) (by omega), show v * 2 ^ 4 = 2 ^ 4 * v by omega]
          exact fa_or_sum (k := 4) v x1, unS_yes e]
        refine ih (j + 1) (b + 1) (16 * v + x) _ (by omega) (hF.si ⟨rfl, rfl⟩) (gI_sI_s _ _ _ _) (by omega) ?_
        have : (16 * v + x + 1) * 16 ^ n ≤ (16 * (v + 1)) * 16 ^ n := Nat.mul_le_mul_right _ (by omega)
        have e2 : (16 * (v + 1)) * 16 ^ n = (v + 1) * 16 ^ (n + 1) := by rw [Nat.pow_succ, Nat.mul_comm 16 (v + 1), Nat.mul_assoc, Nat.mul_comm 16]
        omega
  exact CE.of (L := [(0, pv E 63)]) rfl (Nat.le_of_ble_eq_true rfl) rfl (b_Re_readUnit_0 (loop 4 0 a 0 σ (by omega) Fg.rf h9 ha (by decide)))
theorem c_fourM {E : En_t} {d a : Nat} {l : List Nat} {σ : S_t} (hT : TcM σ l) (hb : Bt l) (hl : l.length ≤ 2000) (ha : a ≤ l.length) (h9 : gI σ 0 9 = nI a) : CI E (d + 1) m_Mo_takeFour [pv E 0, .int (nI l.length)] σ (fun r σ' => Fg (fun p k => p = 0 ∧ (k = 9 ∨ k = 56)) σ σ' ∧ gI σ' 0 9 = nI (unS l 4 a 0).2 ∧ ((r = 0 ∧ (unS l 4 a 0).1 = none) ∨ (r = 1 ∧ ∃ v, (unS l 4 a 0).1 = some v ∧ gI σ' 0 56 = nI v))) := by
  have loop : ∀ (n j b v : Nat) (τ : S_t), j + n = 4 → Fg (fun p k => p = 0 ∧ (k = 9 ∨ k = 56)) σ τ → gI τ 0 9 = nI b → gI τ 0 56 = nI v → b ≤ l.length → (v + 1) * 16 ^ n ≤ 65536 → JE E (d + 1) m_Mo_takeFour 7 [(0, pv E 0), (1, .int (nI l.length)), (2, .int (nI j))] [] τ (fun q σ' => ∃ r, q = some (.int r) ∧ Fg (fun p k => p = 0 ∧ (k = 9 ∨ k = 56)) σ σ' ∧ gI σ' 0 9 = nI (unS l n b v).2 ∧ ((r = 0 ∧ (unS l n b v).1 = none) ∨ (r = 1 ∧ ∃ w, (unS l n b v).1 = some w ∧ gI σ' 0 56 = nI w))) := by
    intro n
    induction n with
    | zero =>
      intro j b v τ hj hF h2 h56 hbl hv
      have : j = 4 := by omega
      subst this
      exact b_Mo_takeFour_7 ⟨fun _ => ⟨_, rfl, hF, h2, Or.inr ⟨rfl, v, rfl, h56⟩⟩, fun q => absurd (Int32.le_refl _) q⟩
    | succ n ih =>
      intro j b v τ hj hF h2 h56 hbl hv
      have hT1 : TcM τ l := fun k hk => by rw [hF.1 1 k (by omega)]; exact hT k hk
      refine b_Mo_takeFour_7 ⟨fun q => absurd q (nI_ge (b := 4) (by omega) (by omega)), fun _ => (c_hereM hT1 hl (by omega) h2).mono (fun r σ1 hq => ?_)⟩
      obtain ⟨rfl, rfl⟩ := hq
      refine (c_hexM hb).mono (fun r σ2 hq => ?_)
      obtain ⟨rfl, rfl⟩ := hq
      cases e : hxd l b with
      | none => exact ⟨fun q => absurd q (by decide), fun _ => ⟨_, rfl, hF, by rw [unS_no e]; exact h2, Or.inl ⟨rfl, by rw [unS_no e]⟩⟩⟩
      | some x =>
        obtain ⟨x1, x2⟩ := hxd_lt e
        refine ⟨fun _ => ?_, fun q => absurd (nI_le (a := 0) (Nat.zero_le x) (by omega)) q⟩
        have hv' : (16 * v + x + 1) * 16 ^ n ≤ 65536 := by
          have : (16 * v + x + 1) * 16 ^ n ≤ (16 * (v + 1)) * 16 ^ n := Nat.mul_le_mul_right _ (by omega)
          have e2 : (16 * (v + 1)) * 16 ^ n = (v + 1) * 16 ^ (n + 1) := by rw [Nat.pow_succ, Nat.mul_comm 16 (v + 1), Nat.mul_assoc, Nat.mul_comm 16]
          omega
        have e56 : ((16 : Int32) * nI v) + oI (some x) = nI (16 * v + x) := by
          rw [show (16 : Int32) * nI v = nI (16 * v) from pk_mul 16 v]; exact nI_add _ _
        rw [h56, e56, gI_sI_n (Or.inr (by decide)), h2, nI_1, nI_1, unS_yes e]
        exact ih (j + 1) (b + 1) (16 * v + x) _ (by omega) ((hF.si ⟨rfl, Or.inr rfl⟩).si ⟨rfl, Or.inl rfl⟩) (gI_sI_s _ _ _ _) (by rw [gI_sI_n (Or.inr (by decide))]; exact gI_sI_s _ _ _ _) (by omega) hv'
  refine CE.of (L := [(0, pv E 0), (1, .int (nI l.length))]) rfl (Nat.le_of_ble_eq_true rfl) rfl (b_Mo_takeFour_0 ?_)
  exact loop 4 0 a 0 _ (by omega) (Fg.rf.si ⟨rfl, Or.inr rfl⟩) (by rw [gI_sI_n (Or.inr (by decide))]; exact h9) (gI_sI_s _ _ _ _) ha (by decide)
