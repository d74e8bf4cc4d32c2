def TK : Nat := 10 ^ 20000
theorem TK_pos : 0 < TK := Nat.pow_pos (by decide)
theorem tk_up (j : Nat) : 10 ^ (20000 + j) = TK * 10 ^ j := by rw [Nat.pow_add]; rfl
theorem tk_dn {j : Nat} (h : j ≤ 20000) : 10 ^ (20000 - j) * 10 ^ j = TK := by rw [← Nat.pow_add, show 20000 - j + j = 20000 by omega]; rfl
theorem Nrm.sv_lo {σ : S_t} {N n : Nat} {pt : Int} (h : Nrm σ N n pt) (hp : -20000 ≤ pt - n) : 10 ^ (pt - 1 + 20000).toNat ≤ SV N n pt := by
  have h1 := h.lo
  have h0 := h.2.1
  unfold SV
  have := Nat.mul_le_mul_right (10 ^ (pt - n + 20000).toNat) h1
  rw [← Nat.pow_add, show n - 1 + (pt - n + 20000).toNat = (pt - 1 + 20000).toNat by omega] at this
  exact this
theorem Nrm.sv_hi {σ : S_t} {N n : Nat} {pt : Int} (h : Nrm σ N n pt) (hp : -20000 ≤ pt - n) : SV N n pt < 10 ^ (pt + 20000).toNat := by
  have h1 := h.hi
  unfold SV
  have := Nat.mul_lt_mul_of_pos_right h1 (p10 (pt - n + 20000).toNat)
  rw [← Nat.pow_add, show n + (pt - n + 20000).toNat = (pt + 20000).toNat by omega] at this
  exact this
theorem Nrm.pt_le {σ : S_t} {N n : Nat} {pt : Int} {q : Int} (h : Nrm σ N n pt) (hp : -20000 ≤ pt - n) (hq : -20000 ≤ q) (hv : SV N n pt < 10 ^ (q + 20000).toNat) : pt ≤ q := by
  have h1 := Nat.lt_of_le_of_lt (h.sv_lo hp) hv
  have := (Nat.pow_lt_pow_iff_right (a := 10) (by decide)).mp h1
  have := h.2.1
  omega
theorem dby_loop {E : En_t} {d : Nat} {Q : Option Value → S_t → Prop} (σ0 : S_t) (X s0 n0 : Nat) (p0 : Int) (hn0 : n0 + s0 ≤ 5980) (hp0 : -9000 ≤ p0) (hp1 : p0 + 7 * s0 ≤ 9900)
    (hQ : ∀ σ' N n pt, Fs MP σ0 σ' → Nrm σ' N n pt → SV N n pt = X → n ≤ n0 + s0 → p0 ≤ pt → pt ≤ p0 + 7 * s0 → Q none σ') :
    ∀ (s : Nat) (N n : Nat) (pt : Int) (σ : S_t), s ≤ s0 → Fs MP σ0 σ → Nrm σ N n pt → SV N n pt * 2 ^ s = X → n ≤ n0 + (s0 - s) → p0 ≤ pt → pt ≤ p0 + 7 * ((s0 - s : Nat) : Int) → JE E (d + 2) m_Mo_doubledBy 2 [(0, pv E 0), (2, .int (nI s))] [] σ Q := by
  intro s
  induction s using Nat.strongRecOn with
  | _ s ih =>
    intro N n pt σ hs hF hN hX hn hpl hph
    have h6 : gI σ 0 6 = nI n := hN.1.1
    have hn1 := hN.2.1
    refine b_Mo_doubledBy_2 ⟨fun h => ?_, fun h => ⟨fun h2 => absurd h2 (by rw [h6]; exact nI_nle (by omega) (by omega)), fun _ => ⟨fun h3 => ?_, fun h3 => ?_⟩⟩⟩
    · have : s = 0 := by
        rcases Nat.eq_zero_or_pos s with g | g
        · exact g
        · exact absurd h (nI_nle g (by omega))
      subst this
      rw [Nat.pow_zero, Nat.mul_one] at hX
      exact hQ σ N n pt hF hN hX (by omega) hpl (by omega)
    · have h3 : 20 ≤ s := (nI_leI (a := 20) (by omega) (by omega)).mp h3
      refine b_Mo_doubledBy_25 ((c_doubled (s := 20) hN (by omega) (by omega) (by omega) (by omega) (by omega)).mono (fun σ1 hq => ?_))
      obtain ⟨F1, N', n', pt', g1, g2, g3, g4, g5⟩ := hq
      have e : nI s - (20 : Int32) = nI (s - 20) := pk_sub (b := 20) h3
      rw [e]
      refine ih (s - 20) (by omega) N' n' pt' σ1 (by omega) (hF.tr F1) g1 ?_ (by omega) (by omega) (by omega)
      rw [g2, Nat.mul_assoc, ← Nat.pow_add, show 20 + (s - 20) = s by omega]; exact hX
    · have h3 : s < 20 := by
        rcases Nat.lt_or_ge s 20 with g | g
        · exact g
        · exact absurd (nI_le (a := 20) g (by omega)) h3
      have hs0 : 0 < s := by
        rcases Nat.eq_zero_or_pos s with g | g
        · subst g; exact absurd (Int32.le_refl _) h
        · exact g
      refine b_Mo_doubledBy_25 ((c_doubled hN (by omega) (by omega) (by omega) (by omega) (by omega)).mono (fun σ1 hq => ?_))
      obtain ⟨F1, N', n', pt', g1, g2, g3, g4, g5⟩ := hq
      have e : nI s - nI s = nI 0 := by rw [pk_sub (Nat.le_refl _), Nat.sub_self]
      rw [e]
      refine ih 0 hs0 N' n' pt' σ1 (by omega) (hF.tr F1) g1 ?_ (by omega) (by omega) (by omega)
      rw [g2, Nat.pow_zero, Nat.mul_one]; exact hX
theorem c_doubledBy {E : En_t} {d N n s : Nat} {pt : Int} {σ : S_t} (h : Nrm σ N n pt) (hn : n + s ≤ 5980) (hp0 : -9000 ≤ pt) (hp1 : pt + 7 * s ≤ 9900) : CV E (d + 2) m_Mo_doubledBy [pv E 0, .int (nI s)] σ (fun σ' => Fs MP σ σ' ∧ ∃ N' n' pt', Nrm σ' N' n' pt' ∧ SV N' n' pt' = SV N n pt * 2 ^ s ∧ n' ≤ n + s ∧ pt ≤ pt' ∧ pt' ≤ pt + 7 * s) := by
  refine CE.of (L := [(0, pv E 0), (1, .int (nI s))]) rfl (Nat.le_of_ble_eq_true rfl) rfl (b_Mo_doubledBy_0 ?_)
  exact dby_loop σ (SV N n pt * 2 ^ s) s n pt hn hp0 hp1 (fun σ' N' n' pt' g1 g2 g3 g4 g5 g6 => ⟨rfl, g1, N', n', pt', g2, g3, g4, g5, g6⟩) s N n pt σ (Nat.le_refl _) Fs.rf h rfl (by omega) (by omega) (by omega)
theorem hby_loop {E : En_t} {d : Nat} {Q : Option Value → S_t → Prop} (σ0 : S_t) (X s0 n0 : Nat) (p0 : Int) (hn0 : n0 + s0 ≤ 5980) (hp0 : p0 ≤ 9900) (hp1 : -9900 ≤ p0 - 7 * s0)
    (hQ : ∀ σ' N n pt, Fs MP σ0 σ' → Nrm σ' N n pt → SV N n pt * 2 ^ s0 = X → n ≤ n0 + s0 → pt ≤ p0 → p0 - 7 * s0 ≤ pt → Q none σ') :
    ∀ (s : Nat) (N n : Nat) (pt : Int) (σ : S_t), s ≤ s0 → Fs MP σ0 σ → Nrm σ N n pt → SV N n pt * 2 ^ (s0 - s) = X → n ≤ n0 + (s0 - s) → pt ≤ p0 → p0 - 7 * ((s0 - s : Nat) : Int) ≤ pt → JE E (d + 2) m_Mo_halvedBy 2 [(0, pv E 0), (2, .int (nI s))] [] σ Q := by
  intro s
  induction s using Nat.strongRecOn with
  | _ s ih =>
    intro N n pt σ hs hF hN hX hn hpl hph
    have h6 : gI σ 0 6 = nI n := hN.1.1
    have hn1 := hN.2.1
    refine b_Mo_halvedBy_2 ⟨fun h => ?_, fun h => ⟨fun h2 => absurd h2 (by rw [h6]; exact nI_nle (by omega) (by omega)), fun _ => ⟨fun h3 => ?_, fun h3 => ?_⟩⟩⟩
    · have : s = 0 := by
        rcases Nat.eq_zero_or_pos s with g | g
        · exact g
        · exact absurd h (nI_nle g (by omega))
      subst this
      exact hQ σ N n pt hF hN hX (by omega) hpl (by omega)
    · have h3 : 20 ≤ s := (nI_leI (a := 20) (by omega) (by omega)).mp h3
      refine b_Mo_halvedBy_25 ((c_halved (s := 20) hN (by omega) (by omega) (by omega) (by omega) (by omega)).mono (fun σ1 hq => ?_))
      obtain ⟨F1, N', n', pt', g1, g2, g3, g4, g5⟩ := hq
      have e : nI s - (20 : Int32) = nI (s - 20) := pk_sub (b := 20) h3
      rw [e]
      refine ih (s - 20) (by omega) N' n' pt' σ1 (by omega) (hF.tr F1) g1 ?_ (by omega) (by omega) (by omega)
      rw [← hX, ← g2, Nat.mul_assoc, ← Nat.pow_add]; congr 2; omega
    · have h3 : s < 20 := by
        rcases Nat.lt_or_ge s 20 with g | g
        · exact g
        · exact absurd (nI_le (a := 20) g (by omega)) h3
      have hs0 : 0 < s := by
        rcases Nat.eq_zero_or_pos s with g | g
        · subst g; exact absurd (Int32.le_refl _) h
        · exact g
      refine b_Mo_halvedBy_25 ((c_halved hN (by omega) (by omega) (by omega) (by omega) (by omega)).mono (fun σ1 hq => ?_))
      obtain ⟨F1, N', n', pt', g1, g2, g3, g4, g5⟩ := hq
      have e : nI s - nI s = nI 0 := by rw [pk_sub (Nat.le_refl _), Nat.sub_self]
      rw [e]
      refine ih 0 hs0 N' n' pt' σ1 (by omega) (hF.tr F1) g1 ?_ (by omega) (by omega) (by omega)
      rw [← hX, ← g2, Nat.mul_assoc, ← Nat.pow_add]; congr 2; omega
theorem c_halvedBy {E : En_t} {d N n s : Nat} {pt : Int} {σ : S_t} (h : Nrm σ N n pt) (hn : n + s ≤ 5980) (hp0 : pt ≤ 9900) (hp1 : -9900 ≤ pt - 7 * s) : CV E (d + 2) m_Mo_halvedBy [pv E 0, .int (nI s)] σ (fun σ' => Fs MP σ σ' ∧ ∃ N' n' pt', Nrm σ' N' n' pt' ∧ SV N' n' pt' * 2 ^ s = SV N n pt ∧ n' ≤ n + s ∧ pt' ≤ pt ∧ pt - 7 * s ≤ pt') := by
  refine CE.of (L := [(0, pv E 0), (1, .int (nI s))]) rfl (Nat.le_of_ble_eq_true rfl) rfl (b_Mo_halvedBy_0 ?_)
  exact hby_loop σ (SV N n pt) s n pt hn hp0 hp1 (fun σ' N' n' pt' g1 g2 g3 g4 g5 g6 => ⟨rfl, g1, N', n', pt', g2, g3, g4, g5, g6⟩) s N n pt σ (Nat.le_refl _) Fs.rf h (by rw [Nat.sub_self, Nat.pow_zero, Nat.mul_one]) (by omega) (by omega) (by omega)
/-! rounding to the nearest, of two the even one -/
def rhe (a b : Nat) : Nat := if 2 * (a % b) < b then a / b else if b < 2 * (a % b) then a / b + 1 else a / b + a / b % 2
theorem rhe_scale {a b k : Nat} (hk : 0 < k) : rhe (a * k) (b * k) = rhe a b := by
  unfold rhe
  rw [Nat.mul_mod_mul_right, Nat.mul_div_mul_right _ _ hk, ← Nat.mul_assoc]
  have e1 : (2 * (a % b) * k < b * k) ↔ (2 * (a % b) < b) := Nat.mul_lt_mul_right hk
  have e2 : (b * k < 2 * (a % b) * k) ↔ (b < 2 * (a % b)) := Nat.mul_lt_mul_right hk
  simp only [e1, e2]
/-- 2^L ≤ X / 10^20000 < 2^(L+1) -/
def lg2 (X : Nat) (L : Int) : Prop := TK * 2 ^ L.toNat ≤ X * 2 ^ (-L).toNat ∧ X * 2 ^ (-(L + 1)).toNat < TK * 2 ^ (L + 1).toNat
def uOf (L : Int) : Int := max (L - 52) (-1074)
/-- the bits that the value X / 10^20000 is read as -/
def RdB (X b : Nat) : Prop := ∃ L, lg2 X L ∧ ((1023 < L ∧ b = 9218868437227405312) ∨ (L ≤ 1023 ∧ b = rhe (X * 2 ^ (-(uOf L)).toNat) (TK * 2 ^ (uOf L).toNat) + (uOf L + 1074).toNat * 2 ^ 52))
