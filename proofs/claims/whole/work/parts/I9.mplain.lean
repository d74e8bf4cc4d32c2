/-! the model's plain values -/
def PlM (n : Nat) : Nat → Nat → Prop := fun p k => (p = 0 ∧ (k = 6 ∨ k = 7 ∨ k = 9 ∨ k = 10 ∨ k = 41 ∨ k = 42 ∨ k = 44 ∨ k = 56)) ∨ p = 3 ∨ p = 4 ∨ p = 39 ∨ ((36 ≤ p ∧ p ≤ 38) ∧ k = n)
def RpM (σ σ' : S_t) (n K : Nat) (r : Int32) (z : Rz) : Prop := match z with
  | Sum.inl f => r = 0 ∧ gI σ' 0 41 = nI f.1 ∧ gI σ' 0 42 = nI f.2
  | Sum.inr s => r = 1 ∧ gI σ' 0 9 = nI s.1 ∧ gI σ' 0 41 = 0 ∧ gI σ' 0 42 = gI σ 0 42 ∧ RlM σ' s.2.2.2.2.1 ∧ (K = 4 → gI σ' 36 n = nI (rTa s.2.2.2.1 n) ∧ gI σ' 37 n = nI (rTx s.2.2.2.1 n).length) ∧ (K = 3 → gL σ' 38 n = lN (rBi s.2.2.2.1 n))
theorem bo_01 (b : Bool) : narrow .boolean (.int (bo b)) = .int (bo b) := by cases b <;> rfl
theorem c_plainM {E : En_t} {d p na : Nat} {l : List Nat} {num : Nat → Option Nat × Nat} {ins : Option Nat} {R : Nds} {L nm : List Nat} {σ : S_t} (hw : Wrd σ) (hT : TcM σ l) (hb : Bt l) (hl : l.length ≤ 2000) (hN : NumS l num) (hp : p < l.length) (h0 : 0 < R.1) (h5 : R.1 ≤ 500) (hk : kdb l p = some (rK R (R.1 - 1))) (hk4 : rK R (R.1 - 1) ≤ 4) (h9 : gI σ 0 9 = nI p) (h41 : gI σ 0 41 = 0) (hR : RlM σ L) (hL : bls L ≤ p) : CI E (d + 5) m_Mo_takePlain [pv E 0, .int (nI l.length), .int (nI (R.1 - 1))] σ (fun r σ' => Fg (PlM (R.1 - 1)) σ σ' ∧ RpM σ σ' (R.1 - 1) (rK R (R.1 - 1)) r (reA l num p ins R L na nm)) := by
  have cn : (nI (R.1 - 1)).toNatClampNeg = R.1 - 1 := nI_clamp (by omega)
  have vn : vp_in (nI (R.1 - 1)) 500 := vin (by omega) (by decide)
  have kc : ∀ c, c < 256 → (hr l p = nI c ↔ Chr l p c) := fun c hc => hr_chr hb (by omega)
  have one : ∀ c c', c ≠ c' → Chr l p c → ¬ Chr l p c' := fun c c' h a b => h (by rw [← a.2, b.2])
  refine CE.of (L := [(0, pv E 0), (1, .int (nI l.length)), (2, .int (nI (R.1 - 1)))]) rfl (Nat.le_of_ble_eq_true rfl) rfl (b_Mo_takePlain_0 (d := d + 4) ((c_hereM hT hl (by omega) h9).mono (fun r2 σ1 hq => ?_)))
  obtain ⟨rfl, rfl⟩ := hq
  rw [show hr l p = (34 : Int32) ↔ Chr l p 34 from kc 34 (by decide), show hr l p = (110 : Int32) ↔ Chr l p 110 from kc 110 (by decide), show hr l p = (102 : Int32) ↔ Chr l p 102 from kc 102 (by decide), show hr l p = (116 : Int32) ↔ Chr l p 116 from kc 116 (by decide), cn]
  have word : ∀ w f n, w < 3 → rK R (R.1 - 1) = w → lenS.getD w 0 = n → wof w = f → f + n ≤ 13 → CI E (d + 4) m_Mo_takeWord [pv E 0, .int (nI l.length), .int (nI f), .int (nI n)] σ1 (fun r σ' => narrow .boolean (.int r) = .int r ∧ ∃ x, some (Value.int r) = some (.int x) ∧ Fg (PlM (R.1 - 1)) σ1 σ' ∧ RpM σ1 σ' (R.1 - 1) (rK R (R.1 - 1)) x (reA l num p ins R L na nm)) := by
    intro w f n hw3 hK hn hf hfn
    refine (c_wordM (d := d + 3) hw hfn hT hb hl (by omega) h9 h41).mono (fun r σ' hq => ?_)
    obtain ⟨F1, rfl, hq⟩ := hq
    refine ⟨bo_01 _, _, rfl, F1.mono (fun p k z => by unfold PlM; omega), ?_⟩
    unfold reA
    rw [if_neg (by omega), if_neg (by omega), hK, hn, hf]
    rcases hq with ⟨q1, q2, q3, q4⟩ | ⟨q1, q2, q3⟩
    · rw [if_pos q1, q1]
      exact ⟨rfl, q2, q3, q4, RlM_fg F1 (by omega) (fun k => by omega) hR, fun y => by omega, fun y => by omega⟩
    · rw [if_neg (by rw [q1]; decide), q1]
      exact ⟨rfl, q2, q3⟩
  refine ⟨fun n34 => ⟨fun n110 => ⟨fun n102 => ⟨fun n116 => ?_, fun y116 => ?_⟩, fun y102 => ?_⟩, fun y110 => ?_⟩, fun y34 => ⟨vn, ?_⟩⟩
  · -- a number
    have hK : rK R (R.1 - 1) = 3 := by
      unfold kdb at hk
      rw [if_neg n34] at hk
      by_cases z1 : Chr l p 91
      · rw [if_pos z1] at hk; have := Option.some.inj hk; omega
      · rw [if_neg z1] at hk
        by_cases z2 : Chr l p 123
        · rw [if_pos z2] at hk; have := Option.some.inj hk; omega
        · rw [if_neg z2, if_neg n110, if_neg n102, if_neg n116] at hk
          by_cases z3 : Chr l p 45 ∨ Dgt l p
          · rw [if_pos z3] at hk; exact (Option.some.inj hk).symm
          · rw [if_neg z3] at hk; cases hk
    unfold reA
    rw [if_neg (by omega), if_pos hK]
    obtain ⟨hN1, hN2⟩ := hN p (by omega)
    refine (c_takeNumeral (d := d) hT hb hl (by omega) h9).mono (fun r4 σ3 hq => ?_)
    obtain ⟨F3, hq⟩ := hq
    have n41 : gI σ3 0 41 = 0 := by rw [F3.1 0 41 (by unfold MNm; omega)]; exact h41
    have R3 : RlM σ3 L := RlM_fg F3 (by unfold MNm; omega) (fun k => by unfold MNm; omega) hR
    have F3' : Fg (PlM (R.1 - 1)) σ1 σ3 := F3.mono (fun p k z => by unfold MNm at z; unfold PlM; omega)
    rcases hq with ⟨rfl, b, hf, a9⟩ | ⟨rfl, ho, a9, hV⟩
    · rw [hN1 b hf]
      refine ⟨fun z => absurd rfl z, fun _ => ?_⟩
      rw [a9]
      refine (c_wrongM (f := 1) n41).mono (fun r σ' hq => ?_)
      obtain ⟨rfl, F4, q1, q2⟩ := hq
      exact ⟨rfl, _, rfl, F3'.tr (F4.mono (fun p k z => by unfold PlM; omega)), rfl, q1, q2⟩
    · obtain ⟨B, b1, b2, b3⟩ := hN2 ho _ hV
      rw [b3, b2]
      simp only []
      refine ⟨fun _ => (c_isNumM (d := d + 4) b1).mono (fun r6 σ5 hq => ?_), fun z => absurd z (by decide)⟩
      obtain ⟨rfl, rfl⟩ := hq
      by_cases hnum : isN (B % 2 ^ 63) = true
      · rw [if_pos hnum, hnum]
        refine ⟨fun _ => ⟨vn, _, rfl, F3'.sl (Or.inr (Or.inr (Or.inr (Or.inr ⟨⟨by decide, by decide⟩, rfl⟩)))), rfl, a9, n41, F3.1 0 42 (by unfold MNm; omega), ⟨R3.1, R3.2⟩, fun y => by omega, fun _ => ?_⟩, fun z => absurd z (by decide)⟩
        show gL _ 38 (R.1 - 1) = lN (rBi (fil R 0 [] B) (R.1 - 1))
        rw [gL_sL_s, (fil_n R 0 [] B).2.2, b2]
      · have hnum' : isN (B % 2 ^ 63) = false := by simpa using hnum
        rw [if_neg hnum, hnum']
        refine ⟨fun z => absurd rfl z, fun _ => ?_⟩
        rw [h9]
        refine (c_wrongM (f := 2) n41).mono (fun r σ' hq => ?_)
        obtain ⟨rfl, F4, q1, q2⟩ := hq
        exact ⟨rfl, _, rfl, F3'.tr (F4.mono (fun p k z => by unfold PlM; omega)), rfl, q1, q2⟩
  · have e : kdb l p = some 2 := by unfold kdb; rw [if_neg (one 116 34 (by decide) y116), if_neg (one 116 91 (by decide) y116), if_neg (one 116 123 (by decide) y116), if_neg (one 116 110 (by decide) y116), if_neg (one 116 102 (by decide) y116), if_pos y116]
    rw [e] at hk
    exact word 2 9 4 (by decide) (Option.some.inj hk).symm rfl rfl (by decide)
  · have e : kdb l p = some 1 := by unfold kdb; rw [if_neg (one 102 34 (by decide) y102), if_neg (one 102 91 (by decide) y102), if_neg (one 102 123 (by decide) y102), if_neg (one 102 110 (by decide) y102), if_pos y102]
    rw [e] at hk
    exact word 1 4 5 (by decide) (Option.some.inj hk).symm rfl rfl (by decide)
  · have e : kdb l p = some 0 := by unfold kdb; rw [if_neg (one 110 34 (by decide) y110), if_neg (one 110 91 (by decide) y110), if_neg (one 110 123 (by decide) y110), if_pos y110]
    rw [e] at hk
    exact word 0 0 4 (by decide) (Option.some.inj hk).symm rfl rfl (by decide)
  · -- a string
    have e : kdb l p = some 4 := if_pos y34
    rw [e] at hk
    have hK : rK R (R.1 - 1) = 4 := (Option.some.inj hk).symm
    unfold reA
    rw [if_pos hK, hR.1]
    have F2 : Fg (fun p k => p = 36 ∧ k = R.1 - 1) σ1 (sI σ1 36 (R.1 - 1) (nI L.length)) := Fg.rf.si ⟨rfl, rfl⟩
    refine (c_strM (d := d + 1) (TcM_fg F2 (fun k => by omega) hT) hb hl hp (by rw [gI_sI_n (Or.inl (by decide))]; exact h9) (RlM_fg F2 (by omega) (fun k => by omega) hR) (by omega) (by rw [gI_sI_n (Or.inl (by decide))]; exact h41)).mono (fun r σ3 hq => ?_)
    obtain ⟨F3, hq⟩ := hq
    have FR3 : Fg (PlM (R.1 - 1)) σ1 σ3 := (F2.mono (fun p k z => by unfold PlM; omega)).tr (F3.mono (fun p k z => by unfold MTs MEs at z; unfold PlM; omega))
    rcases hq with ⟨L', s1, rfl, s2, s3, s4, s5⟩ | ⟨s1, rfl, s2, s3⟩
    · obtain ⟨t, rfl, lt, ft⟩ := (srS_fit hb 2000 (p + 1) L (by omega)).2 L' s1
      rw [s1]
      simp only []
      have t36 : gI σ3 36 (R.1 - 1) = nI L.length := by rw [F3.1 36 _ (by unfold MTs MEs; omega), gI_sI_s]
      rw [List.drop_left, s2.1, List.length_append, t36, fs_sub]
      have F4 : Fg (fun p k => p = 37 ∧ k = R.1 - 1) σ3 (sI σ3 37 (R.1 - 1) (nI t.length)) := Fg.rf.si ⟨rfl, rfl⟩
      refine ⟨fun _ => ⟨vn, vn, _, rfl, FR3.tr (F4.mono (fun p k z => by unfold PlM; omega)), rfl, ?_, ?_, ?_, RlM_fg F4 (by omega) (fun k => by omega) s2, fun _ => ⟨?_, ?_⟩, fun y => by omega⟩, fun z => absurd z (by decide)⟩
      · rw [gI_sI_n (Or.inl (by decide))]; exact s3
      · rw [gI_sI_n (Or.inl (by decide))]; exact s4
      · rw [gI_sI_n (Or.inl (by decide)), s5, gI_sI_n (Or.inl (by decide))]
      · show _ = nI (rTa (fil R L.length t 0) (R.1 - 1))
        rw [gI_sI_n (Or.inl (by decide)), t36, (fil_n R L.length t 0).1]
      · show _ = nI (rTx (fil R L.length t 0) (R.1 - 1)).length
        rw [gI_sI_s, (fil_n R L.length t 0).2.1]
    · rw [s1]
      exact ⟨fun z => absurd rfl z, fun _ => ⟨_, rfl, FR3, rfl, s2, s3⟩⟩
theorem ruA_up {l : List Nat} {num : Nat → Option Nat × Nat} : ∀ {n : Nat} {s : St} {z : Rz}, ruA l num n s = some z → ruA l num (n + 1) s = some z := by
  intro n
  induction n with
  | zero =>
    intro s z h
    have h' : (if s.2.1 = 7 then some (Sum.inr s) else none) = some z := h
    show (if s.2.1 = 7 then some (Sum.inr s) else _) = some z
    by_cases h7 : s.2.1 = 7
    · rw [if_pos h7] at h' ⊢; exact h'
    · rw [if_neg h7] at h'; cases h'
  | succ n ih =>
    intro s z h
    have h' : (if s.2.1 = 7 then some (Sum.inr s) else match stA l num s with | Sum.inl f => some (Sum.inl f) | Sum.inr s' => ruA l num n s') = some z := by rw [← h]; show _ = (if _ then _ else _); split <;> first | rfl | (cases stA l num s <;> rfl)
    show (if s.2.1 = 7 then some (Sum.inr s) else match stA l num s with | Sum.inl f => some (Sum.inl f) | Sum.inr s' => ruA l num (n + 1) s') = some z
    by_cases h7 : s.2.1 = 7
    · rw [if_pos h7] at h' ⊢; exact h'
    · rw [if_neg h7] at h' ⊢
      cases hs : stA l num s with
      | inl f => rw [hs] at h'; exact h'
      | inr s' => rw [hs] at h'; exact ih h'
theorem ruA_st {l : List Nat} {num : Nat → Option Nat × Nat} {s : St} (hb : Bt l) (hO : NumO l num) (hI : InS l s) (hm : mu l s.1 s.2.1 ≤ 4001) (h7 : s.2.1 ≠ 7) : (∀ f, stA l num s = Sum.inl f → ruA l num 4001 s = some (Sum.inl f)) ∧ ∀ s', stA l num s = Sum.inr s' → ruA l num 4001 s = ruA l num 4001 s' ∧ InS l s' ∧ mu l s'.1 s'.2.1 < mu l s.1 s.2.1 := by
  refine ⟨fun f e => ?_, fun s' e => ?_⟩
  · show (if s.2.1 = 7 then _ else _) = _
    rw [if_neg h7, e]
  · obtain ⟨i1, i2⟩ := stA_in hb hO hI h7 e
    refine ⟨?_, i1, i2⟩
    have a : ruA l num 4001 s = ruA l num 4000 s' := by
      show (if s.2.1 = 7 then _ else _) = _
      rw [if_neg h7, e]
    obtain ⟨⟨z, hz⟩, _⟩ := ruA_in hb hO 4000 s' i1 (by omega)
    rw [a, hz, ruA_up hz]
