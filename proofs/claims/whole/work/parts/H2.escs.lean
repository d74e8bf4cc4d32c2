def shE (b : Nat) : Option Nat := if b = 34 ∨ b = 92 ∨ b = 47 then some b else if b = 98 then some 8 else if b = 102 then some 12 else if b = 110 then some 10 else if b = 114 then some 13 else if b = 116 then some 9 else none
def esP (l : List Nat) (v e : Nat) : Option Nat × Nat := if ¬ Chr l e 92 then (none, e) else if ¬ Chr l (e + 1) 117 then (none, e + 1) else (match unS l 4 (e + 2) 0 with
  | (none, e2) => (none, e2)
  | (some w, e2) => if w < 56320 ∨ 57344 ≤ w then (none, e2 - 1) else (some (65536 + (v - 55296) * 1024 + (w - 56320)), e2))
def esU (l : List Nat) (a : Nat) : Option Nat × Nat := match unS l 4 a 0 with
  | (none, e) => (none, e)
  | (some v, e) => if v < 55296 ∨ 57344 ≤ v then (some v, e) else if 56320 ≤ v then (none, e - 1) else esP l v e
def esS (l : List Nat) (p : Nat) : Option Nat × Nat := match (if p < l.length then shE (gA l p) else none) with
  | some c => (some c, p + 1)
  | none => (none, p)
/-- what the escape whose backslash stands at a says, and where it ends, or where it is wrong -/
def esR (l : List Nat) (a : Nat) : Option Nat × Nat := if Chr l (a + 1) 117 then esU l (a + 2) else esS l (a + 1)
theorem esU_n {l : List Nat} {a e : Nat} (h : unS l 4 a 0 = (none, e)) : esU l a = (none, e) := by unfold esU; rw [h]
theorem esU_s {l : List Nat} {a e v : Nat} (h : unS l 4 a 0 = (some v, e)) : esU l a = if v < 55296 ∨ 57344 ≤ v then (some v, e) else if 56320 ≤ v then (none, e - 1) else esP l v e := by unfold esU; rw [h]
theorem esP_n {l : List Nat} {v e e2 : Nat} (h1 : Chr l e 92) (h2 : Chr l (e + 1) 117) (h : unS l 4 (e + 2) 0 = (none, e2)) : esP l v e = (none, e2) := by unfold esP; rw [if_neg (fun z => z h1), if_neg (fun z => z h2), h]
theorem esP_s {l : List Nat} {v e e2 w : Nat} (h1 : Chr l e 92) (h2 : Chr l (e + 1) 117) (h : unS l 4 (e + 2) 0 = (some w, e2)) : esP l v e = if w < 56320 ∨ 57344 ≤ w then (none, e2 - 1) else (some (65536 + (v - 55296) * 1024 + (w - 56320)), e2) := by unfold esP; rw [if_neg (fun z => z h1), if_neg (fun z => z h2), h]
theorem sh_a : ∀ k, k < 8 → ∀ b, b < 256 → (bytS.getD 3 []).getD k 0 = nI b → oI (shE b) = tabV 2 k ∧ shE b ≠ none := by decide +kernel
theorem sh_b : ∀ b, b < 256 → (∀ j, j < 8 → ¬ (bytS.getD 3 []).getD j 0 = nI b) → shE b = none := by decide +kernel
theorem sh_c : ∀ b, b < 256 → ((nI b).toUInt32 % 65536).toInt32 = nI b := by decide +kernel
theorem c_shortC {E : En_t} {d p : Nat} {l : List Nat} {σ : S_t} (hb : Bt l) (hl : l.length ≤ 2000) (hp : p ≤ l.length) (h9 : gI σ 51 2 = nI p) : CI E (d + 4) m_Re_readShortEscape [pv E 63, .int (hr l p)] σ (fun r σ' => Fg (fun p k => p = 51 ∧ k = 2) σ σ' ∧ r = oI (esS l p).1 ∧ gI σ' 51 2 = nI (esS l p).2) := by
  refine CE.of (L := [(0, pv E 63), (1, .int (hr l p))]) rfl (Nat.le_of_ble_eq_true rfl) rfl (b_Re_readShortEscape_0 (d := d + 3) ?_)
  by_cases h : p < l.length
  · have hg := Bt_gA hb p
    have eS : esS l p = (match shE (gA l p) with | some c => (some c, p + 1) | none => (none, p)) := by unfold esS; rw [if_pos h]
    rw [hr_lt h, eS]
    generalize gA l p = g at hg
    refine ⟨fun _ => ?_, fun q => (nI_neg1 (show g < 2 ^ 31 by omega) q.symm).elim⟩
    rw [sh_c g hg]
    refine (c_indexOf (d := d) (w := 3) (by decide) hg).mono (fun r σ1 hq => ?_)
    obtain ⟨hF, rfl⟩ := hq
    rcases hF with ⟨k, hk, e, rfl⟩ | ⟨hno, rfl⟩
    · have hk8 : k < 8 := hk
      obtain ⟨e1, e2⟩ := sh_a k hk8 g hg e
      refine b_Re_readShortEscape_16 (d := d + 3) ⟨fun q => absurd q (nI_nn (by omega)), fun _ => ⟨fun _ => ⟨vin hk8 (by decide), ?_⟩, fun q => absurd (nI_lt (b := 8) hk8 (by decide)) q⟩⟩
      rw [nI_clamp (by omega), h9, nI_1]
      cases es : shE g with
      | none => exact absurd es e2
      | some c =>
        rw [es] at e1
        exact ⟨_, rfl, Fg.rf.si ⟨rfl, rfl⟩, e1.symm, gI_sI_s _ _ _ _⟩
    · rw [sh_b g hg hno]
      exact b_Re_readShortEscape_16 (d := d + 3) ⟨fun _ => ⟨_, rfl, Fg.rf, rfl, h9⟩, fun q => absurd (by decide) q⟩
  · have eS : esS l p = (none, p) := by unfold esS; rw [if_neg h]
    rw [hr_ge h, eS]
    exact ⟨fun q => absurd rfl q, fun _ => b_Re_readShortEscape_16 (d := d + 3) ⟨fun _ => ⟨_, rfl, Fg.rf, rfl, h9⟩, fun q => absurd (by decide) q⟩⟩
theorem pair_val {v w : Nat} (h1 : 55296 ≤ v) (h2 : v < 56320) (h3 : 56320 ≤ w) (h4 : w < 57344) : (((65536 : Int32) + ((nI v - (55296 : Int32)) <<< ((10 : Int32) &&& 31))) + nI w) - (56320 : Int32) = nI (65536 + (v - 55296) * 1024 + (w - 56320)) := by
  rw [show nI v - (55296 : Int32) = nI (v - 55296) from pk_sub (b := 55296) h1, pk_shlN _ 10 (by decide) (by omega), show (65536 : Int32) + nI ((v - 55296) * 2 ^ 10) = nI (65536 + (v - 55296) * 2 ^ 10) from nI_add 65536 _, nI_add, show nI (65536 + (v - 55296) * 2 ^ 10 + w) - (56320 : Int32) = nI (65536 + (v - 55296) * 2 ^ 10 + w - 56320) from pk_sub (b := 56320) (by omega)]
  rw [show 65536 + (v - 55296) * 2 ^ 10 + w - 56320 = 65536 + (v - 55296) * 1024 + (w - 56320) by omega]
theorem c_escRC {E : En_t} {d a : Nat} {l : List Nat} {σ : S_t} (hT : TpC σ l) (hb : Bt l) (hl : l.length ≤ 2000) (ha : a < l.length) (h9 : gI σ 51 2 = nI a) : CI E (d + 5) m_Re_readEscape [pv E 63] σ (fun r σ' => Fg (fun p k => p = 51 ∧ k = 2) σ σ' ∧ r = oI (esR l a).1 ∧ gI σ' 51 2 = nI (esR l a).2) := by
  have tp : ∀ {τ : S_t}, Fg (fun p k => p = 51 ∧ k = 2) σ τ → TpC τ l := fun hF => TpC_fg hF (by omega) (fun k => by omega) hT
  refine CE.of (L := [(0, pv E 63)]) rfl (Nat.le_of_ble_eq_true rfl) rfl (b_Re_readEscape_0 (d := d + 4) ?_)
  rw [h9, nI_1]
  have F0 : Fg (fun p k => p = 51 ∧ k = 2) σ (sI σ 51 2 (nI (a + 1))) := Fg.rf.si ⟨rfl, rfl⟩
  refine (c_passC (a := a + 1) (c := 117) (tp F0) hb hl (by omega) (gI_sI_s _ _ _ _) (by decide)).mono (fun r σ1 hq => ?_)
  rcases hq with ⟨rfl, hn, rfl⟩ | ⟨rfl, hy, rfl⟩
  · refine ⟨fun q => absurd rfl q, fun _ => (c_hereC (tp F0) hb hl (show a + 1 ≤ 100000 by omega) (gI_sI_s _ _ _ _)).mono (fun r σ2 hq => ?_)⟩
    obtain ⟨rfl, rfl⟩ := hq
    have e : esR l a = esS l (a + 1) := if_neg hn
    rw [e]
    refine (c_shortC (d := d) hb hl (show a + 1 ≤ l.length by omega) (gI_sI_s _ _ _ _)).mono (fun r σ3 hq => ⟨_, rfl, F0.tr hq.1, hq.2⟩)
  · refine ⟨fun _ => ?_, fun q => absurd q (by decide)⟩
    have e : esR l a = esU l (a + 2) := if_pos hy
    rw [e]
    have F1 := F0.si (p := 51) (k := 2) (v := nI (a + 1 + 1)) ⟨rfl, rfl⟩
    have hlt := hy.1
    refine (c_unitC (d := d + 3) (a := a + 2) (tp F1) hb hl (by omega) (gI_sI_s _ _ _ _)).mono (fun r σ2 hq => ?_)
    obtain ⟨F2, hr2, h2⟩ := hq
    have F12 := F1.tr F2
    obtain ⟨u1, u2, u3⟩ := unS_fit (l := l) 4 (a + 2) 0 (by decide) (by omega)
    rcases hu : unS l 4 (a + 2) 0 with ⟨o, e2⟩
    rw [hu] at hr2 h2 u1 u2 u3
    cases o with
    | none =>
      rw [esU_n hu, hr2]
      exact ⟨fun _ => ⟨_, rfl, F12, rfl, h2⟩, fun q => absurd (show (-1 : Int32) < 55296 by decide) q⟩
    | some v =>
      obtain ⟨v1, v2⟩ := u1 v rfl
      have ev : oI ((some v, e2) : Option Nat × Nat).1 = nI v := rfl
      rw [esU_s hu, hr2, ev]
      by_cases g1 : v < 55296
      · refine ⟨fun _ => ⟨_, rfl, F12, ?_, ?_⟩, fun q => absurd (nI_lt (b := 55296) g1 (by decide)) q⟩
        · rw [if_pos (Or.inl g1)]; rfl
        · rw [if_pos (Or.inl g1)]; exact h2
      · refine ⟨fun q => absurd q (nI_nlt (b := 55296) (by omega) (by omega)), fun _ => ?_⟩
        by_cases g2 : 57344 ≤ v
        · refine ⟨fun q => absurd q (nI_ge (b := v) (a := 57343) (by omega) (by omega)), fun _ => ⟨_, rfl, F12, ?_, ?_⟩⟩
          · rw [if_pos (Or.inr g2)]; rfl
          · rw [if_pos (Or.inr g2)]; exact h2
        · refine ⟨fun _ => ?_, fun q => absurd (nI_le (b := 57343) (by omega) (by decide)) q⟩
          rw [if_neg (show ¬ (v < 55296 ∨ 57344 ≤ v) by omega)]
          by_cases g3 : 56320 ≤ v
          · refine ⟨fun q => absurd q (nI_nlt (b := 56320) g3 (by omega)), fun _ => ⟨_, rfl, F12.si ⟨rfl, rfl⟩, ?_, ?_⟩⟩
            · rw [if_pos g3]; rfl
            · rw [if_pos g3, gI_sI_s, h2]
              show nI e2 - 1 = nI (e2 - 1)
              have v2' : e2 = a + 2 + 4 := v2
              rw [v2']; exact nI_pred _
          · refine ⟨fun _ => ?_, fun q => absurd (nI_lt (b := 56320) (by omega) (by decide)) q⟩
            rw [if_neg g3]
            have v2' : e2 = a + 2 + 4 := v2
            have u3' : e2 ≤ l.length := u3
            have h2' : gI σ2 51 2 = nI e2 := h2
            refine (c_passC (c := 92) (tp F12) hb hl (show e2 ≤ 100000 by omega) h2' (by decide)).mono (fun r σ3 hq => ?_)
            rcases hq with ⟨rfl, hn, rfl⟩ | ⟨rfl, hy1, rfl⟩
            · have eP : esP l v e2 = (none, e2) := if_pos hn
              rw [eP]
              exact ⟨fun _ => ⟨_, rfl, F12, rfl, h2'⟩, fun q => absurd rfl q⟩
            · refine ⟨fun q => absurd q (by decide), fun _ => ?_⟩
              have F3 := F12.si (p := 51) (k := 2) (v := nI (e2 + 1)) ⟨rfl, rfl⟩
              have h1l := hy1.1
              refine (c_passC (a := e2 + 1) (c := 117) (tp F3) hb hl (by omega) (gI_sI_s _ _ _ _) (by decide)).mono (fun r σ4 hq => ?_)
              rcases hq with ⟨rfl, hn, rfl⟩ | ⟨rfl, hy2, rfl⟩
              · have eP : esP l v e2 = (none, e2 + 1) := by unfold esP; rw [if_neg (fun z => z hy1), if_pos hn]
                rw [eP]
                exact ⟨fun q => absurd rfl q, fun _ => ⟨_, rfl, F3, rfl, gI_sI_s _ _ _ _⟩⟩
              · refine ⟨fun _ => ?_, fun q => absurd q (by decide)⟩
                have F4 := F3.si (p := 51) (k := 2) (v := nI (e2 + 1 + 1)) ⟨rfl, rfl⟩
                have h2l := hy2.1
                refine (c_unitC (d := d + 3) (a := e2 + 2) (tp F4) hb hl (by omega) (gI_sI_s _ _ _ _)).mono (fun r σ5 hq => ?_)
                obtain ⟨F5, hr5, h5⟩ := hq
                have F45 := F4.tr F5
                obtain ⟨w1, w2, w3⟩ := unS_fit (l := l) 4 (e2 + 2) 0 (by decide) (by omega)
                rcases hw : unS l 4 (e2 + 2) 0 with ⟨o5, e5⟩
                rw [hw] at hr5 h5 w1 w2 w3
                rw [hr5]
                cases o5 with
                | none =>
                  rw [esP_n hy1 hy2 hw]
                  refine CE.of (L := [(0, pv E 63), (1, .int (nI v)), (2, .int (-1))]) rfl (Nat.le_of_ble_eq_true rfl) rfl (b_Re_joined_0 ⟨fun q => absurd rfl q, fun _ => ⟨_, rfl, _, rfl, F45, rfl, h5⟩⟩)
                | some w =>
                  rw [esP_s hy1 hy2 hw]
                  obtain ⟨x1, x2⟩ := w1 w rfl
                  have x2' : e5 = e2 + 2 + 4 := x2
                  have h5' : gI σ5 51 2 = nI e5 := h5
                  have bad : w < 56320 ∨ 57344 ≤ w → JE E (d + 4) m_Re_joined 19 [(0, pv E 63)] [] σ5 (fun q σ' => ∃ r12, q = some (.int r12) ∧ ∃ r, some (Value.int r12) = some (.int r) ∧ Fg (fun p k => p = 51 ∧ k = 2) σ σ' ∧ r = oI (if w < 56320 ∨ 57344 ≤ w then ((none, e5 - 1) : Option Nat × Nat) else (some (65536 + (v - 55296) * 1024 + (w - 56320)), e5)).1 ∧ gI σ' 51 2 = nI (if w < 56320 ∨ 57344 ≤ w then ((none, e5 - 1) : Option Nat × Nat) else (some (65536 + (v - 55296) * 1024 + (w - 56320)), e5)).2) := by
                    intro g
                    rw [if_pos g]
                    refine b_Re_joined_19 ⟨_, rfl, _, rfl, F45.si ⟨rfl, rfl⟩, rfl, ?_⟩
                    rw [gI_sI_s, h5', x2']; exact nI_pred _
                  refine CE.of (L := [(0, pv E 63), (1, .int (nI v)), (2, .int (nI w))]) rfl (Nat.le_of_ble_eq_true rfl) rfl (b_Re_joined_0 ⟨fun _ => ⟨fun q => J_sub [0] rfl (bad ?_), fun q => ⟨fun q2 => ?_, fun q2 => J_sub [0] rfl (bad ?_)⟩⟩, fun q => (nI_neg1 (show w < 2 ^ 31 by omega) q.symm).elim⟩)
                  · exact Or.inl (Nat.not_le.mp (fun z => absurd q (nI_nlt (b := 56320) z (by omega))))
                  · have y1 : 56320 ≤ w := Nat.not_lt.mp (fun z => q (nI_lt (b := 56320) z (by decide)))
                    have y2 : w < 57344 := Nat.not_le.mp (fun z => absurd q2 (nI_ge (b := w) (a := 57343) (by omega) (by omega)))
                    rw [pair_val (by omega) (by omega) y1 y2]
                    refine ⟨_, rfl, _, rfl, F45, ?_, ?_⟩
                    · show _ = oI (if w < 56320 ∨ 57344 ≤ w then ((none, e5 - 1) : Option Nat × Nat) else (some (65536 + (v - 55296) * 1024 + (w - 56320)), e5)).1
                      rw [if_neg (by omega)]; rfl
                    · show _ = nI (if w < 56320 ∨ 57344 ≤ w then ((none, e5 - 1) : Option Nat × Nat) else (some (65536 + (v - 55296) * 1024 + (w - 56320)), e5)).2
                      rw [if_neg (by omega)]; exact h5'
                  · exact Or.inr (Nat.not_lt.mp (fun z => q2 (nI_le (b := 57343) (by omega) (by decide))))
