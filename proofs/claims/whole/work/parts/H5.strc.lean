/-- the letters of the class's draft -/
def DcC (σ : S_t) (L : List Nat) : Prop := gI σ 180 11 = nI L.length ∧ gI σ 180 12 = nI (bls L) ∧ gI σ 180 14 = 0 ∧ ∀ k, k < L.length → gI σ 191 k = nI (gA L k)
theorem DcC_fg {P : Nat → Nat → Prop} {σ σ' : S_t} {L : List Nat} (hF : Fg P σ σ') (h : ∀ p k, P p k → ¬ ((p = 180 ∧ (k = 11 ∨ k = 12 ∨ k = 14)) ∨ p = 191)) (hD : DcC σ L) : DcC σ' L :=
  ⟨by rw [hF.1 180 11 (fun z => h _ _ z (Or.inl ⟨rfl, Or.inl rfl⟩))]; exact hD.1, by rw [hF.1 180 12 (fun z => h _ _ z (Or.inl ⟨rfl, Or.inr (Or.inl rfl)⟩))]; exact hD.2.1, by rw [hF.1 180 14 (fun z => h _ _ z (Or.inl ⟨rfl, Or.inr (Or.inr rfl)⟩))]; exact hD.2.2.1, fun k hk => by rw [hF.1 191 k (fun z => h _ _ z (Or.inr rfl))]; exact hD.2.2.2 k hk⟩
theorem gA_app {L : List Nat} {c k : Nat} : gA (L ++ [c]) k = if k < L.length then gA L k else if k = L.length then c else 0 := by
  unfold gA
  rw [List.getD_eq_getElem?_getD, List.getD_eq_getElem?_getD]
  by_cases h : k < L.length
  · rw [if_pos h, List.getElem?_append_left h]
  · rw [if_neg h, List.getElem?_append_right (by omega)]
    by_cases e : k = L.length
    · subst e; rw [if_pos rfl, Nat.sub_self]; rfl
    · rw [if_neg e, List.getElem?_eq_none (by show 1 ≤ k - L.length; omega)]; rfl
theorem c_dadd {E : En_t} {d c : Nat} {L : List Nat} {σ : S_t} (h : DcC σ L) (hc : c < 1114112) (hl : bls L + bl c ≤ 4000) : CV E d m_Tr_addCharacter [pv E 180, .int (nI c)] σ (fun σ' => Fg (TLc 180) σ σ' ∧ DcC σ' (L ++ [c])) := by
  have hk : kindP 180 = 11 := kind_tr 9 (by decide)
  have len1 : (L ++ [c]).length = L.length + 1 := by rw [List.length_append]; rfl
  refine (c_addCh hk hc (C := L.length) (B := bls L) ⟨h.1, h.2.1, h.2.2.1, bls_len L, by omega⟩).mono (fun σ1 hq => ?_)
  rcases hq with ⟨z, _⟩ | ⟨_, F1, ⟨t1, t2, t3, _, _⟩, e1, e2⟩
  · omega
  · refine ⟨F1, by rw [len1]; exact t1, by rw [bls_app, bls_1]; exact t2, t3, fun k hk' => ?_⟩
    rw [len1] at hk'
    rw [gA_app]
    by_cases e : k = L.length
    · subst e; rw [if_neg (Nat.lt_irrefl _), if_pos rfl]; exact e1
    · rw [if_pos (by omega)]
      have := e2 k e
      rw [show gI σ1 191 k = gI σ 191 k from this]; exact h.2.2.2 k (by omega)
def MRs : Nat → Nat → Prop := fun p k => (p = 51 ∧ k = 2) ∨ TLc 180 p k ∨ (p = 63 ∧ (k = 13 ∨ k = 14))
theorem c_strC {E : En_t} {d a : Nat} {l L : List Nat} {σ : S_t} (hT : TpC σ l) (hb : Bt l) (hl : l.length ≤ 2000) (ha : a < l.length) (h9 : gI σ 51 2 = nI a) (hD : DcC σ L) (hL : bls L ≤ a + 1) : CV E (d + 6) m_Re_readString [pv E 63] σ (fun σ' => Fg MRs σ σ' ∧ ((∃ L', (srS l 2000 (a + 1) L).1 = some L' ∧ DcC σ' L' ∧ gI σ' 51 2 = nI (srS l 2000 (a + 1) L).2 ∧ gI σ' 63 13 = gI σ 63 13 ∧ gI σ' 63 14 = gI σ 63 14) ∨ ((srS l 2000 (a + 1) L).1 = none ∧ gI σ' 63 13 = 1 ∧ gI σ' 63 14 = nI (srS l 2000 (a + 1) L).2))) := by
  let MR0 : Nat → Nat → Prop := fun p k => (p = 51 ∧ k = 2) ∨ TLc 180 p k
  have tp : ∀ {τ : S_t}, Fg MR0 σ τ → TpC τ l := fun hF => TpC_fg hF (by show ¬ ((51 = 51 ∧ 1 = 2) ∨ TLc 180 51 1); unfold TLc; omega) (fun k => by show ¬ ((52 = 51 ∧ k = 2) ∨ TLc 180 52 k); unfold TLc; omega) hT
  have m0 : ∀ {τ : S_t}, Fg MR0 σ τ → Fg MRs σ τ := fun hF => hF.mono (fun p k z => z.elim Or.inl (fun y => Or.inr (Or.inl y)))
  let R : Option (List Nat) × Nat → Option Value → S_t → Prop := fun w q σ' => q = none ∧ Fg MRs σ σ' ∧ ((∃ L', w.1 = some L' ∧ DcC σ' L' ∧ gI σ' 51 2 = nI w.2 ∧ gI σ' 63 13 = gI σ 63 13 ∧ gI σ' 63 14 = gI σ 63 14) ∨ (w.1 = none ∧ gI σ' 63 13 = 1 ∧ gI σ' 63 14 = nI w.2))
  have at106 : ∀ (e : Nat) (τ : S_t), Fg MR0 σ τ → gI τ 51 2 = nI e → JE E (d + 6) m_Re_readString 106 [(0, pv E 63)] [] τ (R (none, e)) := by
    intro e τ hF h2
    refine b_Re_readString_106 (d := d + 5) ?_
    rw [h2]
    refine CE.of (L := [(0, pv E 63), (1, .int (1 : Int32)), (2, .int (nI e))]) rfl (Nat.le_of_ble_eq_true rfl) rfl (b_Re_blame_0 ⟨rfl, rfl, ((m0 hF).si (Or.inr (Or.inr ⟨rfl, Or.inl rfl⟩))).si (Or.inr (Or.inr ⟨rfl, Or.inr rfl⟩)), Or.inr ⟨rfl, ?_, gI_sI_s _ _ _ _⟩⟩)
    rw [gI_sI_n (Or.inr (by decide))]; exact gI_sI_s _ _ _ _
  have loop : ∀ (f i p : Nat) (x1 : Int32) (L : List Nat) (τ : S_t), i + f = 2000 → ¬ x1 = -1 → Fg MR0 σ τ → gI τ 51 2 = nI p → p ≤ l.length → DcC τ L → bls L ≤ p → JE E (d + 6) m_Re_readString 17 [(0, pv E 63), (1, .int x1), (2, .int (nI i))] [] τ (R (srS l f p L)) := by
    intro f
    induction f with
    | zero =>
      intro i p x1 L τ hi hx hF h2 hp hD hL
      have : i = 2000 := by omega
      subst this
      exact b_Re_readString_17 (d := d + 5) ⟨fun _ => at106 p τ hF h2, fun q => absurd (Int32.le_refl _) q⟩
    | succ f ih =>
      intro i p x1 L τ hi hx hF h2 hp hD hL
      have hfit := stp_fit hb hp
      -- the character is known
      have at87 : ¬ Chr l p 34 → ∀ (o : Option Nat) (e : Nat) (τ1 : S_t), stp l p = (o, e) → Fg MR0 σ τ1 → gI τ1 51 2 = nI e → DcC τ1 L → JE E (d + 6) m_Re_readString 87 [(0, pv E 63), (1, .int (oI o)), (2, .int (nI i))] [] τ1 (R (srS l (f + 1) p L)) := by
        intro hn o e τ1 hs hF1 h21 hD1
        rw [hs] at hfit
        cases o with
        | none =>
          rw [srS_no hn hs]
          refine b_Re_readString_87 (d := d + 5) ⟨fun _ => b_Re_readString_100 (d := d + 5) ?_, fun q => absurd rfl q⟩
          rw [nI_1]
          exact b_Re_readString_17 (d := d + 5) ⟨fun _ => at106 e τ1 hF1 h21, fun _ => ⟨fun _ => at106 e τ1 hF1 h21, fun q => absurd rfl q⟩⟩
        | some c =>
          rw [srS_go hn hs]
          obtain ⟨c1, c2⟩ := hfit.2 c rfl
          have c2' : p + bl c ≤ e := c2
          have e1 : e ≤ l.length := hfit.1
          have hne : ¬ oI (some c) = -1 := fun q => nI_neg1 (show c < 2 ^ 31 by unfold Ltr at c1; omega) q.symm
          refine b_Re_readString_87 (d := d + 5) ⟨fun q => absurd q hne, fun _ => (c_dadd hD1 (by unfold Ltr at c1; omega) (by omega)).mono (fun σ2 hq => b_Re_readString_100 (d := d + 5) ?_)⟩
          rw [nI_1]
          refine ih (i + 1) e _ (L ++ [c]) σ2 (by omega) hne (hF1.tr (hq.1.mono (fun p k z => Or.inr z))) ?_ e1 hq.2 (by rw [bls_app, bls_1]; omega)
          rw [hq.1.1 51 2 (by unfold TLc; omega)]; exact h21
      refine b_Re_readString_17 (d := d + 5) ⟨fun q => absurd q (nI_ge (b := 2000) (by omega) (by omega)), fun _ => ⟨fun q => absurd q hx, fun _ => (c_hereC (tp hF) hb hl (by omega) h2).mono (fun r σ1 hq => ?_)⟩⟩
      obtain ⟨rfl, rfl⟩ := hq
      have k34 : hr l p = (34 : Int32) ↔ Chr l p 34 := hr_chr hb (by decide)
      have k92 : hr l p = (92 : Int32) ↔ Chr l p 92 := hr_chr hb (by decide)
      rw [k34, k92]
      refine ⟨fun hn => ⟨fun hn2 => ⟨fun hlt => ?_, fun hge => ?_⟩, fun hy2 => ?_⟩, fun hy => ?_⟩
      · have hs : stp l p = (none, p) := by
          unfold stp
          by_cases h : p < l.length
          · have : gA l p < 32 := by
              rw [hr_lt h] at hlt
              exact Nat.not_le.mp (fun z => absurd hlt (nI_nlt (b := 32) z (by have := Bt_gA hb p; omega)))
            rw [if_pos h, if_neg (fun z => hn2 ⟨h, z⟩), if_pos this]
          · rw [if_neg h]
        exact at87 hn none p σ1 hs hF h2 hD
      · have h : p < l.length := Nat.not_le.mp (fun z => hge (by rw [hr_ge (by omega)]; decide))
        have g32 : ¬ gA l p < 32 := fun z => hge (by rw [hr_lt h]; exact nI_lt (b := 32) z (by decide))
        have es : stp l p = if gA l p < 128 then (some (gA l p), p + 1) else u8r l p := by unfold stp; rw [if_pos h, if_neg (fun z => hn2 ⟨h, z⟩), if_neg g32]
        refine (c_nextCh (d := d + 4) (tp hF) hb hl h2 hp).mono (fun r σ2 hq => ?_)
        obtain ⟨F2, hq⟩ := hq
        have hF2 : Fg MR0 σ σ2 := hF.tr (F2.mono (fun _ _ z => Or.inl z))
        have hD2 : DcC σ2 L := DcC_fg F2 (fun p k z => by omega) hD
        rcases hq with ⟨rfl, e, hN, h22⟩ | ⟨c, e, rfl, hN, h22⟩
        · rcases hN with ⟨z, _⟩ | ⟨_, z, hu⟩
          · exact absurd h z
          · rw [if_neg (by omega), u8r_F hu] at es
            exact at87 hn none e σ2 es hF2 h22 hD2
        · rcases hN.2 with ⟨z, rfl, rfl⟩ | ⟨z, hu, rfl, rfl⟩
          · rw [if_pos z] at es
            exact at87 hn (some (gA l p)) (p + 1) σ2 es hF2 h22 hD2
          · rw [if_neg (by omega), u8r_O hu] at es
            exact at87 hn (some (uV l p)) (uE l p) σ2 es hF2 h22 hD2
      · have es : stp l p = esR l p := by unfold stp; rw [if_pos hy2.1, if_pos hy2.2]
        refine (c_escRC (d := d) (tp hF) hb hl hy2.1 h2).mono (fun r σ2 hq => ?_)
        obtain ⟨F2, rfl, h22⟩ := hq
        have hF2 : Fg MR0 σ σ2 := hF.tr (F2.mono (fun _ _ z => Or.inl z))
        exact at87 hn (esR l p).1 (esR l p).2 σ2 es hF2 h22 (DcC_fg F2 (fun p k z => by omega) hD)
      · rw [srS_end hy, h2, nI_1]
        have F2 : Fg (fun p k => p = 51 ∧ k = 2) σ1 (sI σ1 51 2 (nI (p + 1))) := Fg.rf.si ⟨rfl, rfl⟩
        have hF2 : Fg MR0 σ (sI σ1 51 2 (nI (p + 1))) := hF.tr (F2.mono (fun _ _ z => Or.inl z))
        refine ⟨rfl, m0 hF2, Or.inl ⟨L, rfl, DcC_fg F2 (fun p k z => by omega) hD, gI_sI_s _ _ _ _, ?_, ?_⟩⟩
        · exact hF2.1 63 13 (by show ¬ ((63 = 51 ∧ 13 = 2) ∨ TLc 180 63 13); unfold TLc; omega)
        · exact hF2.1 63 14 (by show ¬ ((63 = 51 ∧ 14 = 2) ∨ TLc 180 63 14); unfold TLc; omega)
  refine CE.of (L := [(0, pv E 63)]) rfl (Nat.le_of_ble_eq_true rfl) rfl (b_Re_readString_0 (d := d + 5) ?_)
  rw [h9, nI_1]
  have F2 : Fg (fun p k => p = 51 ∧ k = 2) σ (sI σ 51 2 (nI (a + 1))) := Fg.rf.si ⟨rfl, rfl⟩
  exact loop 2000 0 (a + 1) 0 L _ (by omega) (by decide) (F2.mono (fun _ _ z => Or.inl z)) (gI_sI_s _ _ _ _) (by omega) (DcC_fg F2 (fun p k z => by omega) hD) hL
