def MTs : Nat → Nat → Prop := fun p k => MEs p k ∨ (p = 0 ∧ (k = 41 ∨ k = 42))
theorem c_strM {E : En_t} {d a : Nat} {l L : List Nat} {σ : S_t} (hT : TcM σ l) (hb : Bt l) (hl : l.length ≤ 2000) (ha : a < l.length) (h9 : gI σ 0 9 = nI a) (hR : RlM σ L) (hL : bls L ≤ a + 1) (h41 : gI σ 0 41 = 0) : CI E (d + 3) m_Mo_takeString [pv E 0, .int (nI l.length)] σ (fun r σ' => Fg MTs σ σ' ∧ ((∃ L', (srS l 2000 (a + 1) L).1 = some L' ∧ r = 1 ∧ RlM σ' L' ∧ gI σ' 0 9 = nI (srS l 2000 (a + 1) L).2 ∧ gI σ' 0 41 = 0 ∧ gI σ' 0 42 = gI σ 0 42) ∨ ((srS l 2000 (a + 1) L).1 = none ∧ r = 0 ∧ gI σ' 0 41 = 1 ∧ gI σ' 0 42 = nI (srS l 2000 (a + 1) L).2))) := by
  have tp : ∀ {τ : S_t}, Fg MEs σ τ → TcM τ l := fun hF k hk => by rw [hF.1 1 k (by unfold MEs; omega)]; exact hT k hk
  have m0 : ∀ {τ : S_t}, Fg MEs σ τ → Fg MTs σ τ := fun hF => hF.mono (fun p k z => Or.inl z)
  let R : Option (List Nat) × Nat → Option Value → S_t → Prop := fun w q σ' => ∃ r, q = some (.int r) ∧ Fg MTs σ σ' ∧ ((∃ L', w.1 = some L' ∧ r = 1 ∧ RlM σ' L' ∧ gI σ' 0 9 = nI w.2 ∧ gI σ' 0 41 = 0 ∧ gI σ' 0 42 = gI σ 0 42) ∨ (w.1 = none ∧ r = 0 ∧ gI σ' 0 41 = 1 ∧ gI σ' 0 42 = nI w.2))
  have k41 : ∀ {τ : S_t}, Fg MEs σ τ → gI τ 0 41 = 0 ∧ gI τ 0 42 = gI σ 0 42 := fun hF => ⟨by rw [hF.1 0 41 (by unfold MEs; omega)]; exact h41, hF.1 0 42 (by unfold MEs; omega)⟩
  have bad : ∀ (e : Nat) (τ : S_t), Fg MEs σ τ → gI τ 0 9 = nI e → JE E (d + 3) m_Mo_takeString 95 [(0, pv E 0), (1, .int (nI l.length)), (3, .int (0 : Int32))] [] τ (R (none, e)) := by
    intro e τ hF h2
    refine b_Mo_takeString_95 (d := d + 2) ⟨fun q => absurd rfl q, fun _ => ?_⟩
    rw [h2]
    refine CE.of (L := [(0, pv E 0), (1, .int (1 : Int32)), (2, .int (nI e))]) rfl (Nat.le_of_ble_eq_true rfl) rfl (b_Mo_wrong_0 ⟨fun q => absurd (k41 hF).1 q, fun _ => ⟨_, rfl, rfl, _, rfl, ((m0 hF).si (Or.inr ⟨rfl, Or.inl rfl⟩)).si (Or.inr ⟨rfl, Or.inr rfl⟩), Or.inr ⟨rfl, rfl, ?_, gI_sI_s _ _ _ _⟩⟩⟩)
    rw [gI_sI_n (Or.inr (by decide))]; exact gI_sI_s _ _ _ _
  have loop : ∀ (f p : Nat) (L : List Nat) (τ : S_t), l.length < p + f → Fg MEs σ τ → gI τ 0 9 = nI p → p ≤ l.length → RlM τ L → bls L ≤ p → JE E (d + 3) m_Mo_takeString 10 [(0, pv E 0), (1, .int (nI l.length))] [] τ (R (srS l f p L)) := by
    intro f
    induction f with
    | zero => intro p L τ hf hF h2 hp hR hL; omega
    | succ f ih =>
      intro p L τ hf hF h2 hp hR hL
      have hlen := bls_len L
      have hfit := stp_fit hb hp
      have good : ¬ Chr l p 34 → ∀ (c e : Nat) (x3 : Int32) (τ1 : S_t), ¬ x3 = 0 → stp l p = (some c, e) → Fg MEs σ τ1 → gI τ1 0 9 = nI e → RlM τ1 (L ++ [c]) → JE E (d + 3) m_Mo_takeString 95 [(0, pv E 0), (1, .int (nI l.length)), (3, .int x3)] [] τ1 (R (srS l (f + 1) p L)) := by
        intro hn c e x3 τ1 hx hs hF1 h21 hR1
        rw [hs] at hfit
        obtain ⟨c1, c2⟩ := hfit.2 c rfl
        have c2' : p + bl c ≤ e := c2
        have e1 : e ≤ l.length := hfit.1
        have := (bl_pos c).1
        rw [srS_go hn hs]
        refine b_Mo_takeString_95 (d := d + 2) ⟨fun _ => ?_, fun q => absurd q hx⟩
        exact ih e (L ++ [c]) τ1 (by omega) hF1 h21 e1 hR1 (by rw [bls_app, bls_1]; omega)
      have wrongp : ¬ Chr l p 34 → ∀ (e : Nat) (τ1 : S_t), stp l p = (none, e) → Fg MEs σ τ1 → gI τ1 0 9 = nI e → JE E (d + 3) m_Mo_takeString 95 [(0, pv E 0), (1, .int (nI l.length)), (3, .int (0 : Int32))] [] τ1 (R (srS l (f + 1) p L)) := by
        intro hn e τ1 hs hF1 h21
        rw [srS_no hn hs]
        exact bad e τ1 hF1 h21
      refine b_Mo_takeString_10 (d := d + 2) ((c_hereM (tp hF) hl (by omega) h2).mono (fun r σ1 hq => ?_))
      obtain ⟨rfl, rfl⟩ := hq
      have k34 : hr l p = (34 : Int32) ↔ Chr l p 34 := hr_chr hb (by decide)
      rw [k34]
      refine ⟨fun hy => ?_, fun hn => (c_hereM (tp hF) hl (by omega) h2).mono (fun r σ2 hq => ?_)⟩
      · rw [srS_end hy, h2, nI_1]
        have F2 : Fg (fun p k => p = 0 ∧ k = 9) σ1 (sI σ1 0 9 (nI (p + 1))) := Fg.rf.si ⟨rfl, rfl⟩
        have hF2 : Fg MEs σ (sI σ1 0 9 (nI (p + 1))) := hF.tr (F2.mono (fun p k z => Or.inl ⟨z.1, Or.inl z.2⟩))
        exact ⟨_, rfl, m0 hF2, Or.inl ⟨L, rfl, rfl, RlM_fg F2 (by omega) (fun k => by omega) hR, gI_sI_s _ _ _ _, (k41 hF2).1, (k41 hF2).2⟩⟩
      · obtain ⟨rfl, rfl⟩ := hq
        refine ⟨fun hlt => ?_, fun hge => ?_⟩
        · have hs : stp l p = (none, p) := by
            unfold stp
            by_cases h : p < l.length
            · have : gA l p < 32 := by
                rw [hr_lt h] at hlt
                exact Nat.not_le.mp (fun z => absurd hlt (nI_nlt (b := 32) z (by have := Bt_gA hb p; omega)))
              rw [if_pos h, if_neg (by omega), if_pos this]
            · rw [if_neg h]
          exact b_Mo_takeString_37 (d := d + 2) ⟨fun _ => b_Mo_takeString_57 (d := d + 2) ⟨fun _ => b_Mo_takeString_76 (d := d + 2) ⟨fun _ => wrongp hn p σ2 hs hF h2, fun q => absurd rfl q⟩, fun q => absurd rfl q⟩, fun q => absurd rfl q⟩
        · have h : p < l.length := Nat.not_le.mp (fun z => hge (by rw [hr_ge (by omega)]; decide))
          have hg := Bt_gA hb p
          have g32 : ¬ gA l p < 32 := fun z => hge (by rw [hr_lt h]; exact nI_lt (b := 32) z (by decide))
          have k92 : hr l p = (92 : Int32) ↔ Chr l p 92 := hr_chr hb (by decide)
          refine b_Mo_takeString_37 (d := d + 2) ⟨fun q => absurd q (by decide), fun _ => ?_⟩
          rw [k92]
          refine ⟨fun hn2 => ?_, fun hy2 => ?_⟩
          · have es : stp l p = if gA l p < 128 then (some (gA l p), p + 1) else u8r l p := by unfold stp; rw [if_pos h, if_neg (fun z => hn2 ⟨h, z⟩), if_neg g32]
            refine b_Mo_takeString_57 (d := d + 2) ⟨fun q => absurd q (by decide), fun _ => ⟨fun q => ?_, fun q => ?_⟩⟩
            · have g128 : gA l p < 128 := by
                rw [hr_lt h] at q
                exact Nat.not_le.mp (fun z => absurd q (nI_ge (b := gA l p) (a := 127) (by omega) (by omega)))
              rw [if_pos g128] at es
              refine b_Mo_takeString_76 (d := d + 2) ⟨fun q => absurd q (by decide), fun _ => ?_⟩
              rw [hr_lt h]
              refine (c_keepM hR (by omega)).mono (fun σ3 hq => ?_)
              have F3 : Fg MEs σ σ3 := hF.tr (hq.1.mono (fun p k z => by unfold MKp at z; unfold MEs; omega))
              have h23 : gI σ3 0 9 = nI p := by rw [hq.1.1 0 9 (by unfold MKp; omega)]; exact h2
              rw [h23, nI_1]
              have F4 : Fg (fun p k => p = 0 ∧ k = 9) σ3 (sI σ3 0 9 (nI (p + 1))) := Fg.rf.si ⟨rfl, rfl⟩
              exact good hn _ (p + 1) 1 _ (by decide) es (F3.tr (F4.mono (fun p k z => Or.inl ⟨z.1, Or.inl z.2⟩))) (gI_sI_s _ _ _ _) (RlM_fg F4 (by omega) (fun k => by omega) hq.2)
            · have g128 : ¬ gA l p < 128 := by
                intro z
                rw [hr_lt h] at q
                exact q (nI_le (b := 127) (by omega) (by decide))
              rw [if_neg g128] at es
              refine (c_takeWide (d := d + 1) (tp hF) hb hl h2 h hR (by omega)).mono (fun r σ3 hq => ?_)
              obtain ⟨F3, hq⟩ := hq
              have hF3 : Fg MEs σ σ3 := hF.tr (F3.mono (fun p k z => by unfold MWd at z; unfold MEs; omega))
              rcases hq with ⟨rfl, e, hu, h23, hR3⟩ | ⟨rfl, hu, h23, hR3⟩
              · rw [u8r_F hu] at es
                exact wrongp hn e σ3 es hF3 h23
              · rw [u8r_O hu] at es
                exact good hn _ _ 1 σ3 (by decide) es hF3 h23 hR3
          · have es : stp l p = esR l p := by unfold stp; rw [if_pos hy2.1, if_pos hy2.2]
            refine (c_escRM (d := d) (tp hF) hb hl hy2.1 h2 hR (by omega)).mono (fun r σ3 hq => ?_)
            obtain ⟨F3, h23, hq⟩ := hq
            have hF3 := hF.tr F3
            rcases he : esR l p with ⟨o, e⟩
            rw [he] at es h23 hq
            rcases hq with ⟨rfl, ho, hR3⟩ | ⟨rfl, c, ho, hR3⟩
            · have ho' : o = none := ho
              subst ho'
              exact wrongp hn e σ3 es hF3 h23
            · have ho' : o = some c := ho
              subst ho'
              exact good hn c e 1 σ3 (by decide) es hF3 h23 hR3
  refine CE.of (L := [(0, pv E 0), (1, .int (nI l.length))]) rfl (Nat.le_of_ble_eq_true rfl) rfl (b_Mo_takeString_0 (d := d + 2) ?_)
  rw [h9, nI_1]
  have F2 : Fg (fun p k => p = 0 ∧ k = 9) σ (sI σ 0 9 (nI (a + 1))) := Fg.rf.si ⟨rfl, rfl⟩
  exact loop 2000 (a + 1) L _ (by omega) (F2.mono (fun p k z => Or.inl ⟨z.1, Or.inl z.2⟩)) (gI_sI_s _ _ _ _) (by omega) (RlM_fg F2 (by omega) (fun k => by omega) hR) hL
