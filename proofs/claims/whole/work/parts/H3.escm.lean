def MEs : Nat → Nat → Prop := fun p k => (p = 0 ∧ (k = 9 ∨ k = 44 ∨ k = 56)) ∨ p = 39
theorem esS_sh {l : List Nat} {p c : Nat} (h : p < l.length) (hs : shE (gA l p) = some c) : esS l p = (some c, p + 1) := by
  unfold esS
  rw [if_pos h, hs]
theorem c_escRM {E : En_t} {d a : Nat} {l L : List Nat} {σ : S_t} (hT : TcM σ l) (hb : Bt l) (hl : l.length ≤ 2000) (ha : a < l.length) (h9 : gI σ 0 9 = nI a) (hR : RlM σ L) (hL : L.length < 2100) : CI E (d + 2) m_Mo_takeEscape [pv E 0, .int (nI l.length)] σ (fun r σ' => Fg MEs σ σ' ∧ gI σ' 0 9 = nI (esR l a).2 ∧ ((r = 0 ∧ (esR l a).1 = none ∧ RlM σ' L) ∨ (r = 1 ∧ ∃ c, (esR l a).1 = some c ∧ RlM σ' (L ++ [c])))) := by
  have tp : ∀ {τ : S_t}, Fg MEs σ τ → TcM τ l := fun hF k hk => by rw [hF.1 1 k (by unfold MEs; omega)]; exact hT k hk
  let Q : Option Value → S_t → Prop := fun q σ' => ∃ r, q = some (.int r) ∧ Fg MEs σ σ' ∧ gI σ' 0 9 = nI (esR l a).2 ∧ ((r = 0 ∧ (esR l a).1 = none ∧ RlM σ' L) ∨ (r = 1 ∧ ∃ c, (esR l a).1 = some c ∧ RlM σ' (L ++ [c])))
  have F0 : Fg MEs σ (sI σ 0 9 (nI (a + 1))) := Fg.rf.si (Or.inl ⟨rfl, Or.inl rfl⟩)
  have R0 : RlM (sI σ 0 9 (nI (a + 1))) L := RlM_fg (P := fun p k => p = 0 ∧ k = 9) (Fg.rf.si ⟨rfl, rfl⟩) (by omega) (fun k => by omega) hR
  -- keep a character
  have kp : ∀ (c e : Nat) (τ : S_t), Fg MEs σ τ → RlM τ L → gI τ 0 9 = nI e → esR l a = (some c, e) → CV E (d + 1) m_Mo_keep [pv E 0, .int (nI c)] τ (fun σ3 => Q (some (.int (1 : Int32))) σ3) := by
    intro c e τ hF hR1 h9' he
    refine (c_keepM hR1 hL).mono (fun σ3 hq => ⟨_, rfl, hF.tr (hq.1.mono (fun p k z => ?_)), ?_, Or.inr ⟨rfl, c, by rw [he], hq.2⟩⟩)
    · unfold MKp at z; unfold MEs; omega
    · rw [he, hq.1.1 0 9 (by unfold MKp; omega)]; exact h9'
  have at94 : ∀ (x2 : Int32) (c : Nat), c < 256 → esR l a = (some c, a + 2) → JE E (d + 2) m_Mo_takeEscape 94 [(0, pv E 0), (1, .int (nI l.length)), (2, .int x2)] [.int (nI c)] (sI σ 0 9 (nI (a + 1))) Q := by
    intro x2 c hc he
    refine b_Mo_takeEscape_94 (d := d + 1) ⟨fun q => absurd q (nI_nn (by omega)), fun _ => ?_⟩
    rw [gI_sI_s, nI_1]
    exact kp c (a + 2) _ (F0.si (Or.inl ⟨rfl, Or.inl rfl⟩)) (RlM_fg (P := fun p k => p = 0 ∧ k = 9) (Fg.rf.si ⟨rfl, rfl⟩) (by omega) (fun k => by omega) R0) (gI_sI_s _ _ _ _) he
  have short : ∀ c, c ≠ 117 → Chr l (a + 1) c → ∀ v, shE c = some v → esR l a = (some v, a + 2) := by
    intro c hc hch v hv
    have : ¬ Chr l (a + 1) 117 := fun z => hc (by rw [← hch.2, z.2])
    have e : esR l a = esS l (a + 1) := if_neg this
    rw [e]
    exact esS_sh hch.1 (by rw [hch.2]; exact hv)
  have at196 : ∀ (v e : Nat) (τ : S_t), Fg MEs σ τ → RlM τ L → gI τ 0 9 = nI e → gI τ 0 56 = nI v → esR l a = (some v, e) → JE E (d + 2) m_Mo_takeEscape 196 [(0, pv E 0)] [] τ Q := by
    intro v e τ hF hR1 h9' h56 he
    refine b_Mo_takeEscape_196 (d := d + 1) ?_
    rw [h56]
    exact kp v e τ hF hR1 h9' he
  have uni : Chr l (a + 1) 117 → ∀ x2 : Int32, x2 = 117 → JE E (d + 2) m_Mo_takeEscape 94 [(0, pv E 0), (1, .int (nI l.length)), (2, .int x2)] [.int (-1 : Int32)] (sI σ 0 9 (nI (a + 1))) Q := by
    intro hy x2 hx2
    have hlt := hy.1
    refine b_Mo_takeEscape_94 (d := d + 1) ⟨fun _ => ⟨fun _ => ?_, fun q => absurd hx2 q⟩, fun q => absurd (by decide) q⟩
    rw [gI_sI_s, nI_1]
    have F1 := F0.si (p := 0) (k := 9) (v := nI (a + 1 + 1)) (Or.inl ⟨rfl, Or.inl rfl⟩)
    have R1 : RlM (sI (sI σ 0 9 (nI (a + 1))) 0 9 (nI (a + 1 + 1))) L := RlM_fg (P := fun p k => p = 0 ∧ k = 9) (Fg.rf.si ⟨rfl, rfl⟩) (by omega) (fun k => by omega) R0
    have e : esR l a = esU l (a + 2) := if_pos hy
    refine (c_fourM (d := d) (a := a + 2) (tp F1) hb hl (by omega) (gI_sI_s _ _ _ _)).mono (fun r σ2 hq => ?_)
    obtain ⟨F2, h2, hq⟩ := hq
    have F12 : Fg MEs σ σ2 := F1.tr (F2.mono (fun p k z => Or.inl ⟨z.1, by omega⟩))
    have R2 : RlM σ2 L := RlM_fg F2 (by omega) (fun k => by omega) R1
    obtain ⟨u1, u2, u3⟩ := unS_fit (l := l) 4 (a + 2) 0 (by decide) (by omega)
    rcases hu : unS l 4 (a + 2) 0 with ⟨o, e2⟩
    rw [hu] at hq h2 u1 u2 u3
    rcases hq with ⟨rfl, ho⟩ | ⟨rfl, v, ho, h56⟩
    · have ho' : o = none := ho
      subst ho'
      rw [esU_n hu] at e
      exact ⟨fun q => absurd rfl q, fun _ => ⟨_, rfl, F12, by rw [e]; exact h2, Or.inl ⟨rfl, by rw [e], R2⟩⟩⟩
    · have ho' : o = some v := ho
      subst ho'
      rw [esU_s hu] at e
      obtain ⟨v1, v2⟩ := u1 v rfl
      have v2' : e2 = a + 2 + 4 := v2
      have u3' : e2 ≤ l.length := u3
      have h2' : gI σ2 0 9 = nI e2 := h2
      refine ⟨fun _ => ?_, fun q => absurd q (by decide)⟩
      rw [h56]
      have plain : v < 55296 ∨ 57344 ≤ v → JE E (d + 2) m_Mo_takeEscape 176 [(0, pv E 0), (1, .int (nI l.length))] [] σ2 Q := by
        intro g
        rw [if_pos g] at e
        have f := at196 v e2 σ2 F12 R2 h2' h56 e
        refine b_Mo_takeEscape_176 (d := d + 1) ?_
        rw [h56]
        refine ⟨fun _ => f, fun q => ⟨fun q2 => ?_, fun _ => f⟩⟩
        exfalso
        rcases g with g | g
        · exact q (nI_lt (b := 55296) g (by decide))
        · exact absurd q2 (nI_nlt (b := 57344) g (by omega))
      by_cases g1 : v < 56320
      · refine ⟨fun _ => ?_, fun q => absurd (nI_lt (b := 56320) g1 (by decide)) q⟩
        by_cases g2 : v < 55296
        · exact plain (Or.inl g2)
        · -- a high half
          rw [if_neg (by omega), if_neg (by omega)] at e
          refine b_Mo_takeEscape_176 (d := d + 1) ?_
          rw [h56]
          refine ⟨fun q => absurd q (nI_nlt (b := 55296) (by omega) (by omega)), fun _ => ⟨fun _ => ?_, fun q => absurd (nI_lt (b := 57344) (by omega) (by decide)) q⟩⟩
          refine (c_hereM (tp F12) hl (show e2 ≤ 100000 by omega) h2').mono (fun r σ3 hq => ?_)
          obtain ⟨rfl, rfl⟩ := hq
          have k92 : hr l e2 = (92 : Int32) ↔ Chr l e2 92 := hr_chr hb (by decide)
          rw [k92]
          refine ⟨fun hy1 => ?_, fun hn => ?_⟩
          · rw [h2', nI_1]
            have F3 := F12.si (p := 0) (k := 9) (v := nI (e2 + 1)) (Or.inl ⟨rfl, Or.inl rfl⟩)
            have R3 : RlM (sI σ3 0 9 (nI (e2 + 1))) L := RlM_fg (P := fun p k => p = 0 ∧ k = 9) (Fg.rf.si ⟨rfl, rfl⟩) (by omega) (fun k => by omega) R2
            have h1l := hy1.1
            refine (c_hereM (a := e2 + 1) (tp F3) hl (by omega) (gI_sI_s _ _ _ _)).mono (fun r σ4 hq => ?_)
            obtain ⟨rfl, rfl⟩ := hq
            have k117 : hr l (e2 + 1) = (117 : Int32) ↔ Chr l (e2 + 1) 117 := hr_chr hb (by decide)
            rw [k117]
            refine ⟨fun hy2 => ?_, fun hn => ?_⟩
            · rw [gI_sI_s, nI_1]
              have F4 := F3.si (p := 0) (k := 9) (v := nI (e2 + 1 + 1)) (Or.inl ⟨rfl, Or.inl rfl⟩)
              have R4 : RlM (sI (sI σ3 0 9 (nI (e2 + 1))) 0 9 (nI (e2 + 1 + 1))) L := RlM_fg (P := fun p k => p = 0 ∧ k = 9) (Fg.rf.si ⟨rfl, rfl⟩) (by omega) (fun k => by omega) R3
              have h2l := hy2.1
              refine (c_fourM (d := d) (a := e2 + 2) (tp F4) hb hl (by omega) (gI_sI_s _ _ _ _)).mono (fun r σ5 hq => ?_)
              obtain ⟨F5, h5, hq⟩ := hq
              have F45 : Fg MEs σ σ5 := F4.tr (F5.mono (fun p k z => Or.inl ⟨z.1, by omega⟩))
              have R5 : RlM σ5 L := RlM_fg F5 (by omega) (fun k => by omega) R4
              obtain ⟨w1, w2, w3⟩ := unS_fit (l := l) 4 (e2 + 2) 0 (by decide) (by omega)
              rcases hw : unS l 4 (e2 + 2) 0 with ⟨o5, e5⟩
              rw [hw] at hq h5 w1 w2 w3
              rcases hq with ⟨rfl, ho⟩ | ⟨rfl, w, ho, h56w⟩
              · have ho' : o5 = none := ho
                subst ho'
                rw [esP_n hy1 hy2 hw] at e
                exact ⟨fun q => absurd rfl q, fun _ => ⟨_, rfl, F45, by rw [e]; exact h5, Or.inl ⟨rfl, by rw [e], R5⟩⟩⟩
              · have ho' : o5 = some w := ho
                subst ho'
                rw [esP_s hy1 hy2 hw] at e
                obtain ⟨x1, x2'⟩ := w1 w rfl
                have x2'' : e5 = e2 + 2 + 4 := x2'
                have h5' : gI σ5 0 9 = nI e5 := h5
                refine ⟨fun _ => ?_, fun q => absurd q (by decide)⟩
                rw [h56w]
                have bad : w < 56320 ∨ 57344 ≤ w → JE E (d + 2) m_Mo_takeEscape 286 [(0, pv E 0)] [] σ5 Q := by
                  intro g
                  rw [if_pos g] at e
                  refine b_Mo_takeEscape_286 (d := d + 1) ⟨_, rfl, F45.si (Or.inl ⟨rfl, Or.inl rfl⟩), ?_, Or.inl ⟨rfl, by rw [e], RlM_fg (P := fun p k => p = 0 ∧ k = 9) (Fg.rf.si ⟨rfl, rfl⟩) (by omega) (fun k => by omega) R5⟩⟩
                  rw [e, gI_sI_s, h5', x2'']; exact nI_pred _
                refine ⟨fun q => bad (Or.inl (Nat.not_le.mp (fun z => absurd q (nI_nlt (b := 56320) z (by omega))))), fun q => ⟨fun q2 v7 hv7 => ?_, fun q2 => bad (Or.inr (Nat.not_lt.mp (fun z => q2 (nI_lt (b := 57344) z (by decide)))))⟩⟩
                have y1 : 56320 ≤ w := Nat.not_lt.mp (fun z => q (nI_lt (b := 56320) z (by decide)))
                have y2 : w < 57344 := Nat.not_le.mp (fun z => absurd q2 (nI_nlt (b := 57344) z (by omega)))
                rw [if_neg (by omega)] at e
                rw [hv7, pair_val (by omega) (by omega) y1 y2]
                exact kp _ e5 σ5 F45 R5 h5' e
            · have eP : esP l v e2 = (none, e2 + 1) := by unfold esP; rw [if_neg (fun z => z hy1), if_pos hn]
              rw [eP] at e
              exact ⟨_, rfl, F3, by rw [e]; exact gI_sI_s _ _ _ _, Or.inl ⟨rfl, by rw [e], R3⟩⟩
          · have eP : esP l v e2 = (none, e2) := if_pos hn
            rw [eP] at e
            exact ⟨_, rfl, F12, by rw [e]; exact h2', Or.inl ⟨rfl, by rw [e], R2⟩⟩
      · refine ⟨fun q => absurd q (nI_nlt (b := 56320) (by omega) (by omega)), fun _ => ⟨fun q => ?_, fun q => ?_⟩⟩
        · exact plain (Or.inr (Nat.not_lt.mp (fun z => absurd q (nI_ge (b := 57344) z (by omega)))))
        · have g3 : v < 57344 := Nat.not_le.mp (fun z => q (nI_le (a := 57344) z (by omega)))
          rw [if_neg (by omega), if_pos (by omega)] at e
          refine ⟨_, rfl, F12.si (Or.inl ⟨rfl, Or.inl rfl⟩), ?_, Or.inl ⟨rfl, by rw [e], RlM_fg (P := fun p k => p = 0 ∧ k = 9) (Fg.rf.si ⟨rfl, rfl⟩) (by omega) (fun k => by omega) R2⟩⟩
          rw [e, gI_sI_s, h2', v2']; exact nI_pred _
  refine CE.of (L := [(0, pv E 0), (1, .int (nI l.length))]) rfl (Nat.le_of_ble_eq_true rfl) rfl (b_Mo_takeEscape_0 (d := d + 1) ?_)
  rw [h9, nI_1]
  refine (c_hereM (a := a + 1) (tp F0) hl (by omega) (gI_sI_s _ _ _ _)).mono (fun r σ1 hq => ?_)
  obtain ⟨rfl, rfl⟩ := hq
  have kc : ∀ c, c < 256 → (hr l (a + 1) = nI c ↔ Chr l (a + 1) c) := fun c hc => hr_chr hb (by omega)
  have self : ∀ c, c < 256 → c ≠ 117 → shE c = some c → hr l (a + 1) = nI c → JE E (d + 2) m_Mo_takeEscape 34 [(0, pv E 0), (1, .int (nI l.length)), (2, .int (hr l (a + 1)))] [] (sI σ 0 9 (nI (a + 1))) Q := by
    intro c hc hn hs q
    refine b_Mo_takeEscape_34 (d := d + 1) ?_
    have f := at94 (hr l (a + 1)) c hc (short c hn ((kc c hc).mp q) c hs)
    rw [q] at f ⊢
    exact f
  have oth : ∀ c v, c < 256 → v < 256 → c ≠ 117 → shE c = some v → hr l (a + 1) = nI c → JE E (d + 2) m_Mo_takeEscape 94 [(0, pv E 0), (1, .int (nI l.length)), (2, .int (hr l (a + 1)))] [.int (nI v)] (sI σ 0 9 (nI (a + 1))) Q := fun c v hc hv hn hs q => at94 _ v hv (short c hn ((kc c hc).mp q) v hs)
  refine ⟨fun q => self 34 (by decide) (by decide) rfl q, fun n1 => ⟨fun q => self 92 (by decide) (by decide) rfl q, fun n2 => ⟨fun n3 => ⟨fun n4 => ⟨fun n5 => ⟨fun n6 => ⟨fun n7 => ⟨fun n8 => ?_, fun q => oth 116 9 (by decide) (by decide) (by decide) rfl q⟩, fun q => oth 114 13 (by decide) (by decide) (by decide) rfl q⟩, fun q => oth 110 10 (by decide) (by decide) (by decide) rfl q⟩, fun q => oth 102 12 (by decide) (by decide) (by decide) rfl q⟩, fun q => oth 98 8 (by decide) (by decide) (by decide) rfl q⟩, fun q => self 47 (by decide) (by decide) rfl q⟩⟩⟩
  by_cases hy : Chr l (a + 1) 117
  · exact uni hy _ ((kc 117 (by decide)).mpr hy)
  · have e : esR l a = esS l (a + 1) := if_neg hy
    have e2 : esS l (a + 1) = (none, a + 1) := by
      unfold esS
      by_cases hp : a + 1 < l.length
      · rw [if_pos hp]
        have nn : ∀ c, c < 256 → ¬ hr l (a + 1) = nI c → gA l (a + 1) ≠ c := fun c hc q z => q ((kc c hc).mpr ⟨hp, z⟩)
        have a1 := nn 34 (by decide) n1
        have a2 := nn 92 (by decide) n2
        have a3 := nn 47 (by decide) n3
        have a4 := nn 98 (by decide) n4
        have a5 := nn 102 (by decide) n5
        have a6 := nn 110 (by decide) n6
        have a7 := nn 114 (by decide) n7
        have a8 := nn 116 (by decide) n8
        have : shE (gA l (a + 1)) = none := by
          unfold shE
          rw [if_neg (by omega), if_neg a4, if_neg a5, if_neg a6, if_neg a7, if_neg a8]
        rw [this]
      · rw [if_neg hp]
    rw [e2] at e
    refine b_Mo_takeEscape_94 (d := d + 1) ⟨fun _ => ⟨fun q => absurd ((kc 117 (by decide)).mp q) hy, fun _ => ⟨_, rfl, F0, by rw [e]; exact gI_sI_s _ _ _ _, Or.inl ⟨rfl, by rw [e], R0⟩⟩⟩, fun q => absurd (by decide) q⟩
