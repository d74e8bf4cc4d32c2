/-! spell, with its length; makeLike, copy of the reference -/
theorem sp_len25 {T : Nat → Nat} {k : Nat} {p : Int} (hk : k ≤ 17) : (spL T k p).length ≤ 25 := by
  unfold spL
  split
  · rw [List.length_append]
    have := dg_len T k k
    have := pw_len p
    omega
  · rename_i h
    unfold plL
    rw [List.length_append, List.length_append, zr_len]
    have := pl_len T p k
    split
    · rw [List.length_append, List.length_append, zr_len]
      show 1 + 1 + (-p).toNat + _ + _ ≤ 25
      omega
    · show 0 + _ + _ ≤ 25
      omega
theorem c_spellL {E : En_t} {d B : Nat} {σ : S_t} (hB : B < 2 ^ 64) (hfin : B % 2 ^ 63 < 9218868437227405312) : CV E (d + 6) m_Mo_spell [pv E 0, .long (lN B)] σ (fun σ' => Fs MV σ σ' ∧ ∃ m, SpB B m ∧ PnM σ' m ∧ m.length ≤ 26) := by
  refine CE.of (L := [(0, pv E 0), (1, .long (lN B))]) rfl (Nat.le_of_ble_eq_true rfl) rfl (b_Mo_spell_0 ?_)
  rw [x_pos hB, x_neg hB]
  have hz : lg_cmp (lN (B % 2 ^ 63)) (0 : Int64) = 0 ↔ B % 2 ^ 63 = 0 := lg_eq (b := 0) (by omega) (by omega)
  rw [hz]
  have n18 : MN 0 18 := Or.inr ⟨rfl, rfl⟩
  have F0 : Fs MV σ (sI σ 0 18 0) := Fs.rf.si (Or.inr n18)
  have wN : ∀ {τ τ'}, Fs MN τ τ' → Fs MV τ τ' := fun h => h.mono (fun _ _ q => Or.inr q)
  have P0 : PnM (sI σ 0 18 0) [] := ⟨gI_sI_s _ _ _ _, fun k hk => absurd hk (Nat.not_lt_zero _)⟩
  refine ⟨fun g => (c_shortest (by omega) hfin).mono (fun σ1 hq => ?_), fun g => ?_⟩
  · obtain ⟨F1, Z, up, hS, T, k, p, a15, a16, hT, hk1, hk2, hT0, hTl, hSV, hp1, hp2⟩ := hq
    have G1 : Fs MV σ σ1 := F0.tr (F1.mono (fun _ _ q => Or.inl q))
    have P1 : PnM σ1 [] := ⟨by rw [F1.1 0 18 MS_18]; exact P0.1, fun k hk => absurd hk (Nat.not_lt_zero _)⟩
    have A1 : ShA σ1 T k p := ⟨a15, a16, fun i hi => (hT i hi).1⟩
    have hlen := sp_len25 (T := T) (p := p) hk2
    have fin : SpB B ((if B < 2 ^ 63 then [] else [45]) ++ spL T k p) := Or.inr ⟨by omega, T, k, p, Z, up, hS, hk1, by omega, fun i hi => (hT i hi).2, hT0, hTl, hSV, by omega, by omega, rfl⟩
    refine ⟨fun g2 => ?_, fun g2 => ?_⟩
    · rw [if_pos g2, List.nil_append] at fin
      exact (c_spell2 A1 hk1 hk2 (by omega) (by omega) P1 (by simp)).mono (fun r σ2 hq2 => ⟨hq2.1, G1.tr (wN hq2.2.1), _, fin, by have := hq2.2.2; rw [List.nil_append] at this; exact this, by omega⟩)
    · rw [if_neg g2] at fin
      refine (c_printing (x := 45) P1 (by simp)).mono (fun σ2 hq2 => ?_)
      exact (c_spell2 (A1.fs hq2.1) hk1 hk2 (by omega) (by omega) hq2.2 (by simp)).mono (fun r σ3 hq3 => ⟨hq3.1, (G1.tr (wN hq2.1)).tr (wN hq3.2.1), _, fin, by have := hq3.2.2; rw [List.nil_append] at this; exact this, by rw [List.length_append]; simp; omega⟩)
  · exact (c_printing (x := 48) P0 (by simp)).mono (fun σ2 hq2 => ⟨rfl, F0.tr (wN hq2.1), [48], Or.inl ⟨g, rfl⟩, hq2.2, by simp⟩)
/-- the work shelf: its rows, or too much -/
def MoB (σ : S_t) (S : Option (List Row)) : Prop := match S with
  | none => gI σ 0 39 = 1
  | some D => gI σ 0 39 = 0 ∧ MoR σ 8 D ∧ OpA σ D ∧ WfR D
theorem MoA_last {σ σ' : S_t} {D : List Row} {r r' : Row} (hT : MoA σ 8 (D ++ [r])) (hd : r'.2.1 = r.2.1) (hcc : rCc r ≤ rCc r') (c9 : gI σ' 9 8 = gI σ 9 8) (c10 : gI σ' 10 8 = nI (cc D + rCc r')) (c11 : gI σ' 11 8 = nI (bts D + rBt r')) (hold : ∀ k, k < D.length → (∀ p, 13 ≤ p → p ≤ 22 → gI σ' p (4000 + k) = gI σ p (4000 + k)) ∧ gL σ' 25 (4000 + k) = gL σ 25 (4000 + k)) (hch : ∀ i, i < cc (D ++ [r]) → gI σ' 26 (32000 + i) = gI σ 26 (32000 + i)) (hrow : MoRowA σ' 8 (D ++ [r']) D.length) : MoA σ' 8 (D ++ [r']) := by
  obtain ⟨t1, t2, t3, t4⟩ := hT
  have eT := dT_last (D := D) hd
  refine ⟨by rw [c9, t1, lenR, lenR], by rw [cc_app]; exact c10, by rw [bts_app]; exact c11, fun k hk => ?_⟩
  rw [lenR] at hk
  by_cases q : k = D.length
  · subst q; exact hrow
  · have hk : k < D.length := by omega
    have hr := t4 k (by rw [lenR]; omega)
    refine MoRowA_same hr (fun p h1 h2 _ _ => (hold k hk).1 p h1 h2) (hold k hk).2 hch (by rw [cc_app, cc_app]; omega) (by rw [dR_lt hk, dR_lt hk]) (by rw [eT]) (by rw [eT]) ?_ ?_
    · rw [(hold k hk).1 16 (by omega) (by omega), eT, lenR]
      have := hr.2.2.2.1
      rw [lenR] at this; exact this
    · rw [(hold k hk).1 17 (by omega) (by omega), eT, lenR]
      have := hr.2.2.2.2.1
      rw [lenR] at this; exact this
theorem OpA_last {σ σ' : S_t} {D : List Row} {r r' : Row} (hd : r'.2.1 = r.2.1) (h28 : ∀ e, gI σ' 28 e = gI σ 28 e) (h : OpA σ (D ++ [r])) : OpA σ' (D ++ [r']) := by
  intro hl e he
  have eT := dT_last (D := D) hd
  rw [eT, lenR] at he
  rw [eT, lenR, h28]
  have := h (by rw [lenR]; omega) e (by rw [lenR]; exact he)
  rw [lenR] at this
  exact this
