theorem sp_len {T : Nat → Nat} {c : Nat} {p : Int} (hc : c ≤ 19) : (spL T c p).length ≤ 30 := by
  unfold spL
  by_cases h : 21 < p ∨ p < -5
  · rw [if_pos h, List.length_append]
    have := dg_len T c c
    have := pw_len p
    omega
  · rw [if_neg h]
    unfold plL
    have h1 := pl_len T p c
    by_cases g : p ≤ 0
    · rw [if_pos g, List.length_append, List.length_append, List.length_append, zr_len, zr_len]
      simp
      omega
    · rw [if_neg g, List.nil_append, List.length_append, zr_len]
      omega
theorem spL_ext {T S : Nat → Nat} {c : Nat} {p : Int} (h : ∀ i, i < c → T i = S i) : spL T c p = spL S c p := by
  unfold spL
  have e1 : dgL T c c = dgL S c c := gl_ext (fun i hi => by unfold dgF; rw [h i hi])
  have e2 : gl (plF T p) c = gl (plF S p) c := gl_ext (fun i hi => by unfold plF; rw [h i hi])
  unfold plL
  rw [e1, e2]
/-- one number, one row of bytes -/
theorem SpB_uniq {B : Nat} {m m' : List Nat} (h : SpB B m) (h' : SpB B m') : m = m' := by
  rcases h with ⟨h0, rfl⟩ | ⟨h0, T, c, p, Z, up, hS, hc1, hc2, hT, hT0, hTl, hSV, hp1, hp2, rfl⟩
  · rcases h' with ⟨_, rfl⟩ | ⟨h1, _⟩
    · rfl
    · rw [h0] at h1; exact absurd h1 (by decide)
  · rcases h' with ⟨h1, _⟩ | ⟨_, T', c', p', Z', up', hS', hc1', hc2', hT', hT0', hTl', hSV', hp1', hp2', rfl⟩
    · rw [h1] at h0; exact absurd h0 (by decide)
    · obtain ⟨rfl, rfl⟩ := Shrt_uniq hS hS'
      obtain ⟨rfl, rfl, hd⟩ := norm_uniq hc1 hc1' hT hT' hT0 hT0' hTl hTl' (by omega) (by omega) hSV hSV'
      rw [spL_ext hd]
def MV : Nat → Nat → Prop := fun p k => MS p k ∨ MN p k
theorem MS_18 : ¬ MS 0 18 := by unfold MS MK MR MT MP; omega
theorem c_spell {E : En_t} {d B : Nat} {σ : S_t} (hB : B < 2 ^ 64) (hfin : B % 2 ^ 63 < 9218868437227405312) : CV E (d + 6) m_Mo_spell [pv E 0, .long (lN B)] σ (fun σ' => Fs MV σ σ' ∧ ∃ m, SpB B m ∧ PnM σ' m ∧ m.length ≤ 40) := by
  refine CE.of (L := [(0, pv E 0), (1, .long (lN B))]) rfl (Nat.le_of_ble_eq_true rfl) rfl (b_Mo_spell_0 ?_)
  rw [x_pos hB, x_neg hB]
  have hz : lg_cmp (lN (B % 2 ^ 63)) (0 : Int64) = 0 ↔ B % 2 ^ 63 = 0 := lg_eq (b := 0) (by omega) (by omega)
  rw [hz]
  have n18 : MN 0 18 := Or.inr ⟨rfl, rfl⟩
  have F0 : Fs MV σ (sI σ 0 18 0) := Fs.rf.si (Or.inr n18)
  have wN : ∀ {τ τ'}, Fs MN τ τ' → Fs MV τ τ' := fun h => h.mono (fun _ _ q => Or.inr q)
  have P0 : PnM (sI σ 0 18 0) [] := ⟨gI_sI_s _ _ _ _, fun k hk => absurd hk (Nat.not_lt_zero _)⟩
  refine ⟨fun g => (c_shortest (by omega) hfin).mono (fun σ1 hq => ?_), fun g => ?_⟩
  · obtain ⟨F1, Z, up, hS, T, k, p, a15, a16, hT, hk1, hk2, hT0, hTl, hSV, hp1, hp2⟩ := hq
    have G1 : Fs MV σ σ1 := F0.tr (F1.mono (fun _ _ q => Or.inl q))
    have P1 : PnM σ1 [] := ⟨by rw [F1.1 0 18 MS_18]; exact P0.1, fun k hk => absurd hk (Nat.not_lt_zero _)⟩
    have A1 : ShA σ1 T k p := ⟨a15, a16, fun i hi => (hT i hi).1⟩
    have hlen := sp_len (T := T) (p := p) (show k ≤ 19 by omega)
    have fin : SpB B ((if B < 2 ^ 63 then [] else [45]) ++ spL T k p) := Or.inr ⟨by omega, T, k, p, Z, up, hS, hk1, by omega, fun i hi => (hT i hi).2, hT0, hTl, hSV, by omega, by omega, rfl⟩
    refine ⟨fun g2 => ?_, fun g2 => ?_⟩
    · rw [if_pos g2, List.nil_append] at fin
      exact (c_spell2 A1 hk1 hk2 (by omega) (by omega) P1 (by simp)).mono (fun r σ2 hq2 => ⟨hq2.1, G1.tr (wN hq2.2.1), _, fin, by have := hq2.2.2; rw [List.nil_append] at this; exact this, by omega⟩)
    · rw [if_neg g2] at fin
      refine (c_printing (x := 45) P1 (by simp)).mono (fun σ2 hq2 => ?_)
      exact (c_spell2 (A1.fs hq2.1) hk1 hk2 (by omega) (by omega) hq2.2 (by simp)).mono (fun r σ3 hq3 => ⟨hq3.1, (G1.tr (wN hq2.1)).tr (wN hq3.2.1), _, fin, by have := hq3.2.2; rw [List.nil_append] at this; exact this, by rw [List.length_append]; simp; omega⟩)
  · exact (c_printing (x := 48) P0 (by simp)).mono (fun σ2 hq2 => ⟨rfl, F0.tr (wN hq2.1), [48], Or.inl ⟨g, rfl⟩, hq2.2, by simp⟩)
theorem take_gA {m : List Nat} {j : Nat} (h : j < m.length) : m.take (j + 1) = m.take j ++ [gA m j] := by
  rw [List.take_succ]
  congr 1
  unfold gA
  rw [List.getD_eq_getElem?_getD, List.getElem?_eq_getElem h]
  rfl
theorem PnM.fs {σ σ' : S_t} {l : List Nat} (h : PnM σ l) (hF : Fs MU σ σ') : PnM σ' l := by
  have n1 : ¬ MU 0 18 := by unfold MU; omega
  have n2 : ∀ k, ¬ MU 7 k := fun k => by unfold MU; omega
  exact ⟨by rw [hF.1 0 18 n1]; exact h.1, fun k hk => by rw [hF.1 7 k (n2 k)]; exact h.2 k hk⟩
def MX : Nat → Nat → Prop := fun p k => MV p k ∨ MU p k
theorem c_printM {E : En_t} {d B : Nat} {σ : S_t} (hB : B < 2 ^ 64) : CI E (d + 7) m_Mo_print [pv E 0, .long (lN B)] σ (fun x σ' => (¬ B % 2 ^ 63 < 9218868437227405312 ∧ x = -1 ∧ σ' = σ) ∨ (B % 2 ^ 63 < 9218868437227405312 ∧ Fs MX σ σ' ∧ ∃ m, SpB B m ∧ OuM σ' m ∧ m.length ≤ 40 ∧ x = nI m.length)) := by
  refine CE.of (L := [(0, pv E 0), (1, .long (lN B))]) rfl (Nat.le_of_ble_eq_true rfl) rfl (b_Mo_print_0 ((c_isNumM hB).mono (fun x σ1 hq => ?_)))
  rw [hq.1, hq.2]
  unfold isN
  rw [bI_d]
  refine ⟨fun g => ?_, fun g => ⟨_, rfl, Or.inl ⟨g, rfl, rfl⟩⟩⟩
  have g := Classical.not_not.mp g
  refine (c_spell hB g).mono (fun σ2 hq2 => ?_)
  obtain ⟨F2, m, hm, P2, hl⟩ := hq2
  refine c_clearM.mono (fun σ3 hq3 => ?_)
  have P3 := P2.fs hq3.1
  have F3 : Fs MX σ σ3 := (F2.mono (fun _ _ q => Or.inl q)).tr (hq3.1.mono (fun _ _ q => Or.inr q))
  have loop : ∀ (n j : Nat) (τ : S_t), j + n = m.length → Fs MX σ τ → PnM τ m → OuM τ (m.take j) → JE E (d + 7) m_Mo_print 20 [(0, pv E 0), (3, .int (nI j))] [] τ (fun r σ' => ∃ x, r = some (.int x) ∧ ((¬ B % 2 ^ 63 < 9218868437227405312 ∧ x = -1 ∧ σ' = σ) ∨ (B % 2 ^ 63 < 9218868437227405312 ∧ Fs MX σ σ' ∧ ∃ m, SpB B m ∧ OuM σ' m ∧ m.length ≤ 40 ∧ x = nI m.length))) := by
    intro n
    induction n with
    | zero =>
      intro j τ hj hF hP hO
      have : j = m.length := by omega
      subst this
      rw [List.take_length] at hO
      refine b_Mo_print_20 ⟨fun _ => ⟨_, rfl, Or.inr ⟨g, hF, m, hm, hO, hl, hO.2.1⟩⟩, fun q => absurd (by rw [hP.1]; exact Int32.le_refl _) q⟩
    | succ n ih =>
      intro j τ hj hF hP hO
      refine b_Mo_print_20 ⟨fun q => absurd q (by rw [hP.1]; exact nI_ge (by omega) (by omega)), fun _ => ⟨vin (by omega) (by omega), ?_⟩⟩
      rw [nI_clamp (by omega), hP.2 j (by omega)]
      refine (c_putM hO).mono (fun σ4 hq4 => ?_)
      rw [nI_1]
      refine ih (j + 1) σ4 (by omega) (hF.tr (hq4.1.mono (fun _ _ q => Or.inr q))) (hP.fs hq4.1) ?_
      rw [take_gA (by omega)]; exact hq4.2
  exact loop m.length 0 σ3 (by omega) F3 P3 hq3.2
