/-! pointers of the class: the marks -/
def mL (T : List (List Nat)) : List Int32 := (T.map (fun t => (-2 : Int32) :: t.map nI)).flatten
theorem mL_cons (t : List Nat) (B : List (List Nat)) : mL (t :: B) = (-2 : Int32) :: (t.map nI ++ mL B) := by unfold mL; simp
theorem mL_split (A B : List (List Nat)) : mL (A ++ B) = mL A ++ mL B := by unfold mL; rw [List.map_append, List.flatten_append]
theorem mL_none (T : List (List Nat)) (c : List Nat) : mL (T ++ [c] ++ [[]]) = mL (T ++ [c]) ++ [-2] := by rw [mL_split (T ++ [c])]; rfl
theorem mL_some (T : List (List Nat)) (c : List Nat) (v : Nat) : mL (T ++ [c ++ [v]]) = mL (T ++ [c]) ++ [nI v] := by
  rw [mL_split, mL_split, mL_cons, mL_cons]
  simp [mL]
def mA (M : List Int32) (k : Nat) : Int32 := M.getD k 0
theorem mA_lt {M N : List Int32} {k : Nat} (h : k < M.length) : mA (M ++ N) k = mA M k := by unfold mA; rw [List.getD_eq_getElem?_getD, List.getD_eq_getElem?_getD, List.getElem?_append_left h]
theorem mA_ge (M N : List Int32) (j : Nat) : mA (M ++ N) (M.length + j) = mA N j := by unfold mA; rw [List.getD_eq_getElem?_getD, List.getD_eq_getElem?_getD, List.getElem?_append_right (by omega), show M.length + j - M.length = j by omega]
theorem mlen1 (M : List Int32) (x : Int32) : (M ++ [x]).length = M.length + 1 := by rw [List.length_append]; rfl
def CPo : Nat → Nat → Prop := fun p k => p = 70 ∨ (p = 69 ∧ k = 1) ∨ (p = 51 ∧ k = 2)
def MkC (σ : S_t) (M : List Int32) : Prop := gI σ 69 1 = nI M.length ∧ ∀ k, k < M.length → gI σ 70 k = mA M k
def MrkR (m : Option Nat) : Int32 := match m with
  | none => -2
  | some v => nI v
theorem c_nextMark {E : En_t} {d a : Nat} {l : List Nat} {σ : S_t} (hT : TpC σ l) (hb : Bt l) (hl : l.length ≤ 2000) (h9 : gI σ 51 2 = nI a) (ha : a < l.length) : CI E (d + 2) m_Po_nextMark [pv E 51] σ (fun r σ' => Fg (fun p k => p = 51 ∧ k = 2) σ σ' ∧ ((r = -1 ∧ mst l a = none) ∨ ∃ m a', r = MrkR m ∧ mst l a = some (m, a') ∧ gI σ' 51 2 = nI a')) := by
  have hg := Bt_gA hb a
  have f1 : ∀ {b : Nat}, Fg (fun p k => p = 51 ∧ k = 2) σ (sI σ 51 2 (nI b)) := Fg.rf.si ⟨rfl, rfl⟩
  have t1 : ∀ {b : Nat}, TpC (sI σ 51 2 (nI b)) l := TpC_fg f1 (by omega) (fun k => by omega) hT
  refine CE.of (L := [(0, pv E 51)]) rfl (Nat.le_of_ble_eq_true rfl) rfl (b_Po_nextMark_0 ((c_passC (c := 47) hT hb hl (by omega) h9 (by decide)).mono (fun r σ1 hq => ?_)))
  rcases hq with ⟨rfl, hn, rfl⟩ | ⟨rfl, hy, rfl⟩
  · have n47 : ¬ gA l a = 47 := fun z => hn ⟨ha, z⟩
    refine ⟨fun _ => (c_passC (c := 126) hT hb hl (by omega) h9 (by decide)).mono (fun r σ1 hq => ?_), fun q => absurd rfl q⟩
    rcases hq with ⟨rfl, hn2, rfl⟩ | ⟨rfl, hy, rfl⟩
    · have n126 : ¬ gA l a = 126 := fun z => hn2 ⟨ha, z⟩
      refine ⟨fun q => absurd rfl q, fun _ => (c_nextCh hT hb hl h9 (by omega)).mono (fun r σ2 hq => ?_)⟩
      obtain ⟨F2, hq⟩ := hq
      rcases hq with ⟨rfl, e, hf, _⟩ | ⟨c, e, rfl, ho, he⟩
      · refine ⟨_, rfl, F2, Or.inl ⟨rfl, ?_⟩⟩
        rcases hf with ⟨q, _⟩ | ⟨_, q1, q2⟩
        · exact absurd ha q
        · unfold mst; rw [if_neg n47, if_neg n126, if_neg (by omega), if_neg (U8F_no q2)]
      · refine ⟨_, rfl, F2, Or.inr ⟨some c, e, rfl, ?_, he⟩⟩
        rcases ho.2 with ⟨q1, q2, q3⟩ | ⟨q1, q2, q3, q4⟩
        · unfold mst; rw [if_neg n47, if_neg n126, if_pos q1, q2, q3]
        · unfold mst; rw [if_neg n47, if_neg n126, if_neg (by omega), if_pos q2, q3, q4]
    · have y126 := hy.2
      refine ⟨fun _ => (c_passC (c := 48) (a := a + 1) t1 hb hl (by omega) (gI_sI_s _ _ _ _) (by decide)).mono (fun r σ1 hq => ?_), fun q => absurd q (by decide)⟩
      rcases hq with ⟨rfl, hn2, rfl⟩ | ⟨rfl, hy2, rfl⟩
      · refine ⟨fun _ => (c_passC (c := 49) (a := a + 1) t1 hb hl (by omega) (gI_sI_s _ _ _ _) (by decide)).mono (fun r σ1 hq => ?_), fun q => absurd rfl q⟩
        rcases hq with ⟨rfl, hn3, rfl⟩ | ⟨rfl, hy3, rfl⟩
        · exact ⟨fun _ => ⟨_, rfl, f1, Or.inl ⟨rfl, by unfold mst; rw [if_neg n47, if_pos y126, if_neg hn2, if_neg hn3]⟩⟩, fun q => absurd rfl q⟩
        · exact ⟨fun q => absurd q (by decide), fun _ => ⟨_, rfl, f1.si ⟨rfl, rfl⟩, Or.inr ⟨some 47, a + 2, rfl, by unfold mst; rw [if_neg n47, if_pos y126, if_neg hn2, if_pos hy3], gI_sI_s _ _ _ _⟩⟩⟩
      · exact ⟨fun q => absurd q (by decide), fun _ => ⟨_, rfl, f1.si ⟨rfl, rfl⟩, Or.inr ⟨some 126, a + 2, rfl, by unfold mst; rw [if_neg n47, if_pos y126, if_pos hy2], gI_sI_s _ _ _ _⟩⟩⟩
  · exact ⟨fun q => absurd q (by decide), fun _ => ⟨_, rfl, f1, Or.inr ⟨none, a + 1, rfl, by unfold mst; rw [if_pos hy.2], gI_sI_s _ _ _ _⟩⟩⟩
theorem MrkR_ne {l : List Nat} {a a' : Nat} {m : Option Nat} (hb : Bt l) (h : mst l a = some (m, a')) : ¬ MrkR m = -1 := by
  cases m with
  | none => decide
  | some v =>
    have := mst_ltr hb h
    intro e
    exact nI_neg1 (by unfold Ltr at this; omega) e.symm
theorem MkC_push {σ : S_t} {M : List Int32} {x : Int32} (h : MkC σ M) (hl : M.length < 2000) : MkC (sI (sI σ 70 M.length x) 69 1 (nI (M.length + 1))) (M ++ [x]) := by
  refine ⟨by rw [gI_sI_s, mlen1], fun k hk => ?_⟩
  rw [mlen1] at hk
  rw [gI_sI_n (Or.inl (by decide))]
  by_cases q : k = M.length
  · subst q; rw [gI_sI_s]; exact (mA_ge M [x] 0).symm
  · rw [gI_sI_n (Or.inr q), mA_lt (by omega)]; exact h.2 k (by omega)
theorem c_decode {E : En_t} {d : Nat} {l : List Nat} {σ : S_t} (hT : TpC σ l) (hb : Bt l) (hl : l.length ≤ 2000) : CI E (d + 3) m_Po_decode [pv E 69, pv E 51] σ (fun r σ' => Fg CPo σ σ' ∧ ((r = 0 ∧ ptr l = none) ∨ (r = 1 ∧ ∃ T, ptr l = some T ∧ MkC σ' (mL T) ∧ (mL T).length ≤ 2000))) := by
  let Q : Option Value → S_t → Prop := fun q σ' => ∃ r, q = some (.int r) ∧ (Fg CPo σ σ' ∧ ((r = 0 ∧ ptr l = none) ∨ (r = 1 ∧ ∃ T, ptr l = some T ∧ MkC σ' (mL T) ∧ (mL T).length ≤ 2000)))
  have c51 : ∀ {p k : Nat}, (p = 51 ∧ k = 2) → CPo p k := fun h => Or.inr (Or.inr h)
  have fT : ∀ {τ : S_t}, Fg CPo σ τ → TpC τ l := fun hF => TpC_fg hF (by unfold CPo; omega) (fun k => by unfold CPo; omega) hT
  -- one mark more
  have step : ∀ (a : Nat) (M : List Int32) (τ : S_t), a < l.length → Fg CPo σ τ → MkC τ M → M.length ≤ a → gI τ 51 2 = nI a → (mst l a = none → ptr l = none) → (∀ m a' τ', mst l a = some (m, a') → Fg CPo σ τ' → MkC τ' (M ++ [MrkR m]) → gI τ' 51 2 = nI a' → JE E (d + 3) m_Po_decode 30 [(0, pv E 69), (1, pv E 51), (2, .int (nI (M.length + 1)))] [] τ' Q) → JE E (d + 3) m_Po_decode 30 [(0, pv E 69), (1, pv E 51), (2, .int (nI M.length))] [] τ Q := by
    intro a M τ hal hF hM hlen h9 hno k
    refine b_Po_decode_30 ⟨fun q => absurd q (nI_ge (b := 2000) (by omega) (by decide)), fun _ => ?_⟩
    rw [(fT hF).1, h9]
    refine ⟨fun q => absurd q (nI_ge hal (by omega)), fun _ => (c_nextMark (fT hF) hb hl h9 hal).mono (fun r σ1 hq => ?_)⟩
    obtain ⟨F1, hq⟩ := hq
    have hF1 : Fg CPo σ σ1 := hF.tr (F1.mono (fun _ _ z => c51 z))
    rcases hq with ⟨rfl, hm⟩ | ⟨m, a', rfl, hm, h9'⟩
    · exact ⟨fun q => absurd rfl q, fun _ => ⟨_, rfl, hF1, Or.inl ⟨rfl, hno hm⟩⟩⟩
    · refine ⟨fun _ => ⟨vin (by omega) (by decide), ?_⟩, fun q => absurd q (MrkR_ne hb hm)⟩
      have hM1 : MkC σ1 M := ⟨by rw [F1.1 69 1 (by omega)]; exact hM.1, fun k hk => by rw [F1.1 70 k (by omega)]; exact hM.2 k hk⟩
      rw [nI_clamp (by omega), gI_sI_n (Or.inl (by decide)), hM1.1, nI_1]
      exact k m a' _ hm ((hF1.si (Or.inl rfl)).si (Or.inr (Or.inl ⟨rfl, rfl⟩))) (MkC_push hM1 (by omega)) (by rw [gI_sI_n (Or.inl (by decide)), gI_sI_n (Or.inl (by decide))]; exact h9')
  have fin : ∀ (a : Nat) (T : List (List Nat)) (τ : S_t), l.length ≤ a → a ≤ l.length → Fg CPo σ τ → MkC τ (mL T) → (mL T).length ≤ a → gI τ 51 2 = nI a → ptr l = some T → JE E (d + 3) m_Po_decode 30 [(0, pv E 69), (1, pv E 51), (2, .int (nI (mL T).length))] [] τ Q := by
    intro a T τ h1 h2 hF hM hlen h9 hp
    have res : Q (some (.int (1 : Int32))) τ := ⟨_, rfl, hF, Or.inr ⟨rfl, T, hp, hM, by omega⟩⟩
    refine b_Po_decode_30 ⟨fun _ => res, fun _ => ?_⟩
    rw [(fT hF).1, h9]
    exact ⟨fun _ => res, fun q => absurd (nI_le h1 (by omega)) q⟩
  have loop : ∀ (f a : Nat) (T : List (List Nat)) (c : List Nat) (τ : S_t), l.length ≤ a + f → a ≤ l.length → Fg CPo σ τ → MkC τ (mL (T ++ [c])) → (mL (T ++ [c])).length ≤ a → gI τ 51 2 = nI a → ptr l = prs l f a T c → JE E (d + 3) m_Po_decode 30 [(0, pv E 69), (1, pv E 51), (2, .int (nI (mL (T ++ [c])).length))] [] τ Q := by
    intro f
    induction f with
    | zero => intro a T c τ h1 h2 hF hM hlen h9 hp; exact fin a _ τ (by omega) h2 hF hM hlen h9 hp
    | succ f ih =>
      intro a T c τ h1 h2 hF hM hlen h9 hp
      by_cases hal : a < l.length
      · have hp2 : ptr l = (match mst l a with
          | none => none
          | some (none, a') => prs l f a' (T ++ [c]) []
          | some (some v, a') => prs l f a' T (c ++ [v])) := hp.trans (if_pos hal)
        refine step a _ τ hal hF hM hlen h9 (fun hm => by rw [hp2, hm]) (fun m a' τ' hm hF' hM' h9' => ?_)
        obtain ⟨q1, q2⟩ := mst_le hal hm
        rw [hm] at hp2
        cases m with
        | none =>
          have := ih a' (T ++ [c]) [] τ' (by omega) q2 hF' (by rw [mL_none]; exact hM') (by rw [mL_none, mlen1]; omega) h9' hp2
          rw [mL_none, mlen1] at this
          exact this
        | some v =>
          have := ih a' T (c ++ [v]) τ' (by omega) q2 hF' (by rw [mL_some]; exact hM') (by rw [mL_some, mlen1]; omega) h9' hp2
          rw [mL_some, mlen1] at this
          exact this
      · exact fin a _ τ (by omega) h2 hF hM hlen h9 (hp.trans (if_neg hal))
  have hF0 : Fg CPo σ (sI (sI σ 51 2 (0 : Int32)) 69 1 (0 : Int32)) := (Fg.rf.si (c51 ⟨rfl, rfl⟩)).si (Or.inr (Or.inl ⟨rfl, rfl⟩))
  have hM0 : MkC (sI (sI σ 51 2 (0 : Int32)) 69 1 (0 : Int32)) [] := ⟨gI_sI_s _ _ _ _, fun k hk => absurd hk (Nat.not_lt_zero k)⟩
  have h90 : gI (sI (sI σ 51 2 (0 : Int32)) 69 1 (0 : Int32)) 51 2 = nI 0 := by rw [gI_sI_n (Or.inl (by decide)), gI_sI_s]; rfl
  refine CE.of (L := [(0, pv E 69), (1, pv E 51)]) rfl (Nat.le_of_ble_eq_true rfl) rfl (b_Po_decode_0 ?_)
  generalize sI (sI σ 51 2 (0 : Int32)) 69 1 (0 : Int32) = ρ at hF0 hM0 h90 ⊢
  rw [(fT hF0).1, show nI l.length ≤ (0 : Int32) ↔ l.length ≤ 0 from nI_leI (b := 0) (by omega) (by decide)]
  refine ⟨fun q => b_Po_decode_28 ?_, fun q => (c_hereC (fT hF0) hb hl (by omega) h90).mono (fun r σ1 hq => ?_)⟩
  · have hl0 : l = [] := List.length_eq_zero_iff.mp (by omega)
    exact fin 0 [] ρ (by omega) (by omega) hF0 hM0 (Nat.le_refl _) h90 (by unfold ptr; rw [if_pos hl0])
  · have hl0 : l ≠ [] := fun z => by rw [z] at q; exact q (Nat.le_refl _)
    rw [hq.1, hq.2, show hr l 0 = (47 : Int32) ↔ Chr l 0 47 from hr_chr (c := 47) hb (by decide)]
    refine ⟨fun h47 => b_Po_decode_28 (step 0 [] ρ (by omega) hF0 hM0 (Nat.le_refl _) h90 (fun hm => ?_) (fun m a' τ' hm hF' hM' h9' => ?_)), fun h47 => ⟨_, rfl, hF0, Or.inl ⟨rfl, ?_⟩⟩⟩
    · unfold mst at hm; rw [if_pos h47.2] at hm; cases hm
    · unfold mst at hm; rw [if_pos h47.2] at hm; cases hm
      exact loop l.length 1 [] [] τ' (by omega) (by omega) hF' hM' (Nat.le_refl _) h9' (by unfold ptr; rw [if_neg hl0, if_pos h47.2])
    · unfold ptr; rw [if_neg hl0, if_neg (fun z => h47 ⟨by omega, z⟩)]
