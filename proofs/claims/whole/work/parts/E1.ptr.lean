/-! pointers: the tokens -/
noncomputable def mst (l : List Nat) (a : Nat) : Option (Option Nat × Nat) :=
  if gA l a = 47 then some (none, a + 1)
  else if gA l a = 126 then (if Chr l (a + 1) 48 then some (some 126, a + 2) else if Chr l (a + 1) 49 then some (some 47, a + 2) else none)
  else if gA l a < 128 then some (some (gA l a), a + 1)
  else @ite _ (U8O l a) (Classical.propDecidable _) (some (some (uV l a), uE l a)) none
noncomputable def prs (l : List Nat) : Nat → Nat → List (List Nat) → List Nat → Option (List (List Nat))
  | 0, _, T, c => some (T ++ [c])
  | f + 1, a, T, c => if a < l.length then (match mst l a with
    | none => none
    | some (none, a') => prs l f a' (T ++ [c]) []
    | some (some v, a') => prs l f a' T (c ++ [v])) else some (T ++ [c])
noncomputable def ptr (l : List Nat) : Option (List (List Nat)) := if l = [] then some [] else if gA l 0 = 47 then prs l l.length 1 [] [] else none
theorem mst_le {l : List Nat} {a a' : Nat} {m : Option Nat} (ha : a < l.length) (h : mst l a = some (m, a')) : a < a' ∧ a' ≤ l.length := by
  unfold mst at h
  split at h
  · cases h; omega
  · split at h
    · split at h
      · rename_i q; cases h; have := q.1; omega
      · split at h
        · rename_i q; cases h; have := q.1; omega
        · cases h
    · split at h
      · cases h; omega
      · split at h
        · rename_i q
          cases h
          have := U8O_le q
          have := q.1
          unfold uE at *
          omega
        · cases h
theorem mst_ltr {l : List Nat} {a a' v : Nat} (hb : Bt l) (h : mst l a = some (some v, a')) : Ltr v := by
  unfold mst at h
  split at h
  · cases h
  · split at h
    · split at h
      · cases h; unfold Ltr; omega
      · split at h
        · cases h; unfold Ltr; omega
        · cases h
    · split at h
      · rename_i q; cases h; unfold Ltr; omega
      · split at h
        · rename_i q
          cases h
          exact (uV_ltr hb q).1
        · cases h
theorem Ltrs_app {s : List Nat} {v : Nat} (h : Ltrs s) (hv : Ltr v) : Ltrs (s ++ [v]) := by
  intro i hi
  rw [len1] at hi
  by_cases q : i = s.length
  · subst q; rw [gA_eq]; exact hv
  · rw [gA_lt (by omega)]; exact h i (by omega)
theorem Ltrs_nil : Ltrs [] := fun i hi => absurd hi (Nat.not_lt_zero i)
theorem prs_ltr {l : List Nat} (hb : Bt l) : ∀ (f a : Nat) (T : List (List Nat)) (c : List Nat) (T' : List (List Nat)), (∀ t ∈ T, Ltrs t) → Ltrs c → prs l f a T c = some T' → ∀ t ∈ T', Ltrs t
  | 0, a, T, c, T', hT, hc, h => by
    cases h
    intro t ht
    rcases List.mem_append.mp ht with q | q
    · exact hT t q
    · rw [List.mem_singleton] at q; rw [q]; exact hc
  | f + 1, a, T, c, T', hT, hc, h => by
    have hTc : ∀ t ∈ T ++ [c], Ltrs t := fun t ht => by
      rcases List.mem_append.mp ht with q | q
      · exact hT t q
      · rw [List.mem_singleton] at q; rw [q]; exact hc
    unfold prs at h
    split at h
    · split at h
      · cases h
      · exact prs_ltr hb f _ _ _ T' hTc Ltrs_nil h
      · rename_i e
        exact prs_ltr hb f _ _ _ T' hT (Ltrs_app hc (mst_ltr hb e)) h
    · cases h; exact hTc
theorem ptr_ltr {l : List Nat} {T : List (List Nat)} (hb : Bt l) (h : ptr l = some T) : ∀ t ∈ T, Ltrs t := by
  unfold ptr at h
  split at h
  · cases h; intro t ht; exact absurd ht List.not_mem_nil
  · split at h
    · exact prs_ltr hb _ _ _ _ T (fun t ht => absurd ht List.not_mem_nil) Ltrs_nil h
    · cases h
/-! the reference -/
def off (T : List (List Nat)) (i : Nat) : Nat := (T.take i).flatten.length
theorem off_app {T : List (List Nat)} {c : List Nat} {i : Nat} (h : i ≤ T.length) : off (T ++ [c]) i = off T i := by
  unfold off; rw [List.take_append_of_le_length h]
theorem off_len (T : List (List Nat)) : off T T.length = T.flatten.length := by unfold off; rw [List.take_length]
def MPo : Nat → Nat → Prop := fun p k => p = 39 ∨ p = 43 ∨ p = 44 ∨ (p = 0 ∧ (k = 44 ∨ k = 62 ∨ k = 9))
/-- the letters and the tokens so far; the one at hand is c -/
def PtM (σ : S_t) (T : List (List Nat)) (c : List Nat) : Prop := RlM σ (T.flatten ++ c) ∧ gI σ 0 62 = nI T.length ∧ (∀ i, i ≤ T.length → gI σ 43 i = nI (off T i)) ∧ ∀ i, i < T.length → gI σ 44 i = nI (T.getD i []).length
def PtT (σ : S_t) (T : List (List Nat)) : Prop := RlM σ T.flatten ∧ gI σ 0 62 = nI T.length ∧ (∀ i, i < T.length → gI σ 43 i = nI (off T i)) ∧ ∀ i, i < T.length → gI σ 44 i = nI (T.getD i []).length
theorem fl1 (T : List (List Nat)) (c : List Nat) : (T ++ [c]).flatten = T.flatten ++ c := by rw [List.flatten_append]; simp
theorem getD_app {T : List (List Nat)} {c : List Nat} {i : Nat} (h : i < T.length) : (T ++ [c]).getD i [] = T.getD i [] := by
  rw [List.getD_eq_getElem?_getD, List.getD_eq_getElem?_getD, List.getElem?_append_left h]
theorem getD_at (T : List (List Nat)) (c : List Nat) : (T ++ [c]).getD T.length [] = c := by
  rw [List.getD_eq_getElem?_getD, List.getElem?_append_right (Nat.le_refl _), Nat.sub_self]; rfl
theorem lenT (T : List (List Nat)) (c : List Nat) : (T ++ [c]).length = T.length + 1 := by rw [List.length_append]; rfl
theorem fs_sub (a b : Nat) : nI (a + b) - nI a = nI b := by rw [pk_sub (by omega)]; congr 1; omega
theorem tcM_fg {σ σ' : S_t} {l : List Nat} (hF : Fg MPo σ σ') (hT : TcM σ l) : TcM σ' l := TcM_fg hF (fun k => by unfold MPo; omega) hT
/-- a token is over -/
theorem PtM_close {σ : S_t} {T : List (List Nat)} {c : List Nat} {x : Int32} (h : PtM σ T c) (hx : x = nI c.length) : Fg MPo σ (sI (sI σ 44 T.length x) 0 62 (nI (T.length + 1))) ∧ PtT (sI (sI σ 44 T.length x) 0 62 (nI (T.length + 1))) (T ++ [c]) := by
  obtain ⟨h1, h2, h3, h4⟩ := h
  refine ⟨(Fg.rf.si (Or.inr (Or.inr (Or.inl rfl)))).si (Or.inr (Or.inr (Or.inr ⟨rfl, Or.inr (Or.inl rfl)⟩))), ?_, ?_, fun i hi => ?_, fun i hi => ?_⟩
  · rw [fl1]
    exact RlM_fg (P := fun p k => p = 44 ∨ (p = 0 ∧ k = 62)) ((Fg.rf.si (Or.inl rfl)).si (Or.inr ⟨rfl, rfl⟩)) (by omega) (fun k => by omega) h1
  · rw [gI_sI_s, lenT]
  · rw [lenT] at hi
    rw [gI_sI_n (Or.inl (by decide)), gI_sI_n (Or.inl (by decide)), off_app (by omega)]
    exact h3 i (by omega)
  · rw [lenT] at hi
    rw [gI_sI_n (Or.inl (by decide))]
    by_cases q : i = T.length
    · subst q; rw [gI_sI_s, getD_at, hx]
    · rw [gI_sI_n (Or.inr q), getD_app (by omega)]; exact h4 i (by omega)
/-- a token begins -/
theorem PtT_open {σ : S_t} {T : List (List Nat)} {a : Nat} (h : PtT σ T) : Fg MPo σ (sI (sI σ 0 9 (nI a)) 43 T.length (nI T.flatten.length)) ∧ PtM (sI (sI σ 0 9 (nI a)) 43 T.length (nI T.flatten.length)) T [] := by
  obtain ⟨h1, h2, h3, h4⟩ := h
  refine ⟨(Fg.rf.si (Or.inr (Or.inr (Or.inr ⟨rfl, Or.inr (Or.inr rfl)⟩)))).si (Or.inr (Or.inl rfl)), ?_, ?_, fun i hi => ?_, fun i hi => ?_⟩
  · rw [List.append_nil]
    exact RlM_fg (P := fun p k => p = 43 ∨ (p = 0 ∧ k = 9)) ((Fg.rf.si (Or.inr ⟨rfl, rfl⟩)).si (Or.inl rfl)) (by omega) (fun k => by omega) h1
  · rw [gI_sI_n (Or.inl (by decide)), gI_sI_n (Or.inr (by decide))]; exact h2
  · by_cases q : i = T.length
    · subst q; rw [gI_sI_s, off_len]
    · rw [gI_sI_n (Or.inr q), gI_sI_n (Or.inl (by decide))]; exact h3 i (by omega)
  · rw [gI_sI_n (Or.inl (by decide)), gI_sI_n (Or.inl (by decide))]; exact h4 i hi
theorem PtM_keep {σ σ' : S_t} {T : List (List Nat)} {c : List Nat} {v : Nat} {P : Nat → Nat → Prop} (hF : Fg P σ σ') (hP : ∀ p k, P p k → p = 39 ∨ (p = 0 ∧ (k = 44 ∨ k = 9))) (h : PtM σ T c) (hR : RlM σ' ((T.flatten ++ c) ++ [v])) : PtM σ' T (c ++ [v]) := by
  obtain ⟨h1, h2, h3, h4⟩ := h
  exact ⟨by rw [← List.append_assoc]; exact hR, by rw [hF.1 0 62 (fun q => by have := hP _ _ q; omega)]; exact h2, fun i hi => by rw [hF.1 43 i (fun q => by have := hP _ _ q; omega)]; exact h3 i hi, fun i hi => by rw [hF.1 44 i (fun q => by have := hP _ _ q; omega)]; exact h4 i hi⟩
theorem c_readPointer {E : En_t} {d : Nat} {l : List Nat} {σ : S_t} (hT : TcM σ l) (hb : Bt l) (hl : l.length ≤ 2000) : CI E (d + 2) m_Mo_readPointer [pv E 0, .int (nI l.length)] σ (fun r σ' => Fg MPo σ σ' ∧ ((r = 0 ∧ ptr l = none) ∨ (r = 1 ∧ ∃ T, ptr l = some T ∧ PtT σ' T))) := by
  let Q : Option Value → S_t → Prop := fun q σ' => ∃ r, q = some (.int r) ∧ (Fg MPo σ σ' ∧ ((r = 0 ∧ ptr l = none) ∨ (r = 1 ∧ ∃ T, ptr l = some T ∧ PtT σ' T)))
  have m9 : MPo 0 9 := Or.inr (Or.inr (Or.inr ⟨rfl, Or.inr (Or.inr rfl)⟩))
  -- a token is over
  have s204 : ∀ (τ : S_t) (a : Nat) (T : List (List Nat)) (c : List Nat), Fg MPo σ τ → PtM τ T c → gI τ 0 9 = nI a → T.length + (T.flatten ++ c).length < a → a ≤ l.length → (∀ τ', Fg MPo σ τ' → PtT τ' (T ++ [c]) → gI τ' 0 9 = nI a → JE E (d + 2) m_Mo_readPointer 15 [(0, pv E 0), (1, .int (nI l.length))] [] τ' Q) → JE E (d + 2) m_Mo_readPointer 204 [(0, pv E 0), (1, .int (nI l.length))] [] τ Q := by
    intro τ a T c hF hP h9 hlen hal k
    refine b_Mo_readPointer_204 ?_
    rw [hP.2.1, nI_clamp (by omega), hP.2.2.1 T.length (Nat.le_refl _), off_len, hP.1.1, List.length_append, fs_sub]
    refine ⟨vin (by omega) (by decide), vin (by omega) (by decide), fun v1 e1 => ?_⟩
    rw [gI_sI_n (Or.inl (by decide)), hP.2.1, nI_1] at e1
    rw [e1]
    obtain ⟨F1, P1⟩ := PtM_close (x := nI c.length) hP rfl
    refine k _ (hF.tr F1) P1 ?_
    rw [gI_sI_n (Or.inr (by decide)), gI_sI_n (Or.inl (by decide))]; exact h9
  -- a token begins
  have s15 : ∀ (τ : S_t) (a : Nat) (T : List (List Nat)), Fg MPo σ τ → PtT τ T → gI τ 0 9 = nI a → T.length + T.flatten.length ≤ a → a < l.length → gA l a = 47 → (∀ τ', Fg MPo σ τ' → PtM τ' T [] → gI τ' 0 9 = nI (a + 1) → JE E (d + 2) m_Mo_readPointer 62 [(0, pv E 0), (1, .int (nI l.length))] [] τ' Q) → JE E (d + 2) m_Mo_readPointer 15 [(0, pv E 0), (1, .int (nI l.length))] [] τ Q := by
    intro τ a T hF hP h9 hlen hal h47 k
    refine b_Mo_readPointer_15 ?_
    rw [h9, nI_clamp (by omega), (tcM_fg hF hT) a hal, h47, nI_1, gI_sI_n (Or.inr (by decide)), hP.2.1, nI_clamp (by omega), gI_sI_n (Or.inr (by decide)), hP.1.1]
    refine ⟨fun q => absurd q (nI_ge hal (by omega)), fun _ => ⟨vin (by omega) (by decide), fun _ => ⟨vin (by omega) (by decide), ?_⟩, fun q => absurd rfl q⟩⟩
    obtain ⟨F1, P1⟩ := PtT_open (a := a + 1) hP
    refine k _ (hF.tr F1) P1 ?_
    rw [gI_sI_n (Or.inl (by decide)), gI_sI_s]
  have loop : ∀ (f a : Nat) (T : List (List Nat)) (c : List Nat) (τ : S_t), l.length ≤ a + f → a ≤ l.length → Fg MPo σ τ → PtM τ T c → gI τ 0 9 = nI a → T.length + (T.flatten ++ c).length < a → ptr l = prs l f a T c → JE E (d + 2) m_Mo_readPointer 62 [(0, pv E 0), (1, .int (nI l.length))] [] τ Q := by
    intro f
    induction f with
    | zero =>
      intro a T c τ h1 h2 hF hP h9 hlen hp
      refine b_Mo_readPointer_62 ?_
      rw [h9]
      refine ⟨fun _ => s204 τ a T c hF hP h9 hlen h2 (fun τ' F' P' h9' => ?_), fun q => absurd (nI_le (show l.length ≤ a by omega) (by omega)) q⟩
      refine b_Mo_readPointer_15 ?_
      rw [h9']
      exact ⟨fun _ => ⟨_, rfl, F', Or.inr ⟨rfl, _, hp, P'⟩⟩, fun q => absurd (nI_le (show l.length ≤ a by omega) (by omega)) q⟩
    | succ f ih =>
      intro a T c τ h1 h2 hF hP h9 hlen hp
      have hTt := tcM_fg hF hT
      by_cases hal : a < l.length
      · have hg := Bt_gA hb a
        have hp2 : ptr l = (match mst l a with
          | none => none
          | some (none, a') => prs l f a' (T ++ [c]) []
          | some (some v, a') => prs l f a' T (c ++ [v])) := hp.trans (if_pos hal)
        refine b_Mo_readPointer_62 ?_
        rw [h9, nI_clamp (by omega), hTt a hal, show nI (gA l a) = (47 : Int32) ↔ gA l a = 47 from nI_eq (b := 47) (by omega) (by decide), show nI (gA l a) = (126 : Int32) ↔ gA l a = 126 from nI_eq (b := 126) (by omega) (by decide), show nI (gA l a) ≤ (127 : Int32) ↔ gA l a ≤ 127 from nI_leI (b := 127) (by omega) (by decide)]
        have hin : vp_in (nI a) 2000 := vin (by omega) (by decide)
        -- a letter more
        have more : ∀ (τ' : S_t) (v a' : Nat) (P : Nat → Nat → Prop), mst l a = some (some v, a') → Fg P τ τ' → (∀ p k, P p k → p = 39 ∨ (p = 0 ∧ (k = 44 ∨ k = 9))) → RlM τ' ((T.flatten ++ c) ++ [v]) → gI τ' 0 9 = nI a' → JE E (d + 2) m_Mo_readPointer 62 [(0, pv E 0), (1, .int (nI l.length))] [] τ' Q := by
          intro τ' v a' P hm hF' hPP hR h9'
          obtain ⟨q1, q2⟩ := mst_le hal hm
          rw [hm] at hp2
          refine ih a' T (c ++ [v]) τ' (by omega) q2 (hF.tr (hF'.mono (fun p k z => by have := hPP p k z; unfold MPo; omega))) (PtM_keep hF' hPP hP hR) h9' ?_ hp2
          rw [← List.append_assoc, len1]; omega
        refine ⟨fun q => absurd q (nI_ge hal (by omega)), fun _ => ⟨hin, fun q47 => ?_, fun q47 => ⟨hin, fun q127 => ⟨fun q126 => ?_, fun q126 => ?_⟩, fun q127 => ?_⟩⟩⟩
        · refine s204 τ a T c hF hP h9 hlen h2 (fun τ' F' P' h9' => s15 τ' a (T ++ [c]) F' P' h9' (by rw [lenT, fl1]; omega) hal q47 (fun τ'' F'' P'' h9'' => ?_))
          have hm : mst l a = some (none, a + 1) := by unfold mst; rw [if_pos q47]
          rw [hm] at hp2
          exact ih (a + 1) (T ++ [c]) [] τ'' (by omega) (by omega) F'' P'' h9'' (by rw [lenT, fl1, List.append_nil]; omega) hp2
        · have hm : mst l a = some (some (gA l a), a + 1) := by unfold mst; rw [if_neg q47, if_neg q126, if_pos (by omega)]
          refine (c_keepM hP.1 (by omega)).mono (fun σ1 hq => b_Mo_readPointer_201 ?_)
          rw [hq.1.1 0 9 (by unfold MKp; omega), h9, nI_1]
          exact more _ _ _ MWd hm ((hq.1.mono (fun p k z => by unfold MKp at z; unfold MWd; omega)).si (Or.inr ⟨rfl, Or.inr rfl⟩)) (fun p k z => z) (RlM_fg (P := fun p k => p = 0 ∧ k = 9) (Fg.rf.si ⟨rfl, rfl⟩) (by omega) (fun k => by omega) hq.2) (gI_sI_s _ _ _ _)
        · rw [nI_1]
          have hR1 : RlM (sI τ 0 9 (nI (a + 1))) (T.flatten ++ c) := RlM_fg (P := fun p k => p = 0 ∧ k = 9) (Fg.rf.si ⟨rfl, rfl⟩) (by omega) (fun k => by omega) hP.1
          have hF1 : Fg MWd τ (sI τ 0 9 (nI (a + 1))) := Fg.rf.si (Or.inr ⟨rfl, Or.inr rfl⟩)
          have hT1 : TcM (sI τ 0 9 (nI (a + 1))) l := TcM_fg hF1 (fun k => by unfold MWd; omega) hTt
          have h91 : gI (sI τ 0 9 (nI (a + 1))) 0 9 = nI (a + 1) := gI_sI_s _ _ _ _
          generalize sI τ 0 9 (nI (a + 1)) = ρ at hR1 hF1 hT1 h91 ⊢
          have fin : ∀ (v : Nat) (s0 : Int32), s0 = nI v → mst l a = some (some v, a + 2) → JE E (d + 2) m_Mo_readPointer 170 [(0, pv E 0), (1, .int (nI l.length))] [.int s0, pv E 0] ρ Q := by
            intro v s0 hs hm
            subst hs
            refine b_Mo_readPointer_170 ((c_keepM hR1 (by omega)).mono (fun σ1 hq => b_Mo_readPointer_201 ?_))
            rw [hq.1.1 0 9 (by unfold MKp; omega), h91, nI_1]
            exact more _ _ _ MWd hm ((hF1.tr (hq.1.mono (fun p k z => by unfold MKp at z; unfold MWd; omega))).si (Or.inr ⟨rfl, Or.inr rfl⟩)) (fun p k z => z) (RlM_fg (P := fun p k => p = 0 ∧ k = 9) (Fg.rf.si ⟨rfl, rfl⟩) (by omega) (fun k => by omega) hq.2) (gI_sI_s _ _ _ _)
          have two : (Chr l (a + 1) 48 ∨ Chr l (a + 1) 49) → JE E (d + 2) m_Mo_readPointer 148 [(0, pv E 0), (1, .int (nI l.length))] [] ρ Q := by
            intro h
            have hlt : a + 1 < l.length := by rcases h with q | q <;> exact q.1
            have hg1 := Bt_gA hb (a + 1)
            refine b_Mo_readPointer_148 ?_
            rw [h91, nI_clamp (by omega), hT1 (a + 1) hlt, show nI (gA l (a + 1)) = (48 : Int32) ↔ gA l (a + 1) = 48 from nI_eq (b := 48) (by omega) (by decide)]
            refine ⟨vin (by omega) (by decide), fun q => fin 47 _ rfl ?_, fun q => fin 126 _ rfl ?_⟩
            · unfold mst
              rw [if_neg q47, if_pos q126, if_neg (fun z => q z.2), if_pos (h.resolve_left (fun z => q z.2))]
            · unfold mst
              rw [if_neg q47, if_pos q126, if_pos ⟨hlt, q⟩]
          refine (c_hereM hT1 hl (by omega) h91).mono (fun r σ1 hq => ?_)
          rw [hq.1, hq.2, show hr l (a + 1) = (48 : Int32) ↔ Chr l (a + 1) 48 from hr_chr (c := 48) hb (by decide)]
          refine ⟨fun q => two (Or.inl q), fun q => (c_hereM hT1 hl (by omega) h91).mono (fun r σ1 hq => ?_)⟩
          rw [hq.1, hq.2, show hr l (a + 1) = (49 : Int32) ↔ Chr l (a + 1) 49 from hr_chr (c := 49) hb (by decide)]
          refine ⟨fun q2 => two (Or.inr q2), fun q2 => ⟨_, rfl, hF.tr (hF1.mono (fun p k z => by unfold MWd at z; unfold MPo; omega)), Or.inl ⟨rfl, ?_⟩⟩⟩
          have hm : mst l a = none := by unfold mst; rw [if_neg q47, if_pos q126, if_neg q, if_neg q2]
          rw [hp2, hm]
        · refine (c_takeWide hTt hb hl h9 hal hP.1 (by omega)).mono (fun r σ1 hq => ?_)
          obtain ⟨F1, hq⟩ := hq
          rcases hq with ⟨rfl, e, hu, he, _⟩ | ⟨rfl, hu, he, hR⟩
          · refine ⟨fun q => absurd rfl q, fun _ => ⟨_, rfl, hF.tr (F1.mono (fun p k z => by unfold MWd at z; unfold MPo; omega)), Or.inl ⟨rfl, ?_⟩⟩⟩
            have hm : mst l a = none := by unfold mst; rw [if_neg q47, if_neg (by omega), if_neg (by omega), if_neg (U8F_no hu)]
            rw [hp2, hm]
          · refine ⟨fun _ => b_Mo_readPointer_201 (more σ1 (uV l a) (uE l a) MWd ?_ F1 (fun p k z => z) hR he), fun q => absurd q (by decide)⟩
            unfold mst; rw [if_neg q47, if_neg (by omega), if_neg (by omega), if_pos hu]
      · refine b_Mo_readPointer_62 ?_
        rw [h9]
        refine ⟨fun _ => s204 τ a T c hF hP h9 hlen h2 (fun τ' F' P' h9' => ?_), fun q => absurd (nI_le (show l.length ≤ a by omega) (by omega)) q⟩
        refine b_Mo_readPointer_15 ?_
        rw [h9']
        refine ⟨fun _ => ⟨_, rfl, F', Or.inr ⟨rfl, _, ?_, P'⟩⟩, fun q => absurd (nI_le (show l.length ≤ a by omega) (by omega)) q⟩
        rw [hp]; unfold prs; rw [if_neg hal]
  have hF0 : Fg MPo σ (sI (sI (sI σ 0 44 (0 : Int32)) 0 62 (0 : Int32)) 0 9 (0 : Int32)) := ((Fg.rf.si (Or.inr (Or.inr (Or.inr ⟨rfl, Or.inl rfl⟩)))).si (Or.inr (Or.inr (Or.inr ⟨rfl, Or.inr (Or.inl rfl)⟩)))).si m9
  have hP0 : PtT (sI (sI (sI σ 0 44 (0 : Int32)) 0 62 (0 : Int32)) 0 9 (0 : Int32)) [] := ⟨⟨by rw [gI_sI_n (Or.inr (by decide)), gI_sI_n (Or.inr (by decide)), gI_sI_s]; rfl, fun k hk => absurd hk (Nat.not_lt_zero k)⟩, by rw [gI_sI_n (Or.inr (by decide)), gI_sI_s]; rfl, fun i hi => absurd hi (Nat.not_lt_zero i), fun i hi => absurd hi (Nat.not_lt_zero i)⟩
  have h90 : gI (sI (sI (sI σ 0 44 (0 : Int32)) 0 62 (0 : Int32)) 0 9 (0 : Int32)) 0 9 = nI 0 := gI_sI_s _ _ _ _
  refine CE.of (L := [(0, pv E 0), (1, .int (nI l.length))]) rfl (Nat.le_of_ble_eq_true rfl) rfl (b_Mo_readPointer_0 ?_)
  generalize sI (sI (sI σ 0 44 (0 : Int32)) 0 62 (0 : Int32)) 0 9 (0 : Int32) = ρ at hF0 hP0 h90 ⊢
  by_cases hl0 : l = []
  · subst hl0
    refine b_Mo_readPointer_15 ?_
    rw [h90]
    exact ⟨fun _ => ⟨_, rfl, hF0, Or.inr ⟨rfl, [], by unfold ptr; rw [if_pos rfl], hP0⟩⟩, fun q => absurd (Int32.le_refl _) q⟩
  · have hpos : 0 < l.length := List.length_pos_iff.mpr hl0
    by_cases h47 : gA l 0 = 47
    · exact s15 ρ 0 [] hF0 hP0 h90 (by simp) hpos h47 (fun τ' F' P' h9' => loop l.length 1 [] [] τ' (by omega) (by omega) F' P' h9' (by simp) (by unfold ptr; rw [if_neg hl0, if_pos h47]))
    · refine b_Mo_readPointer_15 ?_
      rw [h90, nI_clamp (by omega), (tcM_fg hF0 hT) 0 hpos, show nI (gA l 0) = (47 : Int32) ↔ gA l 0 = 47 from nI_eq (b := 47) (by have := Bt_gA hb 0; omega) (by decide)]
      exact ⟨fun q => absurd q (nI_ge hpos (by omega)), fun _ => ⟨vin (by omega) (by decide), fun q => absurd q h47, fun _ => ⟨_, rfl, hF0, Or.inl ⟨rfl, by unfold ptr; rw [if_neg hl0, if_neg h47]⟩⟩⟩⟩
