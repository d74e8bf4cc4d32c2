/-! strings: one character, and all of them -/
def u8r (l : List Nat) (a : Nat) : Option Nat × Nat := if uMore (gA l a) = 0 then (none, a) else if ¬ uGood l a 0 then (none, a + 1) else if uMore (gA l a) = 1 then (some (uV l a), uE l a) else if ¬ uGood l a 1 then (none, a + 2) else if uMore (gA l a) = 2 then (some (uV l a), uE l a) else if ¬ uGood l a 2 then (none, a + 3) else (some (uV l a), uE l a)
theorem u8r_O {l : List Nat} {a : Nat} (h : U8O l a) : u8r l a = (some (uV l a), uE l a) := by
  obtain ⟨h0, h1⟩ := h
  have hm := uMore_le (gA l a)
  unfold u8r
  rw [if_neg (by omega), if_neg (fun z => z (h1 0 h0))]
  by_cases m1 : uMore (gA l a) = 1
  · rw [if_pos m1]
  · rw [if_neg m1, if_neg (fun z => z (h1 1 (by omega)))]
    by_cases m2 : uMore (gA l a) = 2
    · rw [if_pos m2]
    · rw [if_neg m2, if_neg (fun z => z (h1 2 (by omega)))]
theorem u8r_F {l : List Nat} {a e : Nat} (h : U8F l a e) : u8r l a = (none, e) := by
  have hm := uMore_le (gA l a)
  unfold u8r
  rcases h with ⟨h0, rfl⟩ | ⟨j, j1, j2, j3, rfl⟩
  · rw [if_pos h0]
  · rw [if_neg (by omega)]
    by_cases j0 : j = 0
    · subst j0; rw [if_pos j3]
    · rw [if_neg (fun z => z (j2 0 (by omega))), if_neg (by omega)]
      by_cases ja : j = 1
      · subst ja; rw [if_pos j3]
      · rw [if_neg (fun z => z (j2 1 (by omega))), if_neg (by omega)]
        have jb : j = 2 := by omega
        subst jb; rw [if_pos j3]
theorem u8_or {l : List Nat} {a : Nat} : U8O l a ∨ ∃ e, U8F l a e := by
  rcases Classical.em (U8O l a) with h | h
  · exact Or.inl h
  · refine Or.inr ?_
    have hm := uMore_le (gA l a)
    by_cases m0 : uMore (gA l a) = 0
    · exact ⟨a, Or.inl ⟨m0, rfl⟩⟩
    · by_cases g0 : uGood l a 0
      · by_cases m1 : uMore (gA l a) = 1
        · refine absurd ⟨by omega, fun j hj => ?_⟩ h
          have : j = 0 := by omega
          subst this; exact g0
        · by_cases g1 : uGood l a 1
          · by_cases m2 : uMore (gA l a) = 2
            · refine absurd ⟨by omega, fun j hj => ?_⟩ h
              rcases (show j = 0 ∨ j = 1 by omega) with z | z
              · subst z; exact g0
              · subst z; exact g1
            · by_cases g2 : uGood l a 2
              · refine absurd ⟨by omega, fun j hj => ?_⟩ h
                rcases (show j = 0 ∨ j = 1 ∨ j = 2 by omega) with z | z | z
                · subst z; exact g0
                · subst z; exact g1
                · subst z; exact g2
              · refine ⟨a + 1 + 2, Or.inr ⟨2, by omega, fun i hi => ?_, g2, rfl⟩⟩
                rcases (show i = 0 ∨ i = 1 by omega) with z | z
                · subst z; exact g0
                · subst z; exact g1
          · refine ⟨a + 1 + 1, Or.inr ⟨1, by omega, fun i hi => ?_, g1, rfl⟩⟩
            have : i = 0 := by omega
            subst this; exact g0
      · exact ⟨a + 1 + 0, Or.inr ⟨0, by omega, fun i hi => absurd hi (Nat.not_lt_zero i), g0, rfl⟩⟩
/-- a step fits the text -/
def Fit (l : List Nat) (p : Nat) (r : Option Nat × Nat) : Prop := r.2 ≤ l.length ∧ ∀ c, r.1 = some c → Ltr c ∧ p + bl c ≤ r.2
theorem u8r_fit {l : List Nat} {a : Nat} (hb : Bt l) (ha : a < l.length) : Fit l a (u8r l a) := by
  rcases u8_or (l := l) (a := a) with h | ⟨e, h⟩
  · rw [u8r_O h]
    have h1 := uV_ltr hb h
    have h2 := (h.2 (uMore (gA l a) - 1) (by have := h.1; omega)).1
    have h0 := h.1
    refine ⟨?_, fun c hc => ?_⟩
    · show a + 1 + uMore (gA l a) ≤ l.length
      omega
    · cases hc
      exact ⟨h1.1, by show a + bl (uV l a) ≤ a + 1 + uMore (gA l a); have := h1.2; omega⟩
  · rw [u8r_F h]
    refine ⟨?_, fun c hc => by cases hc⟩
    rcases h with ⟨_, rfl⟩ | ⟨j, j1, j2, j3, rfl⟩
    · exact Nat.le_of_lt ha
    · show a + 1 + j ≤ l.length
      rcases Nat.eq_zero_or_pos j with z | z
      · omega
      · have := (j2 (j - 1) (by omega)).1
        omega
theorem bl_3 {v : Nat} (h : v < 65536) : bl v ≤ 3 := by
  unfold bl
  (repeat' split) <;> omega
theorem esS_fit {l : List Nat} {p : Nat} (hp : p ≤ l.length) : (esS l p).2 ≤ l.length ∧ ∀ c, (esS l p).1 = some c → Ltr c ∧ p + bl c ≤ (esS l p).2 := by
  unfold esS
  by_cases h : p < l.length
  · rw [if_pos h]
    cases hs : shE (gA l p) with
    | none => exact ⟨hp, fun c hc => by cases hc⟩
    | some v =>
      have hv : v < 128 := by
        unfold shE at hs
        (repeat' split at hs)
        all_goals (cases hs; try omega)
      refine ⟨h, fun c hc => ?_⟩
      cases hc
      have : bl v = 1 := by unfold bl; rw [if_pos hv]
      exact ⟨Or.inl (by omega), by show p + bl v ≤ p + 1; omega⟩
  · rw [if_neg h]; exact ⟨hp, fun c hc => by cases hc⟩
theorem esR_fit {l : List Nat} {a : Nat} (ha : a < l.length) : Fit l a (esR l a) := by
  unfold esR
  by_cases hu : Chr l (a + 1) 117
  · rw [if_pos hu]
    have hlt := hu.1
    obtain ⟨u1, u2, u3⟩ := unS_fit (l := l) 4 (a + 2) 0 (by decide) (by omega)
    rcases he : unS l 4 (a + 2) 0 with ⟨o, e⟩
    rw [he] at u1 u2 u3
    have u3' : e ≤ l.length := u3
    have u2' : a + 2 ≤ e := u2
    cases o with
    | none => rw [esU_n he]; exact ⟨u3', fun c hc => by cases hc⟩
    | some v =>
      obtain ⟨v1, v2⟩ := u1 v rfl
      have v2' : e = a + 2 + 4 := v2
      rw [esU_s he]
      by_cases g1 : v < 55296 ∨ 57344 ≤ v
      · rw [if_pos g1]
        refine ⟨u3', fun c hc => ?_⟩
        cases hc
        have := bl_3 v1
        exact ⟨by unfold Ltr; omega, by show a + bl v ≤ e; omega⟩
      · rw [if_neg g1]
        by_cases g2 : 56320 ≤ v
        · rw [if_pos g2]; exact ⟨by show e - 1 ≤ l.length; omega, fun c hc => by cases hc⟩
        · rw [if_neg g2]
          by_cases h1 : Chr l e 92
          · by_cases h2 : Chr l (e + 1) 117
            · have hl2 := h2.1
              obtain ⟨w1, w2, w3⟩ := unS_fit (l := l) 4 (e + 2) 0 (by decide) (by omega)
              rcases hw : unS l 4 (e + 2) 0 with ⟨o2, e2⟩
              rw [hw] at w1 w2 w3
              have w3' : e2 ≤ l.length := w3
              cases o2 with
              | none => rw [esP_n h1 h2 hw]; exact ⟨w3', fun c hc => by cases hc⟩
              | some w =>
                obtain ⟨x1, x2⟩ := w1 w rfl
                have x2' : e2 = e + 2 + 4 := x2
                rw [esP_s h1 h2 hw]
                by_cases g3 : w < 56320 ∨ 57344 ≤ w
                · rw [if_pos g3]; exact ⟨by show e2 - 1 ≤ l.length; omega, fun c hc => by cases hc⟩
                · rw [if_neg g3]
                  generalize hcv : 65536 + (v - 55296) * 1024 + (w - 56320) = cv
                  refine ⟨w3', fun c hc => ?_⟩
                  cases hc
                  have := (bl_pos cv).2
                  exact ⟨by unfold Ltr; omega, by show a + bl cv ≤ e2; omega⟩
            · have eP : esP l v e = (none, e + 1) := by unfold esP; rw [if_neg (fun z => z h1), if_pos h2]
              have := h1.1
              rw [eP]; exact ⟨by show e + 1 ≤ l.length; omega, fun c hc => by cases hc⟩
          · have eP : esP l v e = (none, e) := if_pos h1
            rw [eP]; exact ⟨u3', fun c hc => by cases hc⟩
  · rw [if_neg hu]
    obtain ⟨h1, h2⟩ := esS_fit (l := l) (p := a + 1) (by omega)
    exact ⟨h1, fun c hc => ⟨(h2 c hc).1, by have := (h2 c hc).2; omega⟩⟩
/-- a character of a string, at p -/
def stp (l : List Nat) (p : Nat) : Option Nat × Nat := if p < l.length then (if gA l p = 92 then esR l p else if gA l p < 32 then (none, p) else if gA l p < 128 then (some (gA l p), p + 1) else u8r l p) else (none, p)
theorem stp_fit {l : List Nat} {p : Nat} (hb : Bt l) (hp : p ≤ l.length) : Fit l p (stp l p) := by
  unfold stp
  by_cases h : p < l.length
  · rw [if_pos h]
    by_cases g1 : gA l p = 92
    · rw [if_pos g1]; exact esR_fit h
    · rw [if_neg g1]
      by_cases g2 : gA l p < 32
      · rw [if_pos g2]; exact ⟨hp, fun c hc => by cases hc⟩
      · rw [if_neg g2]
        by_cases g3 : gA l p < 128
        · rw [if_pos g3]
          refine ⟨h, fun c hc => ?_⟩
          cases hc
          have : bl (gA l p) = 1 := by unfold bl; rw [if_pos g3]
          exact ⟨Or.inl (by omega), by show p + bl (gA l p) ≤ p + 1; omega⟩
        · rw [if_neg g3]; exact u8r_fit hb h
  · rw [if_neg h]; exact ⟨hp, fun c hc => by cases hc⟩
/-- the string from p on, behind the letters L -/
def srS (l : List Nat) : Nat → Nat → List Nat → Option (List Nat) × Nat
  | 0, p, _ => (none, p)
  | f + 1, p, L => if Chr l p 34 then (some L, p + 1) else match stp l p with
    | (none, e) => (none, e)
    | (some c, e) => srS l f e (L ++ [c])
theorem srS_end {l : List Nat} {f p : Nat} {L : List Nat} (h : Chr l p 34) : srS l (f + 1) p L = (some L, p + 1) := if_pos h
theorem srS_no {l : List Nat} {f p e : Nat} {L : List Nat} (h : ¬ Chr l p 34) (hs : stp l p = (none, e)) : srS l (f + 1) p L = (none, e) := by
  show (if Chr l p 34 then (some L, p + 1) else match stp l p with | (none, e) => (none, e) | (some c, e) => srS l f e (L ++ [c])) = _
  rw [if_neg h, hs]
theorem srS_go {l : List Nat} {f p e c : Nat} {L : List Nat} (h : ¬ Chr l p 34) (hs : stp l p = (some c, e)) : srS l (f + 1) p L = srS l f e (L ++ [c]) := by
  show (if Chr l p 34 then (some L, p + 1) else match stp l p with | (none, e) => (none, e) | (some c, e) => srS l f e (L ++ [c])) = _
  rw [if_neg h, hs]
/-- what a string read adds -/
theorem srS_fit {l : List Nat} (hb : Bt l) : ∀ (f p : Nat) (L : List Nat), p ≤ l.length → (srS l f p L).2 ≤ l.length ∧ ∀ L', (srS l f p L).1 = some L' → ∃ s, L' = L ++ s ∧ Ltrs s ∧ p + bls s + 1 ≤ (srS l f p L).2
  | 0, p, L, hp => ⟨hp, fun L' h => by cases h⟩
  | f + 1, p, L, hp => by
    by_cases h : Chr l p 34
    · rw [srS_end h]
      exact ⟨h.1, fun L' hq => by cases hq; exact ⟨[], (List.append_nil _).symm, fun i hi => absurd hi (Nat.not_lt_zero i), Nat.le_refl _⟩⟩
    · have hf := stp_fit hb hp
      rcases hs : stp l p with ⟨o, e⟩
      rw [hs] at hf
      cases o with
      | none => rw [srS_no h hs]; exact ⟨hf.1, fun L' hq => by cases hq⟩
      | some c =>
        rw [srS_go h hs]
        obtain ⟨i1, i2⟩ := srS_fit hb f e (L ++ [c]) hf.1
        obtain ⟨c1, c2⟩ := hf.2 c rfl
        have c2' : p + bl c ≤ e := c2
        refine ⟨i1, fun L' hq => ?_⟩
        obtain ⟨s, e1, e2, e3⟩ := i2 L' hq
        refine ⟨[c] ++ s, by rw [e1, List.append_assoc], fun i hi => ?_, by rw [bls_app, bls_1]; omega⟩
        cases i with
        | zero => exact c1
        | succ i => exact e2 i (by simp at hi; omega)
