/-! documents on the shelves of both sides -/
def StrA (g : Nat → Int32) (a : Nat) (s : List Nat) : Prop := ∀ i, i < s.length → g (a + i) = nI (gA s i)
def Ltr (c : Nat) : Prop := c < 55296 ∨ (57344 ≤ c ∧ c < 1114112)
def Ltrs (s : List Nat) : Prop := ∀ i, i < s.length → Ltr (gA s i)
def TrRow (σ : S_t) (t : Nat) (D : List Row) (k : Nat) : Prop :=
  gI σ (t + 1) k = nI (dK D k) ∧ gI σ (t + 2) k = nI (if dK D k = 4 then (dX D k).length else prt (dT D) D.length k) ∧ gI σ (t + 3) k = zI (pI (dT D) k) ∧ gI σ (t + 4) k = nI (ordr (dT D) k) ∧ gI σ (t + 6) k = nI (dT D k) ∧ gL σ (t + 7) k = lN (dB D k) ∧ gI σ (t + 9) k = nI (nam D k).length ∧ (∃ a, gI σ (t + 8) k = nI a ∧ a + (nam D k).length ≤ cc D ∧ StrA (gI σ (t + 11)) a (nam D k)) ∧ (∃ a, gI σ (t + 10) k = nI a ∧ a + (dX D k).length ≤ cc D ∧ StrA (gI σ (t + 11)) a (dX D k))
def TrR (σ : S_t) (t : Nat) (D : List Row) : Prop := gI σ t 11 = nI (cc D) ∧ gI σ t 12 = nI (bts D) ∧ gI σ t 13 = nI D.length ∧ gI σ t 14 = 0 ∧ ∀ k, k < D.length → TrRow σ t D k
def TrD (σ : S_t) (t : Nat) (D : List Row) : Prop := TrR σ t D ∧ ∀ k, k < D.length → gI σ (t + 5) k = nI (siz (dT D) D.length k)
def MoRow (σ : S_t) (s pm : Nat) (D : List Row) (k : Nat) : Prop :=
  gI σ 13 (500 * s + k) = nI (dK D k) ∧ gI σ 14 (500 * s + k) = zI (pI (dT D) k) ∧ gI σ 15 (500 * s + k) = nI (ordr (dT D) k) ∧ gI σ 16 (500 * s + k) = nI (prt (dT D) D.length k) ∧ gI σ 17 (500 * s + k) = nI (siz (dT D) D.length k) ∧ gI σ 18 (500 * s + k) = nI (dT D k) ∧ gL σ 25 (500 * s + k) = lN (dB D k) ∧ gI σ 20 (500 * s + k) = (if dN D k = none then -1 else nI (nam D k).length) ∧ (∃ a, gI σ 19 (500 * s + k) = nI a ∧ a + (nam D k).length ≤ cc D ∧ StrA (fun i => gI σ 26 (4000 * s + i)) a (nam D k)) ∧ gI σ 22 (500 * s + k) = nI (dX D k).length ∧ (∃ a, gI σ 21 (500 * s + k) = nI a ∧ a + (dX D k).length ≤ cc D ∧ StrA (fun i => gI σ 26 (4000 * s + i)) a (dX D k)) ∧ (dK D k ≠ 3 → gI σ 24 (500 * s + k) = 0) ∧ (dK D k = 3 → ∃ a m, SpB (dB D k) m ∧ m.length ≤ 26 ∧ gI σ 23 (500 * s + k) = nI a ∧ gI σ 24 (500 * s + k) = nI m.length ∧ a + m.length ≤ pm ∧ StrA (fun i => gI σ 27 (13000 * s + i)) a m)
def MoR (σ : S_t) (s : Nat) (D : List Row) : Prop := gI σ 9 s = nI D.length ∧ gI σ 10 s = nI (cc D) ∧ gI σ 11 s = nI (bts D) ∧ ∃ pm, pm ≤ 26 * D.length ∧ gI σ 12 s = nI pm ∧ ∀ k, k < D.length → MoRow σ s pm D k
def RowOk (D : List Row) (k : Nat) : Prop := dK D k ≤ 6 ∧ dT D k ≤ 30 ∧ (5 ≤ dK D k → dT D k ≤ 29) ∧ (dK D k ≠ 4 → dX D k = []) ∧ (dK D k ≠ 3 → dB D k = 0) ∧ (dK D k = 3 → dB D k < 2 ^ 64 ∧ dB D k % 2 ^ 63 < 9218868437227405312) ∧ Ltrs (nam D k) ∧ Ltrs (dX D k)
def WfR (D : List Row) : Prop := VT (dT D) D.length ∧ (∀ k, k < D.length → RowOk D k) ∧ (∀ k, 0 < k → k < D.length → 5 ≤ dK D (par (dT D) k) ∧ (dN D k = none ↔ dK D (par (dT D) k) ≠ 6)) ∧ (0 < D.length → dN D 0 = none) ∧ D.length ≤ 500 ∧ bts D ≤ 4000
def WfD (D : List Row) : Prop := WfR D ∧ 0 < D.length
def tr (j : Nat) : Nat := 72 + 12 * j
theorem kind_tr : ∀ j, j < 10 → kindP (tr j) = 11 := by decide +kernel
def wordL : List Nat := [110, 117, 108, 108, 102, 97, 108, 115, 101, 116, 114, 117, 101]
def Wrd (σ : S_t) : Prop := ∀ k, k < 13 → gI σ 40 k = nI (gA wordL k)
def ShO (σ : S_t) (i t : Nat) : Prop := (gI σ 8 i = 0 ∧ gI σ t 13 = 0) ∨ (gI σ 8 i = 1 ∧ ∃ D, WfD D ∧ MoR σ i D ∧ TrD σ t D)
/-- which tree stands on which shelf; the ninth is the spare one -/
def Pm (σ : S_t) (π : Nat → Nat) : Prop := (∀ i, i < 9 → π i < 9) ∧ (∀ i j, i < 9 → j < 9 → π i = π j → i = j) ∧ (∀ i, i < 8 → gR σ 50 i = some (tr (π i))) ∧ gR σ 49 9 = some (tr (π 8))
def Shv (σ : S_t) : Prop := Wrd σ ∧ ∃ π, Pm σ π ∧ ∀ i, i < 8 → ShO σ i (tr (π i))
/-! frames -/
def MoC (s p k : Nat) : Prop := (9 ≤ p ∧ p ≤ 12 ∧ k = s) ∨ (13 ≤ p ∧ p ≤ 25 ∧ 500 * s ≤ k ∧ k < 500 * s + 500) ∨ (p = 26 ∧ 4000 * s ≤ k ∧ k < 4000 * s + 4000) ∨ (p = 27 ∧ 13000 * s ≤ k ∧ k < 13000 * s + 13000)
theorem StrA_congr {g g' : Nat → Int32} {a : Nat} {s : List Nat} (h : ∀ i, i < s.length → g' (a + i) = g (a + i)) (hs : StrA g a s) : StrA g' a s := fun i hi => (h i hi).trans (hs i hi)
theorem MoR_fr {σ σ' : S_t} {s : Nat} {D : List Row} (h : ∀ p k, MoC s p k → gI σ' p k = gI σ p k ∧ gL σ' p k = gL σ p k) (hn : D.length ≤ 500) (hb : bts D ≤ 4000) (hM : MoR σ s D) : MoR σ' s D := by
  obtain ⟨h1, h2, h3, pm, h4, h5, h6⟩ := hM
  have hcc := cc_bts D
  have c9 : ∀ p, 9 ≤ p → p ≤ 12 → gI σ' p s = gI σ p s := fun p a b => (h p s (Or.inl ⟨a, b, rfl⟩)).1
  refine ⟨by rw [c9 9 (by omega) (by omega)]; exact h1, by rw [c9 10 (by omega) (by omega)]; exact h2, by rw [c9 11 (by omega) (by omega)]; exact h3, pm, h4, by rw [c9 12 (by omega) (by omega)]; exact h5, fun k hk => ?_⟩
  have c13 : ∀ p, 13 ≤ p → p ≤ 25 → gI σ' p (500 * s + k) = gI σ p (500 * s + k) ∧ gL σ' p (500 * s + k) = gL σ p (500 * s + k) := fun p a b => h p _ (Or.inr (Or.inl ⟨a, b, by omega, by omega⟩))
  have c26 : ∀ i, i < 4000 → gI σ' 26 (4000 * s + i) = gI σ 26 (4000 * s + i) := fun i hi => (h 26 _ (Or.inr (Or.inr (Or.inl ⟨rfl, by omega, by omega⟩)))).1
  have c27 : ∀ i, i < 13000 → gI σ' 27 (13000 * s + i) = gI σ 27 (13000 * s + i) := fun i hi => (h 27 _ (Or.inr (Or.inr (Or.inr ⟨rfl, by omega, by omega⟩)))).1
  obtain ⟨r1, r2, r3, r4, r5, r6, r7, r8, ⟨a, r9, r10, r11⟩, r12, ⟨b, r13, r14, r15⟩, r16, r17⟩ := h6 k hk
  refine ⟨by rw [(c13 13 (by omega) (by omega)).1]; exact r1, by rw [(c13 14 (by omega) (by omega)).1]; exact r2, by rw [(c13 15 (by omega) (by omega)).1]; exact r3, by rw [(c13 16 (by omega) (by omega)).1]; exact r4, by rw [(c13 17 (by omega) (by omega)).1]; exact r5, by rw [(c13 18 (by omega) (by omega)).1]; exact r6, by rw [(c13 25 (by omega) (by omega)).2]; exact r7, by rw [(c13 20 (by omega) (by omega)).1]; exact r8, ⟨a, by rw [(c13 19 (by omega) (by omega)).1]; exact r9, r10, StrA_congr (fun i hi => c26 _ (by omega)) r11⟩, by rw [(c13 22 (by omega) (by omega)).1]; exact r12, ⟨b, by rw [(c13 21 (by omega) (by omega)).1]; exact r13, r14, StrA_congr (fun i hi => c26 _ (by omega)) r15⟩, fun q => by rw [(c13 24 (by omega) (by omega)).1]; exact r16 q, fun q => ?_⟩
  obtain ⟨c, m, s1, s0, s2, s3, s4, s5⟩ := r17 q
  exact ⟨c, m, s1, s0, by rw [(c13 23 (by omega) (by omega)).1]; exact s2, by rw [(c13 24 (by omega) (by omega)).1]; exact s3, s4, StrA_congr (fun i hi => c27 _ (by omega)) s5⟩
theorem TrR_fr {σ σ' : S_t} {t : Nat} {D : List Row} (h : ∀ p k, t ≤ p → p ≤ t + 11 → gI σ' p k = gI σ p k ∧ gL σ' p k = gL σ p k) (hM : TrR σ t D) : TrR σ' t D := by
  obtain ⟨h1, h2, h3, h4, h5⟩ := hM
  have c : ∀ j, j ≤ 11 → ∀ k, gI σ' (t + j) k = gI σ (t + j) k := fun j hj k => (h _ k (by omega) (by omega)).1
  have c0 : ∀ k, gI σ' t k = gI σ t k := c 0 (by omega)
  refine ⟨by rw [c0]; exact h1, by rw [c0]; exact h2, by rw [c0]; exact h3, by rw [c0]; exact h4, fun k hk => ?_⟩
  obtain ⟨r1, r2, r3, r4, r5, r6, r7, ⟨a, r8, r9, r10⟩, ⟨b, r11, r12, r13⟩⟩ := h5 k hk
  exact ⟨by rw [c 1 (by omega)]; exact r1, by rw [c 2 (by omega)]; exact r2, by rw [c 3 (by omega)]; exact r3, by rw [c 4 (by omega)]; exact r4, by rw [c 6 (by omega)]; exact r5, by rw [(h (t + 7) k (by omega) (by omega)).2]; exact r6, by rw [c 9 (by omega)]; exact r7, ⟨a, by rw [c 8 (by omega)]; exact r8, r9, StrA_congr (fun i _ => c 11 (by omega) _) r10⟩, ⟨b, by rw [c 10 (by omega)]; exact r11, r12, StrA_congr (fun i _ => c 11 (by omega) _) r13⟩⟩
theorem TrD_fr {σ σ' : S_t} {t : Nat} {D : List Row} (h : ∀ p k, t ≤ p → p ≤ t + 11 → gI σ' p k = gI σ p k ∧ gL σ' p k = gL σ p k) (hM : TrD σ t D) : TrD σ' t D :=
  ⟨TrR_fr h hM.1, fun k hk => by rw [(h (t + 5) k (by omega) (by omega)).1]; exact hM.2 k hk⟩
theorem ShO_fr {σ σ' : S_t} {i t : Nat} (h8 : gI σ' 8 i = gI σ 8 i) (h : ∀ p k, MoC i p k → gI σ' p k = gI σ p k ∧ gL σ' p k = gL σ p k) (h2 : ∀ p k, t ≤ p → p ≤ t + 11 → gI σ' p k = gI σ p k ∧ gL σ' p k = gL σ p k) (hS : ShO σ i t) : ShO σ' i t := by
  rcases hS with ⟨a, b⟩ | ⟨a, D, w, m, r⟩
  · exact Or.inl ⟨by rw [h8]; exact a, by rw [(h2 t 13 (by omega) (by omega)).1]; exact b⟩
  · exact Or.inr ⟨by rw [h8]; exact a, D, w, MoR_fr h w.1.2.2.2.2.1 w.1.2.2.2.2.2 m, TrD_fr h2 r⟩
theorem gR_2 {σ σ' : S_t} (h : σ'.2.2 = σ.2.2) (p k : Nat) : gR σ' p k = gR σ p k := by show σ'.2.2 p k = σ.2.2 p k; rw [h]
theorem Pm_fr {σ σ' : S_t} {π : Nat → Nat} (h : σ'.2.2 = σ.2.2) (hP : Pm σ π) : Pm σ' π := ⟨hP.1, hP.2.1, fun i hi => by rw [gR_2 h]; exact hP.2.2.1 i hi, by rw [gR_2 h]; exact hP.2.2.2⟩
theorem Shv_fr : ShFg Shv := by
  intro σ σ' h1 h2 ⟨hw, π, hP, hS⟩
  refine ⟨fun k hk => by rw [(h1 40 k (Or.inr (Or.inl rfl))).1]; exact hw k hk, π, Pm_fr h2 hP, fun i hi => ?_⟩
  refine ShO_fr (h1 8 i (Or.inl ⟨by omega, by omega⟩)).1 (fun p k hm => h1 p k ?_) (fun p k a b => h1 p k (Or.inr (Or.inr (Or.inr (by unfold tr at a; omega))))) (hS i hi)
  left
  unfold MoC at hm
  omega
theorem Shv_N {σ : S_t} (h : Shv σ) : ShN σ := by
  obtain ⟨hw, π, hP, hS⟩ := h
  intro i hi
  have hk : kindP (tr (π i)) = 11 := kind_tr _ (by have := hP.1 i (by omega); omega)
  rcases hS i hi with ⟨a, b⟩ | ⟨a, D, w, m, r⟩
  · exact ⟨tr (π i), 0, hP.2.2.1 i hi, hk, by decide, b, Or.inl a, ⟨fun _ => rfl, fun _ => a⟩, fun q => absurd rfl q⟩
  · refine ⟨tr (π i), D.length, hP.2.2.1 i hi, hk, w.1.2.2.2.2.1, r.1.2.2.1, Or.inr a, ⟨fun q => ?_, fun q => ?_⟩, fun _ => m.1⟩
    · rw [a] at q; exact absurd q (by decide)
    · have := w.2; omega
/-- the document on a shelf -/
theorem Shv_doc {σ : S_t} {x : Int32} (h : Shv σ) (hd : isD σ x) : ∃ i t D, i < 8 ∧ x = nI i ∧ gR σ 50 i = some t ∧ kindP t = 11 ∧ (∃ j, j < 9 ∧ t = tr j) ∧ WfD D ∧ MoR σ i D ∧ TrD σ t D := by
  obtain ⟨hw, π, hP, hS⟩ := h
  obtain ⟨i, hi, e, h8⟩ := hd
  rcases hS i hi with ⟨a, b⟩ | ⟨a, D, w, m, r⟩
  · exact absurd a h8
  · exact ⟨i, tr (π i), D, hi, e, hP.2.2.1 i hi, kind_tr _ (by have := hP.1 i (by omega); omega), ⟨π i, hP.1 i (by omega), rfl⟩, w, m, r⟩
theorem Shv_val {σ : S_t} {x y : Int32} (h : Shv σ) (hd : hasV σ x y) : ∃ i k t D, i < 8 ∧ x = nI i ∧ y = nI k ∧ k < D.length ∧ gR σ 50 i = some t ∧ kindP t = 11 ∧ (∃ j, j < 9 ∧ t = tr j) ∧ WfD D ∧ MoR σ i D ∧ TrD σ t D := by
  obtain ⟨i, k, hi, e1, e2, hk, h8, h9⟩ := hd
  obtain ⟨i', t, D, a1, a2, a3, a4, a5, a6, a7, a8⟩ := Shv_doc h ⟨i, hi, rfl, h8⟩
  have : i = i' := (nI_eq (by omega) (by omega)).mp a2
  subst this
  refine ⟨i, k, t, D, hi, e1, e2, ?_, a3, a4, a5, a6, a7, a8⟩
  rw [a7.1] at h9
  exact (nI_ltI hk (by have := a6.1.2.2.2.2.1; omega)).mp h9
theorem ix500 (i k : Nat) : (500 : Int32) * nI i + nI k = nI (500 * i + k) := by rw [show (500 : Int32) * nI i = nI (500 * i) from pk_mul 500 i, nI_add]
theorem ix4000 (i k : Nat) : (4000 : Int32) * nI i + nI k = nI (4000 * i + k) := by rw [show (4000 : Int32) * nI i = nI (4000 * i) from pk_mul 4000 i, nI_add]
