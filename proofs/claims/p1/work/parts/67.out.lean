/-! one number has one row of digits -/
theorem dval_inj {f g : Nat → Nat} : ∀ {n : Nat}, (∀ i, i < n → f i < 10) → (∀ i, i < n → g i < 10) → dval f n = dval g n → ∀ i, i < n → f i = g i
  | 0, _, _, _, i, hi => absurd hi (Nat.not_lt_zero i)
  | n + 1, hf, hg, h, i, hi => by
    have e1 : dval f (n + 1) = dval f n * 10 + f n := rfl
    have e2 : dval g (n + 1) = dval g n * 10 + g n := rfl
    have h1 := hf n (by omega)
    have h2 := hg n (by omega)
    rw [e1, e2] at h
    rcases Nat.lt_or_ge i n with q | q
    · exact dval_inj (fun i hi => hf i (by omega)) (fun i hi => hg i (by omega)) (by omega) i q
    · have : i = n := by omega
      subst this
      omega
theorem nu_aux {T S : Nat → Nat} {c k : Nat} {p : Int} (hk0 : 1 ≤ k) (hS : ∀ i, i < k → S i < 10) (hSl : S (k - 1) ≠ 0) (hpc : -20000 ≤ p - k) (hck : c < k) (h : SV (dval T c) c p = SV (dval S k) k p) : False := by
  unfold SV at h
  rw [show (p - c + 20000).toNat = (k - c) + (p - k + 20000).toNat by omega, Nat.pow_add, ← Nat.mul_assoc] at h
  have h := Nat.eq_of_mul_eq_mul_right (p10 _) h
  obtain ⟨n, rfl⟩ : ∃ n, k = n + 1 := ⟨k - 1, by omega⟩
  have e1 : dval S (n + 1) = dval S n * 10 + S n := rfl
  have hl := hS n (by omega)
  rw [show n + 1 - 1 = n by omega] at hSl
  rw [e1, show n + 1 - c = (n - c) + 1 by omega, Nat.pow_succ, ← Nat.mul_assoc] at h
  generalize dval T c * 10 ^ (n - c) = A at *
  omega
theorem norm_uniq {T S : Nat → Nat} {c k : Nat} {p r : Int} {W : Nat} (hc0 : 1 ≤ c) (hk0 : 1 ≤ k) (hT : ∀ i, i < c → T i < 10) (hS : ∀ i, i < k → S i < 10) (hT0 : T 0 ≠ 0) (hS0 : S 0 ≠ 0) (hTl : T (c - 1) ≠ 0) (hSl : S (k - 1) ≠ 0)
    (hpc : -20000 ≤ p - c) (hrk : -20000 ≤ r - k) (h1 : SV (dval T c) c p = W) (h2 : SV (dval S k) k r = W) : c = k ∧ p = r ∧ ∀ i, i < c → T i = S i := by
  have a1 := SVd_lo (p := p) hT0 hc0 hpc
  have a2 := SVd_hi (p := p) hT hpc
  have b1 := SVd_lo (p := r) hS0 hk0 hrk
  have b2 := SVd_hi (p := r) hS hrk
  rw [h1] at a1 a2
  rw [h2] at b1 b2
  have c1 := p10_lt (Nat.lt_of_le_of_lt a1 b2)
  have c2 := p10_lt (Nat.lt_of_le_of_lt b1 a2)
  have hpr : p = r := by omega
  subst hpr
  have hck : c = k := by
    rcases Nat.lt_trichotomy c k with q | q | q
    · exact (nu_aux hk0 hS hSl hrk q (h1.trans h2.symm)).elim
    · exact q
    · exact (nu_aux hc0 hT hTl hpc q (h2.trans h1.symm)).elim
  subst hck
  refine ⟨rfl, rfl, dval_inj hT hS ?_⟩
  have := h1.trans h2.symm
  unfold SV at this
  exact Nat.eq_of_mul_eq_mul_right (p10 _) this
/-! rows of bytes -/
def gl (F : Nat → List Nat) : Nat → List Nat
  | 0 => []
  | n + 1 => gl F n ++ F n
theorem gl_ext {F G : Nat → List Nat} : ∀ {n : Nat}, (∀ i, i < n → F i = G i) → gl F n = gl G n
  | 0, _ => rfl
  | n + 1, h => by
    show gl F n ++ F n = gl G n ++ G n
    rw [gl_ext (fun i hi => h i (by omega)), h n (by omega)]
theorem gl_add (F : Nat → List Nat) (a : Nat) : ∀ b, gl F (a + b) = gl F a ++ gl (fun k => F (a + k)) b
  | 0 => by rw [Nat.add_zero]; exact (List.append_nil _).symm
  | b + 1 => by
    show gl F (a + b) ++ F (a + b) = gl F a ++ (gl (fun k => F (a + k)) b ++ F (a + b))
    rw [gl_add F a b, List.append_assoc]
def gA (l : List Nat) (k : Nat) : Nat := l.getD k 0
theorem gA_lt {l m : List Nat} {k : Nat} (h : k < l.length) : gA (l ++ m) k = gA l k := by
  unfold gA
  rw [List.getD_eq_getElem?_getD, List.getD_eq_getElem?_getD, List.getElem?_append_left h]
theorem gA_eq (l : List Nat) (x : Nat) : gA (l ++ [x]) l.length = x := by
  unfold gA
  rw [List.getD_eq_getElem?_getD, List.getElem?_append_right (Nat.le_refl _), Nat.sub_self]
  rfl
theorem len1 (l : List Nat) (x : Nat) : (l ++ [x]).length = l.length + 1 := by rw [List.length_append]; rfl
/-! the reference's print row: place 7, how many in slot 18 of place 0 -/
def MN : Nat → Nat → Prop := fun p k => p = 7 ∨ (p = 0 ∧ k = 18)
def PnM (σ : S_t) (l : List Nat) : Prop := gI σ 0 18 = nI l.length ∧ ∀ k, k < l.length → gI σ 7 k = nI (gA l k)
theorem c_printing {E : En_t} {d x : Nat} {l : List Nat} {σ : S_t} (h : PnM σ l) (hl : l.length < 40) : CV E d m_Mo_printing [pv E 0, .int (nI x)] σ (fun σ' => Fs MN σ σ' ∧ PnM σ' (l ++ [x])) := by
  refine CE.of (L := [(0, pv E 0), (1, .int (nI x))]) rfl (Nat.le_of_ble_eq_true rfl) rfl (b_Mo_printing_0 ?_)
  rw [h.1, nI_clamp (by omega), gI_sI_n (Or.inl (by decide)), h.1, nI_1]
  refine ⟨vin (by omega) (by omega), rfl, (Fs.rf.si (Or.inl rfl)).si (Or.inr ⟨rfl, rfl⟩), ?_, fun k hk => ?_⟩
  · rw [gI_sI_s, len1]
  · rw [gI_sI_n (Or.inl (by decide))]
    rw [len1] at hk
    by_cases q : k = l.length
    · subst q; rw [gI_sI_s, gA_eq]
    · rw [gI_sI_n (Or.inr q), gA_lt (by omega)]; exact h.2 k (by omega)
/-! the reference's out: bytes at place 2, kept in slot 3, all in slot 4 of place 0 -/
def MU : Nat → Nat → Prop := fun p k => p = 2 ∨ (p = 0 ∧ (k = 3 ∨ k = 4))
def OuM (σ : S_t) (l : List Nat) : Prop := gI σ 0 3 = nI (min l.length 12000) ∧ gI σ 0 4 = nI l.length ∧ ∀ k, k < min l.length 12000 → gI σ 2 k = nI (gA l k)
theorem c_putM {E : En_t} {d x : Nat} {l : List Nat} {σ : S_t} (h : OuM σ l) : CV E d m_Mo_put [pv E 0, .int (nI x)] σ (fun σ' => Fs MU σ σ' ∧ OuM σ' (l ++ [x])) := by
  refine CE.of (L := [(0, pv E 0), (1, .int (nI x))]) rfl (Nat.le_of_ble_eq_true rfl) rfl (b_Mo_put_0 ?_)
  obtain ⟨h3, h4, hk⟩ := h
  rw [h3]
  have c1 : (12000 : Int32) ≤ nI (min l.length 12000) ↔ 12000 ≤ min l.length 12000 := nI_leI (a := 12000) (by omega) (by omega)
  rw [c1]
  refine ⟨fun g => b_Mo_put_30 ⟨rfl, Fs.rf.si (Or.inr ⟨rfl, Or.inr rfl⟩), ?_, ?_, fun k hk2 => ?_⟩, fun g => ⟨vin (by omega) (by omega), b_Mo_put_30 ⟨rfl, ((Fs.rf.si (Or.inl rfl)).si (Or.inr ⟨rfl, Or.inl rfl⟩)).si (Or.inr ⟨rfl, Or.inr rfl⟩), ?_, ?_, fun k hk2 => ?_⟩⟩⟩
  · rw [gI_sI_n (Or.inr (by decide)), h3, len1]; congr 1; omega
  · rw [gI_sI_s, h4, len1, nI_1]
  · rw [gI_sI_n (Or.inl (by decide))]
    rw [len1] at hk2
    rw [gA_lt (by omega)]
    exact hk k (by omega)
  · rw [gI_sI_n (Or.inr (by decide)), gI_sI_s, gI_sI_n (Or.inl (by decide)), h3, len1, nI_1]; congr 1; omega
  · rw [gI_sI_s, gI_sI_n (Or.inr (by decide)), gI_sI_n (Or.inl (by decide)), h4, len1, nI_1]
  · rw [gI_sI_n (Or.inl (by decide)), gI_sI_n (Or.inl (by decide)), nI_clamp (by omega)]
    rw [len1] at hk2
    by_cases q : k = min l.length 12000
    · subst q
      rw [gI_sI_s]
      have : min l.length 12000 = l.length := by omega
      rw [this, gA_eq]
    · rw [gI_sI_n (Or.inr q), gA_lt (by omega)]; exact hk k (by omega)
theorem c_clearM {E : En_t} {d : Nat} {σ : S_t} : CV E d m_Mo_clearOut [pv E 0] σ (fun σ' => Fs MU σ σ' ∧ OuM σ' []) := by
  refine CE.of (L := [(0, pv E 0)]) rfl (Nat.le_of_ble_eq_true rfl) rfl (b_Mo_clearOut_0 ?_)
  refine ⟨rfl, (Fs.rf.si (Or.inr ⟨rfl, Or.inl rfl⟩)).si (Or.inr ⟨rfl, Or.inr rfl⟩), ?_, gI_sI_s _ _ _ _, fun k hk => absurd hk (by simp)⟩
  rw [gI_sI_n (Or.inr (by decide)), gI_sI_s]; rfl
/-! the class's out: bytes at place 54, all in slot 1 of place 53 -/
def MO : Nat → Nat → Prop := fun p k => p = 54 ∨ (p = 53 ∧ k = 1)
def bC (x : Nat) : Int32 := vp_nar .byte (nI x).toInt8.toInt32
def OuC (σ : S_t) (l : List Nat) : Prop := gI σ 53 1 = nI l.length ∧ l.length < 2 ^ 31 ∧ ∀ k, k < min l.length 12000 → gI σ 54 k = bC (gA l k)
theorem c_putC {E : En_t} {d x : Nat} {l : List Nat} {σ : S_t} (h : OuC σ l) (hl : l.length + 1 < 2 ^ 31) : CV E d m_Ou_put [pv E 53, .int (nI x)] σ (fun σ' => Fs MO σ σ' ∧ OuC σ' (l ++ [x])) := by
  refine CE.of (L := [(0, pv E 53), (1, .int (nI x))]) rfl (Nat.le_of_ble_eq_true rfl) rfl (b_Ou_put_0 ?_)
  obtain ⟨h1, h2, hk⟩ := h
  rw [h1]
  have c1 : (12000 : Int32) ≤ nI l.length ↔ 12000 ≤ l.length := nI_leI (a := 12000) (by omega) (by omega)
  rw [c1]
  refine ⟨fun g => absurd g (nI_pos (by omega)), fun _ => ⟨fun g => b_Ou_put_28 ⟨rfl, Fs.rf.si (Or.inr ⟨rfl, rfl⟩), ?_, by rw [len1]; exact hl, fun k hk2 => ?_⟩, fun g => ⟨vin (by omega) (by omega), b_Ou_put_28 ⟨rfl, (Fs.rf.si (Or.inl rfl)).si (Or.inr ⟨rfl, rfl⟩), ?_, by rw [len1]; exact hl, fun k hk2 => ?_⟩⟩⟩⟩
  · rw [gI_sI_s, h1, len1, nI_1]
  · rw [gI_sI_n (Or.inl (by decide))]
    rw [len1] at hk2
    rw [gA_lt (by omega)]
    exact hk k (by omega)
  · rw [gI_sI_s, gI_sI_n (Or.inl (by decide)), h1, len1, nI_1]
  · rw [gI_sI_n (Or.inl (by decide)), nI_clamp (by omega)]
    rw [len1] at hk2
    by_cases q : k = l.length
    · subst q; rw [gI_sI_s, gA_eq]; rfl
    · rw [gI_sI_n (Or.inr q), gA_lt (by omega)]; exact hk k (by omega)
theorem c_clearC {E : En_t} {d : Nat} {σ : S_t} : CV E d m_Ou_clear [pv E 53] σ (fun σ' => Fs MO σ σ' ∧ OuC σ' []) := by
  refine CE.of (L := [(0, pv E 53)]) rfl (Nat.le_of_ble_eq_true rfl) rfl (b_Ou_clear_0 ?_)
  exact ⟨rfl, Fs.rf.si (Or.inr ⟨rfl, rfl⟩), gI_sI_s _ _ _ _, by decide, fun k hk => absurd hk (by simp)⟩
