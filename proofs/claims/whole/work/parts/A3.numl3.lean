/-! the class's scan -/
theorem RdB_ex {X : Nat} (hX : 0 < X) : ∃ B, RdB X B := by
  obtain ⟨L, hL⟩ := ex_lg2 hX (Nat.le_trans TK_le (Nat.le_mul_of_pos_left _ hX))
  rcases Int.lt_or_le 1023 L with g | g
  · exact ⟨_, L, hL, Or.inl ⟨g, rfl⟩⟩
  · exact ⟨_, L, hL, Or.inr ⟨g, rfl⟩⟩
theorem Rdd_ex {L : List Nat} {P : Int} (h : L = [] ∨ gA L 0 ≠ 0) : ∃ x, Rdd L P x := by
  rcases Nat.eq_zero_or_pos L.length with q | q
  · exact ⟨_, Or.inl ⟨q, rfl⟩⟩
  · have h0 : gA L 0 ≠ 0 := by
      rcases h with z | z
      · rw [z] at q; exact absurd q (Nat.lt_irrefl 0)
      · exact z
    rcases Int.lt_or_le P (-340) with g | g
    · exact ⟨_, Or.inr ⟨q, Or.inl ⟨g, rfl⟩⟩⟩
    · rcases Int.lt_or_le 320 P with g2 | g2
      · exact ⟨_, Or.inr ⟨q, Or.inr (Or.inl ⟨g2, rfl⟩)⟩⟩
      · have hX : 0 < SV (dval (gA L) L.length) L.length P := Nat.mul_pos (dval_pos q h0) (p10 _)
        obtain ⟨B, hB⟩ := RdB_ex hX
        exact ⟨_, Or.inr ⟨q, Or.inr (Or.inr ⟨g, g2, B, hB, rfl⟩)⟩⟩
def cutB (L : List Nat) : Bool := (L.drop 800).any (fun x => x != 0)
theorem cutB_small {L : List Nat} (h : L.length ≤ 800) : cutB L = false := by
  unfold cutB; rw [List.drop_eq_nil_of_le h]; rfl
theorem cutB_app {L : List Nat} {x : Nat} (h : 800 ≤ L.length) : cutB (L ++ [x]) = (cutB L || (x != 0)) := by
  unfold cutB; rw [List.drop_append_of_le_length h, List.any_append]; simp
theorem cutB_iff {L : List Nat} : cutB L = true ↔ ∃ k, 800 ≤ k ∧ k < L.length ∧ gA L k ≠ 0 := by
  unfold cutB
  rw [List.any_eq_true]
  constructor
  · rintro ⟨x, hx, h0⟩
    obtain ⟨i, hi⟩ := List.mem_iff_getElem?.mp hx
    rw [List.getElem?_drop] at hi
    have hlt : 800 + i < L.length := (List.getElem?_eq_some_iff.mp hi).1
    refine ⟨800 + i, by omega, hlt, ?_⟩
    unfold gA
    rw [List.getD_eq_getElem?_getD, hi]
    simpa using h0
  · rintro ⟨k, h1, h2, h3⟩
    refine ⟨gA L k, ?_, by simpa using h3⟩
    rw [List.mem_iff_getElem?]
    refine ⟨k - 800, ?_⟩
    rw [List.getElem?_drop, show 800 + (k - 800) = k by omega, List.getElem?_eq_getElem h2]
    unfold gA
    rw [List.getD_eq_getElem?_getD, List.getElem?_eq_getElem h2]
    rfl
def CNm : Nat → Nat → Prop := fun p k => p = 56 ∨ (p = 55 ∧ (k = 2 ∨ k = 3 ∨ k = 4)) ∨ (p = 51 ∧ k = 2)
def NuS (σ : S_t) (st : List Nat × Int) : Prop := gI σ 55 2 = nI (min st.1.length 800) ∧ gI σ 55 3 = zI st.2 ∧ gI σ 55 4 = bI (cutB st.1) ∧ ∀ k, k < min st.1.length 800 → gI σ 56 k = nI (gA st.1 k)
def CsC (σ : S_t) (l : List Nat) (a : Nat) (st : List Nat × Int) : Prop := TpC σ l ∧ gI σ 51 2 = nI a ∧ NuS σ st
theorem bC_10 {x : Nat} (h : x < 128) : bC x = nI x := by unfold bC; rw [pk_vb, fa_byte_small h]
theorem TpC_fg {P : Nat → Nat → Prop} {σ σ' : S_t} {l : List Nat} (hF : Fg P σ σ') (h1 : ¬ P 51 1) (h2 : ∀ k, ¬ P 52 k) (h : TpC σ l) : TpC σ' l := ⟨by rw [hF.1 51 1 h1]; exact h.1, fun k hk => by rw [hF.1 52 k (h2 k)]; exact h.2 k hk⟩
theorem NuS_fg {P : Nat → Nat → Prop} {σ σ' : S_t} {st : List Nat × Int} (hF : Fg P σ σ') (h1 : ¬ P 55 2) (h2 : ¬ P 55 3) (h3 : ¬ P 55 4) (h4 : ∀ k, ¬ P 56 k) (h : NuS σ st) : NuS σ' st := ⟨by rw [hF.1 _ _ h1]; exact h.1, by rw [hF.1 _ _ h2]; exact h.2.1, by rw [hF.1 _ _ h3]; exact h.2.2.1, fun k hk => by rw [hF.1 _ _ (h4 k)]; exact h.2.2.2 k hk⟩
def CK' : Nat → Nat → Prop := fun p k => p = 56 ∨ (p = 55 ∧ (k = 2 ∨ k = 3 ∨ k = 4))
theorem c_keepN {E : En_t} {d x : Nat} {s : Int} {st : List Nat × Int} {σ : S_t} (h : NuS σ st) (hx : x < 10) (hs : s = 0 ∨ s = 1) : CV E d m_Nu_keep [pv E 55, .int (nI x), .int (zI s)] σ (fun σ' => Fg CK' σ σ' ∧ NuS σ' (kp s st x)) := by
  obtain ⟨h1, h2, h3, h4⟩ := h
  refine CE.of (L := [(0, pv E 55), (1, .int (nI x)), (2, .int (zI s))]) rfl (Nat.le_of_ble_eq_true rfl) rfl (b_Nu_keep_0 ?_)
  have c0 : gI σ 55 2 = 0 ↔ st.1 = [] := by
    rw [h1, show nI (min st.1.length 800) = 0 ↔ min st.1.length 800 = 0 from nI_eq (b := 0) (by omega) (by decide)]
    constructor
    · intro q; exact List.length_eq_zero_iff.mp (by omega)
    · intro q; rw [q]; rfl
  have cx : nI x = 0 ↔ x = 0 := nI_eq (b := 0) (by omega) (by decide)
  have app : ¬ (st.1 = [] ∧ x = 0) → JE E d m_Nu_keep 24 [(0, pv E 55), (1, .int (nI x)), (2, .int (zI s))] [] σ (fun q σ' => q = none ∧ Fg CK' σ σ' ∧ NuS σ' (kp s st x)) := by
    intro hne
    rw [kp_app hne]
    have e3 : gI σ 55 3 + zI s = zI (st.2 + s) := by rw [h2, zI_add]
    have F1 : Fg CK' σ (sI σ 55 3 (zI (st.2 + s))) := Fg.rf.si (Or.inr ⟨rfl, Or.inr (Or.inl rfl)⟩)
    have a2 : gI (sI σ 55 3 (zI (st.2 + s))) 55 2 = nI (min st.1.length 800) := by rw [gI_sI_n (Or.inr (by decide))]; exact h1
    have a3 : gI (sI σ 55 3 (zI (st.2 + s))) 55 3 = zI (st.2 + s) := gI_sI_s _ _ _ _
    have a4 : gI (sI σ 55 3 (zI (st.2 + s))) 55 4 = bI (cutB st.1) := by rw [gI_sI_n (Or.inr (by decide))]; exact h3
    have a5 : ∀ k, k < min st.1.length 800 → gI (sI σ 55 3 (zI (st.2 + s))) 56 k = nI (gA st.1 k) := fun k hk => by rw [gI_sI_n (Or.inl (by decide))]; exact h4 k hk
    refine b_Nu_keep_24 ?_
    rw [e3]
    generalize sI σ 55 3 (zI (st.2 + s)) = τ at F1 a2 a3 a4 a5 ⊢
    rw [a2, show (800 : Int32) ≤ nI (min st.1.length 800) ↔ 800 ≤ min st.1.length 800 from nI_leI (a := 800) (by decide) (by omega), cx]
    refine ⟨fun g => ?_, fun g => ⟨vin (by omega) (by decide), fun v1 e1 σ2 e2 => ?_⟩⟩
    · have hl : 800 ≤ st.1.length := by omega
      have m8 : min (st.1 ++ [x]).length 800 = min st.1.length 800 := by rw [len1]; omega
      have g8 : ∀ k, k < min st.1.length 800 → gA (st.1 ++ [x]) k = gA st.1 k := fun k hk => gA_lt (by omega)
      refine ⟨fun z => ⟨rfl, F1, ?_, a3, ?_, fun k hk => ?_⟩, fun z => ⟨rfl, F1.si (Or.inr ⟨rfl, Or.inr (Or.inr rfl)⟩), ?_, ?_, ?_, fun k hk => ?_⟩⟩
      · show gI τ 55 2 = nI (min (st.1 ++ [x]).length 800); rw [m8]; exact a2
      · show gI τ 55 4 = bI (cutB (st.1 ++ [x])); rw [cutB_app hl, a4, z]; simp
      · show gI τ 56 k = nI (gA (st.1 ++ [x]) k)
        have hk : k < min (st.1 ++ [x]).length 800 := hk
        rw [m8] at hk
        rw [g8 k hk]; exact a5 k hk
      · show gI (sI τ 55 4 1) 55 2 = nI (min (st.1 ++ [x]).length 800); rw [m8, gI_sI_n (Or.inr (by decide))]; exact a2
      · rw [gI_sI_n (Or.inr (by decide))]; exact a3
      · show gI (sI τ 55 4 1) 55 4 = bI (cutB (st.1 ++ [x]))
        rw [cutB_app hl, gI_sI_s]
        have : (x != 0) = true := by simpa using z
        rw [this, Bool.or_true]; rfl
      · show gI (sI τ 55 4 1) 56 k = nI (gA (st.1 ++ [x]) k)
        have hk : k < min (st.1 ++ [x]).length 800 := hk
        rw [m8] at hk
        rw [g8 k hk, gI_sI_n (Or.inl (by decide))]; exact a5 k hk
    · have hl : st.1.length < 800 := by omega
      have m8 : min st.1.length 800 = st.1.length := by omega
      have m9 : min (st.1 ++ [x]).length 800 = st.1.length + 1 := by rw [len1]; omega
      rw [gI_sI_n (Or.inl (by decide)), a2, m8] at e1
      rw [e1, m8, nI_1, nI_clamp (by omega)] at e2
      have ex : vp_nar .byte (nI x).toInt8.toInt32 = nI x := bC_10 (by omega)
      rw [ex] at e2
      rw [e2]
      refine ⟨rfl, (F1.si (Or.inl rfl)).si (Or.inr ⟨rfl, Or.inl rfl⟩), ?_, ?_, ?_, fun k hk => ?_⟩
      · show _ = nI (min (st.1 ++ [x]).length 800); rw [m9, gI_sI_s]
      · rw [gI_sI_n (Or.inr (by decide)), gI_sI_n (Or.inl (by decide))]; exact a3
      · show _ = bI (cutB (st.1 ++ [x]))
        rw [cutB_small (by rw [len1]; omega), gI_sI_n (Or.inr (by decide)), gI_sI_n (Or.inl (by decide)), a4, cutB_small (by omega)]
      · show _ = nI (gA (st.1 ++ [x]) k)
        have hk : k < min (st.1 ++ [x]).length 800 := hk
        rw [m9] at hk
        rw [gI_sI_n (Or.inl (by decide))]
        by_cases q : k = st.1.length
        · subst q; rw [gI_sI_s, gA_eq]
        · rw [gI_sI_n (Or.inr q), gA_lt (by omega)]; exact a5 k (by omega)
  rw [c0, cx]
  refine ⟨fun q => app (fun z => q z.1), fun q => ⟨fun z => app (fun y => z y.2), fun z => ⟨rfl, Fg.rf.si (Or.inr ⟨rfl, Or.inr (Or.inl rfl)⟩), ?_⟩⟩⟩
  rw [kp_no ⟨q, z⟩]
  have e3 : gI σ 55 3 + (zI s - (1 : Int32)) = zI (st.2 + s - 1) := by rw [h2, zI_m1, zI_add]; congr 1; omega
  rw [e3]
  exact ⟨by rw [gI_sI_n (Or.inr (by decide))]; exact h1, gI_sI_s _ _ _ _, by rw [gI_sI_n (Or.inr (by decide))]; exact h3, fun k hk => by rw [gI_sI_n (Or.inl (by decide))]; exact h4 k hk⟩
theorem CsC_at {σ : S_t} {l : List Nat} {a b : Nat} {st : List Nat × Int} (h : CsC σ l a st) : CsC (sI σ 51 2 (nI b)) l b st :=
  ⟨TpC_fg (P := fun p k => p = 51 ∧ k = 2) (Fg.rf.si ⟨rfl, rfl⟩) (by omega) (fun k => by omega) h.1, gI_sI_s _ _ _ _, NuS_fg (P := fun p k => p = 51 ∧ k = 2) (Fg.rf.si ⟨rfl, rfl⟩) (by omega) (by omega) (by omega) (fun k => by omega) h.2.2⟩
theorem CK_CN {p k : Nat} (h : CK' p k) : CNm p k := by unfold CK' at h; unfold CNm; omega
theorem CN51 : CNm 51 2 := Or.inr (Or.inr ⟨rfl, rfl⟩)
section SC
variable {E : En_t} {d : Nat} {l : List Nat}
theorem c_scanDigits (hb : Bt l) (hl : l.length ≤ 2000) {a : Nat} {s : Int} {st : List Nat × Int} {σ : S_t} (hs : s = 0 ∨ s = 1) (ha : a ≤ l.length) (h : CsC σ l a st) : CI E (d + 1) m_Nu_scanDigits [pv E 55, pv E 51, .int (zI s)] σ (fun r σ' => Fg CNm σ σ' ∧ CsC σ' l (a + nd l a) (kps s l a st (nd l a)) ∧ ((r = 0 ∧ ¬ Dgt l a) ∨ (r = 1 ∧ Dgt l a))) := by
  have hnd := nd_le ha
  refine CE.of (L := [(0, pv E 55), (1, pv E 51), (2, .int (zI s))]) rfl (Nat.le_of_ble_eq_true rfl) rfl (b_Nu_scanDigits_0 ?_)
  rw [h.2.1]
  let Q : Option Value → S_t → Prop := fun q σ' => ∃ r, q = some (.int r) ∧ (Fg CNm σ σ' ∧ CsC σ' l (a + nd l a) (kps s l a st (nd l a)) ∧ ((r = 0 ∧ ¬ Dgt l a) ∨ (r = 1 ∧ Dgt l a)))
  have fin : ∀ τ, Fg CNm σ τ → CsC τ l (a + nd l a) (kps s l a st (nd l a)) → JE E (d + 1) m_Nu_scanDigits 54 [(1, pv E 51), (3, .int (nI a))] [] τ Q := by
    intro τ hF hC
    refine b_Nu_scanDigits_54 ?_
    rw [hC.2.1]
    refine pk_le (a + nd l a) a (fun g => ⟨_, rfl, hF, hC, Or.inl ⟨rfl, fun z => ?_⟩⟩) (fun g => ⟨_, rfl, hF, hC, Or.inr ⟨rfl, nd_pos.mp (by omega)⟩⟩)
    have := nd_pos.mpr z
    omega
  have loop : ∀ (m j : Nat) (τ : S_t), j + m = nd l a → Fg CNm σ τ → CsC τ l (a + j) (kps s l a st j) → JE E (d + 1) m_Nu_scanDigits 8 [(0, pv E 55), (1, pv E 51), (2, .int (zI s)), (3, .int (nI a)), (4, .int (nI j))] [] τ Q := by
    intro m
    induction m with
    | zero =>
      intro j τ hj hF hC
      have : j = nd l a := by omega
      subst this
      exact b_Nu_scanDigits_8 ⟨fun _ => fin τ hF hC, fun _ => hd_C hC.1 hb hl (by omega) hC.2.1 (fun _ => fin τ hF hC) (fun q => absurd q (nd_no l a))⟩
    | succ m ih =>
      intro j τ hj hF hC
      have hD : Dgt l (a + j) := nd_yes (by omega)
      refine b_Nu_scanDigits_8 ⟨fun q => absurd q (nI_ge (b := 2000) (by omega) (by decide)), fun _ => hd_C hC.1 hb hl (by omega) hC.2.1 (fun q => absurd hD q) (fun _ => (c_hereC hC.1 hb hl (by omega) hC.2.1).mono (fun r σ1 hq => ?_))⟩
      rw [hq.1, hq.2, hr_sub hD, nI_1]
      refine (c_keepN hC.2.2 (by omega) hs).mono (fun σ2 hq2 => ?_)
      obtain ⟨F2, N2⟩ := hq2
      have e9 : gI σ2 51 2 + (1 : Int32) = nI (a + (j + 1)) := by rw [F2.1 51 2 (by unfold CK'; omega), hC.2.1, nI_1]; rfl
      rw [e9]
      have hC2 : CsC σ2 l (a + j) (kp s (kps s l a st j) (gA l (a + j) - 48)) := ⟨TpC_fg F2 (by unfold CK'; omega) (fun k => by unfold CK'; omega) hC.1, by rw [F2.1 51 2 (by unfold CK'; omega)]; exact hC.2.1, N2⟩
      exact ih (j + 1) _ (by omega) ((hF.tr (F2.mono (fun _ _ z => CK_CN z))).si CN51) (CsC_at hC2)
  exact loop (nd l a) 0 σ (by omega) Fg.rf h
/-- scanPower from e on -/
def sA (l : List Nat) (e : Nat) : Nat := if Chr l e 45 ∨ Chr l e 43 then e + 1 else e
theorem mn_x {x y : Nat} (h : 10 * x + y < 2 ^ 31) : mnI (99999 : Int32) (nI (10 * x + y)) = nI (min 99999 (10 * x + y)) := by
  unfold mnI
  have c : nI (10 * x + y) < (99999 : Int32) ↔ 10 * x + y < 99999 := nI_ltI (b := 99999) h (by decide)
  by_cases g : 10 * x + y < 99999
  · rw [if_pos (c.mpr g), show min 99999 (10 * x + y) = 10 * x + y by omega]
  · rw [if_neg (fun q => g (c.mp q)), show min 99999 (10 * x + y) = 99999 by omega]; rfl
theorem c_scanPower (hb : Bt l) (hl : l.length ≤ 2000) {e : Nat} {st : List Nat × Int} {σ : S_t} (he : e ≤ l.length) (h : CsC σ l e st) : CI E (d + 1) m_Nu_scanPower [pv E 55, pv E 51] σ (fun r σ' => Fg CNm σ σ' ∧ CsC σ' l (sA l e + nd l (sA l e)) (st.1, st.2 + (if Chr l e 45 then -((min 99999 (xe l (sA l e) (nd l (sA l e))) : Nat) : Int) else ((min 99999 (xe l (sA l e) (nd l (sA l e))) : Nat) : Int))) ∧ ((r = 0 ∧ ¬ Dgt l (sA l e)) ∨ (r = 1 ∧ Dgt l (sA l e)))) := by
  have hsA : sA l e ≤ l.length := by
    unfold sA
    split
    · rename_i q
      rcases q with q | q <;> (have := q.1; omega)
    · exact he
  have hnd := nd_le hsA
  let Q : Option Value → S_t → Prop := fun q σ' => ∃ r, q = some (.int r) ∧ (Fg CNm σ σ' ∧ CsC σ' l (sA l e + nd l (sA l e)) (st.1, st.2 + (if Chr l e 45 then -((min 99999 (xe l (sA l e) (nd l (sA l e))) : Nat) : Int) else ((min 99999 (xe l (sA l e) (nd l (sA l e))) : Nat) : Int))) ∧ ((r = 0 ∧ ¬ Dgt l (sA l e)) ∨ (r = 1 ∧ Dgt l (sA l e))))
  have go : ∀ (x2 : Int32) (ρ : S_t), (x2 = 0 ↔ ¬ Chr l e 45) → Fg CNm σ ρ → CsC ρ l (sA l e) st → JE E (d + 1) m_Nu_scanPower 18 [(0, pv E 55), (1, pv E 51), (2, .int x2)] [] ρ Q := by
    intro x2 ρ hx hFr hCr
    refine b_Nu_scanPower_18 ?_
    rw [hCr.2.1]
    have set : ∀ (τ : S_t) (z : Int), Fg CNm σ τ → CsC τ l (sA l e + nd l (sA l e)) st → z = st.2 + (if Chr l e 45 then -((min 99999 (xe l (sA l e) (nd l (sA l e))) : Nat) : Int) else ((min 99999 (xe l (sA l e) (nd l (sA l e))) : Nat) : Int)) → Q (some (.int (if Dgt l (sA l e) then 1 else 0))) (sI τ 55 3 (zI z)) := by
      intro τ z hF hC hz
      refine ⟨_, rfl, hF.si (Or.inr (Or.inl ⟨rfl, Or.inr (Or.inl rfl)⟩)), ⟨TpC_fg (P := fun p k => p = 55) (Fg.rf.si rfl) (by omega) (fun k => by omega) hC.1, by rw [gI_sI_n (Or.inl (by decide))]; exact hC.2.1, ?_⟩, ?_⟩
      · exact ⟨by rw [gI_sI_n (Or.inr (by decide))]; exact hC.2.2.1, by rw [gI_sI_s, hz], by rw [gI_sI_n (Or.inr (by decide))]; exact hC.2.2.2.2.1, fun k hk => by rw [gI_sI_n (Or.inl (by decide))]; exact hC.2.2.2.2.2 k hk⟩
      · by_cases g : Dgt l (sA l e)
        · rw [if_pos g]; exact Or.inr ⟨rfl, g⟩
        · rw [if_neg g]; exact Or.inl ⟨rfl, g⟩
    have fin : ∀ τ, Fg CNm σ τ → CsC τ l (sA l e + nd l (sA l e)) st → JE E (d + 1) m_Nu_scanPower 83 [(0, pv E 55), (1, pv E 51), (2, .int x2), (3, .int (nI (sA l e))), (4, .int (nI (min 99999 (xe l (sA l e) (nd l (sA l e))))))] [] τ Q := by
      intro τ hF hC
      have last : ∀ (s0 : Int32) (z : Int), gI τ 55 3 + s0 = zI z → z = st.2 + (if Chr l e 45 then -((min 99999 (xe l (sA l e) (nd l (sA l e))) : Nat) : Int) else ((min 99999 (xe l (sA l e) (nd l (sA l e))) : Nat) : Int)) → JE E (d + 1) m_Nu_scanPower 100 [(1, pv E 51), (3, .int (nI (sA l e)))] [.int s0, .int (gI τ 55 3), pv E 55] τ Q := by
        intro s0 z h1 h2
        have hs := set τ z hF hC h2
        refine b_Nu_scanPower_100 ?_
        rw [h1, gI_sI_n (Or.inl (by decide)), hC.2.1]
        refine pk_le (sA l e + nd l (sA l e)) (sA l e) (fun g => ?_) (fun g => ?_)
        · rw [if_neg (fun y => by have := nd_pos.mpr y; omega)] at hs; exact hs
        · rw [if_pos (nd_pos.mp (by omega))] at hs; exact hs
      refine b_Nu_scanPower_83 ⟨fun z => last _ (st.2 + ((min 99999 (xe l (sA l e) (nd l (sA l e))) : Nat) : Int)) ?_ ?_, fun z => last _ (st.2 + -((min 99999 (xe l (sA l e) (nd l (sA l e))) : Nat) : Int)) ?_ ?_⟩
      · rw [hC.2.2.2.1, ← zI_nI, zI_add]
      · rw [if_neg (hx.mp z)]
      · rw [hC.2.2.2.1, ← zI_nI, show -zI ((min 99999 (xe l (sA l e) (nd l (sA l e))) : Nat) : Int) = zI (-((min 99999 (xe l (sA l e) (nd l (sA l e))) : Nat) : Int)) from (Int32.ofInt_neg _).symm, zI_add]
      · rw [if_pos (Classical.not_not.mp (fun y => z (hx.mpr y)))]
    have loop : ∀ (m j : Nat) (τ : S_t), j + m = nd l (sA l e) → Fg CNm σ τ → CsC τ l (sA l e + j) st → JE E (d + 1) m_Nu_scanPower 29 [(0, pv E 55), (1, pv E 51), (2, .int x2), (3, .int (nI (sA l e))), (4, .int (nI (min 99999 (xe l (sA l e) j)))), (5, .int (nI j))] [] τ Q := by
      intro m
      induction m with
      | zero =>
        intro j τ hj hF hC
        have : j = nd l (sA l e) := by omega
        subst this
        exact b_Nu_scanPower_29 ⟨fun _ => fin τ hF hC, fun _ => hd_C hC.1 hb hl (by omega) hC.2.1 (fun _ => fin τ hF hC) (fun q => absurd q (nd_no l _))⟩
      | succ m ih =>
        intro j τ hj hF hC
        have hD : Dgt l (sA l e + j) := nd_yes (by omega)
        refine b_Nu_scanPower_29 ⟨fun q => absurd q (nI_ge (b := 2000) (by omega) (by decide)), fun _ => hd_C hC.1 hb hl (by omega) hC.2.1 (fun q => absurd hD q) (fun _ => (c_hereC hC.1 hb hl (by omega) hC.2.1).mono (fun r σ1 hq r7 h7 => ?_))⟩
        rw [hq.1] at h7
        rw [hq.2]
        have e7 : r7 = nI (min 99999 (xe l (sA l e) (j + 1))) := by
          rw [h7, show (10 : Int32) * nI (min 99999 (xe l (sA l e) j)) = nI (10 * min 99999 (xe l (sA l e) j)) from pk_mul 10 _, hr_lt hD.1, nI_add, show nI (10 * min 99999 (xe l (sA l e) j) + gA l (sA l e + j)) - (48 : Int32) = nI (10 * min 99999 (xe l (sA l e) j) + gA l (sA l e + j) - 48) from pk_sub (b := 48) (by omega), show 10 * min 99999 (xe l (sA l e) j) + gA l (sA l e + j) - 48 = 10 * min 99999 (xe l (sA l e) j) + (gA l (sA l e + j) - 48) by omega, mn_x (by omega)]
          have nx : xe l (sA l e) (j + 1) = if xe l (sA l e) j < 100000 then 10 * xe l (sA l e) j + (gA l (sA l e + j) - 48) else xe l (sA l e) j := rfl
          rw [nx]
          congr 1
          split <;> omega
        rw [e7, hC.2.1, nI_1, nI_1]
        exact ih (j + 1) _ (by omega) (hF.si CN51) (CsC_at (b := sA l e + (j + 1)) hC)
    exact loop (nd l (sA l e)) 0 ρ (by omega) hFr hCr
  refine CE.of (L := [(0, pv E 55), (1, pv E 51)]) rfl (Nat.le_of_ble_eq_true rfl) rfl (b_Nu_scanPower_0 ((c_passC (c := 45) h.1 hb hl (by omega) h.2.1 (by decide)).mono (fun r σ1 hq => ?_)))
  rcases hq with ⟨rfl, hn, rfl⟩ | ⟨rfl, hy, rfl⟩
  · refine ⟨fun q => absurd rfl q, fun _ => (c_passC (c := 43) h.1 hb hl (by omega) h.2.1 (by decide)).mono (fun r σ1 hq => ?_)⟩
    rcases hq with ⟨rfl, hn2, rfl⟩ | ⟨rfl, hy2, rfl⟩
    · exact go 0 _ ⟨fun _ => hn, fun _ => rfl⟩ Fg.rf (by unfold sA; rw [if_neg (fun q => q.elim hn hn2)]; exact h)
    · exact go 0 _ ⟨fun _ => hn, fun _ => rfl⟩ (Fg.rf.si CN51) (by unfold sA; rw [if_pos (Or.inr hy2)]; exact CsC_at h)
  · exact ⟨fun _ => go 1 _ ⟨fun q => absurd q (by decide), fun q => absurd hy q⟩ (Fg.rf.si CN51) (by unfold sA; rw [if_pos (Or.inl hy)]; exact CsC_at h), fun q => absurd q (by decide)⟩
end SC
