/-- which part comes first -/
def Wy (L R : List Row) (a ea b eb : Nat) (w : Int32) : Prop := (w < 0 ∧ a < ea ∧ (eb ≤ b ∨ cmN (nam L a) (nam R b) < 0)) ∨ (0 < w ∧ b < eb ∧ ¬ (a < ea ∧ (eb ≤ b ∨ cmN (nam L a) (nam R b) < 0)) ∧ (ea ≤ a ∨ cmN (nam L a) (nam R b) ≠ 0)) ∨ (w = 0 ∧ a < ea ∧ b < eb ∧ ¬ (a < ea ∧ (eb ≤ b ∨ cmN (nam L a) (nam R b) < 0)) ∧ ¬ (ea ≤ a ∨ cmN (nam L a) (nam R b) ≠ 0))
theorem MdS_0 {τ : S_t} {L R : List Row} {e a ea b eb : Nat} (wL : WfR L) (wR : WfR R) (gL : Rg L a ea (e + 1)) (gR : Rg R b eb (e + 1)) (h : MdS τ L R e a ea b eb) : (gI τ 47 e = 0 ↔ ea ≤ a) ∧ (gI τ 48 e = 0 ↔ eb ≤ b) := by
  have n5 := wR.2.2.2.2.1
  have m5 := wL.2.2.2.2.1
  have g3 := gL.2.1
  have g4 := gR.2.1
  have c1 := cnt_le (f := dT L) (e := e + 1) (a := a) (b := ea)
  have c2 := cnt_le (f := dT R) (e := e + 1) (a := b) (b := eb)
  rw [h.1, h.2.1, nI_is0 _ (by omega), nI_is0 _ (by omega)]
  constructor
  · constructor
    · intro q
      rcases Nat.lt_or_ge a ea with z | z
      · have := (Rg_in wL gL z).2.2.2.2.2.2.2; omega
      · exact z
    · intro q; exact cnt_emp q
  · constructor
    · intro q
      rcases Nat.lt_or_ge b eb with z | z
      · have := (Rg_in wR gR z).2.2.2.2.2.2.2; omega
      · exact z
    · intro q; exact cnt_emp q
theorem m_firstOf {E : En_t} {d s s' e a ea b eb : Nat} {L R : List Row} {τ : S_t} (hC : MdC τ L R s s') (he : e < 40) (gL : Rg L a ea (e + 1)) (gR : Rg R b eb (e + 1)) (h : MdS τ L R e a ea b eb) (hend : ¬ (ea ≤ a ∧ eb ≤ b)) : CI E (d + 3) m_Mo_firstOf [pv E 0, .int (nI e), .int (nI s), .int (nI s')] τ (fun w σ' => Wy L R a ea b eb w ∧ σ' = τ) := by
  obtain ⟨⟨hs, hs'⟩, wL, wR, mL, mR⟩ := hC
  obtain ⟨z1, z2⟩ := MdS_0 wL wR gL gR h
  have ce : (nI e).toNatClampNeg = e := nI_clamp (by omega)
  refine CE.of (L := [(0, pv E 0), (1, .int (nI e)), (2, .int (nI s)), (3, .int (nI s'))]) rfl (Nat.le_of_ble_eq_true rfl) rfl (b_Mo_firstOf_0 (d := d + 2) ?_)
  rw [ce, z1, z2]
  refine ⟨vin he (by decide), fun q => ⟨vin he (by decide), fun q2 => ⟨vin he (by decide), vin he (by decide), ?_⟩, fun q2 => ⟨_, rfl, Or.inl ⟨by decide, by omega, Or.inl q2⟩, rfl⟩⟩, fun q => ⟨_, rfl, Or.inr (Or.inl ⟨by decide, by omega, fun z => by omega, Or.inl q⟩), rfl⟩⟩
  have ha : a < ea := by omega
  have hb : b < eb := by omega
  obtain ⟨a1, _, _, a4, _⟩ := Rg_in wL gL ha
  obtain ⟨b1, _, _, b4, _⟩ := Rg_in wR gR hb
  rw [h.2.2.1 ha, h.2.2.2 hb]
  refine (c_namedLike (d := d) (by omega) (by omega) wL wR mL mR a1 b1 (by rw [a4]; exact fun z => by cases z) (by rw [b4]; exact fun z => by cases z)).mono (fun v σ1 hq => ⟨_, rfl, ?_, hq.2⟩)
  have hcm := hq.1
  have hgt := CmR_gt hcm
  rcases Int.lt_trichotomy (cmN (nam L a) (nam R b)) 0 with z | z | z
  · exact Or.inl ⟨hcm.1.mpr z, ha, Or.inr z⟩
  · refine Or.inr (Or.inr ⟨hcm.2.mpr z, ha, hb, ?_, ?_⟩)
    · rintro ⟨_, y | y⟩ <;> omega
    · rintro (y | y)
      · omega
      · exact y z
  · refine Or.inr (Or.inl ⟨hgt.mpr z, hb, ?_, Or.inr (by omega)⟩)
    rintro ⟨_, y | y⟩ <;> omega
theorem MdS_L {τ : S_t} {L R : List Row} {e a ea b eb : Nat} (wL : WfR L) (gL : Rg L a ea (e + 1)) (ha : a < ea) (h : MdS τ L R e a ea b eb) : MdS (sI (sI τ 45 e (nI (a + siz (dT L) L.length a))) 47 e (gI (sI τ 45 e (nI (a + siz (dT L) L.length a))) 47 e - 1)) L R e (a + siz (dT L) L.length a) ea b eb := by
  obtain ⟨a1, a2, a3, a4, a5, a6, a7, a8⟩ := Rg_in wL gL ha
  refine ⟨?_, ?_, fun _ => ?_, fun q => ?_⟩
  · rw [gI_sI_s, gI_sI_n (Or.inl (by decide)), h.1, a8]; exact nI_pred _
  · rw [gI_sI_n (Or.inl (by decide)), gI_sI_n (Or.inl (by decide))]; exact h.2.1
  · rw [gI_sI_n (Or.inl (by decide))]; exact gI_sI_s _ _ _ _
  · rw [gI_sI_n (Or.inl (by decide)), gI_sI_n (Or.inl (by decide))]; exact h.2.2.2 q
theorem MdS_R {τ : S_t} {L R : List Row} {e a ea b eb : Nat} (wR : WfR R) (gR : Rg R b eb (e + 1)) (hb : b < eb) (h : MdS τ L R e a ea b eb) : MdS (sI (sI τ 46 e (nI (b + siz (dT R) R.length b))) 48 e (gI (sI τ 46 e (nI (b + siz (dT R) R.length b))) 48 e - 1)) L R e a ea (b + siz (dT R) R.length b) eb := by
  obtain ⟨a1, a2, a3, a4, a5, a6, a7, a8⟩ := Rg_in wR gR hb
  refine ⟨?_, ?_, fun q => ?_, fun _ => ?_⟩
  · rw [gI_sI_n (Or.inl (by decide)), gI_sI_n (Or.inl (by decide))]; exact h.1
  · rw [gI_sI_s, gI_sI_n (Or.inl (by decide)), h.2.1, a8]; exact nI_pred _
  · rw [gI_sI_n (Or.inl (by decide)), gI_sI_n (Or.inl (by decide))]; exact h.2.2.1 q
  · rw [gI_sI_n (Or.inl (by decide))]; exact gI_sI_s _ _ _ _
theorem PlC_2 {τ : S_t} {e p q : Nat} {v w : Int32} (hp : 45 ≤ p ∧ p ≤ 48) (hq : 45 ≤ q ∧ q ≤ 48) : Fg (PlC e) τ (sI (sI τ p e v) q e w) := (Fg.rf.si ⟨hp, rfl⟩).si ⟨hq, rfl⟩
/-- what a step takes -/
def Cs (L R : List Row) (a ea b eb : Nat) (lx ly : Option Nat) (a' b' : Nat) : Prop := (lx = some a ∧ ly = none ∧ a' = a + siz (dT L) L.length a ∧ b' = b ∧ a < ea ∧ (eb ≤ b ∨ cmN (nam L a) (nam R b) < 0)) ∨ (lx = none ∧ ly = some b ∧ a' = a ∧ b' = b + siz (dT R) R.length b ∧ b < eb ∧ ¬ (a < ea ∧ (eb ≤ b ∨ cmN (nam L a) (nam R b) < 0)) ∧ (ea ≤ a ∨ cmN (nam L a) (nam R b) ≠ 0)) ∨ (lx = some a ∧ ly = some b ∧ a' = a + siz (dT L) L.length a ∧ b' = b + siz (dT R) R.length b ∧ a < ea ∧ b < eb ∧ ¬ (a < ea ∧ (eb ≤ b ∨ cmN (nam L a) (nam R b) < 0)) ∧ ¬ (ea ≤ a ∨ cmN (nam L a) (nam R b) ≠ 0))
/-- what comes of a step -/
theorem Cs_wk {P : Bool} {L R : List Row} {sm : Nat → Nat → Bool} {f : Wst → Nat → Nat → Nat → Nat → Nat → Wst} {st : Wst} {a ea b eb e a' b' : Nat} {lx ly : Option Nat} (wL : WfR L) (wR : WfR R) (gL : Rg L a ea e) (gR : Rg R b eb e) (hend : ¬ (ea ≤ a ∧ eb ≤ b)) (h : Cs L R a ea b eb lx ly a' b') : Rg L a' ea e ∧ Rg R b' eb e ∧ (ea - a') + (eb - b') + 1 ≤ (ea - a) + (eb - b) ∧ (ly = none → lx = some a ∧ a < L.length ∧ dT L a = e ∧ dN L a = some (nam L a) ∧ wkS P L R sm f st a ea b eb e = f (stLf P L st a e) a' ea b' eb e) ∧ (∀ y, ly = some y → y < R.length ∧ 0 < y ∧ dT R y = e ∧ dN R y = some (nam R y) ∧ (∀ i, lx = some i → i < L.length ∧ dT L i = e) ∧ (lE L lx - lA L lx) + (siz (dT R) R.length y - 1) + 1 ≤ (ea - a) + (eb - b) ∧ wkS P L R sm f st a ea b eb e = f (stRt P L R sm f st lx y e) a' ea b' eb e) := by
  have g1 := gL.1
  have g2 := gR.1
  rcases h with ⟨rfl, rfl, rfl, rfl, ha, hc⟩ | ⟨rfl, rfl, rfl, rfl, hb, hn, hc⟩ | ⟨rfl, rfl, rfl, rfl, ha, hb, hn, hc⟩
  · obtain ⟨a1, a2, a3, a4, a5, a6, a7, a8⟩ := Rg_in wL gL ha
    exact ⟨a7, gR, by omega, fun _ => ⟨rfl, a1, a3, a4, by unfold wkS; rw [if_neg hend, if_pos ⟨ha, hc⟩]⟩, fun y hy => by cases hy⟩
  · obtain ⟨b1, b2, b3, b4, b5, b6, b7, b8⟩ := Rg_in wR gR hb
    refine ⟨gL, b7, by omega, fun z => (by cases z), fun y hy => ?_⟩
    cases hy
    refine ⟨b1, b2, b3, b4, fun i hi => (by cases hi), ?_, by unfold wkS; rw [if_neg hend, if_neg hn, if_pos hc]⟩
    show (0 - 0) + (siz (dT R) R.length b - 1) + 1 ≤ _
    omega
  · obtain ⟨a1, a2, a3, a4, a5, a6, a7, a8⟩ := Rg_in wL gL ha
    obtain ⟨b1, b2, b3, b4, b5, b6, b7, b8⟩ := Rg_in wR gR hb
    refine ⟨a7, b7, by omega, fun z => (by cases z), fun y hy => ?_⟩
    cases hy
    have hl : ∀ i, some a = some i → i < L.length ∧ dT L i = e := fun i hi => by cases hi; exact ⟨a1, a3⟩
    have z : lE L (some a) - lA L (some a) ≤ siz (dT L) L.length a - 1 := (Rg_l wL hl).2
    exact ⟨b1, b2, b3, b4, hl, by omega, by unfold wkS; rw [if_neg hend, if_neg hn, if_neg hc]⟩
theorem OwQ_ad {S : Option (List Row)} {r : Row} {e : Nat} (h : r.1 = 6) (he : r.2.1 = e) : ∃ v, OwQ (adR S r) v (e + 1) := by
  cases hs : adR S r with
  | none => exact ⟨0, fun D hD => by cases hD⟩
  | some D' =>
    cases S with
    | none => cases hs
    | some D =>
      obtain ⟨rfl, _, _⟩ := adR_some hs
      exact ⟨nI D.length, fun D2 hD => by cases hD; exact OwQ_new h he⟩
theorem OwQ_S {S : Option (List Row)} {x : Int32} {e : Nat} {nm : Option (List Nat)} (h : OwQ S x e) (hn : nm ≠ none) : OwS S e nm := by
  cases S with
  | none => exact trivial
  | some D => exact ⟨x, (h D rfl).1, fun z => absurd z hn, fun z => absurd (h D rfl).2 z⟩
theorem likR_obj {F : List Row} {k e : Nat} {nm : Option (List Nat)} (hW : WfR F) (hk : k < F.length) (h6 : dK F k = 6) : likR F k e nm = (6, e, nm, [], 0) := by
  have ok := hW.2.1 k hk
  unfold likR
  rw [h6, ok.2.2.2.1 (by omega), ok.2.2.2.2.1 (by omega)]
