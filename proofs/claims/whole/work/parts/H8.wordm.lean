theorem c_wordM {E : En_t} {d f n p : Nat} {l : List Nat} {σ : S_t} (hw : Wrd σ) (hfn : f + n ≤ 13) (hT : TcM σ l) (hb : Bt l) (hl : l.length ≤ 2000) (hp : p ≤ l.length) (h2 : gI σ 0 9 = nI p) (h41 : gI σ 0 41 = 0) : CI E (d + 1) m_Mo_takeWord [pv E 0, .int (nI l.length), .int (nI f), .int (nI n)] σ (fun r σ' => Fg (fun p k => p = 0 ∧ (k = 9 ∨ k = 41 ∨ k = 42)) σ σ' ∧ r = bo (wdS l n f p).1 ∧ (((wdS l n f p).1 = true ∧ gI σ' 0 9 = nI (wdS l n f p).2 ∧ gI σ' 0 41 = 0 ∧ gI σ' 0 42 = gI σ 0 42) ∨ ((wdS l n f p).1 = false ∧ gI σ' 0 41 = 1 ∧ gI σ' 0 42 = nI (wdS l n f p).2))) := by
  have key : ∀ k, k < 13 → gA wordL k < 128 := by decide
  let R : Bool × Nat → Option Value → S_t → Prop := fun w q σ' => ∃ r, q = some (.int r) ∧ Fg (fun p k => p = 0 ∧ (k = 9 ∨ k = 41 ∨ k = 42)) σ σ' ∧ r = bo w.1 ∧ ((w.1 = true ∧ gI σ' 0 9 = nI w.2 ∧ gI σ' 0 41 = 0 ∧ gI σ' 0 42 = gI σ 0 42) ∨ (w.1 = false ∧ gI σ' 0 41 = 1 ∧ gI σ' 0 42 = nI w.2))
  have loop : ∀ (m j p : Nat) (τ : S_t), j + m = n → Fg (fun p k => p = 0 ∧ k = 9) σ τ → gI τ 0 9 = nI p → p ≤ l.length → JE E (d + 1) m_Mo_takeWord 3 [(0, pv E 0), (1, .int (nI l.length)), (2, .int (nI f)), (3, .int (nI n)), (4, .int (nI j))] [] τ (R (wdS l m (f + j) p)) := by
    intro m
    induction m with
    | zero =>
      intro j p τ hj hF h2 hp
      have : j = n := by omega
      subst this
      exact b_Mo_takeWord_3 ⟨fun _ => ⟨_, rfl, hF.mono (fun _ _ z => ⟨z.1, Or.inl z.2⟩), rfl, Or.inl ⟨rfl, h2, by rw [hF.1 0 41 (by omega)]; exact h41, hF.1 0 42 (by omega)⟩⟩, fun q => absurd (Int32.le_refl _) q⟩
    | succ m ih =>
      intro j p τ hj hF h2 hp
      have hT1 : TcM τ l := fun k hk => by rw [hF.1 1 k (by omega)]; exact hT k hk
      have k1 := key (f + j) (by omega)
      refine b_Mo_takeWord_3 ⟨fun q => absurd q (nI_ge (by omega) (by omega)), fun _ => (c_hereM hT1 hl (by omega) h2).mono (fun r σ1 hq => ?_)⟩
      obtain ⟨rfl, rfl⟩ := hq
      have kc : hr l p = nI (gA wordL (f + j)) ↔ Chr l p (gA wordL (f + j)) := hr_chr hb (by omega)
      rw [nI_add, nI_clamp (by omega), hF.1 40 (f + j) (by omega), hw (f + j) (by omega), kc, h2]
      refine ⟨vin (by omega) (by decide), fun hy => ?_, fun hn => ?_⟩
      · have e : wdS l (m + 1) (f + j) p = wdS l m (f + j + 1) (p + 1) := if_pos hy
        rw [e, nI_1, nI_1]
        exact ih (j + 1) (p + 1) _ (by omega) (hF.si ⟨rfl, rfl⟩) (gI_sI_s _ _ _ _) hy.1
      · have e : wdS l (m + 1) (f + j) p = (false, p) := if_neg hn
        rw [e]
        refine CE.of (L := [(0, pv E 0), (1, .int (1 : Int32)), (2, .int (nI p))]) rfl (Nat.le_of_ble_eq_true rfl) rfl (b_Mo_wrong_0 ⟨fun q => absurd (by rw [hF.1 0 41 (by omega)]; exact h41) q, fun _ => ⟨_, rfl, rfl, _, rfl, ((hF.mono (fun _ _ z => ⟨z.1, Or.inl z.2⟩)).si ⟨rfl, Or.inr (Or.inl rfl)⟩).si ⟨rfl, Or.inr (Or.inr rfl)⟩, rfl, Or.inr ⟨rfl, ?_, gI_sI_s _ _ _ _⟩⟩⟩)
        rw [gI_sI_n (Or.inr (by decide))]; exact gI_sI_s _ _ _ _
  exact CE.of (L := [(0, pv E 0), (1, .int (nI l.length)), (2, .int (nI f)), (3, .int (nI n))]) rfl (Nat.le_of_ble_eq_true rfl) rfl (b_Mo_takeWord_0 (loop n 0 p σ (by omega) Fg.rf h2 hp))
/-- the kind of value that the byte at p begins -/
def kdb (l : List Nat) (p : Nat) : Option Nat := if Chr l p 34 then some 4 else if Chr l p 91 then some 5 else if Chr l p 123 then some 6 else if Chr l p 110 then some 0 else if Chr l p 102 then some 1 else if Chr l p 116 then some 2 else if Chr l p 45 ∨ Dgt l p then some 3 else none
theorem c_kindM {E : En_t} {d p : Nat} {l : List Nat} {σ : S_t} (hb : Bt l) : CI E (d + 1) m_Mo_kindAt [.int (hr l p)] σ (fun r σ' => r = oI (kdb l p) ∧ σ' = σ) := by
  have kc : ∀ c, c < 256 → (hr l p = nI c ↔ Chr l p c) := fun c hc => hr_chr hb (by omega)
  refine CE.of (L := [(0, .int (hr l p))]) rfl (Nat.le_of_ble_eq_true rfl) rfl (b_Mo_kindAt_0 ?_)
  have yes : ∀ o, kdb l p = o → oI (kdb l p) = oI o := fun o h => by rw [h]
  refine ⟨fun n1 => ⟨fun n2 => ⟨fun n3 => ⟨fun n4 => ⟨fun n5 => ⟨fun n6 => ?_, fun q => ?_⟩, fun q => ?_⟩, fun q => ?_⟩, fun q => ?_⟩, fun q => ?_⟩, fun q => ?_⟩
  · have m1 := fun z => n1 ((kc 34 (by decide)).mpr z)
    have m2 := fun z => n2 ((kc 91 (by decide)).mpr z)
    have m3 := fun z => n3 ((kc 123 (by decide)).mpr z)
    have m4 := fun z => n4 ((kc 110 (by decide)).mpr z)
    have m5 := fun z => n5 ((kc 102 (by decide)).mpr z)
    have m6 := fun z => n6 ((kc 116 (by decide)).mpr z)
    have e : kdb l p = if Chr l p 45 ∨ Dgt l p then some 3 else none := by unfold kdb; rw [if_neg m1, if_neg m2, if_neg m3, if_neg m4, if_neg m5, if_neg m6]
    refine ⟨fun q => J_sub [] rfl (b_Mo_kindAt_74 ⟨_, rfl, ?_, rfl⟩), fun n7 => (c_digX hb).mono (fun r σ1 hq => ?_)⟩
    · rw [e, if_pos (Or.inl ((kc 45 (by decide)).mp q))]; rfl
    · obtain ⟨hq, rfl⟩ := hq
      have m7 := fun z => n7 ((kc 45 (by decide)).mpr z)
      rcases hq with ⟨rfl, z⟩ | ⟨rfl, z⟩
      · refine ⟨fun _ => ⟨_, rfl, ?_, rfl⟩, fun q => absurd rfl q⟩
        rw [e, if_neg (fun y => y.elim m7 z)]; rfl
      · refine ⟨fun q => absurd q (by decide), fun _ => J_sub [] rfl (b_Mo_kindAt_74 ⟨_, rfl, ?_, rfl⟩)⟩
        rw [e, if_pos (Or.inr z)]; rfl
  · refine ⟨_, rfl, ?_, rfl⟩
    have e : kdb l p = some 2 := by unfold kdb; rw [if_neg (fun z => n1 ((kc 34 (by decide)).mpr z)), if_neg (fun z => n2 ((kc 91 (by decide)).mpr z)), if_neg (fun z => n3 ((kc 123 (by decide)).mpr z)), if_neg (fun z => n4 ((kc 110 (by decide)).mpr z)), if_neg (fun z => n5 ((kc 102 (by decide)).mpr z)), if_pos ((kc 116 (by decide)).mp q)]
    rw [e]; rfl
  · refine ⟨_, rfl, ?_, rfl⟩
    have e : kdb l p = some 1 := by unfold kdb; rw [if_neg (fun z => n1 ((kc 34 (by decide)).mpr z)), if_neg (fun z => n2 ((kc 91 (by decide)).mpr z)), if_neg (fun z => n3 ((kc 123 (by decide)).mpr z)), if_neg (fun z => n4 ((kc 110 (by decide)).mpr z)), if_pos ((kc 102 (by decide)).mp q)]
    rw [e]; rfl
  · refine ⟨_, rfl, ?_, rfl⟩
    have e : kdb l p = some 0 := by unfold kdb; rw [if_neg (fun z => n1 ((kc 34 (by decide)).mpr z)), if_neg (fun z => n2 ((kc 91 (by decide)).mpr z)), if_neg (fun z => n3 ((kc 123 (by decide)).mpr z)), if_pos ((kc 110 (by decide)).mp q)]
    rw [e]; rfl
  · refine ⟨_, rfl, ?_, rfl⟩
    have e : kdb l p = some 6 := by unfold kdb; rw [if_neg (fun z => n1 ((kc 34 (by decide)).mpr z)), if_neg (fun z => n2 ((kc 91 (by decide)).mpr z)), if_pos ((kc 123 (by decide)).mp q)]
    rw [e]; rfl
  · refine ⟨_, rfl, ?_, rfl⟩
    have e : kdb l p = some 5 := by unfold kdb; rw [if_neg (fun z => n1 ((kc 34 (by decide)).mpr z)), if_pos ((kc 91 (by decide)).mp q)]
    rw [e]; rfl
  · refine ⟨_, rfl, ?_, rfl⟩
    have e : kdb l p = some 4 := if_pos ((kc 34 (by decide)).mp q)
    rw [e]; rfl
