theorem nI_nn {n : Nat} (h : n < 2 ^ 31) : ¬ nI n < 0 := fun q => absurd (Int32.lt_of_lt_of_le q (nI_le (a := 0) (Nat.zero_le n) h)) Int32.lt_irrefl
/-! the model weaves -/
def MMe : Nat → Nat → Prop := fun p k => MMk p k ∨ (45 ≤ p ∧ p ≤ 48)
def PlC (e : Nat) : Nat → Nat → Prop := fun p k => (45 ≤ p ∧ p ≤ 48) ∧ k = e
def MdC (σ : S_t) (L R : List Row) (s s' : Nat) : Prop := (s < 8 ∧ s' < 8) ∧ WfR L ∧ WfR R ∧ MoR σ s L ∧ MoR σ s' R
theorem MdC_at {σ τ : S_t} {L R : List Row} {s s' : Nat} (h : MdC σ L R s s') (hF : Fg MMe σ τ) : MdC τ L R s s' := by
  obtain ⟨⟨a, b⟩, wL, wR, mL, mR⟩ := h
  have key : ∀ i, i < 8 → ∀ p k, MoC i p k → gI τ p k = gI σ p k ∧ gL τ p k = gL σ p k := fun i hi p k hm => by
    have : ¬ MMe p k := by unfold MoC at hm; unfold MMe MMk MoC; omega
    exact ⟨hF.1 p k this, hF.2.1 p k this⟩
  exact ⟨⟨a, b⟩, wL, wR, MoR_fr (key s a) wL.2.2.2.2.1 wL.2.2.2.2.2 mL, MoR_fr (key s' b) wR.2.2.2.2.1 wR.2.2.2.2.2 mR⟩
def MdI (σ τ : S_t) (S : Option (List Row)) : Prop := Fg MMe σ τ ∧ MoB τ S
theorem MoB_fr {σ τ : S_t} {S : Option (List Row)} (h : ∀ p k, MMk p k → gI τ p k = gI σ p k ∧ gL τ p k = gL σ p k) (hB : MoB σ S) : MoB τ S := by
  cases S with
  | none => show gI τ 0 39 = 1; rw [(h 0 39 (Or.inr (Or.inr ⟨rfl, rfl⟩))).1]; exact hB
  | some D =>
    obtain ⟨b1, b2, b3, b4⟩ : gI σ 0 39 = 0 ∧ MoR σ 8 D ∧ OpA σ D ∧ WfR D := hB
    refine ⟨by rw [(h 0 39 (Or.inr (Or.inr ⟨rfl, rfl⟩))).1]; exact b1, MoR_fr (fun p k hm => h p k (Or.inl hm)) b4.2.2.2.2.1 b4.2.2.2.2.2 b2, fun h0 e he => ?_, b4⟩
    rw [(h 28 e (Or.inr (Or.inl rfl))).1]; exact b3 h0 e he
theorem MdI_pl {σ τ τ' : S_t} {e : Nat} {S : Option (List Row)} (h : MdI σ τ S) (hF : Fg (PlC e) τ τ') : MdI σ τ' S :=
  ⟨h.1.tr (hF.mono (fun _ _ z => Or.inr z.1)), MoB_fr (fun p k hm => by
    have : ¬ PlC e p k := by unfold MMk MoC at hm; unfold PlC; omega
    exact ⟨hF.1 p k this, hF.2.1 p k this⟩) h.2⟩
theorem m_nextOf {E : En_t} {d s k : Nat} {F : List Row} {σ : S_t} (hs : s < 8) (hW : WfR F) (hM : MoR σ s F) (hk : k < F.length) : CI E d m_Mo_nextOf [pv E 0, .int (nI s), .int (nI k)] σ (fun v σ' => v = nI (k + siz (dT F) F.length k) ∧ σ' = σ) := by
  have h5 := hW.2.2.2.2.1
  obtain ⟨_, _, _, pm, _, _, rows⟩ := hM
  refine CE.of (L := [(0, pv E 0), (1, .int (nI s)), (2, .int (nI k))]) rfl (Nat.le_of_ble_eq_true rfl) rfl (b_Mo_nextOf_0 ?_)
  rw [ix500, nI_clamp (by omega), (rows k hk).2.2.2.2.1, nI_add]
  exact ⟨vin (by omega) (by decide), _, rfl, rfl, rfl⟩
theorem m_isObject {E : En_t} {d s : Nat} {l : Option Nat} {F : List Row} {σ : S_t} (hs : s < 8) (hW : WfR F) (hM : MoR σ s F) (hl : ∀ k, l = some k → k < F.length) : CI E d m_Mo_isObject [pv E 0, .int (nI s), .int (oI l)] σ (fun v σ' => v = bo (obO F l) ∧ σ' = σ) := by
  have h5 := hW.2.2.2.2.1
  obtain ⟨_, _, _, pm, _, _, rows⟩ := hM
  refine CE.of (L := [(0, pv E 0), (1, .int (nI s)), (2, .int (oI l))]) rfl (Nat.le_of_ble_eq_true rfl) rfl (b_Mo_isObject_0 ?_)
  cases l with
  | none => exact ⟨fun _ => ⟨_, rfl, rfl, rfl⟩, fun q => absurd (by decide) q⟩
  | some k =>
    have hk := hl k rfl
    have k6 := (hW.2.1 k hk).1
    refine ⟨fun q => absurd q (nI_nn (by omega)), fun _ => ?_⟩
    rw [show oI (some k) = nI k from rfl, ix500, nI_clamp (by omega), (rows k hk).1]
    refine ⟨vin (by omega) (by decide), fun q => ⟨_, rfl, ?_, rfl⟩, fun q => ⟨_, rfl, ?_, rfl⟩⟩
    · have : obO F (some k) = false := decide_eq_false (fun z => q (by rw [z]; rfl))
      rw [this]; rfl
    · have : obO F (some k) = true := decide_eq_true ((nI_eq (b := 6) (by omega) (by decide)).mp q)
      rw [this]; rfl
theorem MkP_B {σ σ' : S_t} {D : List Row} {r : Row} {x : Int32} (hB : MoB σ (some D)) (hk : r.1 ≠ 3) (hO : OwR D x r.2.1) (hf : RowFit r) (hN : r.2.2.1 = none ↔ ¬ OwN D x) (h : MkP σ σ' D r) : MoB σ' (adR (some D) r) := by
  obtain ⟨b1, b2, b3, b4⟩ : gI σ 0 39 = 0 ∧ MoR σ 8 D ∧ OpA σ D ∧ WfR D := hB
  obtain ⟨hA, pm, hP⟩ := MoR_iff.mp b2
  rcases h with ⟨h1, h2⟩ | ⟨h1, hn, h39, A1, O1, e12, eP, e27, e24⟩
  · rw [h1]; exact h2
  · rw [h1]
    refine ⟨h39, MoR_iff.mpr ⟨A1, pm, MoP_push hP (by rw [e12]; exact hP.1) (Nat.le_refl _) (by have := hP.2.1; omega) eP (fun i _ => e27 _) ⟨fun _ => e24, fun z => ?_⟩⟩, O1, WfR_push b4 hO hf hN hn (adR_some h1).2.2⟩
    unfold dK at z
    rw [dR_eq] at z; exact absurd z hk
theorem m_named {E : En_t} {d s k K e : Nat} {x5 : Int32} {S : Option (List Row)} {F : List Row} {nm : Option (List Nat)} {σ : S_t} (hs : s < 8) (hB : MoB σ S) (hW : WfR F) (hM : MoR σ s F) (hk : k < F.length) (hK : K = 0 ∨ K = 6) (hO : OwS S e nm) (he : e ≤ 30) (he2 : 5 ≤ K → e ≤ 29) (h0 : x5 = 0 → nm = none) (h1 : ¬ x5 = 0 → nm = some (nam F k) ∧ dN F k = some (nam F k)) : CV E (d + 3) m_Mo_named [pv E 0, .int (nI K), .int (nI e), .int (nI s), .int (nI k), .int x5] σ (fun σ' => Fg MMk σ σ' ∧ MoB σ' (adR S (K, e, nm, [], 0))) := by
  have h5 := hW.2.2.2.2
  have hcF := cc_bts F
  obtain ⟨_, _, _, pm, _, _, rows⟩ := hM
  have row := rows k hk
  obtain ⟨na, r9, r9', r9''⟩ := row.2.2.2.2.2.2.2.2.1
  have hls : Ltrs (nam F k) := (hW.2.1 k hk).2.2.2.2.2.2.1
  have mk : ∀ y : Int32, y = (if nm = none then -1 else nI (nm.getD []).length) → (nm = none ∨ nm = some (nam F k)) → CV E (d + 2) m_Mo_make [pv E 0, .int (nI K), .int (nI e), .int ((4000 : Int32) * nI s), .int (nI na), .int y] σ (fun σ' => Fg MMk σ σ' ∧ MoB σ' (adR S (K, e, nm, [], 0))) := by
    intro y hy hnm
    cases S with
    | none => exact (c_make1 (d := d + 1) hB).mono (fun σ' hq => hq)
    | some D =>
      obtain ⟨b1, b2, b3, b4⟩ : gI σ 0 39 = 0 ∧ MoR σ 8 D ∧ OpA σ D ∧ WfR D := hB
      obtain ⟨x, o1, o2⟩ : ∃ x, OwR D x e ∧ (nm = none ↔ ¬ OwN D x) := hO
      obtain ⟨hA, _⟩ := MoR_iff.mp b2
      have hlsN : Ltrs (nm.getD []) := by
        rcases hnm with z | z
        · rw [z]; exact Ltrs_nil
        · rw [z]; exact hls
      have hlen : (nm.getD []).length ≤ (nam F k).length := by
        rcases hnm with z | z
        · rw [z]; exact Nat.zero_le _
        · rw [z]; exact Nat.le_refl _
      have hst : StrA (gI σ 26) (4000 * s + na) (nm.getD []) := by
        rcases hnm with z | z
        · rw [z]; exact fun i hi => absurd hi (Nat.not_lt_zero i)
        · rw [z]; intro i hi; rw [show 4000 * s + na + i = 4000 * s + (na + i) by omega]; exact r9'' i hi
      refine (c_make (a := 4000 * s + na) b4 hA b3 b1 o1 he hy (fun _ => by rw [ix4000]) (by omega) hst hlsN).mono (fun σ' hq => ⟨hq.1, MkP_B (x := x) ⟨b1, b2, b3, b4⟩ ?_ o1 ⟨?_, he, he2, fun _ => rfl, fun _ => rfl, fun z => ?_, hlsN, Ltrs_nil⟩ o2 hq.2⟩)
      · show K ≠ 3; omega
      · show K ≤ 6; omega
      · have : K = 3 := z
        omega
  refine CE.of (L := [(0, pv E 0), (1, .int (nI K)), (2, .int (nI e)), (3, .int (nI s)), (4, .int (nI k)), (5, .int x5)]) rfl (Nat.le_of_ble_eq_true rfl) rfl (b_Mo_named_0 (d := d + 2) ?_)
  rw [ix500, nI_clamp (by omega), r9, row.2.2.2.2.2.2.2.1]
  refine ⟨vin (by omega) (by decide), fun q => b_Mo_named_41 ((mk _ (by rw [if_pos (h0 q)]) (Or.inl (h0 q))).mono (fun σ' hq => ⟨rfl, hq⟩)), fun q => ⟨vin (by omega) (by decide), b_Mo_named_41 ((mk _ ?_ (Or.inr (h1 q).1)).mono (fun σ' hq => ⟨rfl, hq⟩))⟩⟩
  rw [(h1 q).1, (h1 q).2]; rfl
/-- the parts that are to come, as the model keeps them -/
def MdS (τ : S_t) (L R : List Row) (e a ea b eb : Nat) : Prop := gI τ 47 e = nI (cnt (dT L) (e + 1) a ea) ∧ gI τ 48 e = nI (cnt (dT R) (e + 1) b eb) ∧ (a < ea → gI τ 45 e = nI a) ∧ (b < eb → gI τ 46 e = nI b)
theorem m_openPair {E : En_t} {d s s' e r : Nat} {l : Option Nat} {L R : List Row} {τ : S_t} (hC : MdC τ L R s s') (he : e < 40) (hl : ∀ i, l = some i → i < L.length ∧ dT L i = e) (hr : r < R.length) (hre : dT R r = e) (h6 : dK R r = 6) : CV E (d + 1) m_Mo_openPair [pv E 0, .int (nI e), .int (nI s), .int (oI l), .int (nI s'), .int (nI r)] τ (fun σ' => Fg (PlC e) τ σ' ∧ MdS σ' L R e (lA L l) (lE L l) (r + 1) (r + siz (dT R) R.length r)) := by
  obtain ⟨⟨hs, hs'⟩, wL, wR, mL, mR⟩ := hC
  have n5 := wR.2.2.2.2.1
  have m5 := wL.2.2.2.2.1
  obtain ⟨_, _, _, pmR, _, _, rowsR⟩ := id mR
  obtain ⟨_, _, _, pmL, _, _, rowsL⟩ := id mL
  have ce : (nI e).toNatClampNeg = e := nI_clamp (by omega)
  have e1 : ∀ v, Fg (PlC e) τ (sI τ 45 e v) := fun v => Fg.rf.si ⟨⟨by decide, by decide⟩, rfl⟩
  have fin : ∀ v0 : Int32, v0 = oI l + 1 → JE E (d + 1) m_Mo_openPair 39 [(0, pv E 0), (1, .int (nI e)), (4, .int (nI s')), (5, .int (nI r))] [.int (nI (cnt (dT L) (e + 1) (lA L l) (lE L l))), .int (nI e), pv E 47] (sI τ 45 e v0) (fun q σ' => q = none ∧ Fg (PlC e) τ σ' ∧ MdS σ' L R e (lA L l) (lE L l) (r + 1) (r + siz (dT R) R.length r)) := by
    intro v0 hv0
    refine b_Mo_openPair_39 (show kindP 47 = 20 by decide) ?_
    rw [ce, ix500, nI_clamp (show 500 * s' + r < 2 ^ 31 by omega)]
    refine ⟨vin he (by decide), vin he (by decide), vin (by omega) (by decide), fun v1 hv1 => ⟨vin he (by decide), rfl, ((((e1 v0).si ⟨⟨by decide, by decide⟩, rfl⟩).si ⟨⟨by decide, by decide⟩, rfl⟩).si ⟨⟨by decide, by decide⟩, rfl⟩), ?_, ?_, fun q => ?_, fun q => ?_⟩⟩
    · rw [gI_sI_n (Or.inl (by decide)), gI_sI_n (Or.inl (by decide))]; exact gI_sI_s _ _ _ _
    · rw [gI_sI_s, hv1, gI_sI_n (Or.inl (by decide)), gI_sI_n (Or.inl (by decide)), gI_sI_n (Or.inl (by decide)), (rowsR r hr).2.2.2.1, (Rg_open wR hr hre h6).2]
    · rw [gI_sI_n (Or.inl (by decide)), gI_sI_n (Or.inl (by decide)), gI_sI_n (Or.inl (by decide)), gI_sI_s, hv0]
      revert q
      unfold lA lE
      by_cases ho : obO L l = true
      · rw [if_pos ho, if_pos ho]
        intro _
        cases l with
        | none => cases ho
        | some i => exact nI_1 i
      · rw [if_neg ho, if_neg ho]
        intro q; exact absurd q (Nat.lt_irrefl 0)
    · rw [gI_sI_n (Or.inl (by decide)), gI_sI_s, nI_1]
  refine CE.of (L := [(0, pv E 0), (1, .int (nI e)), (2, .int (nI s)), (3, .int (oI l)), (4, .int (nI s')), (5, .int (nI r))]) rfl (Nat.le_of_ble_eq_true rfl) rfl (b_Mo_openPair_0 ⟨vin he (by decide), ?_⟩)
  rw [ce]
  have mL1 : MoR (sI τ 45 e (oI l + (1 : Int32))) s L := MoR_fr (fun p k hm => ⟨gI_sI_n (Or.inl (by unfold MoC at hm; omega)), rfl⟩) m5 wL.2.2.2.2.2 mL
  refine (m_isObject hs wL mL1 (fun k hk => (hl k hk).1)).mono (fun v σ1 hq => ?_)
  obtain ⟨rfl, rfl⟩ := hq
  have f := fin _ rfl
  cases ho : obO L l with
  | false =>
    have ea : lA L l = 0 := if_neg (by rw [ho]; decide)
    have eb : lE L l = 0 := if_neg (by rw [ho]; decide)
    refine ⟨fun _ => ?_, fun q => absurd rfl q⟩
    rw [ea, eb] at f ⊢
    exact f
  | true =>
    refine ⟨fun q => absurd q (by decide), fun _ => ?_⟩
    cases l with
    | none => cases ho
    | some i =>
      obtain ⟨hi, hie⟩ := hl i rfl
      have ea : lA L (some i) = i + 1 := if_pos ho
      have eb : lE L (some i) = i + siz (dT L) L.length i := if_pos ho
      rw [show oI (some i) = nI i from rfl, ix500, nI_clamp (show 500 * s + i < 2 ^ 31 by omega), gI_sI_n (Or.inl (by decide)), (rowsL i hi).2.2.2.1, ← (Rg_open wL hi hie (of_decide_eq_true ho)).2]
      rw [ea, eb] at f ⊢
      exact ⟨vin (by omega) (by decide), f⟩
