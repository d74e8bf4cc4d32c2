/-! frames with longs; the tape as it is read -/
def Fg (P : Nat → Nat → Prop) (σ σ' : S_t) : Prop := (∀ p k, ¬ P p k → gI σ' p k = gI σ p k) ∧ (∀ p k, ¬ P p k → gL σ' p k = gL σ p k) ∧ σ'.2.2 = σ.2.2
theorem Fg.rf {P : Nat → Nat → Prop} {σ : S_t} : Fg P σ σ := ⟨fun _ _ _ => rfl, fun _ _ _ => rfl, rfl⟩
theorem Fg.tr {P : Nat → Nat → Prop} {σ σ1 σ2 : S_t} (h : Fg P σ σ1) (g : Fg P σ1 σ2) : Fg P σ σ2 := ⟨fun p k hp => (g.1 p k hp).trans (h.1 p k hp), fun p k hp => (g.2.1 p k hp).trans (h.2.1 p k hp), g.2.2.trans h.2.2⟩
theorem Fg.mono {P P' : Nat → Nat → Prop} {σ σ' : S_t} (h : Fg P σ σ') (hPQ : ∀ p k, P p k → P' p k) : Fg P' σ σ' := ⟨fun p k hp => h.1 p k (fun z => hp (hPQ p k z)), fun p k hp => h.2.1 p k (fun z => hp (hPQ p k z)), h.2.2⟩
theorem Fg.si {P : Nat → Nat → Prop} {σ σ' : S_t} {p k : Nat} {v : Int32} (h : Fg P σ σ') (hp : P p k) : Fg P σ (sI σ' p k v) := ⟨fun q j hq => by
  rw [gI_sI_n]
  · exact h.1 q j hq
  · by_cases e : q = p
    · exact Or.inr (fun e2 => hq (by rw [e, e2]; exact hp))
    · exact Or.inl e, h.2.1, h.2.2⟩
theorem Fg.sl {P : Nat → Nat → Prop} {σ σ' : S_t} {p k : Nat} {v : Int64} (h : Fg P σ σ') (hp : P p k) : Fg P σ (sL σ' p k v) := ⟨h.1, fun q j hq => by
  rw [gL_sL_n]
  · exact h.2.1 q j hq
  · by_cases e : q = p
    · exact Or.inr (fun e2 => hq (by rw [e, e2]; exact hp))
    · exact Or.inl e, h.2.2⟩
theorem Fs.fg {P : Nat → Nat → Prop} {σ σ' : S_t} (h : Fs P σ σ') : Fg P σ σ' := ⟨h.1, fun p k _ => by show σ'.2.1 p k = σ.2.1 p k; rw [h.2], by rw [h.2]⟩
theorem Fr.fg {P : Nat → Prop} {σ σ' : S_t} (h : Fr P σ σ') : Fg (fun p _ => P p) σ σ' := ⟨h.1, fun p k _ => by show σ'.2.1 p k = σ.2.1 p k; rw [h.2], by rw [h.2]⟩
def TcM (σ : S_t) (l : List Nat) : Prop := ∀ k, k < l.length → gI σ 1 k = nI (gA l k)
def hr (l : List Nat) (a : Nat) : Int32 := if a < l.length then nI (gA l a) else -1
abbrev Dgt (l : List Nat) (a : Nat) : Prop := a < l.length ∧ 48 ≤ gA l a ∧ gA l a ≤ 57
abbrev Chr (l : List Nat) (a c : Nat) : Prop := a < l.length ∧ gA l a = c
theorem hr_lt {l : List Nat} {a : Nat} (h : a < l.length) : hr l a = nI (gA l a) := if_pos h
theorem hr_ge {l : List Nat} {a : Nat} (h : ¬ a < l.length) : hr l a = -1 := if_neg h
theorem nI_neg1 {c : Nat} (hc : c < 2 ^ 31) : ¬ (-1 : Int32) = nI c := fun e => by
  have := congrArg Int32.toInt e
  rw [nI_toInt hc] at this
  have h1 : (-1 : Int32).toInt = -1 := rfl
  omega
theorem hr_chr {l : List Nat} {a c : Nat} (hb : Bt l) (hc : c < 2 ^ 31) : hr l a = nI c ↔ Chr l a c := by
  by_cases h : a < l.length
  · rw [hr_lt h, nI_eq (by have := Bt_gA hb a; omega) hc]
    exact ⟨fun q => ⟨h, q⟩, fun q => q.2⟩
  · rw [hr_ge h]
    exact ⟨fun q => absurd q (nI_neg1 hc), fun q => absurd q.1 h⟩
theorem hr_digs {l : List Nat} {a : Nat} (hb : Bt l) : (¬ hr l a < (48 : Int32) ∧ ¬ (57 : Int32) < hr l a) ↔ Dgt l a := by
  by_cases h : a < l.length
  · have hg := Bt_gA hb a
    have c1 : hr l a < (48 : Int32) ↔ gA l a < 48 := by rw [hr_lt h]; exact nI_ltI (b := 48) (by omega) (by decide)
    have c2 : (57 : Int32) < hr l a ↔ 57 < gA l a := by rw [hr_lt h]; exact nI_ltI (a := 57) (by decide) (by omega)
    rw [c1, c2]
    exact ⟨fun q => ⟨h, by omega, by omega⟩, fun q => ⟨by omega, by omega⟩⟩
  · rw [hr_ge h]
    exact ⟨fun q => absurd (by decide) q.1, fun q => absurd q.1 h⟩
theorem c_hereM {E : En_t} {d a : Nat} {l : List Nat} {σ : S_t} (hT : TcM σ l) (hl : l.length ≤ 2000) (ha : a ≤ 100000) (h9 : gI σ 0 9 = nI a) : CI E d m_Mo_here [pv E 0, .int (nI l.length)] σ (fun r σ' => r = hr l a ∧ σ' = σ) := by
  refine CE.of (L := [(0, pv E 0), (1, .int (nI l.length))]) rfl (Nat.le_of_ble_eq_true rfl) rfl (b_Mo_here_0 ?_)
  rw [h9]
  refine pk_le l.length a (fun g => ⟨_, rfl, by rw [hr_ge (by omega)], rfl⟩) (fun g => ⟨vin (by omega) (by decide), _, rfl, ?_, rfl⟩)
  rw [nI_clamp (by omega), hT a g, hr_lt g]
theorem c_hereC {E : En_t} {d a : Nat} {l : List Nat} {σ : S_t} (hT : TpC σ l) (hb : Bt l) (hl : l.length ≤ 2000) (ha : a ≤ 100000) (h9 : gI σ 51 2 = nI a) : CI E d m_Te_here [pv E 51] σ (fun r σ' => r = hr l a ∧ σ' = σ) := by
  refine CE.of (L := [(0, pv E 51)]) rfl (Nat.le_of_ble_eq_true rfl) rfl (b_Te_here_0 ?_)
  rw [h9, hT.1]
  refine ⟨fun g => absurd g (nI_pos (by omega)), fun _ => pk_le l.length a (fun g => ⟨_, rfl, by rw [hr_ge (by omega)], rfl⟩) (fun g => ⟨vin (by omega) (by decide), _, rfl, ?_, rfl⟩)⟩
  rw [nI_clamp (by omega), hT.2 a g, hr_lt g, bC_lt (Bt_gA hb a)]
/-- pass(c) -/
theorem c_passC {E : En_t} {d a c : Nat} {l : List Nat} {σ : S_t} (hT : TpC σ l) (hb : Bt l) (hl : l.length ≤ 2000) (ha : a ≤ 100000) (h9 : gI σ 51 2 = nI a) (hc : c < 2 ^ 31) : CI E d m_Te_pass [pv E 51, .int (nI c)] σ (fun r σ' => (r = 0 ∧ ¬ Chr l a c ∧ σ' = σ) ∨ (r = 1 ∧ Chr l a c ∧ σ' = sI σ 51 2 (nI (a + 1)))) := by
  refine CE.of (L := [(0, pv E 51), (1, .int (nI c))]) rfl (Nat.le_of_ble_eq_true rfl) rfl (b_Te_pass_0 ?_)
  rw [h9, hT.1]
  have no : ∀ {P : Prop}, ¬ Chr l a c → JE E d m_Te_pass 39 [(0, pv E 51)] [] σ (fun q σ' => ∃ r, q = some (.int r) ∧ ((r = 0 ∧ ¬ Chr l a c ∧ σ' = σ) ∨ (r = 1 ∧ Chr l a c ∧ σ' = sI σ 51 2 (nI (a + 1))))) := fun {P} h => b_Te_pass_39 (b_Te_pass_40 ⟨fun _ => ⟨rfl, _, rfl, Or.inl ⟨rfl, h, rfl⟩⟩, fun q => absurd rfl q⟩)
  refine ⟨fun g => absurd g (nI_pos (by omega)), fun _ => pk_le l.length a (fun g => no (P := True) (fun q => by have := q.1; omega)) (fun g => ⟨vin (by omega) (by decide), ?_⟩)⟩
  rw [nI_clamp (by omega), hT.2 a g, bC_lt (Bt_gA hb a), nI_eq (by have := Bt_gA hb a; omega) hc]
  refine ⟨fun q => no (P := True) (fun z => q z.2), fun q => b_Te_pass_40 ⟨fun z => absurd z (by decide), fun _ => ⟨rfl, _, rfl, Or.inr ⟨rfl, ⟨g, q⟩, ?_⟩⟩⟩⟩
  rw [h9, nI_1]
theorem c_digX {E : En_t} {d a : Nat} {l : List Nat} {σ : S_t} (hb : Bt l) : CI E d m_Mo_isDigit [.int (hr l a)] σ (fun r σ' => ((r = 0 ∧ ¬ Dgt l a) ∨ (r = 1 ∧ Dgt l a)) ∧ σ' = σ) := by
  have hd := hr_digs (a := a) hb
  refine CE.of (L := [(0, .int (hr l a))]) rfl (Nat.le_of_ble_eq_true rfl) rfl (b_Mo_isDigit_0 ⟨fun g => ⟨_, rfl, Or.inl ⟨rfl, fun q => (hd.mpr q).1 g⟩, rfl⟩, fun g => ⟨fun g2 => ⟨_, rfl, Or.inl ⟨rfl, fun q => (hd.mpr q).2 g2⟩, rfl⟩, fun g2 => ⟨_, rfl, Or.inr ⟨rfl, hd.mp ⟨g, g2⟩⟩, rfl⟩⟩⟩)
theorem c_digY {E : En_t} {d a : Nat} {l : List Nat} {σ : S_t} (hb : Bt l) : CI E d m_Nu_isDigit [.int (hr l a)] σ (fun r σ' => ((r = 0 ∧ ¬ Dgt l a) ∨ (r = 1 ∧ Dgt l a)) ∧ σ' = σ) := by
  have hd := hr_digs (a := a) hb
  refine CE.of (L := [(0, .int (hr l a))]) rfl (Nat.le_of_ble_eq_true rfl) rfl (b_Nu_isDigit_0 ⟨fun g => ⟨_, rfl, Or.inl ⟨rfl, fun q => (hd.mpr q).1 g⟩, rfl⟩, fun g => ⟨fun g2 => ⟨_, rfl, Or.inl ⟨rfl, fun q => (hd.mpr q).2 g2⟩, rfl⟩, fun g2 => ⟨_, rfl, Or.inr ⟨rfl, hd.mp ⟨g, g2⟩⟩, rfl⟩⟩⟩)
/-- is a digit here? -/
theorem hd_M {E : En_t} {d a : Nat} {l : List Nat} {σ : S_t} {A B : S_t → Prop} (hT : TcM σ l) (hb : Bt l) (hl : l.length ≤ 2000) (ha : a ≤ 100000) (h9 : gI σ 0 9 = nI a) (hA : ¬ Dgt l a → A σ) (hB : Dgt l a → B σ) : CI E d m_Mo_here [pv E 0, .int (nI l.length)] σ (fun r2 σ1 => CI E d m_Mo_isDigit [.int r2] σ1 (fun r4 σ3 => (r4 = 0 → A σ3) ∧ (¬ r4 = 0 → B σ3))) := by
  refine (c_hereM hT hl ha h9).mono (fun r σ1 hq => ?_)
  rw [hq.1, hq.2]
  refine (c_digX hb).mono (fun r σ2 hq => ?_)
  rw [hq.2]
  rcases hq.1 with ⟨rfl, q⟩ | ⟨rfl, q⟩
  · exact ⟨fun _ => hA q, fun z => absurd rfl z⟩
  · exact ⟨fun z => absurd z (by decide), fun _ => hB q⟩
theorem hd_C {E : En_t} {d a : Nat} {l : List Nat} {σ : S_t} {A B : S_t → Prop} (hT : TpC σ l) (hb : Bt l) (hl : l.length ≤ 2000) (ha : a ≤ 100000) (h9 : gI σ 51 2 = nI a) (hA : ¬ Dgt l a → A σ) (hB : Dgt l a → B σ) : CI E d m_Te_here [pv E 51] σ (fun r2 σ1 => CI E d m_Nu_isDigit [.int r2] σ1 (fun r4 σ3 => (r4 = 0 → A σ3) ∧ (¬ r4 = 0 → B σ3))) := by
  refine (c_hereC hT hb hl ha h9).mono (fun r σ1 hq => ?_)
  rw [hq.1, hq.2]
  refine (c_digY hb).mono (fun r σ2 hq => ?_)
  rw [hq.2]
  rcases hq.1 with ⟨rfl, q⟩ | ⟨rfl, q⟩
  · exact ⟨fun _ => hA q, fun z => absurd rfl z⟩
  · exact ⟨fun z => absurd z (by decide), fun _ => hB q⟩
theorem CI.swap {E : En_t} {d : Nat} {M : M_t} {av : List Value} {σ : S_t} {M' : M_t} {A B : S_t → Prop} (h : CI E d M av σ (fun r2 σ1 => CI E d M' [.int r2] σ1 (fun r4 σ3 => (r4 = 0 → A σ3) ∧ (¬ r4 = 0 → B σ3)))) : CI E d M av σ (fun r2 σ1 => CI E d M' [.int r2] σ1 (fun r4 σ3 => (¬ r4 = 0 → B σ3) ∧ (r4 = 0 → A σ3))) := h.mono (fun _ _ q => q.mono (fun _ _ z => ⟨z.2, z.1⟩))
/-- is it c here? -/
theorem ch_M {E : En_t} {d a : Nat} {l : List Nat} {σ : S_t} {A B : S_t → Prop} (c : Nat) (hT : TcM σ l) (hb : Bt l) (hl : l.length ≤ 2000) (ha : a ≤ 100000) (h9 : gI σ 0 9 = nI a) (hc : c < 2 ^ 31) (hA : ¬ Chr l a c → A σ) (hB : Chr l a c → B σ) : CI E d m_Mo_here [pv E 0, .int (nI l.length)] σ (fun r2 σ1 => (¬ r2 = nI c → A σ1) ∧ (r2 = nI c → B σ1)) := by
  refine (c_hereM hT hl ha h9).mono (fun r σ1 hq => ?_)
  rw [hq.1, hq.2, hr_chr hb hc]
  exact ⟨hA, hB⟩
/-- the run of digits from a on -/
def ndF (l : List Nat) : Nat → Nat → Nat
  | 0, _ => 0
  | f + 1, a => if Dgt l a then ndF l f (a + 1) + 1 else 0
def nd (l : List Nat) (a : Nat) : Nat := ndF l (l.length - a) a
theorem ndF_spec (l : List Nat) : ∀ (f a : Nat), l.length ≤ a + f → (∀ k, k < ndF l f a → Dgt l (a + k)) ∧ ¬ Dgt l (a + ndF l f a)
  | 0, a, h => ⟨fun k hk => absurd hk (Nat.not_lt_zero k), fun q => by have := q.1; omega⟩
  | f + 1, a, h => by
    have ih := ndF_spec l f (a + 1) (by omega)
    by_cases g : Dgt l a
    · have e : ndF l (f + 1) a = ndF l f (a + 1) + 1 := if_pos g
      rw [e]
      refine ⟨fun k hk => ?_, ?_⟩
      · cases k with
        | zero => exact g
        | succ k =>
          have := ih.1 k (by omega)
          rwa [show a + 1 + k = a + (k + 1) by omega] at this
      · rw [show a + (ndF l f (a + 1) + 1) = a + 1 + ndF l f (a + 1) by omega]; exact ih.2
    · have e : ndF l (f + 1) a = 0 := if_neg g
      rw [e]
      exact ⟨fun k hk => absurd hk (Nat.not_lt_zero k), g⟩
theorem nd_yes {l : List Nat} {a k : Nat} (h : k < nd l a) : Dgt l (a + k) := (ndF_spec l _ a (by omega)).1 k h
theorem nd_no (l : List Nat) (a : Nat) : ¬ Dgt l (a + nd l a) := (ndF_spec l _ a (by omega)).2
theorem nd_le {l : List Nat} {a : Nat} (h : a ≤ l.length) : a + nd l a ≤ l.length := by
  rcases Nat.eq_zero_or_pos (nd l a) with q | q
  · omega
  · have := (nd_yes (l := l) (a := a) (k := nd l a - 1) (by omega)).1
    omega
theorem nd_pos {l : List Nat} {a : Nat} : 0 < nd l a ↔ Dgt l a := by
  constructor
  · intro h; exact nd_yes h
  · intro h
    rcases Nat.eq_zero_or_pos (nd l a) with q | q
    · exfalso
      have := nd_no l a
      rw [q] at this
      exact this h
    · exact q
/-- digits kept: the digits without zeros ahead, the point -/
def kp (s : Int) (st : List Nat × Int) (x : Nat) : List Nat × Int := if st.1 = [] ∧ x = 0 then (st.1, st.2 + s - 1) else (st.1 ++ [x], st.2 + s)
def kps (s : Int) (l : List Nat) (a : Nat) (st : List Nat × Int) : Nat → List Nat × Int
  | 0 => st
  | m + 1 => kp s (kps s l a st m) (gA l (a + m) - 48)
/-- digits below ten, the first not 0; the point near -/
def KpOk (m : Nat) (st : List Nat × Int) : Prop := st.1.length ≤ m ∧ -(m : Int) ≤ st.2 ∧ st.2 ≤ m ∧ (∀ k, k < st.1.length → gA st.1 k < 10) ∧ (st.1 = [] ∨ gA st.1 0 ≠ 0)
theorem kp_ok {s : Int} {m x : Nat} {st : List Nat × Int} (h : KpOk m st) (hs : s = 0 ∨ s = 1) (hx : x < 10) : KpOk (m + 1) (kp s st x) := by
  obtain ⟨h1, h2, h3, h4, h5⟩ := h
  unfold kp
  by_cases g : st.1 = [] ∧ x = 0
  · rw [if_pos g]
    exact ⟨by show st.1.length ≤ m + 1; omega, by show -((m + 1 : Nat) : Int) ≤ st.2 + s - 1; omega, by show st.2 + s - 1 ≤ ((m + 1 : Nat) : Int); omega, h4, h5⟩
  · rw [if_neg g]
    refine ⟨by show (st.1 ++ [x]).length ≤ m + 1; rw [len1]; omega, by show -((m + 1 : Nat) : Int) ≤ st.2 + s; omega, by show st.2 + s ≤ ((m + 1 : Nat) : Int); omega, fun k hk => ?_, Or.inr ?_⟩
    · show gA (st.1 ++ [x]) k < 10
      have hk : k < (st.1 ++ [x]).length := hk
      rw [len1] at hk
      by_cases q : k = st.1.length
      · subst q; rw [gA_eq]; exact hx
      · rw [gA_lt (by omega)]; exact h4 k (by omega)
    · show gA (st.1 ++ [x]) 0 ≠ 0
      by_cases q : st.1 = []
      · rw [q]; exact fun e => g ⟨q, e⟩
      · rw [gA_lt (List.length_pos_iff.mpr q)]
        exact h5.resolve_left q
theorem kps_ok {s : Int} {l : List Nat} {a m0 : Nat} {st : List Nat × Int} (h : KpOk m0 st) (hs : s = 0 ∨ s = 1) : ∀ {m : Nat}, (∀ k, k < m → Dgt l (a + k)) → KpOk (m0 + m) (kps s l a st m)
  | 0, _ => h
  | m + 1, hd => kp_ok (kps_ok h hs (fun k hk => hd k (by omega))) hs (by have := hd m (by omega); omega)
/-- the exponent's size -/
def xe (l : List Nat) (a : Nat) : Nat → Nat
  | 0 => 0
  | m + 1 => if xe l a m < 100000 then 10 * xe l a m + (gA l (a + m) - 48) else xe l a m
theorem xe_lt {l : List Nat} {a : Nat} : ∀ {m : Nat}, (∀ k, k < m → Dgt l (a + k)) → xe l a m < 1000000
  | 0, _ => by show (0 : Nat) < 1000000; decide
  | m + 1, hd => by
    have ih := xe_lt (l := l) (a := a) (m := m) (fun k hk => hd k (by omega))
    have := hd m (by omega)
    show (if xe l a m < 100000 then 10 * xe l a m + (gA l (a + m) - 48) else xe l a m) < 1000000
    split <;> omega
