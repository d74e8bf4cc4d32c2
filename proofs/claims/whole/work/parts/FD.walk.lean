/-! what comes of two documents woven together -/
abbrev Wst : Type := Option (List Row) × Bool
def nlW (R : List Row) : Nat → Nat → Nat → Bool
  | 0, _, _ => false
  | n + 1, j, ed => if j < ed then (if dK R j = 0 ∧ 0 < j then true else nlW R n (if dK R j = 5 then j + siz (dT R) R.length j else j + 1) ed) else false
def nl (R : List Row) (k : Nat) : Bool := nlW R (siz (dT R) R.length k) k (k + siz (dT R) R.length k)
def obO (L : List Row) : Option Nat → Bool
  | none => false
  | some i => decide (dK L i = 6)
def lA (L : List Row) (l : Option Nat) : Nat := if obO L l = true then l.getD 0 + 1 else 0
def lE (L : List Row) (l : Option Nat) : Nat := if obO L l = true then l.getD 0 + siz (dT L) L.length (l.getD 0) else 0
def wnt (P : Bool) (R : List Row) (sm : Nat → Nat → Bool) (l : Option Nat) (b : Nat) : Bool := if P = true then (match l with
  | none => true
  | some a => !(sm a b)) else decide (dK R b ≠ 0)
def wvv (P : Bool) (L R : List Row) (f : Wst → Nat → Nat → Nat → Nat → Nat → Wst) (st : Wst) (l : Option Nat) (r e : Nat) : Wst :=
  if dK R r ≠ 6 ∨ (P = true ∧ obO L l = false) then (cpS st.1 R r e (dN R r), st.2 || (P && nl R r)) else f (adR st.1 (likR R r e (dN R r)), st.2) (lA L l) (lE L l) (r + 1) (r + siz (dT R) R.length r) (e + 1)
def stLf (P : Bool) (L : List Row) (st : Wst) (a e : Nat) : Wst := if P = true then (adR st.1 (0, e, dN L a, [], 0), st.2) else (cpS st.1 L a e (dN L a), st.2)
def stRt (P : Bool) (L R : List Row) (sm : Nat → Nat → Bool) (f : Wst → Nat → Nat → Nat → Nat → Nat → Wst) (st : Wst) (l : Option Nat) (b e : Nat) : Wst := if wnt P R sm l b = true then wvv P L R f st l b e else st
def wkS (P : Bool) (L R : List Row) (sm : Nat → Nat → Bool) (f : Wst → Nat → Nat → Nat → Nat → Nat → Wst) (st : Wst) (a ea b eb e : Nat) : Wst :=
  if ea ≤ a ∧ eb ≤ b then st
  else if a < ea ∧ (eb ≤ b ∨ cmN (nam L a) (nam R b) < 0) then f (stLf P L st a e) (a + siz (dT L) L.length a) ea b eb e
  else if ea ≤ a ∨ cmN (nam L a) (nam R b) ≠ 0 then f (stRt P L R sm f st none b e) a ea (b + siz (dT R) R.length b) eb e
  else f (stRt P L R sm f st (some a) b e) (a + siz (dT L) L.length a) ea (b + siz (dT R) R.length b) eb e
def wlk (P : Bool) (L R : List Row) (sm : Nat → Nat → Bool) : Nat → Wst → Nat → Nat → Nat → Nat → Nat → Wst
  | 0 => fun st _ _ _ _ _ => st
  | n + 1 => wkS P L R sm (wlk P L R sm n)
/-! rows added at or below a depth -/
def Ext (e : Nat) (D D' : List Row) : Prop := D.length ≤ D'.length ∧ (∀ k, k < D.length → dR D' k = dR D k) ∧ ∀ k, D.length ≤ k → k < D'.length → e ≤ dT D' k
def ExS (e : Nat) (S S' : Option (List Row)) : Prop := ∀ D', S' = some D' → ∃ D, S = some D ∧ Ext e D D'
theorem ExS.rf {e : Nat} {S : Option (List Row)} : ExS e S S := fun D' h => ⟨D', h, Nat.le_refl _, fun _ _ => rfl, fun k h1 h2 => absurd h2 (Nat.not_lt.mpr h1)⟩
theorem ExS.tr {e : Nat} {S S1 S2 : Option (List Row)} (h : ExS e S S1) (g : ExS e S1 S2) : ExS e S S2 := by
  intro D2 h2
  obtain ⟨D1, h1, a1, a2, a3⟩ := g D2 h2
  obtain ⟨D, h0, b1, b2, b3⟩ := h D1 h1
  refine ⟨D, h0, by omega, fun k hk => (a2 k (by omega)).trans (b2 k hk), fun k h1 h2 => ?_⟩
  by_cases q : k < D1.length
  · have := b3 k h1 q
    unfold dT at this ⊢
    rw [a2 k q]; exact this
  · exact a3 k (by omega) h2
theorem ExS.dn {e e' : Nat} {S S' : Option (List Row)} (h : ExS e' S S') (he : e ≤ e') : ExS e S S' := by
  intro D' h'
  obtain ⟨D, h0, b1, b2, b3⟩ := h D' h'
  exact ⟨D, h0, b1, b2, fun k h1 h2 => Nat.le_trans he (b3 k h1 h2)⟩
theorem ExS_ad {e : Nat} {S : Option (List Row)} {r : Row} (h : e ≤ r.2.1) : ExS e S (adR S r) := by
  intro D' h'
  cases S with
  | none => cases h'
  | some D =>
    obtain ⟨rfl, _, _⟩ := adR_some h'
    refine ⟨D, rfl, by rw [lenR]; omega, fun k hk => dR_lt hk, fun k h1 h2 => ?_⟩
    rw [lenR] at h2
    have : k = D.length := by omega
    subst this
    unfold dT
    rw [dR_eq]; exact h
theorem ExS_cp {e i : Nat} {S : Option (List Row)} {F : List Row} {nm : Option (List Nat)} : ExS e S (cpS S F i e nm) := by
  have : ∀ c, ExS e S (cpN S F i e nm c) := by
    intro c
    induction c with
    | zero => exact ExS.rf
    | succ c ih => exact ih.tr (ExS_ad (r := cpR F i e nm c) (show e ≤ e + (dT F (i + c) - dT F i) by omega))
  exact this _
theorem ExS_L {P : Bool} {L : List Row} {st : Wst} {a e : Nat} : ExS e st.1 (stLf P L st a e).1 := by
  unfold stLf
  split
  · exact ExS_ad (Nat.le_refl _)
  · exact ExS_cp
theorem ExS_V {P : Bool} {L R : List Row} {f : Wst → Nat → Nat → Nat → Nat → Nat → Wst} {st : Wst} {l : Option Nat} {r e : Nat} (hf : ∀ st a ea b eb e, ExS e st.1 (f st a ea b eb e).1) : ExS e st.1 (wvv P L R f st l r e).1 := by
  unfold wvv
  split
  · exact ExS_cp
  · exact (ExS_ad (r := likR R r e (dN R r)) (Nat.le_refl _)).tr ((hf (adR st.1 (likR R r e (dN R r)), st.2) _ _ _ _ (e + 1)).dn (Nat.le_succ e))
theorem ExS_R {P : Bool} {L R : List Row} {sm : Nat → Nat → Bool} {f : Wst → Nat → Nat → Nat → Nat → Nat → Wst} {st : Wst} {l : Option Nat} {b e : Nat} (hf : ∀ st a ea b eb e, ExS e st.1 (f st a ea b eb e).1) : ExS e st.1 (stRt P L R sm f st l b e).1 := by
  unfold stRt
  split
  · exact ExS_V hf
  · exact ExS.rf
theorem ExS_wlk {P : Bool} {L R : List Row} {sm : Nat → Nat → Bool} : ∀ (n : Nat) (st : Wst) (a ea b eb e : Nat), ExS e st.1 (wlk P L R sm n st a ea b eb e).1 := by
  intro n
  induction n with
  | zero => intro st a ea b eb e; exact ExS.rf
  | succ n ih =>
    intro st a ea b eb e
    show ExS e st.1 (wkS P L R sm (wlk P L R sm n) st a ea b eb e).1
    unfold wkS
    (repeat' split)
    · exact ExS.rf
    · exact ExS_L.tr (ih _ _ _ _ _ _)
    · exact (ExS_R ih).tr (ih _ _ _ _ _ _)
    · exact (ExS_R ih).tr (ih _ _ _ _ _ _)
/-- the owner of the rows that come -/
def OwQ (S : Option (List Row)) (x : Int32) (e : Nat) : Prop := ∀ D, S = some D → OwR D x e ∧ OwN D x
theorem OwQ_ext {S S' : Option (List Row)} {x : Int32} {e : Nat} (h : OwQ S x e) (hx : ExS e S S') : OwQ S' x e := by
  intro D' h'
  obtain ⟨D, h0, b1, b2, b3⟩ := hx D' h'
  obtain ⟨o1, p, n1, n2, n3⟩ := h D h0
  constructor
  · rcases o1 with ⟨rfl, _, _⟩ | ⟨q, q1, q2, q3, q4⟩
    · exact absurd n2 (Nat.not_lt_zero p)
    · have kk : ∀ k, k < D.length → dT D' k = dT D k := fun k hk => by unfold dT; rw [b2 k hk]
      refine Or.inr ⟨q, q1, ⟨by have := q2.1; omega, fun j j1 j2 => ?_⟩, by unfold dK; rw [b2 q q2.1]; exact q3, by rw [kk q q2.1]; exact q4⟩
      rw [kk q q2.1]
      by_cases z : j < D.length
      · rw [kk j z]; exact q2.2 j j1 z
      · have := b3 j (by omega) j2; omega
  · exact ⟨p, n1, by omega, by unfold dK; rw [b2 p n2]; exact n3⟩
theorem OwQ_new {D : List Row} {r : Row} {e : Nat} (h : r.1 = 6) (he : r.2.1 = e) : OwR (D ++ [r]) (nI D.length) (e + 1) ∧ OwN (D ++ [r]) (nI D.length) := by
  have hk : dK (D ++ [r]) D.length = 6 := by unfold dK; rw [dR_eq]; exact h
  have ht : dT (D ++ [r]) D.length = e := by unfold dT; rw [dR_eq]; exact he
  refine ⟨Or.inr ⟨D.length, rfl, ⟨by rw [lenR]; omega, fun j h1 h2 => ?_⟩, by rw [hk]; decide, by rw [ht]⟩, D.length, rfl, by rw [lenR]; omega, hk⟩
  rw [lenR] at h2; omega
/-! the parts of an object that are still to come -/
theorem cnt_split {f : Nat → Nat} {e a m : Nat} : ∀ {b : Nat}, a ≤ m → m ≤ b → cnt f e a b = cnt f e a m + cnt f e m b
  | 0, h1, h2 => by
    have : m = 0 := by omega
    subst this
    rfl
  | b + 1, h1, h2 => by
    by_cases q : m = b + 1
    · subst q
      rw [cnt_emp (Nat.le_refl _)]; omega
    · have ih := cnt_split (f := f) (e := e) (a := a) (m := m) (b := b) h1 (by omega)
      by_cases z : f b = e
      · rw [cnt_yes (by omega) z, cnt_yes (by omega) z, ih]; omega
      · rw [cnt_no z, cnt_no z, ih]
def Rg (F : List Row) (a ea e : Nat) : Prop := a ≤ ea ∧ ea ≤ F.length ∧ (a < ea → ∃ l, l < F.length ∧ Kid F l a ∧ ea = l + siz (dT F) F.length l ∧ dT F l + 1 = e ∧ dK F l = 6)
theorem dN_nam {F : List Row} {k : Nat} (h : dN F k ≠ none) : dN F k = some (nam F k) := by
  unfold nam
  cases q : dN F k with
  | none => exact absurd q h
  | some s => rfl
theorem Rg_in {F : List Row} {a ea e : Nat} (hW : WfR F) (h : Rg F a ea e) (q : a < ea) : a < F.length ∧ 0 < a ∧ dT F a = e ∧ dN F a = some (nam F a) ∧ 1 ≤ siz (dT F) F.length a ∧ a + siz (dT F) F.length a ≤ ea ∧ Rg F (a + siz (dT F) F.length a) ea e ∧ cnt (dT F) e a ea = cnt (dT F) e (a + siz (dT F) F.length a) ea + 1 := by
  obtain ⟨h1, h2, h3⟩ := h
  obtain ⟨l, l1, l2, l3, l4, l5⟩ := h3 q
  have ha : a < F.length := by omega
  obtain ⟨b1, b2, b3⟩ := Bnd_next hW.1 l1 l2
  obtain ⟨s1, s2, s3, s4⟩ := siz_spec (f := dT F) (n := F.length) ha
  have hte : dT F a = e := by rw [l2.2.2]; exact l4
  have hp := ((par_ge hW.1 l1 l2.1 l2.2.1).2).mp l2.2.2
  have hle : a + siz (dT F) F.length a ≤ ea := by rw [l3]; exact b1.2.1
  refine ⟨ha, by have := l2.1; omega, hte, dN_nam (fun z => ?_), s1, hle, ⟨hle, h2, fun z => ⟨l, l1, ⟨b1.1, by omega, b1.2.2 (by omega)⟩, l3, l4, l5⟩⟩, ?_⟩
  · have := ((hW.2.2.1 a (by have := l2.1; omega) ha).2).mp z
    rw [hp] at this; exact this l5
  · rw [cnt_split (m := a + siz (dT F) F.length a) (by omega) hle]
    have : cnt (dT F) e a (a + siz (dT F) F.length a) = 1 := by
      rw [cnt_skip (b := a + 1) (by omega) (fun j j1 j2 => by have := s3 j (by omega) j2; omega), cnt_yes (Nat.le_refl _) hte, cnt_emp (Nat.le_refl _)]
    omega
theorem Rg_open {F : List Row} {r e : Nat} (hW : WfR F) (hr : r < F.length) (he : dT F r = e) (h6 : dK F r = 6) : Rg F (r + 1) (r + siz (dT F) F.length r) (e + 1) ∧ cnt (dT F) (e + 1) (r + 1) (r + siz (dT F) F.length r) = prt (dT F) F.length r := by
  obtain ⟨s1, s2, s3, s4⟩ := siz_spec (f := dT F) (n := F.length) hr
  refine ⟨⟨by omega, s2, fun q => ⟨r, hr, ⟨by omega, q, kid_first hW.1 hr (by omega)⟩, rfl, by omega, h6⟩⟩, ?_⟩
  subst he; rfl
theorem Rg_nil {F : List Row} {e : Nat} : Rg F 0 0 e := ⟨Nat.le_refl _, Nat.zero_le _, fun h => absurd h (Nat.lt_irrefl 0)⟩
theorem Rg_l {L : List Row} {l : Option Nat} {e : Nat} (hW : WfR L) (hl : ∀ i, l = some i → i < L.length ∧ dT L i = e) : Rg L (lA L l) (lE L l) (e + 1) ∧ lE L l - lA L l ≤ (match l with
  | none => 0
  | some i => siz (dT L) L.length i - 1) := by
  unfold lA lE
  by_cases q : obO L l = true
  · rw [if_pos q, if_pos q]
    cases l with
    | none => cases q
    | some i =>
      obtain ⟨h1, h2⟩ := hl i rfl
      exact ⟨(Rg_open hW h1 h2 (of_decide_eq_true q)).1, show i + siz (dT L) L.length i - (i + 1) ≤ siz (dT L) L.length i - 1 by omega⟩
  · rw [if_neg q, if_neg q]
    exact ⟨Rg_nil, Nat.zero_le _⟩
