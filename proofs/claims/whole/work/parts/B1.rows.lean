/-! rows; a row more -/
abbrev Row : Type := Nat × Nat × Option (List Nat) × List Nat × Nat
def dR (D : List Row) (k : Nat) : Row := D.getD k (0, 0, none, [], 0)
def dK (D : List Row) (k : Nat) : Nat := (dR D k).1
def dT (D : List Row) (k : Nat) : Nat := (dR D k).2.1
def dN (D : List Row) (k : Nat) : Option (List Nat) := (dR D k).2.2.1
def dX (D : List Row) (k : Nat) : List Nat := (dR D k).2.2.2.1
def dB (D : List Row) (k : Nat) : Nat := (dR D k).2.2.2.2
def nam (D : List Row) (k : Nat) : List Nat := (dN D k).getD []
theorem dR_lt {D : List Row} {r : Row} {k : Nat} (h : k < D.length) : dR (D ++ [r]) k = dR D k := by
  unfold dR
  rw [List.getD_eq_getElem?_getD, List.getD_eq_getElem?_getD, List.getElem?_append_left h]
theorem dR_eq (D : List Row) (r : Row) : dR (D ++ [r]) D.length = r := by
  unfold dR
  rw [List.getD_eq_getElem?_getD, List.getElem?_append_right (Nat.le_refl _), Nat.sub_self]
  rfl
theorem lenR (D : List Row) (r : Row) : (D ++ [r]).length = D.length + 1 := by rw [List.length_append]; rfl
def bl (c : Nat) : Nat := if c < 128 then 1 else if c < 2048 then 2 else if c < 65536 then 3 else 4
theorem bl_pos (c : Nat) : 1 ≤ bl c ∧ bl c ≤ 4 := by unfold bl; constructor <;> (repeat' split) <;> omega
def bls (s : List Nat) : Nat := (s.map bl).sum
theorem bls_app (s t : List Nat) : bls (s ++ t) = bls s + bls t := by unfold bls; rw [List.map_append, List.sum_append]
theorem bls_1 (c : Nat) : bls [c] = bl c := by unfold bls; simp
theorem bls_len (s : List Nat) : s.length ≤ bls s := by
  induction s with
  | nil => exact Nat.le_refl _
  | cons c s ih =>
    have := bl_pos c
    have e : bls (c :: s) = bl c + bls s := by unfold bls; simp
    rw [e]
    show s.length + 1 ≤ _
    omega
def rCc (r : Row) : Nat := (r.2.2.1.getD []).length + r.2.2.2.1.length
def rBt (r : Row) : Nat := bls (r.2.2.1.getD []) + bls r.2.2.2.1
def cc (D : List Row) : Nat := (D.map rCc).sum
def bts (D : List Row) : Nat := (D.map rBt).sum
theorem cc_app (D : List Row) (r : Row) : cc (D ++ [r]) = cc D + rCc r := by unfold cc; rw [List.map_append, List.sum_append]; simp
theorem bts_app (D : List Row) (r : Row) : bts (D ++ [r]) = bts D + rBt r := by unfold bts; rw [List.map_append, List.sum_append]; simp
theorem cc_bts (D : List Row) : cc D ≤ bts D := by
  induction D with
  | nil => exact Nat.le_refl _
  | cons r D ih =>
    have e1 : cc (r :: D) = rCc r + cc D := by unfold cc; simp
    have e2 : bts (r :: D) = rBt r + bts D := by unfold bts; simp
    have h1 := bls_len (r.2.2.1.getD [])
    have h2 := bls_len r.2.2.2.1
    have : rCc r ≤ rBt r := by unfold rCc rBt; omega
    omega
/-- open: all rows behind k are within it -/
def Opn (f : Nat → Nat) (n k : Nat) : Prop := k < n ∧ ∀ j, k < j → j < n → f k < f j
theorem Opn_siz {f : Nat → Nat} {n k : Nat} (h : Opn f n k) : k + siz f n k = n := by
  have := siz_eq (f := f) (n := n) (k := k) (z := n - k) (by have := h.1; omega) (by have := h.1; omega) (fun j h1 h2 => h.2 j h1 (by omega)) (fun q => by omega)
  have := h.1
  omega
theorem siz_Opn {f : Nat → Nat} {n k : Nat} (hk : k < n) (h : k + siz f n k = n) : Opn f n k := ⟨hk, fun j h1 h2 => (siz_spec hk).2.2.1 j h1 (by omega)⟩
theorem Opn_lst {f : Nat → Nat} {n k : Nat} (h : Opn f n k) : lst f (f k) n = k := lst_eq h.1 rfl (fun j h1 h2 e => by have := h.2 j h1 h2; omega)
theorem lst_Opn {f : Nat → Nat} {n j : Nat} (hV : VT f n) (hn : 0 < n) (hj : j ≤ f (n - 1)) : Opn f n (lst f j n) ∧ f (lst f j n) = j := by
  obtain ⟨i, i1, i2, i3⟩ := climb hV (i := 0) (e := j) (j := n - 1) (by omega) (by omega) (by rw [hV.1 hn]; omega) hj
  obtain ⟨q1, q2, q3⟩ := lst_spec (f := f) (e := j) (n := n) ⟨i, by omega, i3⟩
  refine ⟨⟨q1, fun i h1 h2 => ?_⟩, q2⟩
  rw [q2]
  rcases Nat.lt_trichotomy j (f i) with g | g | g
  · exact g
  · exact absurd g.symm (q3 i h1 h2)
  · exfalso
    obtain ⟨m, m1, m2, m3⟩ := climb hV (i := i) (e := j) (j := n - 1) (by omega) (by omega) (by omega) hj
    exact q3 m (by omega) (by omega) m3
theorem Opn_last {f : Nat → Nat} {n : Nat} (hn : 0 < n) : Opn f n (n - 1) := ⟨by omega, fun j h1 h2 => by omega⟩
section AP
variable {f g : Nat → Nat} {n e : Nat}

theorem ap_par (hg : ∀ k, k < n → g k = f k) {k : Nat} (hk : k < n) : par g k = par f k := by
  unfold par; rw [hg k hk]; exact lst_congr (fun j hj => hg j (by omega))
theorem ap_ord (hg : ∀ k, k < n → g k = f k) {k : Nat} (hk : k < n) : ordr g k = ordr f k := by
  unfold ordr
  rw [hg k hk, ap_par hg hk, cnt_congr (fun j hj => hg j (by omega))]

theorem ap_VT (hg : ∀ k, k < n → g k = f k) (hn : g n = e)  (hV : VT f n) (h0 : n = 0 → e = 0) (h1 : 0 < n → 1 ≤ e ∧ e ≤ f (n - 1) + 1) : VT g (n + 1) := by
  refine ⟨fun _ => ?_, fun k hk0 hk => ?_⟩
  · rcases Nat.eq_zero_or_pos n with q | q
    · subst q; rw [hn]; exact h0 rfl
    · rw [hg 0 q]; exact hV.1 q
  · by_cases q : k = n
    · subst q; rw [hn, hg _ (by omega)]; exact h1 (by omega)
    · rw [hg k (by omega), hg _ (by omega)]; exact hV.2 k hk0 (by omega)
theorem ap_siz (hg : ∀ k, k < n → g k = f k) (hn : g n = e)  {k : Nat} (hk : k < n) : siz g (n + 1) k = if k + siz f n k = n ∧ f k < e then siz f n k + 1 else siz f n k := by
  obtain ⟨q1, q2, q3, q4⟩ := siz_spec (f := f) (n := n) (k := k) hk
  split
  · rename_i h
    refine siz_eq (by omega) (by omega) (fun j h1 h2 => ?_) (fun z => by omega)
    rw [hg k hk]
    by_cases z : j = n
    · subst z; rw [hn]; exact h.2
    · rw [hg j (by omega)]; exact q3 j h1 (by omega)
  · rename_i h
    refine siz_eq q1 (by omega) (fun j h1 h2 => ?_) (fun z => ?_)
    · rw [hg k hk, hg j (by omega)]; exact q3 j h1 h2
    · rw [hg k hk]
      by_cases y : k + siz f n k = n
      · rw [y, hn]; omega
      · rw [hg _ (by omega)]; exact q4 (by omega)
theorem ap_siz_n (hg : ∀ k, k < n → g k = f k) (hn : g n = e)  : siz g (n + 1) n = 1 := siz_eq (by omega) (by omega) (fun j h1 h2 => by omega) (fun z => by omega)
theorem ap_par_n (hg : ∀ k, k < n → g k = f k) (hn : g n = e)  (hV : VT f n) (h0 : 0 < n) (h1 : 1 ≤ e) (h2 : e ≤ f (n - 1) + 1) : par g n = lst f (e - 1) n ∧ Opn f n (lst f (e - 1) n) ∧ f (lst f (e - 1) n) + 1 = e := by
  obtain ⟨q1, q2⟩ := lst_Opn hV h0 (j := e - 1) (by omega)
  refine ⟨?_, q1, by omega⟩
  unfold par
  rw [hn]
  exact lst_congr hg
theorem ap_ord_n (hg : ∀ k, k < n → g k = f k) (hn : g n = e)  (hV : VT f n) (h0 : 0 < n) (h1 : 1 ≤ e) (h2 : e ≤ f (n - 1) + 1) : ordr g n = prt f n (lst f (e - 1) n) := by
  obtain ⟨p1, p2, p3⟩ := ap_par_n hg hn hV h0 h1 h2
  unfold ordr prt
  rw [if_neg (by omega), p1, hn, p3, Opn_siz p2]
  exact cnt_congr hg
theorem ap_prt (hg : ∀ k, k < n → g k = f k) (hn : g n = e)  {k : Nat} (hV : VT f n) (h0 : 0 < n) (h1 : 1 ≤ e) (h2 : e ≤ f (n - 1) + 1) (hk : k < n) : prt g (n + 1) k = if k = lst f (e - 1) n then prt f n k + 1 else prt f n k := by
  obtain ⟨p1, p2, p3⟩ := ap_par_n hg hn hV h0 h1 h2
  obtain ⟨s1, s2, s3, s4⟩ := siz_spec (f := f) (n := n) (k := k) hk
  have cg : ∀ m, m ≤ n → cnt g (f k + 1) (k + 1) m = cnt f (f k + 1) (k + 1) m := fun m hm => cnt_congr (fun j hj => hg j (by omega))
  unfold prt
  rw [hg k hk, ap_siz hg hn hk]
  by_cases z : k + siz f n k = n ∧ f k < e
  · rw [if_pos z, show k + (siz f n k + 1) = n + 1 by omega]
    by_cases y : k = lst f (e - 1) n
    · rw [if_pos y, cnt_yes (by omega) (by rw [hn, y]; omega), cg n (Nat.le_refl _), z.1]
    · rw [if_neg y, cnt_no ?_, cg n (Nat.le_refl _), z.1]
      rw [hn]
      intro w
      apply y
      rw [show e - 1 = f k by omega]
      exact (Opn_lst (siz_Opn hk z.1)).symm
  · rw [if_neg z, cg _ s2]
    by_cases y : k = lst f (e - 1) n
    · exfalso
      subst y
      exact z ⟨Opn_siz p2, by omega⟩
    · rw [if_neg y]
theorem ap_prt_n (hg : ∀ k, k < n → g k = f k) (hn : g n = e)  : prt g (n + 1) n = 0 := prt_0 (ap_siz_n hg hn)
theorem ap_lst (hg : ∀ k, k < n → g k = f k) (hn : g n = e)  {j : Nat} (hj : j ≠ e) : lst g j (n + 1) = lst f j n := by
  show (if g n = j then n else lst g j n) = _
  rw [if_neg (by rw [hn]; omega)]
  exact lst_congr hg
theorem ap_lst_n (hg : ∀ k, k < n → g k = f k) (hn : g n = e)  : lst g e (n + 1) = n := by
  show (if g n = e then n else lst g e n) = n
  rw [if_pos hn]
end AP
