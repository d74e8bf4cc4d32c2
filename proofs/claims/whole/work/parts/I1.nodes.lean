/-! what is read: nodes in the order of reading, their parts, the order of names -/
abbrev Nd : Type := Nat × Nat × Option Nat × (Nat × List Nat) × (Nat × List Nat) × Nat
abbrev Nds : Type := Nat × (Nat → Nd)
def rK (R : Nds) (k : Nat) : Nat := (R.2 k).1
def rT (R : Nds) (k : Nat) : Nat := (R.2 k).2.1
def rU (R : Nds) (k : Nat) : Option Nat := (R.2 k).2.2.1
def rNa (R : Nds) (k : Nat) : Nat := (R.2 k).2.2.2.1.1
def rNm (R : Nds) (k : Nat) : List Nat := (R.2 k).2.2.2.1.2
def rTa (R : Nds) (k : Nat) : Nat := (R.2 k).2.2.2.2.1.1
def rTx (R : Nds) (k : Nat) : List Nat := (R.2 k).2.2.2.2.1.2
def rBi (R : Nds) (k : Nat) : Nat := (R.2 k).2.2.2.2.2
def isO (R : Nds) (i : Option Nat) : Bool := match i with
  | none => false
  | some u => decide (rK R u = 6)
def rNo (R : Nds) (k : Nat) : Option (List Nat) := if isO R (rU R k) = true then some (rNm R k) else none
def rwO (R : Nds) (k : Nat) : Row := (rK R k, rT R k, rNo R k, rTx R k, rBi R k)
def psh (R : Nds) (r : Nd) : Nds := (R.1 + 1, fun j => if j = R.1 then r else R.2 j)
def fil (R : Nds) (ta : Nat) (tx : List Nat) (b : Nat) : Nds := (R.1, fun j => if j = R.1 - 1 then (rK R j, rT R j, rU R j, (rNa R j, rNm R j), (ta, tx), b) else R.2 j)
theorem psh_lt {R : Nds} {r : Nd} {k : Nat} (h : k < R.1) : (psh R r).2 k = R.2 k := if_neg (by omega)
theorem psh_eq (R : Nds) (r : Nd) : (psh R r).2 R.1 = r := if_pos rfl
def kids (R : Nds) (u : Nat) : List Nat := (List.range R.1).filter (fun k => decide (rU R k = some u))
theorem kids_mem {R : Nds} {u k : Nat} : k ∈ kids R u ↔ k < R.1 ∧ rU R k = some u := by
  unfold kids; rw [List.mem_filter, List.mem_range, decide_eq_true_iff]
theorem kids_nodup (R : Nds) (u : Nat) : (kids R u).Nodup := List.Pairwise.filter _ List.nodup_range
theorem kids_psh (R : Nds) (r : Nd) (u : Nat) : kids (psh R r) u = kids R u ++ (if r.2.2.1 = some u then [R.1] else []) := by
  unfold kids
  show List.filter _ (List.range (R.1 + 1)) = _
  rw [List.range_succ, List.filter_append]
  congr 1
  · refine List.filter_congr (fun k hk => ?_)
    rw [List.mem_range] at hk
    unfold rU; rw [psh_lt hk]
  · have e : rU (psh R r) R.1 = r.2.2.1 := by unfold rU; rw [psh_eq]
    by_cases h : r.2.2.1 = some u
    · rw [if_pos h, List.filter_cons_of_pos (by rw [e, h]; simp), List.filter_nil]
    · rw [if_neg h, List.filter_cons_of_neg (by rw [e]; simpa using h), List.filter_nil]
theorem fil_U (R : Nds) (ta : Nat) (tx : List Nat) (b k : Nat) : rK (fil R ta tx b) k = rK R k ∧ rT (fil R ta tx b) k = rT R k ∧ rU (fil R ta tx b) k = rU R k ∧ rNa (fil R ta tx b) k = rNa R k ∧ rNm (fil R ta tx b) k = rNm R k := by
  unfold fil rK rT rU rNa rNm
  by_cases h : k = R.1 - 1
  · simp only [if_pos h]; exact ⟨trivial, trivial, trivial, trivial, trivial⟩
  · simp only [if_neg h]; exact ⟨trivial, trivial, trivial, trivial, trivial⟩
theorem fil_n (R : Nds) (ta : Nat) (tx : List Nat) (b : Nat) : rTa (fil R ta tx b) (R.1 - 1) = ta ∧ rTx (fil R ta tx b) (R.1 - 1) = tx ∧ rBi (fil R ta tx b) (R.1 - 1) = b := by
  unfold fil rTa rTx rBi
  simp only [if_pos]; exact ⟨trivial, trivial, trivial⟩
theorem fil_o {R : Nds} {ta : Nat} {tx : List Nat} {b k : Nat} (h : k ≠ R.1 - 1) : (fil R ta tx b).2 k = R.2 k := if_neg h
theorem kids_fil (R : Nds) (ta : Nat) (tx : List Nat) (b u : Nat) : kids (fil R ta tx b) u = kids R u := by
  unfold kids
  show List.filter _ (List.range R.1) = _
  refine List.filter_congr (fun k _ => ?_)
  rw [(fil_U R ta tx b k).2.2.1]
/-! sorting -/
def apN (R : Nds) (nm : List Nat) (x : Nat) : Bool := decide (0 ≤ cmN nm (rNm R x))
def insK (R : Nds) (k : Nat) (acc : List Nat) : List Nat := acc.takeWhile (apN R (rNm R k)) ++ k :: acc.dropWhile (apN R (rNm R k))
def srt (R : Nds) (ks : List Nat) : List Nat := ks.foldl (fun acc k => insK R k acc) []
def skids (R : Nds) (u : Nat) : List Nat := if rK R u = 6 then srt R (kids R u) else kids R u
theorem insK_perm (R : Nds) (k : Nat) (acc : List Nat) : (insK R k acc).Perm (k :: acc) := by
  unfold insK
  refine List.perm_middle.trans ?_
  rw [List.takeWhile_append_dropWhile]
theorem srt_snoc (R : Nds) (ks : List Nat) (k : Nat) : srt R (ks ++ [k]) = insK R k (srt R ks) := by
  unfold srt; rw [List.foldl_append]; rfl
theorem srt_perm (R : Nds) (ks : List Nat) : (srt R ks).Perm ks := by
  have h : ∀ (ks acc : List Nat), (ks.foldl (fun acc k => insK R k acc) acc).Perm (ks ++ acc) := by
    intro ks
    induction ks with
    | nil => intro acc; exact List.Perm.refl _
    | cons k ks ih =>
      intro acc
      refine (ih _).trans ?_
      refine ((insK_perm R k acc).append_left ks).trans ?_
      exact List.perm_middle
  have := h ks []
  rw [List.append_nil] at this
  exact this
theorem skids_perm (R : Nds) (u : Nat) : (skids R u).Perm (kids R u) := by
  unfold skids
  split
  · exact srt_perm R _
  · exact List.Perm.refl _
theorem skids_mem {R : Nds} {u k : Nat} : k ∈ skids R u ↔ k < R.1 ∧ rU R k = some u := by
  rw [(skids_perm R u).mem_iff]; exact kids_mem
theorem skids_nodup (R : Nds) (u : Nat) : (skids R u).Nodup := (skids_perm R u).nodup_iff.mpr (kids_nodup R u)
theorem tw_congr {p q : Nat → Bool} : ∀ {l : List Nat}, (∀ x ∈ l, p x = q x) → l.takeWhile p = l.takeWhile q ∧ l.dropWhile p = l.dropWhile q
  | [], _ => ⟨rfl, rfl⟩
  | x :: l, h => by
    have hx := h x List.mem_cons_self
    obtain ⟨h1, h2⟩ := tw_congr (l := l) (fun y hy => h y (List.mem_cons_of_mem _ hy))
    rw [List.takeWhile_cons, List.takeWhile_cons, List.dropWhile_cons, List.dropWhile_cons, hx]
    cases q x
    · exact ⟨rfl, rfl⟩
    · exact ⟨by rw [if_pos rfl, if_pos rfl, h1], by rw [if_pos rfl, if_pos rfl, h2]⟩
theorem insK_congr {R R' : Nds} {k : Nat} {acc : List Nat} (hk : rNm R' k = rNm R k) (h : ∀ x ∈ acc, rNm R' x = rNm R x) : insK R' k acc = insK R k acc := by
  unfold insK
  obtain ⟨h1, h2⟩ := tw_congr (p := apN R' (rNm R' k)) (q := apN R (rNm R k)) (l := acc) (fun x hx => by unfold apN; rw [hk, h x hx])
  rw [h1, h2]
theorem srt_congr {R R' : Nds} {ks : List Nat} (h : ∀ x ∈ ks, rNm R' x = rNm R x) : srt R' ks = srt R ks := by
  have g : ∀ (ks acc : List Nat), (∀ x ∈ ks, rNm R' x = rNm R x) → (∀ x ∈ acc, rNm R' x = rNm R x) → ks.foldl (fun acc k => insK R' k acc) acc = ks.foldl (fun acc k => insK R k acc) acc := by
    intro ks
    induction ks with
    | nil => intro acc _ _; rfl
    | cons k ks ih =>
      intro acc h1 h2
      have hk := h1 k List.mem_cons_self
      show List.foldl _ (insK R' k acc) ks = List.foldl _ (insK R k acc) ks
      rw [insK_congr hk h2]
      refine ih _ (fun x hx => h1 x (List.mem_cons_of_mem _ hx)) (fun x hx => ?_)
      rcases List.mem_cons.mp ((insK_perm R k acc).mem_iff.mp hx) with rfl | z
      · exact hk
      · exact h2 x z
  exact g ks [] h (fun x hx => absurd hx List.not_mem_nil)
/-- a name ahead of another -/
def nlt (R : Nds) (a b : Nat) : Prop := cmN (rNm R a) (rNm R b) < 0
theorem tw_all {p : Nat → Bool} : ∀ {l : List Nat} {x : Nat}, x ∈ l.takeWhile p → p x = true ∧ x ∈ l
  | [], x, h => absurd h List.not_mem_nil
  | y :: l, x, h => by
    rw [List.takeWhile_cons] at h
    cases hy : p y with
    | false => rw [hy, if_neg (by decide)] at h; exact absurd h List.not_mem_nil
    | true =>
      rw [hy, if_pos rfl] at h
      rcases List.mem_cons.mp h with rfl | z
      · exact ⟨hy, List.mem_cons_self⟩
      · exact ⟨(tw_all z).1, List.mem_cons_of_mem _ (tw_all z).2⟩
theorem dw_head {p : Nat → Bool} : ∀ {l ys : List Nat} {y : Nat}, l.dropWhile p = y :: ys → p y = false
  | [], ys, y, h => by cases h
  | z :: l, ys, y, h => by
    rw [List.dropWhile_cons] at h
    cases hz : p z with
    | false => rw [hz, if_neg (by decide)] at h; cases h; exact hz
    | true => rw [hz, if_pos rfl] at h; exact dw_head h
/-- a sorted row with one more -/
theorem insK_sorted {R : Nds} {k : Nat} {acc : List Nat} (hs : acc.Pairwise (nlt R)) (hl : ∀ x ∈ acc, Ltrs (rNm R x)) (hk : Ltrs (rNm R k)) (hne : ∀ x ∈ acc, rNm R x ≠ rNm R k) : (insK R k acc).Pairwise (nlt R) := by
  have e : acc = acc.takeWhile (apN R (rNm R k)) ++ acc.dropWhile (apN R (rNm R k)) := (List.takeWhile_append_dropWhile).symm
  have hs' := hs
  rw [e, List.pairwise_append] at hs'
  obtain ⟨s1, s2, s3⟩ := hs'
  have A : ∀ x ∈ acc.takeWhile (apN R (rNm R k)), nlt R x k := fun x hx => by
    obtain ⟨h1, h2⟩ := tw_all hx
    have h1' : 0 ≤ cmN (rNm R k) (rNm R x) := of_decide_eq_true h1
    have : cmN (rNm R k) (rNm R x) ≠ 0 := fun z => hne x h2 (cmN_0.mp z).symm
    exact (cmN_anti (hl x h2) hk).mpr (by omega)
  have B : ∀ y ∈ acc.dropWhile (apN R (rNm R k)), nlt R k y := by
    cases h : acc.dropWhile (apN R (rNm R k)) with
    | nil => intro y hy; exact absurd hy List.not_mem_nil
    | cons z zs =>
      have hz := dw_head h
      have hz' : cmN (rNm R k) (rNm R z) < 0 := by
        have := of_decide_eq_false hz
        omega
      have mz : ∀ y ∈ z :: zs, y ∈ acc := fun y hy => by rw [e, h]; exact List.mem_append_right _ hy
      intro y hy
      rcases List.mem_cons.mp hy with rfl | q
      · exact hz'
      · rw [h, List.pairwise_cons] at s2
        exact cmN_trans hk (hl z (mz z List.mem_cons_self)) (hl y (mz y hy)) hz' (s2.1 y q)
  unfold insK
  rw [List.pairwise_append, List.pairwise_cons]
  refine ⟨s1, ⟨B, s2⟩, fun a ha b hb => ?_⟩
  rcases List.mem_cons.mp hb with rfl | q
  · exact A a ha
  · exact s3 a ha b q
/-- put in from behind: the same place -/
theorem insK_mid {R : Nds} {k : Nat} {xs ys : List Nat} (h1 : ∀ x ∈ xs, 0 ≤ cmN (rNm R k) (rNm R x)) (h2 : ∀ y ∈ ys, cmN (rNm R k) (rNm R y) < 0) : insK R k (xs ++ ys) = xs ++ k :: ys := by
  have g : (xs ++ ys).takeWhile (apN R (rNm R k)) = xs ∧ (xs ++ ys).dropWhile (apN R (rNm R k)) = ys := by
    induction xs with
    | nil =>
      cases ys with
      | nil => exact ⟨rfl, rfl⟩
      | cons y ys =>
        have hy : apN R (rNm R k) y = false := decide_eq_false (by have := h2 y List.mem_cons_self; omega)
        constructor
        · rw [List.nil_append, List.takeWhile_cons, hy]; rfl
        · rw [List.nil_append, List.dropWhile_cons, hy]; rfl
    | cons x xs ih =>
      obtain ⟨i1, i2⟩ := ih (fun z hz => h1 z (List.mem_cons_of_mem _ hz))
      have hx : apN R (rNm R k) x = true := decide_eq_true (h1 x List.mem_cons_self)
      rw [List.cons_append, List.takeWhile_cons, List.dropWhile_cons, hx, if_pos rfl, if_pos rfl, i1, i2]
      exact ⟨rfl, rfl⟩
  unfold insK
  rw [g.1, g.2]
/-! chains -/
def nxs : List Nat → Nat → Option Nat
  | [], _ => none
  | x :: xs, u => if x = u then xs.head? else nxs xs u
def ch (nx : Nat → Int32) : Int32 → List Nat → Prop
  | h, [] => h = -1
  | h, c :: cs => h = nI c ∧ ch nx (nx c) cs
theorem ch_congr {nx nx' : Nat → Int32} : ∀ {cs : List Nat} {h : Int32}, (∀ c ∈ cs, nx' c = nx c) → ch nx h cs → ch nx' h cs
  | [], _, _, hc => hc
  | c :: cs, h, he, hc => by
    refine ⟨hc.1, ?_⟩
    rw [he c List.mem_cons_self]
    exact ch_congr (fun x hx => he x (List.mem_cons_of_mem _ hx)) hc.2
theorem ch_head {nx : Nat → Int32} {cs : List Nat} {h : Int32} (hc : ch nx h cs) : h = oI cs.head? := by
  cases cs with
  | nil => exact hc
  | cons c cs => exact hc.1
theorem ch_nxs {nx : Nat → Int32} : ∀ {cs : List Nat} {h : Int32} {u : Nat}, ch nx h cs → u ∈ cs → cs.Nodup → nx u = oI (nxs cs u)
  | [], _, u, _, hu, _ => absurd hu List.not_mem_nil
  | c :: cs, h, u, hc, hu, hn => by
    unfold nxs
    rw [List.nodup_cons] at hn
    by_cases g : c = u
    · rw [if_pos g, ← g]; exact ch_head hc.2
    · rw [if_neg g]
      rcases List.mem_cons.mp hu with z | z
      · exact absurd z.symm g
      · exact ch_nxs hc.2 z hn.2
theorem ch_ins0 {nx nx' : Nat → Int32} {h : Int32} {m : Nat} {ys : List Nat} (hc : ch nx h ys) (hm : nx' m = h) (hs : ∀ c ∈ ys, nx' c = nx c) : ch nx' (nI m) (m :: ys) := ⟨rfl, by rw [hm]; exact ch_congr hs hc⟩
theorem ch_ins1 {nx nx' : Nat → Int32} {m x : Nat} : ∀ {a ys : List Nat} {h : Int32}, ch nx h (a ++ x :: ys) → nx' x = nI m → nx' m = nx x → (∀ c ∈ a, nx' c = nx c) → (∀ c ∈ ys, nx' c = nx c) → ch nx' h (a ++ x :: m :: ys)
  | [], ys, h, hc, h1, h2, _, h4 => ⟨hc.1, by rw [h1]; exact ⟨rfl, by rw [h2]; exact ch_congr h4 hc.2⟩⟩
  | c :: a, ys, h, hc, h1, h2, h3, h4 => ⟨hc.1, by
      rw [h3 c List.mem_cons_self]
      exact ch_ins1 hc.2 h1 h2 (fun y hy => h3 y (List.mem_cons_of_mem _ hy)) h4⟩
theorem last_sp (xs : List Nat) : (xs = [] ∧ xs.getLast? = none) ∨ ∃ a x, xs = a ++ [x] ∧ xs.getLast? = some x := by
  rcases List.eq_nil_or_concat xs with h | ⟨a, x, h⟩
  · exact Or.inl ⟨h, by rw [h]; rfl⟩
  · rw [List.concat_eq_append] at h
    exact Or.inr ⟨a, x, h, by rw [h, List.getLast?_concat]⟩
/-! the walk: each node, then its parts -/
def prF (R : Nds) : Nat → Nat → List Nat
  | 0, _ => []
  | f + 1, u => u :: (skids R u).flatMap (prF R f)
def prE (R : Nds) (u : Nat) : List Nat := prF R (R.1 - u) u
def UpL (R : Nds) : Prop := ∀ k u, k < R.1 → rU R k = some u → u < k
theorem fm_congr {f g : Nat → List Nat} : ∀ {l : List Nat}, (∀ x ∈ l, f x = g x) → l.flatMap f = l.flatMap g
  | [], _ => rfl
  | x :: l, h => by
    rw [List.flatMap_cons, List.flatMap_cons, h x List.mem_cons_self, fm_congr (fun y hy => h y (List.mem_cons_of_mem _ hy))]
theorem pre_fuel {R : Nds} (hU : UpL R) : ∀ (f g u : Nat), u < R.1 → R.1 - u ≤ f → R.1 - u ≤ g → prF R f u = prF R g u := by
  intro f
  induction f with
  | zero => intro g u h1 h2 _; omega
  | succ f ih =>
    intro g u h1 h2 h3
    cases g with
    | zero => omega
    | succ g =>
      show u :: _ = u :: _
      congr 1
      refine fm_congr (fun c hc => ?_)
      obtain ⟨c1, c2⟩ := skids_mem.mp hc
      have := hU c u c1 c2
      exact ih g c c1 (by omega) (by omega)
theorem prE_eq {R : Nds} (hU : UpL R) {u : Nat} (h : u < R.1) : prE R u = u :: (skids R u).flatMap (prE R) := by
  unfold prE
  rw [show R.1 - u = (R.1 - u - 1) + 1 by omega]
  show u :: _ = u :: _
  congr 1
  refine fm_congr (fun c hc => ?_)
  obtain ⟨c1, c2⟩ := skids_mem.mp hc
  have := hU c u c1 c2
  exact pre_fuel hU _ _ c c1 (by omega) (by omega)
def smI (f : Nat → Nat) : Nat → Nat
  | 0 => 0
  | n + 1 => smI f n + f n
theorem smI_add {f g h k : Nat → Nat} : ∀ {n : Nat}, (∀ j, j < n → f j + g j = h j + k j) → smI f n + smI g n = smI h n + smI k n
  | 0, _ => rfl
  | n + 1, e => by
    have := smI_add (n := n) (fun j hj => e j (by omega))
    have := e n (by omega)
    show smI f n + f n + (smI g n + g n) = smI h n + h n + (smI k n + k n)
    omega
theorem smI_congr {f g : Nat → Nat} : ∀ {n : Nat}, (∀ j, j < n → f j = g j) → smI f n = smI g n
  | 0, _ => rfl
  | n + 1, e => by
    show smI f n + f n = smI g n + g n
    rw [smI_congr (fun j hj => e j (by omega)), e n (by omega)]
theorem smI_one (c : Nat) : ∀ {n k : Nat}, smI (fun j => if j = k then c else 0) n = if k < n then c else 0
  | 0, k => by rw [if_neg (by omega)]; rfl
  | n + 1, k => by
    show smI _ n + (if n = k then c else 0) = _
    rw [smI_one c]
    by_cases h : n = k
    · rw [if_pos h, if_neg (by omega), if_pos (by omega)]; omega
    · rw [if_neg h]
      by_cases g : k < n
      · rw [if_pos g, if_pos (by omega)]; rfl
      · rw [if_neg g, if_neg (by omega)]
theorem smI_filter (G : Nat → Nat) (p : Nat → Bool) : ∀ n, (((List.range n).filter p).map G).sum = smI (fun j => if p j = true then G j else 0) n
  | 0 => rfl
  | n + 1 => by
    rw [List.range_succ, List.filter_append, List.map_append, List.sum_append, smI_filter G p n]
    show _ = smI _ n + (if p n = true then G n else 0)
    congr 1
    by_cases h : p n = true
    · rw [if_pos h, List.filter_cons_of_pos h, List.filter_nil]; simp
    · rw [if_neg h, List.filter_cons_of_neg h, List.filter_nil]; rfl
theorem sum_fm (wt : Nat → Nat) (f : Nat → List Nat) : ∀ l : List Nat, ((l.flatMap f).map wt).sum = (l.map (fun c => ((f c).map wt).sum)).sum
  | [] => rfl
  | x :: l => by
    rw [List.flatMap_cons, List.map_append, List.sum_append, sum_fm wt f l, List.map_cons, List.sum_cons]
def upLt (R : Nds) (j k : Nat) : Bool := match rU R j with
  | none => true
  | some u => decide (u < k)
/-- what the walk from the top sees: each node once -/
theorem pre_sum {R : Nds} (hU : UpL R) (h0 : ∀ k, k < R.1 → rU R k = none → k = 0) (hn : 0 < R.1) (wt : Nat → Nat) : ((prE R 0).map wt).sum = smI wt R.1 := by
  have hG : ∀ u, u < R.1 → ((prE R u).map wt).sum = wt u + smI (fun j => if decide (rU R j = some u) = true then ((prE R j).map wt).sum else 0) R.1 := fun u hu => by
    rw [prE_eq hU hu, List.map_cons, List.sum_cons, sum_fm]
    congr 1
    rw [((skids_perm R u).map (fun c => ((prE R c).map wt).sum)).sum_nat]
    exact smI_filter _ _ _
  have key : ∀ m k, k + m = R.1 → smI (fun j => if k ≤ j ∧ upLt R j k = true then ((prE R j).map wt).sum else 0) R.1 = smI (fun j => if k ≤ j then wt j else 0) R.1 := by
    intro m
    induction m with
    | zero =>
      intro k hk
      refine smI_congr (fun j hj => ?_)
      rw [if_neg (by omega), if_neg (by omega)]
    | succ m ih =>
      intro k hk
      have I := ih (k + 1) (by omega)
      have hk' : k < R.1 := by omega
      have e1 := smI_add (n := R.1) (f := fun j => if k ≤ j ∧ upLt R j k = true then ((prE R j).map wt).sum else 0) (g := fun j => if decide (rU R j = some k) = true then ((prE R j).map wt).sum else 0) (h := fun j => if k + 1 ≤ j ∧ upLt R j (k + 1) = true then ((prE R j).map wt).sum else 0) (k := fun j => if j = k then ((prE R k).map wt).sum else 0) (fun j hj => by
        show (if k ≤ j ∧ upLt R j k = true then ((prE R j).map wt).sum else 0) + (if decide (rU R j = some k) = true then ((prE R j).map wt).sum else 0) = (if k + 1 ≤ j ∧ upLt R j (k + 1) = true then ((prE R j).map wt).sum else 0) + (if j = k then ((prE R k).map wt).sum else 0)
        unfold upLt
        cases hu : rU R j with
        | none =>
          simp only [and_true, reduceCtorEq, decide_false, Bool.false_eq_true, if_false]
          by_cases g : j = k
          · subst g; rw [if_pos (Nat.le_refl _), if_neg (by omega), if_pos rfl]; omega
          · rw [if_neg g]
            by_cases z : k ≤ j
            · rw [if_pos z, if_pos (by omega)]
            · rw [if_neg z, if_neg (by omega)]
        | some u =>
          have := hU j u hj hu
          simp only [decide_eq_true_eq, Option.some.injEq]
          by_cases g : j = k
          · subst g
            rw [if_pos ⟨Nat.le_refl _, this⟩, if_neg (by omega), if_neg (by omega), if_pos rfl]; omega
          · rw [if_neg g]
            by_cases z : u = k
            · rw [if_neg (by omega), if_pos z, if_pos (by omega)]; omega
            · rw [if_neg z]
              by_cases y : k ≤ j ∧ u < k
              · rw [if_pos y, if_pos (by omega)]
              · rw [if_neg y, if_neg (by omega)])
      have e2 := smI_add (n := R.1) (f := fun j => if k ≤ j then wt j else 0) (g := fun _ => 0) (h := fun j => if k + 1 ≤ j then wt j else 0) (k := fun j => if j = k then wt k else 0) (fun j hj => by
        show (if k ≤ j then wt j else 0) + 0 = (if k + 1 ≤ j then wt j else 0) + (if j = k then wt k else 0)
        by_cases g : j = k
        · subst g; rw [if_pos (Nat.le_refl _), if_neg (by omega), if_pos rfl]; omega
        · rw [if_neg g]
          by_cases z : k ≤ j
          · rw [if_pos z, if_pos (by omega)]
          · rw [if_neg z, if_neg (by omega)])
      have z0 : smI (fun _ => 0) R.1 = 0 := by
        have : ∀ n, smI (fun _ => 0) n = 0 := fun n => by
          induction n with
          | zero => rfl
          | succ n ih => show smI _ n + 0 = 0; rw [ih]
        exact this _
      rw [smI_one, if_pos hk'] at e1 e2
      rw [z0] at e2
      have := hG k hk'
      omega
  have K := key R.1 0 (by omega)
  have e3 : smI (fun j => if 0 ≤ j then wt j else 0) R.1 = smI wt R.1 := smI_congr (fun j _ => if_pos (Nat.zero_le _))
  have e4 : smI (fun j => if 0 ≤ j ∧ upLt R j 0 = true then ((prE R j).map wt).sum else 0) R.1 = smI (fun j => if j = 0 then ((prE R 0).map wt).sum else 0) R.1 := smI_congr (fun j hj => by
    show (if 0 ≤ j ∧ upLt R j 0 = true then ((prE R j).map wt).sum else 0) = (if j = 0 then ((prE R 0).map wt).sum else 0)
    unfold upLt
    cases hu : rU R j with
    | none =>
      have := h0 j hj hu
      subst this
      rw [if_pos ⟨Nat.le_refl _, rfl⟩, if_pos rfl]
    | some u =>
      have := hU j u hj hu
      rw [if_neg (by simp), if_neg (by omega)])
  rw [smI_one, if_pos hn] at e4
  rw [← e4, K, e3]
theorem pre_len {R : Nds} (hU : UpL R) (h0 : ∀ k, k < R.1 → rU R k = none → k = 0) (hn : 0 < R.1) : (prE R 0).length = R.1 := by
  have h := pre_sum hU h0 hn (fun _ => 1)
  have a : ∀ l : List Nat, (l.map (fun _ => 1)).sum = l.length := fun l => by
    induction l with
    | nil => rfl
    | cons x l ih => rw [List.map_cons, List.sum_cons, ih, List.length_cons]; omega
  have b : ∀ n, smI (fun _ => 1) n = n := fun n => by
    induction n with
    | zero => rfl
    | succ n ih => show smI _ n + 1 = _; rw [ih]
  rw [a, b] at h
  exact h
