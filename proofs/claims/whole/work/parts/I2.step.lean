/-! the reader itself: one step at a time -/
abbrev St : Type := Nat × Nat × Option Nat × Nds × List Nat × Nat × List Nat
abbrev Rz : Type := (Nat × Nat) ⊕ St
def opD (R : Nds) (i : Option Nat) : Nat := match i with
  | none => 0
  | some u => rT R u + 1
def kidO (R : Nds) (i : Option Nat) : List Nat := match i with
  | none => []
  | some u => kids R u
def upO (R : Nds) (i : Option Nat) : Option Nat := match i with
  | none => none
  | some u => rU R u
def wBh (i : Option Nat) : Nat := if i = none then 7 else 5
def clA (q : Nat) (ins : Option Nat) (R : Nds) (L : List Nat) (na : Nat) (nm : List Nat) : St := (q + 1, wBh (upO R ins), upO R ins, R, L, na, nm)
def nwN (K : Nat) (ins : Option Nat) (R : Nds) (na : Nat) (nm : List Nat) : Nd := (K, opD R ins, ins, (na, nm), (0, []), 0)
def vaA (l : List Nat) (q : Nat) (ins : Option Nat) (R : Nds) (L : List Nat) (na : Nat) (nm : List Nat) : Rz := match kdb l q with
  | none => Sum.inl (1, q)
  | some K => if 5 ≤ K ∧ 30 ≤ opD R ins then Sum.inl (4, q) else if 500 ≤ R.1 then Sum.inl (5, q) else if 5 ≤ K then Sum.inr (q + 1, if K = 6 then 3 else 1, some R.1, psh R (nwN K ins R na nm), L, na, nm) else Sum.inr (q, 6, ins, psh R (nwN K ins R na nm), L, na, nm)
def naA (l : List Nat) (q : Nat) (ins : Option Nat) (R : Nds) (L : List Nat) : Rz := if Chr l q 34 then (match (srS l 2000 (q + 1) L).1 with
  | none => Sum.inl (1, (srS l 2000 (q + 1) L).2)
  | some L' => if (kidO R ins).any (fun k => decide (rNm R k = L'.drop L.length)) = true then Sum.inl (3, q) else Sum.inr ((srS l 2000 (q + 1) L).2, 4, ins, R, L', L.length, L'.drop L.length)) else Sum.inl (1, q)
def seA (l : List Nat) (q : Nat) (ins : Option Nat) (R : Nds) (L : List Nat) (na : Nat) (nm : List Nat) : Rz := if Chr l q 44 then Sum.inr (q + 1, if isO R ins = true then 2 else 0, ins, R, L, na, nm) else if Chr l q (if isO R ins = true then 125 else 93) then Sum.inr (clA q ins R L na nm) else Sum.inl (1, q)
def neA (l : List Nat) (q w : Nat) (ins : Option Nat) (R : Nds) (L : List Nat) (na : Nat) (nm : List Nat) : Rz := if (Chr l q 93 ∧ w = 1) ∨ (Chr l q 125 ∧ w = 3) then Sum.inr (clA q ins R L na nm) else if w = 0 ∨ w = 1 then vaA l q ins R L na nm else if w = 2 ∨ w = 3 then naA l q ins R L else if w = 5 then seA l q ins R L na nm else if Chr l q 58 then Sum.inr (q + 1, 0, ins, R, L, na, nm) else Sum.inl (1, q)
def reA (l : List Nat) (num : Nat → Option Nat × Nat) (p : Nat) (ins : Option Nat) (R : Nds) (L : List Nat) (na : Nat) (nm : List Nat) : Rz := if rK R (R.1 - 1) = 4 then (match (srS l 2000 (p + 1) L).1 with
  | none => Sum.inl (1, (srS l 2000 (p + 1) L).2)
  | some L' => Sum.inr ((srS l 2000 (p + 1) L).2, wBh ins, ins, fil R L.length (L'.drop L.length) 0, L', na, nm)) else if rK R (R.1 - 1) = 3 then (match (num p).1 with
  | none => Sum.inl (1, (num p).2)
  | some B => if isN (B % 2 ^ 63) = true then Sum.inr ((num p).2, wBh ins, ins, fil R 0 [] B, L, na, nm) else Sum.inl (2, p)) else if (wdS l (lenS.getD (rK R (R.1 - 1)) 0) (wof (rK R (R.1 - 1))) p).1 = true then Sum.inr ((wdS l (lenS.getD (rK R (R.1 - 1)) 0) (wof (rK R (R.1 - 1))) p).2, wBh ins, ins, R, L, na, nm) else Sum.inl (1, (wdS l (lenS.getD (rK R (R.1 - 1)) 0) (wof (rK R (R.1 - 1))) p).2)
def stA (l : List Nat) (num : Nat → Option Nat × Nat) (s : St) : Rz := if s.2.1 = 6 then reA l num s.1 s.2.2.1 s.2.2.2.1 s.2.2.2.2.1 s.2.2.2.2.2.1 s.2.2.2.2.2.2 else neA l (bk l s.1) s.2.1 s.2.2.1 s.2.2.2.1 s.2.2.2.2.1 s.2.2.2.2.2.1 s.2.2.2.2.2.2
def ruA (l : List Nat) (num : Nat → Option Nat × Nat) : Nat → St → Option Rz
  | 0, s => if s.2.1 = 7 then some (Sum.inr s) else none
  | n + 1, s => if s.2.1 = 7 then some (Sum.inr s) else match stA l num s with
    | Sum.inl f => some (Sum.inl f)
    | Sum.inr s' => ruA l num n s'
/-! what holds of it -/
def Slc (L : List Nat) (a : Nat) (s : List Nat) : Prop := a + s.length ≤ L.length ∧ ∀ i, i < s.length → gA L (a + i) = gA s i
def NdO (R : Nds) (L : List Nat) (k : Nat) : Prop := rK R k ≤ 6 ∧ rT R k ≤ 30 ∧ (5 ≤ rK R k → rT R k ≤ 29) ∧ (rK R k ≠ 4 → rTx R k = []) ∧ (rK R k ≠ 3 → rBi R k = 0) ∧ (rK R k = 3 → rBi R k < 2 ^ 64 ∧ rBi R k % 2 ^ 63 < 9218868437227405312) ∧ Ltrs (rNm R k) ∧ Ltrs (rTx R k) ∧ (rU R k = none → k = 0 ∧ rT R k = 0) ∧ (∀ u, rU R k = some u → u < k ∧ 5 ≤ rK R u ∧ rT R k = rT R u + 1) ∧ Slc L (rNa R k) (rNm R k) ∧ Slc L (rTa R k) (rTx R k)
def wsu (R : Nds) : Nat := smI (fun k => rBt (rwO R k)) R.1
def pnd (R : Nds) (w : Nat) (ins : Option Nat) (nm : List Nat) : Nat := if isO R ins = true ∧ (w = 0 ∨ w = 4) then bls nm else 0
def wOk (l : List Nat) (p w : Nat) (ins : Option Nat) (R : Nds) : Prop := (w = 0 ∧ (ins = none → R.1 = 0)) ∨ (w = 1 ∧ isO R ins = false ∧ ins ≠ none) ∨ (w = 2 ∧ isO R ins = true) ∨ (w = 3 ∧ isO R ins = true) ∨ (w = 4 ∧ isO R ins = true) ∨ (w = 5 ∧ ins ≠ none) ∨ (w = 6 ∧ 0 < R.1 ∧ rK R (R.1 - 1) ≤ 4 ∧ kdb l p = some (rK R (R.1 - 1)) ∧ rTx R (R.1 - 1) = []) ∨ (w = 7 ∧ ins = none ∧ 0 < R.1)
def dupO (w : Nat) (ins : Option Nat) (R : Nds) (nm : List Nat) : Prop := (w = 0 ∨ w = 4) → isO R ins = true → ∀ k ∈ kidO R ins, rNm R k ≠ nm
def RsO (R : Nds) (L : List Nat) : Prop := R.1 ≤ 500 ∧ (∀ k, k < R.1 → NdO R L k) ∧ (∀ u, u < R.1 → rK R u = 6 → (skids R u).Pairwise (nlt R))
def IvA (l : List Nat) (p w : Nat) (ins : Option Nat) (R : Nds) (L : List Nat) (na : Nat) (nm : List Nat) : Prop := p ≤ l.length ∧ bls L ≤ p ∧ RsO R L ∧ (∀ u, ins = some u → u < R.1 ∧ 5 ≤ rK R u) ∧ Slc L na nm ∧ Ltrs nm ∧ wsu R + pnd R w ins nm ≤ bls L ∧ wOk l p w ins R ∧ dupO w ins R nm
def InS (l : List Nat) (s : St) : Prop := IvA l s.1 s.2.1 s.2.2.1 s.2.2.2.1 s.2.2.2.2.1 s.2.2.2.2.2.1 s.2.2.2.2.2.2
def mu (l : List Nat) (p w : Nat) : Nat := 2 * (l.length - p) + (if w = 6 then 0 else 1)
def NumO (l : List Nat) (num : Nat → Option Nat × Nat) : Prop := ∀ p, p ≤ l.length → (∀ B, (num p).1 = some B → B < 2 ^ 64 ∧ p < (num p).2 ∧ (num p).2 ≤ l.length)
theorem Slc_app {L s t : List Nat} {a : Nat} (h : Slc L a s) : Slc (L ++ t) a s := ⟨by rw [List.length_append]; have := h.1; omega, fun i hi => by rw [gA_lt (by have := h.1; omega)]; exact h.2 i hi⟩
theorem Slc_new (L s : List Nat) : Slc (L ++ s) L.length s := ⟨by rw [List.length_append]; omega, fun i hi => by have := gA_mid L s [] hi; rw [List.append_nil] at this; exact this⟩
theorem Slc_nil (L : List Nat) : Slc L 0 [] := ⟨Nat.zero_le _, fun i hi => absurd hi (Nat.not_lt_zero i)⟩
theorem NdO_app {R : Nds} {L t : List Nat} {k : Nat} (h : NdO R L k) : NdO R (L ++ t) k := by
  obtain ⟨h1, h2, h3, h4, h5, h6, h7, h8, h9, h10, h11, h12⟩ := h
  exact ⟨h1, h2, h3, h4, h5, h6, h7, h8, h9, h10, Slc_app h11, Slc_app h12⟩
theorem RsO_app {R : Nds} {L t : List Nat} (h : RsO R L) : RsO R (L ++ t) := ⟨h.1, fun k hk => NdO_app (h.2.1 k hk), h.2.2⟩
theorem RsO_up {R : Nds} {L : List Nat} (h : RsO R L) : UpL R := fun k u hk hu => ((h.2.1 k hk).2.2.2.2.2.2.2.2.2.1 u hu).1
theorem kids_out {R : Nds} (h : UpL R) {u : Nat} (hu : R.1 ≤ u + 1) : kids R u = [] := by
  refine List.eq_nil_iff_forall_not_mem.mpr (fun k hk => ?_)
  obtain ⟨a, b⟩ := kids_mem.mp hk
  have := h k u a b
  omega
theorem isO_psh {R : Nds} {r : Nd} {i : Option Nat} (h : ∀ u, i = some u → u < R.1) : isO (psh R r) i = isO R i := by
  cases i with
  | none => rfl
  | some u => show decide (rK (psh R r) u = 6) = decide (rK R u = 6); unfold rK; rw [psh_lt (h u rfl)]
theorem rwO_psh {R : Nds} {r : Nd} {k : Nat} (hk : k < R.1) (h : ∀ u, rU R k = some u → u < R.1) : rwO (psh R r) k = rwO R k := by
  have e : (psh R r).2 k = R.2 k := psh_lt hk
  have eU : rU (psh R r) k = rU R k := by unfold rU; rw [e]
  unfold rwO rNo
  rw [eU, isO_psh h]
  unfold rK rT rTx rBi rNm
  rw [e]
theorem rwO_fil {R : Nds} {ta b k : Nat} {tx : List Nat} : rwO (fil R ta tx b) k = (rK R k, rT R k, rNo R k, rTx (fil R ta tx b) k, rBi (fil R ta tx b) k) := by
  obtain ⟨f1, f2, f3, f4, f5⟩ := fil_U R ta tx b k
  unfold rwO rNo
  have : isO (fil R ta tx b) (rU R k) = isO R (rU R k) := by
    cases rU R k with
    | none => rfl
    | some u => show decide _ = decide _; rw [(fil_U R ta tx b u).1]
  rw [f1, f2, f3, f5, this]
theorem skids_psh_o {R : Nds} {r : Nd} {u : Nat} (hu : u < R.1) (h : r.2.2.1 ≠ some u) : skids (psh R r) u = skids R u := by
  unfold skids
  have e : rK (psh R r) u = rK R u := by unfold rK; rw [psh_lt hu]
  rw [e, kids_psh, if_neg h, List.append_nil]
  split
  · exact srt_congr (fun x hx => by have := (kids_mem.mp hx).1; unfold rNm; rw [psh_lt this])
  · rfl
theorem skids_psh_s {R : Nds} {r : Nd} {u : Nat} (hu : u < R.1) (h : r.2.2.1 = some u) : skids (psh R r) u = if rK R u = 6 then insK (psh R r) R.1 (skids R u) else skids R u ++ [R.1] := by
  unfold skids
  have e : rK (psh R r) u = rK R u := by unfold rK; rw [psh_lt hu]
  rw [e, kids_psh, if_pos h]
  by_cases z : rK R u = 6
  · have c : srt (psh R r) (kids R u) = srt R (kids R u) := srt_congr (fun x hx => by have := (kids_mem.mp hx).1; unfold rNm; rw [psh_lt this])
    rw [if_pos z, if_pos z, if_pos z, srt_snoc, c]
  · rw [if_neg z, if_neg z, if_neg z]
theorem skids_psh_n {R : Nds} {r : Nd} (hU : UpL R) (h : r.2.2.1 ≠ some R.1) : skids (psh R r) R.1 = [] := by
  have e : kids (psh R r) R.1 = [] := by rw [kids_psh, if_neg h, List.append_nil]; exact kids_out hU (by omega)
  unfold skids
  rw [e]
  split <;> rfl
theorem skids_fil (R : Nds) (ta : Nat) (tx : List Nat) (b u : Nat) : skids (fil R ta tx b) u = skids R u := by
  unfold skids
  rw [(fil_U R ta tx b u).1, kids_fil]
  split
  · exact srt_congr (fun x _ => (fil_U R ta tx b x).2.2.2.2)
  · rfl
theorem kdb_lt {l : List Nat} {q K : Nat} (h : kdb l q = some K) : q < l.length ∧ K ≤ 6 := by
  unfold kdb at h
  (repeat' split at h) <;> first | (rename_i z; cases h; exact ⟨z.1, by decide⟩) | (rename_i z; cases h; exact ⟨by rcases z with z | z <;> exact z.1, by decide⟩) | cases h
/-- a node more -/
theorem RsO_psh {R : Nds} {L : List Nat} {K na : Nat} {ins : Option Nat} {nm : List Nat} (h : RsO R L) (h500 : R.1 < 500) (hK : K ≤ 6) (h5 : 5 ≤ K → opD R ins < 30) (hi : ∀ u, ins = some u → u < R.1 ∧ 5 ≤ rK R u) (h0 : ins = none → R.1 = 0) (hS : Slc L na nm) (hl : Ltrs nm) (hd : isO R ins = true → ∀ k ∈ kidO R ins, rNm R k ≠ nm) : RsO (psh R (nwN K ins R na nm)) L ∧ wsu (psh R (nwN K ins R na nm)) = wsu R + (if isO R ins = true then bls nm else 0) := by
  have hU := RsO_up h
  have en : (psh R (nwN K ins R na nm)).2 R.1 = nwN K ins R na nm := psh_eq R _
  have eo : ∀ k, k < R.1 → (psh R (nwN K ins R na nm)).2 k = R.2 k := fun k hk => psh_lt hk
  have hop : opD R ins ≤ 30 := by
    cases ins with
    | none => exact Nat.zero_le _
    | some u =>
      obtain ⟨a, b⟩ := hi u rfl
      have := (h.2.1 u a).2.2.1 b
      show rT R u + 1 ≤ 30
      omega
  have nN : rNm (psh R (nwN K ins R na nm)) R.1 = nm := by unfold rNm; rw [en]; rfl
  refine ⟨⟨by show R.1 + 1 ≤ 500; omega, fun k hk => ?_, fun u hu h6 => ?_⟩, ?_⟩
  · by_cases g : k = R.1
    · subst g
      unfold NdO rK rT rU rNa rNm rTa rTx rBi
      rw [en]
      refine ⟨hK, hop, fun z => by have := h5 z; show opD R ins ≤ 29; omega, fun _ => rfl, fun _ => rfl, fun _ => ⟨by show 0 < _; decide, by show 0 % 2 ^ 63 < _; decide⟩, hl, Ltrs_nil, fun z => ?_, fun u hu => ?_, hS, Slc_nil L⟩
      · have : ins = none := z
        subst this
        exact ⟨h0 rfl, rfl⟩
      · have hu' : ins = some u := hu
        subst hu'
        obtain ⟨a, b⟩ := hi u rfl
        rw [eo u a]
        exact ⟨a, b, rfl⟩
    · have hk' : k < R.1 := by have : k < R.1 + 1 := hk; omega
      have := h.2.1 k hk'
      unfold NdO rK rT rU rNa rNm rTa rTx rBi at this ⊢
      rw [eo k hk']
      obtain ⟨h1, h2, h3, h4, h5, h6, h7, h8, h9, h10, h11, h12⟩ := this
      refine ⟨h1, h2, h3, h4, h5, h6, h7, h8, h9, fun u hu => ?_, h11, h12⟩
      obtain ⟨a, b, c⟩ := h10 u hu
      rw [eo u (by omega)]
      exact ⟨a, b, c⟩
  · by_cases g : u = R.1
    · subst g
      rw [skids_psh_n hU (fun z => by have := (hi R.1 z).1; omega)]
      exact List.Pairwise.nil
    · have hu' : u < R.1 := by have : u < R.1 + 1 := hu; omega
      have hk6 : rK R u = 6 := by unfold rK at h6 ⊢; rw [eo u hu'] at h6; exact h6
      have nO : ∀ x, x ∈ skids R u → rNm (psh R (nwN K ins R na nm)) x = rNm R x := fun x hx => by unfold rNm; rw [eo x (skids_mem.mp hx).1]
      have old : (skids R u).Pairwise (nlt (psh R (nwN K ins R na nm))) := (h.2.2 u hu' hk6).imp_of_mem (fun {a b} ha hb q => by unfold nlt; rw [nO a ha, nO b hb]; exact q)
      by_cases z : ins = some u
      · rw [skids_psh_s hu' z, if_pos hk6]
        refine insK_sorted old (fun x hx => ?_) (by rw [nN]; exact hl) (fun x hx => ?_)
        · rw [nO x hx]; exact (h.2.1 x (skids_mem.mp hx).1).2.2.2.2.2.2.1
        · rw [nO x hx, nN]
          subst z
          exact hd (decide_eq_true hk6) x (kids_mem.mpr (skids_mem.mp hx))
      · rw [skids_psh_o hu' z]; exact old
  · show smI _ R.1 + rBt (rwO (psh R (nwN K ins R na nm)) R.1) = _
    congr 1
    · exact smI_congr (fun k hk => by rw [rwO_psh hk (fun u hu => by have := hU k u hk hu; omega)])
    · have eU : rU (psh R (nwN K ins R na nm)) R.1 = ins := by unfold rU; rw [en]; rfl
      have eX : rTx (psh R (nwN K ins R na nm)) R.1 = [] := by unfold rTx; rw [en]; rfl
      unfold rwO rNo
      rw [eU, isO_psh (fun u hu => (hi u hu).1), nN, eX]
      by_cases z : isO R ins = true
      · rw [if_pos z, if_pos z]; show bls nm + 0 = _; rw [Nat.add_zero]
      · rw [if_neg z, if_neg z]; rfl
/-- the last node filled -/
theorem RsO_fil {R : Nds} {L : List Nat} {ta b : Nat} {tx : List Nat} (h : RsO R L) (h0 : 0 < R.1) (hx : rTx R (R.1 - 1) = []) (h4 : rK R (R.1 - 1) ≠ 4 → tx = []) (h3 : rK R (R.1 - 1) ≠ 3 → b = 0) (h3' : rK R (R.1 - 1) = 3 → b < 2 ^ 64 ∧ b % 2 ^ 63 < 9218868437227405312) (hl : Ltrs tx) (hS : Slc L ta tx) : RsO (fil R ta tx b) L ∧ wsu (fil R ta tx b) = wsu R + bls tx := by
  refine ⟨⟨h.1, fun k hk => ?_, fun u hu h6 => ?_⟩, ?_⟩
  · obtain ⟨f1, f2, f3, f4, f5⟩ := fil_U R ta tx b k
    obtain ⟨h1, h2, h3a, h4a, h5a, h6a, h7, h8, h9, h10, h11, h12⟩ := h.2.1 k hk
    unfold NdO
    rw [f1, f2, f3, f4, f5]
    have up : ∀ u, rU R k = some u → u < k ∧ 5 ≤ rK (fil R ta tx b) u ∧ rT R k = rT (fil R ta tx b) u + 1 := fun u hu => by
      rw [(fil_U R ta tx b u).1, (fil_U R ta tx b u).2.1]; exact h10 u hu
    by_cases g : k = R.1 - 1
    · subst g
      obtain ⟨n1, n2, n3⟩ := fil_n R ta tx b
      rw [n1, n2, n3]
      exact ⟨h1, h2, h3a, h4, h3, h3', h7, hl, h9, up, h11, hS⟩
    · have o1 : rTa (fil R ta tx b) k = rTa R k := by unfold rTa; rw [fil_o g]
      have o2 : rTx (fil R ta tx b) k = rTx R k := by unfold rTx; rw [fil_o g]
      have o3 : rBi (fil R ta tx b) k = rBi R k := by unfold rBi; rw [fil_o g]
      rw [o1, o2, o3]
      exact ⟨h1, h2, h3a, h4a, h5a, h6a, h7, h8, h9, up, h11, h12⟩
  · rw [skids_fil]
    rw [(fil_U R ta tx b u).1] at h6
    exact (h.2.2 u hu h6).imp (fun {a c} q => by unfold nlt at q ⊢; rw [(fil_U R ta tx b a).2.2.2.2, (fil_U R ta tx b c).2.2.2.2]; exact q)
  · unfold wsu
    show smI _ R.1 = _
    have := smI_add (n := R.1) (f := fun k => rBt (rwO (fil R ta tx b) k)) (g := fun _ => 0) (h := fun k => rBt (rwO R k)) (k := fun k => if k = R.1 - 1 then bls tx else 0) (fun k hk => by
      show rBt (rwO (fil R ta tx b) k) + 0 = rBt (rwO R k) + (if k = R.1 - 1 then bls tx else 0)
      rw [rwO_fil]
      unfold rwO rBt
      by_cases g : k = R.1 - 1
      · subst g
        rw [if_pos rfl, (fil_n R ta tx b).2.1]
        show bls ((rNo R _).getD []) + bls tx + 0 = bls ((rNo R _).getD []) + bls (rTx R _) + bls tx
        rw [hx]
        show _ = _ + 0 + _
        omega
      · have o2 : rTx (fil R ta tx b) k = rTx R k := by unfold rTx; rw [fil_o g]
        rw [if_neg g, o2])
    have z0 : smI (fun _ => 0) R.1 = 0 := by
      have : ∀ n, smI (fun _ => 0) n = 0 := fun n => by
        induction n with
        | zero => rfl
        | succ n ih => show smI _ n + 0 = 0; rw [ih]
      exact this _
    rw [z0, smI_one, if_pos (by omega)] at this
    exact this
theorem clA_in {l : List Nat} {p q w na : Nat} {ins : Option Nat} {R : Nds} {L nm : List Nat} (h : IvA l p w ins R L na nm) (hp : p ≤ q) (hq : q < l.length) (hi : ins ≠ none) : InS l (clA q ins R L na nm) ∧ mu l (clA q ins R L na nm).1 (clA q ins R L na nm).2.1 < mu l p w := by
  obtain ⟨h1, h2, h3, h4, h5, h6, h7, h8, h9⟩ := h
  cases ins with
  | none => exact absurd rfl hi
  | some u =>
    obtain ⟨u1, u2⟩ := h4 u rfl
    have hN := h3.2.1 u u1
    have hw : wBh (upO R (some u)) = 7 ∨ wBh (upO R (some u)) = 5 := by unfold wBh; split <;> simp
    refine ⟨⟨by show q + 1 ≤ _; omega, by show bls L ≤ q + 1; omega, h3, fun v hv => ?_, h5, h6, ?_, ?_, fun z => ?_⟩, ?_⟩
    · have hv' : rU R u = some v := hv
      have := hN.2.2.2.2.2.2.2.2.2.1 v hv'
      show v < R.1 ∧ 5 ≤ rK R v
      exact ⟨by omega, this.2.1⟩
    · show wsu R + pnd R (wBh (upO R (some u))) (upO R (some u)) nm ≤ bls L
      unfold pnd
      rw [if_neg (by omega)]
      omega
    · show wOk l (q + 1) (wBh (upO R (some u))) (upO R (some u)) R
      unfold wOk wBh
      cases hu : upO R (some u) with
      | none => rw [if_pos rfl]; exact Or.inr (Or.inr (Or.inr (Or.inr (Or.inr (Or.inr (Or.inr ⟨rfl, rfl, by omega⟩))))))
      | some v => rw [if_neg (by simp)]; exact Or.inr (Or.inr (Or.inr (Or.inr (Or.inr (Or.inl ⟨rfl, by simp⟩)))))
    · have : wBh (upO R (some u)) = 0 ∨ wBh (upO R (some u)) = 4 := z
      omega
    · show 2 * (l.length - (q + 1)) + (if wBh (upO R (some u)) = 6 then 0 else 1) < 2 * (l.length - p) + _
      rw [if_neg (by omega)]
      omega
theorem neA_in {l : List Nat} {p w na : Nat} {ins : Option Nat} {R : Nds} {L nm : List Nat} {s : St} (hb : Bt l) (h : IvA l p w ins R L na nm) (h6 : w ≠ 6) (h7 : w ≠ 7) (e : neA l (bk l p) w ins R L na nm = Sum.inr s) : InS l s ∧ mu l s.1 s.2.1 < mu l p w := by
  have hB : p ≤ bk l p ∧ bk l p ≤ l.length := bkF_fit _ p h.1
  generalize bk l p = q at e hB
  have hi1 : (w = 1 ∨ w = 3 ∨ w = 5) → ins ≠ none := fun z y => by
    have := h.2.2.2.2.2.2.2.1
    subst y
    unfold wOk isO at this
    simp at this
    omega
  have mu1 : mu l p w = 2 * (l.length - p) + 1 := by unfold mu; rw [if_neg h6]
  obtain ⟨h1, h2, h3, h4, h5, h6a, h7a, h8, h9⟩ := id h
  unfold neA at e
  split at e
  · rename_i z
    cases e
    exact clA_in h hB.1 (by rcases z with z | z <;> exact z.1.1) (hi1 (by omega))
  · split at e
    · -- a value
      rename_i _ hw
      unfold vaA at e
      cases hk : kdb l q with
      | none => rw [hk] at e; cases e
      | some K =>
        obtain ⟨kl, k6⟩ := kdb_lt hk
        rw [hk] at e
        simp only [] at e
        split at e
        · cases e
        · rename_i z5
          split at e
          · cases e
          · rename_i z500
            have h0 : ins = none → R.1 = 0 := fun y => by
              rcases hw with z | z
              · subst z; unfold wOk at h8; simp at h8; exact h8 y
              · exact absurd y (hi1 (Or.inl z))
            have hd : isO R ins = true → ∀ k ∈ kidO R ins, rNm R k ≠ nm := fun y => by
              rcases hw with z | z
              · exact h9 (Or.inl z) y
              · exfalso; subst z; unfold wOk at h8; simp at h8; rw [h8.1] at y; cases y
            have hpn : pnd R w ins nm = if isO R ins = true then bls nm else 0 := by
              unfold pnd
              by_cases y : isO R ins = true
              · rcases hw with z | z
                · rw [if_pos ⟨y, Or.inl z⟩, if_pos y]
                · exfalso; subst z; unfold wOk at h8; simp at h8; rw [h8.1] at y; cases y
              · rw [if_neg (fun z => y z.1), if_neg y]
            obtain ⟨r1, r2⟩ := RsO_psh (K := K) (na := na) h3 (by omega) k6 (fun z => by omega) h4 h0 h5 h6a hd
            have inN : ∀ u, ins = some u → u < R.1 + 1 ∧ 5 ≤ rK (psh R (nwN K ins R na nm)) u := fun u hu => by
              obtain ⟨a, b⟩ := h4 u hu
              refine ⟨by omega, ?_⟩
              unfold rK; rw [psh_lt a]; exact b
            have kN : rK (psh R (nwN K ins R na nm)) R.1 = K := by unfold rK; rw [psh_eq]; rfl
            by_cases zK : 5 ≤ K
            · rw [if_pos zK] at e
              cases e
              have hw2 : (if K = 6 then 3 else 1) ≠ 6 ∧ ¬ ((if K = 6 then 3 else 1) = 0 ∨ (if K = 6 then 3 else 1) = 4) := by split <;> omega
              refine ⟨⟨by show q + 1 ≤ _; omega, by show bls L ≤ q + 1; omega, r1, fun u hu => ?_, h5, h6a, ?_, ?_, fun z => absurd z hw2.2⟩, ?_⟩
              · have : R.1 = u := Option.some.inj hu
                subst this
                exact ⟨Nat.lt_succ_self _, by rw [kN]; exact zK⟩
              · have p0 : pnd (psh R (nwN K ins R na nm)) (if K = 6 then 3 else 1) (some R.1) nm = 0 := if_neg (fun z => hw2.2 z.2)
                show wsu (psh R (nwN K ins R na nm)) + pnd (psh R (nwN K ins R na nm)) (if K = 6 then 3 else 1) (some R.1) nm ≤ bls L
                rw [p0, r2]; omega
              · show wOk l (q + 1) (if K = 6 then 3 else 1) (some R.1) (psh R (nwN K ins R na nm))
                have hO : isO (psh R (nwN K ins R na nm)) (some R.1) = decide (K = 6) := by show decide _ = _; rw [kN]
                unfold wOk
                rw [hO]
                by_cases y : K = 6
                · rw [if_pos y]; simp [y]
                · rw [if_neg y]; simp [y]
              · show 2 * (l.length - (q + 1)) + (if (if K = 6 then 3 else 1) = 6 then 0 else 1) < _
                rw [if_neg hw2.1, mu1]; omega
            · rw [if_neg zK] at e
              cases e
              refine ⟨⟨hB.2, by show bls L ≤ q; omega, r1, inN, h5, h6a, ?_, ?_, fun z => by exfalso; have : (6 : Nat) = 0 ∨ (6 : Nat) = 4 := z; omega⟩, ?_⟩
              · show wsu _ + pnd _ 6 _ nm ≤ bls L
                unfold pnd
                rw [if_neg (by omega), r2]; omega
              · refine Or.inr (Or.inr (Or.inr (Or.inr (Or.inr (Or.inr (Or.inl ⟨rfl, Nat.succ_pos _, ?_, ?_, ?_⟩))))))
                · show rK (psh R (nwN K ins R na nm)) R.1 ≤ 4
                  rw [kN]; omega
                · show kdb l q = some (rK (psh R (nwN K ins R na nm)) R.1)
                  rw [kN]; exact hk
                · show rTx (psh R (nwN K ins R na nm)) R.1 = []
                  unfold rTx; rw [psh_eq]; rfl
              · show 2 * (l.length - q) + (if (6 : Nat) = 6 then 0 else 1) < _
                rw [if_pos rfl, mu1]; omega
    · split at e
      · -- a name
        rename_i _ _ hw
        have hO : isO R ins = true := by
          unfold wOk at h8
          rcases hw with z | z <;> subst z <;> simp at h8 <;> exact h8
        unfold naA at e
        split at e
        · rename_i c34
          obtain ⟨f1, f2⟩ := srS_fit hb 2000 (q + 1) L (by have := c34.1; omega)
          cases hs : (srS l 2000 (q + 1) L).1 with
          | none => rw [hs] at e; cases e
          | some L' =>
            rw [hs] at e
            simp only [] at e
            obtain ⟨t, rfl, lt, ft⟩ := f2 L' hs
            rw [List.drop_left] at e
            split at e
            · cases e
            · rename_i hany
              cases e
              refine ⟨⟨f1, by show bls (L ++ t) ≤ (srS l 2000 (q + 1) L).2; rw [bls_app]; omega, RsO_app h3, h4, Slc_new L t, lt, ?_, ?_, fun _ _ k hk y => hany ?_⟩, ?_⟩
              · show wsu R + pnd R 4 ins t ≤ bls (L ++ t)
                unfold pnd
                rw [if_pos ⟨hO, Or.inr rfl⟩, bls_app]; omega
              · exact Or.inr (Or.inr (Or.inr (Or.inr (Or.inl ⟨rfl, hO⟩))))
              · exact List.any_eq_true.mpr ⟨k, hk, decide_eq_true y⟩
              · show 2 * (l.length - (srS l 2000 (q + 1) L).2) + (if (4 : Nat) = 6 then 0 else 1) < _
                rw [if_neg (by omega), mu1]; omega
        · cases e
      · split at e
        · -- between parts
          rename_i _ _ _ hw
          subst hw
          have hi := hi1 (Or.inr (Or.inr rfl))
          have hp0 : wsu R ≤ bls L := by omega
          unfold seA at e
          by_cases c44 : Chr l q 44
          · rw [if_pos c44] at e
            cases e
            refine ⟨⟨by show q + 1 ≤ _; have := c44.1; omega, by show bls L ≤ q + 1; omega, h3, h4, h5, h6a, ?_, ?_, fun z y => ?_⟩, ?_⟩
            · show wsu R + pnd R (if isO R ins = true then 2 else 0) ins nm ≤ bls L
              unfold pnd
              rw [if_neg]
              · omega
              · intro z
                rw [if_pos z.1] at z
                omega
            · show wOk l (q + 1) (if isO R ins = true then 2 else 0) ins R
              unfold wOk
              by_cases y : isO R ins = true
              · rw [if_pos y]; exact Or.inr (Or.inr (Or.inl ⟨rfl, y⟩))
              · rw [if_neg y]; exact Or.inl ⟨rfl, fun z => absurd z hi⟩
            · have z' : (if isO R ins = true then 2 else 0) = 0 ∨ (if isO R ins = true then 2 else 0) = 4 := z
              have y' : isO R ins = true := y
              rw [if_pos y'] at z'
              omega
            · show 2 * (l.length - (q + 1)) + (if (if isO R ins = true then 2 else 0) = 6 then 0 else 1) < _
              rw [if_neg (by split <;> omega), mu1]
              have := c44.1
              omega
          · rw [if_neg c44] at e
            by_cases c : Chr l q (if isO R ins = true then 125 else 93)
            · rw [if_pos c] at e
              cases e
              exact clA_in h hB.1 c.1 hi
            · rw [if_neg c] at e
              cases e
        · -- a colon
          split at e
          · rename_i _ hw1 hw2 hw5 c58
            cases e
            have hw4 : w = 4 ∧ isO R ins = true := by
              unfold wOk at h8
              rcases h8 with z | z | z | z | z | z | z | z
              · exact absurd (Or.inl z.1) hw1
              · exact absurd (Or.inr z.1) hw1
              · exact absurd (Or.inl z.1) hw2
              · exact absurd (Or.inr z.1) hw2
              · exact z
              · exact absurd z.1 hw5
              · exact absurd z.1 h6
              · exact absurd z.1 h7
            obtain ⟨rfl, hO⟩ := hw4
            refine ⟨⟨by show q + 1 ≤ _; have := c58.1; omega, by show bls L ≤ q + 1; omega, h3, h4, h5, h6a, ?_, Or.inl ⟨rfl, fun z => ?_⟩, fun _ y => h9 (Or.inr rfl) y⟩, ?_⟩
            · show wsu R + pnd R 0 ins nm ≤ bls L
              have : pnd R 0 ins nm = pnd R 4 ins nm := by unfold pnd; rw [if_pos ⟨hO, Or.inl rfl⟩, if_pos ⟨hO, Or.inr rfl⟩]
              rw [this]; exact h7a
            · have z' : ins = none := z
              subst z'
              cases hO
            · show 2 * (l.length - (q + 1)) + (if (0 : Nat) = 6 then 0 else 1) < _
              rw [if_neg (by omega), mu1]
              have := c58.1
              omega
          · cases e
theorem wBh_ok (i : Option Nat) : (wBh i = 7 ∧ i = none) ∨ (wBh i = 5 ∧ i ≠ none) := by
  unfold wBh
  cases i with
  | none => exact Or.inl ⟨rfl, rfl⟩
  | some u => exact Or.inr ⟨rfl, by simp⟩
theorem reA_in {l : List Nat} {num : Nat → Option Nat × Nat} {p na : Nat} {ins : Option Nat} {R : Nds} {L nm : List Nat} {s : St} (hb : Bt l) (hN : NumO l num) (h : IvA l p 6 ins R L na nm) (e : reA l num p ins R L na nm = Sum.inr s) : InS l s ∧ mu l s.1 s.2.1 < mu l p 6 := by
  obtain ⟨h1, h2, h3, h4, h5, h6, h7, h8, h9⟩ := h
  obtain ⟨k0, k4, kk, kx⟩ : 0 < R.1 ∧ rK R (R.1 - 1) ≤ 4 ∧ kdb l p = some (rK R (R.1 - 1)) ∧ rTx R (R.1 - 1) = [] := by
    unfold wOk at h8
    simp at h8
    exact h8
  obtain ⟨kl, _⟩ := kdb_lt kk
  have hw : wsu R ≤ bls L := by omega
  have muE : ∀ q, p < q → q ≤ l.length → mu l q (wBh ins) < mu l p 6 := fun q q1 q2 => by
    unfold mu
    rcases wBh_ok ins with z | z <;> rw [z.1] <;> simp <;> omega
  have wE : ∀ q (R' : Nds), R'.1 = R.1 → wOk l q (wBh ins) ins R' := fun q R' hR => by
    rcases wBh_ok ins with z | z
    · rw [z.1]; exact Or.inr (Or.inr (Or.inr (Or.inr (Or.inr (Or.inr (Or.inr ⟨rfl, z.2, by omega⟩))))))
    · rw [z.1]; exact Or.inr (Or.inr (Or.inr (Or.inr (Or.inr (Or.inl ⟨rfl, z.2⟩)))))
  have pE : ∀ (R' : Nds), pnd R' (wBh ins) ins nm = 0 := fun R' => if_neg (by rcases wBh_ok ins with z | z <;> rw [z.1] <;> omega)
  have dE : ∀ (R' : Nds), dupO (wBh ins) ins R' nm := fun R' z => by exfalso; rcases wBh_ok ins with y | y <;> rw [y.1] at z <;> omega
  have iE : ∀ ta tx b u, ins = some u → u < R.1 ∧ 5 ≤ rK (fil R ta tx b) u := fun ta tx b u hu => by rw [(fil_U R ta tx b u).1]; exact h4 u hu
  unfold reA at e
  by_cases z4 : rK R (R.1 - 1) = 4
  · rw [if_pos z4] at e
    obtain ⟨f1, f2⟩ := srS_fit hb 2000 (p + 1) L (by omega)
    cases hs : (srS l 2000 (p + 1) L).1 with
    | none => rw [hs] at e; cases e
    | some L' =>
      rw [hs] at e
      simp only [] at e
      obtain ⟨t, rfl, lt, ft⟩ := f2 L' hs
      rw [List.drop_left] at e
      cases e
      obtain ⟨r1, r2⟩ := RsO_fil (L := L ++ t) (ta := L.length) (b := 0) (tx := t) (RsO_app h3) k0 kx (fun z => absurd z4 z) (fun _ => rfl) (fun z => by omega) lt (Slc_new L t)
      refine ⟨⟨f1, by show bls (L ++ t) ≤ (srS l 2000 (p + 1) L).2; rw [bls_app]; omega, r1, iE _ _ _, Slc_app h5, h6, ?_, wE _ _ rfl, dE _⟩, muE _ (by omega) f1⟩
      show wsu _ + pnd _ (wBh ins) ins nm ≤ bls (L ++ t)
      rw [pE, r2, bls_app]; omega
  · rw [if_neg z4] at e
    by_cases z3 : rK R (R.1 - 1) = 3
    · rw [if_pos z3] at e
      cases hn : (num p).1 with
      | none => rw [hn] at e; cases e
      | some B =>
        rw [hn] at e
        simp only [] at e
        obtain ⟨n1, n2, n3⟩ := hN p h1 B hn
        by_cases zn : isN (B % 2 ^ 63) = true
        · rw [if_pos zn] at e
          cases e
          obtain ⟨r1, r2⟩ := RsO_fil (L := L) (ta := 0) (b := B) (tx := []) h3 k0 kx (fun _ => rfl) (fun z => absurd z3 z) (fun _ => ⟨n1, of_decide_eq_true zn⟩) Ltrs_nil (Slc_nil L)
          refine ⟨⟨n3, by show bls L ≤ (num p).2; omega, r1, iE _ _ _, h5, h6, ?_, wE _ _ rfl, dE _⟩, muE _ n2 n3⟩
          show wsu _ + pnd _ (wBh ins) ins nm ≤ bls L
          rw [pE, r2]
          show wsu R + 0 + 0 ≤ bls L
          omega
        · rw [if_neg zn] at e
          cases e
    · rw [if_neg z3] at e
      split at e
      · rename_i hwd
        cases e
        have k3 : rK R (R.1 - 1) = 0 ∨ rK R (R.1 - 1) = 1 ∨ rK R (R.1 - 1) = 2 := by omega
        have hlt : p < (wdS l (lenS.getD (rK R (R.1 - 1)) 0) (wof (rK R (R.1 - 1))) p).2 := by
          obtain ⟨n, hn⟩ : ∃ n, lenS.getD (rK R (R.1 - 1)) 0 = n + 1 := by
            rcases k3 with z | z | z <;> rw [z]
            · exact ⟨3, rfl⟩
            · exact ⟨4, rfl⟩
            · exact ⟨3, rfl⟩
          rw [hn] at hwd ⊢
          unfold wdS at hwd ⊢
          split at hwd
          · rename_i y
            rw [if_pos y]
            have := (wdS_fit (l := l) n (wof (rK R (R.1 - 1)) + 1) (p + 1) (by have := y.1; omega)).1
            omega
          · cases hwd
        have hle := (wdS_fit (lenS.getD (rK R (R.1 - 1)) 0) (wof (rK R (R.1 - 1))) p h1).2
        refine ⟨⟨hle, by show bls L ≤ (wdS l (lenS.getD (rK R (R.1 - 1)) 0) (wof (rK R (R.1 - 1))) p).2; omega, h3, h4, h5, h6, ?_, wE _ _ rfl, dE _⟩, muE _ hlt hle⟩
        show wsu R + pnd R (wBh ins) ins nm ≤ bls L
        rw [pE]; omega
      · cases e
theorem stA_in {l : List Nat} {num : Nat → Option Nat × Nat} {s s' : St} (hb : Bt l) (hN : NumO l num) (h : InS l s) (h7 : s.2.1 ≠ 7) (e : stA l num s = Sum.inr s') : InS l s' ∧ mu l s'.1 s'.2.1 < mu l s.1 s.2.1 := by
  unfold stA at e
  by_cases h6 : s.2.1 = 6
  · rw [if_pos h6] at e
    have h' : IvA l s.1 6 s.2.2.1 s.2.2.2.1 s.2.2.2.2.1 s.2.2.2.2.2.1 s.2.2.2.2.2.2 := by have := h; unfold InS at this; rw [h6] at this; exact this
    rw [h6]
    exact reA_in hb hN h' e
  · rw [if_neg h6] at e
    exact neA_in hb h h6 h7 e
theorem mu_pos {l : List Nat} {s : St} (h : InS l s) : 1 ≤ mu l s.1 s.2.1 := by
  unfold mu
  by_cases h6 : s.2.1 = 6
  · have h8 := h.2.2.2.2.2.2.2.1
    rw [h6] at h8
    unfold wOk at h8
    simp at h8
    have := (kdb_lt h8.2.2.1).1
    omega
  · rw [if_neg h6]; omega
theorem ruA_in {l : List Nat} {num : Nat → Option Nat × Nat} (hb : Bt l) (hN : NumO l num) : ∀ (n : Nat) (s : St), InS l s → mu l s.1 s.2.1 ≤ n → (∃ z, ruA l num n s = some z) ∧ ∀ s', ruA l num n s = some (Sum.inr s') → InS l s' ∧ s'.2.1 = 7 := by
  intro n
  induction n with
  | zero => intro s h hm; have := mu_pos h; omega
  | succ n ih =>
    intro s h hm
    unfold ruA
    by_cases h7 : s.2.1 = 7
    · rw [if_pos h7]
      exact ⟨⟨_, rfl⟩, fun s' e => by cases e; exact ⟨h, h7⟩⟩
    · rw [if_neg h7]
      cases hs : stA l num s with
      | inl f => exact ⟨⟨_, rfl⟩, fun s' e => by cases e⟩
      | inr s1 =>
        obtain ⟨i1, i2⟩ := stA_in hb hN h h7 hs
        exact ih s1 i1 (by omega)
def R0 : Nds := (0, fun _ => (0, 0, none, (0, []), (0, []), 0))
def s0A : St := (0, 0, none, R0, [], 0, [])
theorem s0_in (l : List Nat) : InS l s0A ∧ mu l s0A.1 s0A.2.1 = 2 * l.length + 1 := ⟨⟨Nat.zero_le _, Nat.le_refl _, ⟨Nat.zero_le _, fun k hk => absurd hk (Nat.not_lt_zero k), fun u hu => absurd hu (Nat.not_lt_zero u)⟩, fun u hu => (by cases hu), Slc_nil [], Ltrs_nil, Nat.le_refl _, Or.inl ⟨rfl, fun _ => rfl⟩, fun _ z => (by cases z)⟩, rfl⟩
