section KR2
variable {E : En_t} {S : Sb} {P : List Nat} {σ : S_t} {R : Room} {cells slots mc ms : Nat} {M : M_t} {pc pc' : Nat} {L L' : List (Nat × Value)} {st : List Value} {Q : U_t → Prop}
theorem K_newI {x N : Nat} {n : Int32} (hd : decode M.2.1 pc = .ok (.newarray .int, 2)) (hp : pc + 2 = pc') (hw : Cond.arrayClass .int ∈ tb) (hk : kindP x = 20) (hN : lenP x = N) (hx : x ∉ P) (hn : ¬ n < 0) (hn2 : n.toNatClampNeg = N) (hb : N * 4 ≤ 536870912) (hR : cells + 1 ≤ R.cells ∧ slots + N ≤ R.slots) (k : ∀ q, JK (upE E x q) S (P ++ [x]) σ R (cells + 1) (slots + N) mc ms M pc' L (.ref q :: st) Q) : JK E S P σ R cells slots mc ms M pc L (.int n :: st) Q := by
  subst hp; intro p e s m args below meth c H locs ls A C hP hD hS hA hO hl
  refine va_newa (atype := .int) (ty := .int) (a0 := (N, .inl (fun _ => 0))) C.1 C.2.1 (C.2.2.2.2.1 _ hw) rfl C.2.2.2.2.2.2.2.2.1 hP hD hS hA (fun _ => rfl) hn hn2 hb hR.1 hR.2 hd (fun q cA H1 hK1 hP1 hD1 hS1 => ?_)
  have ec : cA = E.2.2.2 0 := Option.some.inj ((va_nm_int (hK1.2 5 (cA, .int) rfl).2).symm.trans (va_nm_int (C.2.2.2.2.2.2.2.2.1.2 0 (E.2.2.2 0, .int) rfl).2))
  subst ec
  have ew : wsK (upE E x q) S σ (P ++ [x]) = wsK E S σ P ++ [(q, .inl (E.2.2.2 0, N, .inl (fun _ => 0)))] := wsK_new hO hx (by
    unfold cellK; rw [if_neg (by omega), cellE_arr (t := 0) hk (by omega), hN]
    have : gI σ x = fun _ => 0 := funext (hO.2.2.1 x hx).1
    rw [this]; rfl)
  rw [← ew] at hP1 hD1
  exact k q p e s m args below meth c H1 locs ls A C hP1 hD1 hS1 hA (hO.new hx) hl
theorem K_newB {x N : Nat} {n : Int32} (hd : decode M.2.1 pc = .ok (.newarray .byte, 2)) (hp : pc + 2 = pc') (hw : Cond.arrayClass .byte ∈ tb) (hk : kindP x = 21) (hN : lenP x = N) (hx : x ∉ P) (hn : ¬ n < 0) (hn2 : n.toNatClampNeg = N) (hb : N * 1 ≤ 536870912) (hR : cells + 1 ≤ R.cells ∧ slots + N ≤ R.slots) (k : ∀ q, JK (upE E x q) S (P ++ [x]) σ R (cells + 1) (slots + N) mc ms M pc' L (.ref q :: st) Q) : JK E S P σ R cells slots mc ms M pc L (.int n :: st) Q := by
  subst hp; intro p e s m args below meth c H locs ls A C hP hD hS hA hO hl
  refine va_newa (atype := .byte) (ty := .byte) (a0 := (N, .inl (fun _ => 0))) C.1 C.2.1 (C.2.2.2.2.1 _ hw) rfl C.2.2.2.2.2.2.2.2.1 hP hD hS hA (fun _ => rfl) hn hn2 hb hR.1 hR.2 hd (fun q cA H1 hK1 hP1 hD1 hS1 => ?_)
  have ec : cA = E.2.2.2 1 := Option.some.inj ((va_nm_byte (hK1.2 5 (cA, .byte) rfl).2).symm.trans (va_nm_byte (C.2.2.2.2.2.2.2.2.1.2 1 (E.2.2.2 1, .byte) rfl).2))
  subst ec
  have ew : wsK (upE E x q) S σ (P ++ [x]) = wsK E S σ P ++ [(q, .inl (E.2.2.2 1, N, .inl (fun _ => 0)))] := wsK_new hO hx (by
    unfold cellK; rw [if_neg (by omega), cellE_arr (t := 1) hk (by omega), hN]
    have : gI σ x = fun _ => 0 := funext (hO.2.2.1 x hx).1
    rw [this]; rfl)
  rw [← ew] at hP1 hD1
  exact k q p e s m args below meth c H1 locs ls A C hP1 hD1 hS1 hA (hO.new hx) hl
theorem K_newZ {x N : Nat} {n : Int32} (hd : decode M.2.1 pc = .ok (.newarray .boolean, 2)) (hp : pc + 2 = pc') (hw : Cond.arrayClass .boolean ∈ tb) (hk : kindP x = 22) (hN : lenP x = N) (hx : x ∉ P) (hn : ¬ n < 0) (hn2 : n.toNatClampNeg = N) (hb : N * 1 ≤ 536870912) (hR : cells + 1 ≤ R.cells ∧ slots + N ≤ R.slots) (k : ∀ q, JK (upE E x q) S (P ++ [x]) σ R (cells + 1) (slots + N) mc ms M pc' L (.ref q :: st) Q) : JK E S P σ R cells slots mc ms M pc L (.int n :: st) Q := by
  subst hp; intro p e s m args below meth c H locs ls A C hP hD hS hA hO hl
  refine va_newa (atype := .boolean) (ty := .boolean) (a0 := (N, .inl (fun _ => 0))) C.1 C.2.1 (C.2.2.2.2.1 _ hw) rfl C.2.2.2.2.2.2.2.2.1 hP hD hS hA (fun _ => rfl) hn hn2 hb hR.1 hR.2 hd (fun q cA H1 hK1 hP1 hD1 hS1 => ?_)
  have ec : cA = E.2.2.2 2 := Option.some.inj ((va_nm_boolean (hK1.2 5 (cA, .boolean) rfl).2).symm.trans (va_nm_boolean (C.2.2.2.2.2.2.2.2.1.2 2 (E.2.2.2 2, .boolean) rfl).2))
  subst ec
  have ew : wsK (upE E x q) S σ (P ++ [x]) = wsK E S σ P ++ [(q, .inl (E.2.2.2 2, N, .inl (fun _ => 0)))] := wsK_new hO hx (by
    unfold cellK; rw [if_neg (by omega), cellE_arr (t := 2) hk (by omega), hN]
    have : gI σ x = fun _ => 0 := funext (hO.2.2.1 x hx).1
    rw [this]; rfl)
  rw [← ew] at hP1 hD1
  exact k q p e s m args below meth c H1 locs ls A C hP1 hD1 hS1 hA (hO.new hx) hl
theorem K_newJ {x N : Nat} {n : Int32} (hd : decode M.2.1 pc = .ok (.newarray .long, 2)) (hp : pc + 2 = pc') (hw : Cond.arrayClass .long ∈ tb) (hk : kindP x = 23) (hN : lenP x = N) (hx : x ∉ P) (hn : ¬ n < 0) (hn2 : n.toNatClampNeg = N) (hb : N * 8 ≤ 536870912) (hR : cells + 1 ≤ R.cells ∧ slots + N ≤ R.slots) (k : ∀ q, JK (upE E x q) S (P ++ [x]) σ R (cells + 1) (slots + N) mc ms M pc' L (.ref q :: st) Q) : JK E S P σ R cells slots mc ms M pc L (.int n :: st) Q := by
  subst hp; intro p e s m args below meth c H locs ls A C hP hD hS hA hO hl
  refine va_newa (atype := .long) (ty := .long) (a0 := (N, .inr (.inl (fun _ => 0)))) C.1 C.2.1 (C.2.2.2.2.1 _ hw) rfl C.2.2.2.2.2.2.2.2.1 hP hD hS hA (fun _ => rfl) hn hn2 hb hR.1 hR.2 hd (fun q cA H1 hK1 hP1 hD1 hS1 => ?_)
  have ec : cA = E.2.2.2 3 := Option.some.inj ((va_nm_long (hK1.2 5 (cA, .long) rfl).2).symm.trans (va_nm_long (C.2.2.2.2.2.2.2.2.1.2 3 (E.2.2.2 3, .long) rfl).2))
  subst ec
  have ew : wsK (upE E x q) S σ (P ++ [x]) = wsK E S σ P ++ [(q, .inl (E.2.2.2 3, N, .inr (.inl (fun _ => 0))))] := wsK_new hO hx (by
    unfold cellK; rw [if_neg (by omega), cellE_arrL hk, hN]
    have : gL σ x = fun _ => 0 := funext (hO.2.2.1 x hx).2
    rw [this]; rfl)
  rw [← ew] at hP1 hD1
  exact k q p e s m args below meth c H1 locs ls A C hP1 hD1 hS1 hA (hO.new hx) hl
theorem K_newT {i x N : Nat} {n : Int32} (hd : decode M.2.1 pc = .ok (.anewarray i, 3)) (hp : pc + 3 = pc') (hw : Cond.classLink M.1.cls i "CanonPress$Tree" ∈ tb) (hk : kindP x = 24) (hN : lenP x = N) (hx : x ∉ P) (hn : ¬ n < 0) (hn2 : n.toNatClampNeg = N) (hb : N * 4 ≤ 536870912) (hR : cells + 1 ≤ R.cells ∧ slots + N ≤ R.slots) (k : ∀ q, JK (upE E x q) S (P ++ [x]) σ R (cells + 1) (slots + N) mc ms M pc' L (.ref q :: st) Q) : JK E S P σ R cells slots mc ms M pc L (.int n :: st) Q := by
  subst hp; intro p e s m args below meth c H locs ls A C hP hD hS hA hO hl
  refine va_newq C.1 C.2.1 C.2.2.2.1 (C.2.2.2.2.1 _ hw) C.2.2.2.2.2.2.2.2.2.2 C.2.2.2.2.2.2.2.2.1 hP hD hS hA hn hn2 hb hR.1 hR.2 hd (fun q cA H1 hK1 hP1 hD1 hS1 => ?_)
  have ec : cA = E.2.2.2 4 := Option.some.inj ((va_nmO (hK1.2 5 (cA, .object "CanonPress$Tree") rfl).2 rfl).symm.trans (va_nmO (C.2.2.2.2.2.2.2.2.1.2 4 (E.2.2.2 4, .object "CanonPress$Tree") rfl).2 rfl))
  subst ec
  have ew : wsK (upE E x q) S σ (P ++ [x]) = wsK E S σ P ++ [(q, .inl (E.2.2.2 4, N, .inr (.inr (.inr (.inr (fun _ => none))))))] := wsK_new hO hx (by
    unfold cellK; rw [if_neg (by omega), cellE_arrR hk, hN]
    have : (fun j => (gR σ x j).map (ro (upE E x q))) = (fun _ => none) := funext (fun j => by
      cases h : gR σ x j with
      | none => rfl
      | some y => exact absurd (hO.2.1 x j y h).1 hx)
    rw [this]; rfl)
  rw [← ew] at hP1 hD1
  exact k q p e s m args below meth c H1 locs ls A C hP1 hD1 hS1 hA (hO.new hx) hl
/-- a class that can be made here -/
def NWt (own : String) (i c : Nat) : Prop := ∃ r : vw_C, classes[c]? = some r ∧ Cond.classLink own i r.1 ∈ tb ∧ Cond.instantiable r.1 r.2.2 ∈ tb ∧ Cond.initialized r.1 ∈ tb ∧ r.2.2 = nfOf c ∧ c < 20
def dfK (c k : Nat) : Value := match fkind c k with
  | 0 => .int 0
  | 1 => .long 0
  | 5 => .int 0
  | _ => .null
def dfOK (c : Nat) : Prop := ∀ (r : vw_C), classes[c]? = some r → ∀ (k : Nat), k < r.2.2 → (parseFieldDescriptor (r.2.1 k).2.2.1).map defaultValue = some (dfK c k)
theorem K_new {i x c : Nat} (hd : decode M.2.1 pc = .ok (.new i, 3)) (hp : pc + 3 = pc') (hw : NWt M.1.cls i c) (hdf : dfOK c) (hk : kindP x = c) (hx : x ∉ P) (hR : cells + 1 ≤ R.cells ∧ slots + nfOf c ≤ R.slots) (k : ∀ q, JK (upE E x q) S (P ++ [x]) σ R (cells + 1) (slots + nfOf c) mc ms M pc' L (.ref q :: st) Q) : JK E S P σ R cells slots mc ms M pc L st Q := by
  subst hp; intro p e s m args below meth c' H locs ls A C hP hD hS hA hO hl
  obtain ⟨r, h1, h2, h3, h4, h5, h6⟩ := hw
  obtain ⟨w1, ⟨ty0, w2⟩, w3, w4⟩ := cw_all r (List.mem_of_getElem? h1)
  refine va_new (ci := c) (fs := (List.range (nfOf c)).map (dfK c)) (C := r.1) (T := r.2.1) (N := r.2.2) C.1 C.2.1 C.2.2.2.2.1 w1 ty0 w2 C.2.2.2.1 (C.2.2.2.2.1 _ h2) (C.2.2.2.2.1 _ h3) (C.2.2.2.2.1 _ h4) C.2.2.2.2.2.2.2.2.1 hP hD hS hA h1 (fun j hj => ?_) hR.1 (by rw [h5]; exact hR.2) hd (fun q H1 hP1 hD1 hS1 => ?_)
  · have h7 := hdf r h1 j hj
    rw [w2 j hj] at h7
    have h8 : defaultValue (ty0 j) = dfK c j := Option.some.inj h7
    rw [h8]
    unfold vp_V
    rw [List.getD_eq_getElem?_getD, List.getElem?_map, List.getElem?_range (by omega)]
    rfl
  · have ew : wsK (upE E x q) S σ (P ++ [x]) = wsK E S σ P ++ [(q, .inr (c, (List.range (nfOf c)).map (dfK c)))] := wsK_new hO hx (by
      unfold cellK
      rw [hk, if_pos h6]
      congr 3
      funext j
      unfold fvalK dfK
      have hxS : (x, j) ∉ S := fun z => hx (hO.1 x j z).1
      have hg : gR σ x j = none := by
        cases h : gR σ x j with
        | none => rfl
        | some y => exact absurd (hO.2.1 x j y h).1 hx
      by_cases g : fxK c j ∧ (x, j) ∉ S
      · rw [if_pos g]
        obtain ⟨⟨g0, g1, g2, g5⟩, _⟩ := g
        split
        · rename_i z; exact absurd z g0
        · rename_i z; exact absurd z g1
        · rename_i z; exact absurd z g5
        · rfl
      · rw [if_neg g]
        unfold fvalE
        rw [(hO.2.2.1 x hx).1 j, (hO.2.2.1 x hx).2 j, hg]
        split
        · rename_i h; rw [h]; rfl
        · rename_i h; rw [h]; rfl
        · rename_i h; rw [h]; rfl
        · rename_i h; rw [h]; rfl
        · rename_i n0 n1 n2 n5
          exact absurd ⟨⟨n0, n1, n2, n5⟩, hxS⟩ g)
    rw [← ew] at hP1 hD1
    rw [h5]
    exact k q p e s m args below meth c' H1 locs ls A C hP1 hD1 hS1 hA (hO.new hx) hl
end KR2
