/-! making: the world while the objects are made: the places P that are there, the fixed references S that are set -/
abbrev Sb : Type := List (Nat × Nat)
abbrev fxK (c k : Nat) : Prop := fkind c k ≠ 0 ∧ fkind c k ≠ 1 ∧ fkind c k ≠ 2 ∧ fkind c k ≠ 5
def fvalK (E : En_t) (S : Sb) (σ : S_t) (c p k : Nat) : Value := if fxK c k ∧ (p, k) ∉ S then .null else fvalE E σ c p k
def cellK (E : En_t) (S : Sb) (σ : S_t) (p : Nat) : va_E := if kindP p < 20 then .inr (kindP p, (List.range (nfOf (kindP p))).map (fvalK E S σ (kindP p) p)) else cellE E σ p
def wsK (E : En_t) (S : Sb) (σ : S_t) (P : List Nat) : va_W := P.map (fun p => (ro E p, cellK E S σ p))
def upE (E : En_t) (p q : Nat) : En_t := (E.1, E.2.1, (fun r => if r = p then q else ro E r), E.2.2.2)
def NDx (P : List Nat) : Prop := ∀ (i j p : Nat), P[i]? = some p → P[j]? = some p → i = j
def OKK (S : Sb) (σ : S_t) (P : List Nat) : Prop := (∀ r k, (r, k) ∈ S → r ∈ P ∧ finp (kindP r) k r ∈ P) ∧ (∀ r k x, gR σ r k = some x → r ∈ P ∧ x ∈ P) ∧ (∀ p, p ∉ P → (∀ k, gI σ p k = 0) ∧ ∀ k, gL σ p k = 0) ∧ NDx P
theorem ro_up (E : En_t) (p q r : Nat) : ro (upE E p q) r = if r = p then q else ro E r := rfl
theorem ro_up_n {E : En_t} {p q r : Nat} (h : r ≠ p) : ro (upE E p q) r = ro E r := by rw [ro_up, if_neg h]
theorem ro_up_s (E : En_t) (p q : Nat) : ro (upE E p q) p = q := by rw [ro_up, if_pos rfl]
theorem map_ro_up {E : En_t} {p q : Nat} {o : Option Nat} (h : ∀ x, o = some x → x ≠ p) : o.map (ro (upE E p q)) = o.map (ro E) := by
  cases o with
  | none => rfl
  | some x => show some _ = some _; rw [ro_up_n (h x rfl)]
theorem cellK_up {E : En_t} {S : Sb} {σ : S_t} {P : List Nat} {p q r : Nat} (h : OKK S σ P) (hp : p ∉ P) (hr : r ∈ P) : cellK (upE E p q) S σ r = cellK E S σ r := by
  have hg : ∀ k x, gR σ r k = some x → x ≠ p := fun k x hx e => hp (e ▸ (h.2.1 r k x hx).2)
  unfold cellK
  by_cases g : kindP r < 20
  · rw [if_pos g, if_pos g]
    congr 3
    funext k
    unfold fvalK
    by_cases g2 : fxK (kindP r) k ∧ (r, k) ∉ S
    · rw [if_pos g2, if_pos g2]
    · rw [if_neg g2, if_neg g2]
      unfold fvalE
      split
      · rfl
      · rfl
      · rw [map_ro_up (hg k)]
      · rfl
      · rename_i n0 n1 n2 n5
        have hS : (r, k) ∈ S := by
          refine Classical.not_not.mp (fun hn => g2 ⟨⟨?_, ?_, ?_, ?_⟩, hn⟩) <;> intro e
          · exact n0 e
          · exact n1 e
          · exact n2 e
          · exact n5 e
        show Value.ref _ = Value.ref _
        have hf : finp (kindP r) k r ≠ p := fun e => hp (e ▸ (h.1 r k hS).2)
        rw [ro_up_n hf]
  · rw [if_neg g, if_neg g]
    unfold cellE
    rw [if_neg g, if_neg g]
    have e : (fun j => (gR σ r j).map (ro (upE E p q))) = (fun j => (gR σ r j).map (ro E)) := funext (fun j => map_ro_up (hg j))
    rw [e]
    rfl
theorem wsK_up {E : En_t} {S : Sb} {σ : S_t} {P : List Nat} {p q : Nat} (h : OKK S σ P) (hp : p ∉ P) : wsK (upE E p q) S σ P = wsK E S σ P := by
  unfold wsK
  refine List.map_congr_left (fun r hr => ?_)
  have hrp : r ≠ p := fun e => hp (e ▸ hr)
  rw [cellK_up h hp hr, ro_up_n hrp]
theorem wsK_new {E : En_t} {S : Sb} {σ : S_t} {P : List Nat} {p q : Nat} {c : va_E} (h : OKK S σ P) (hp : p ∉ P) (hc : cellK (upE E p q) S σ p = c) : wsK (upE E p q) S σ (P ++ [p]) = wsK E S σ P ++ [(q, c)] := by
  have e : wsK (upE E p q) S σ (P ++ [p]) = wsK (upE E p q) S σ P ++ [(ro (upE E p q) p, cellK (upE E p q) S σ p)] := by unfold wsK; rw [List.map_append]; rfl
  rw [e, wsK_up h hp, ro_up_s, hc]
theorem OKK.new {S : Sb} {σ : S_t} {P : List Nat} {p : Nat} (h : OKK S σ P) (hp : p ∉ P) : OKK S σ (P ++ [p]) := by
  refine ⟨fun r k hr => ⟨List.mem_append_left _ (h.1 r k hr).1, List.mem_append_left _ (h.1 r k hr).2⟩, fun r k x hx => ⟨List.mem_append_left _ (h.2.1 r k x hx).1, List.mem_append_left _ (h.2.1 r k x hx).2⟩, fun x hx => h.2.2.1 x (fun z => hx (List.mem_append_left _ z)), ?_⟩
  intro i j x hi hj
  rw [List.getElem?_append] at hi hj
  split at hi
  · split at hj
    · exact h.2.2.2 i j x hi hj
    · exfalso
      have e := List.mem_of_getElem? hj
      rw [List.mem_singleton] at e
      exact hp (e ▸ List.mem_of_getElem? hi)
  · split at hj
    · exfalso
      have e := List.mem_of_getElem? hi
      rw [List.mem_singleton] at e
      exact hp (e ▸ List.mem_of_getElem? hj)
    · have a1 := (List.getElem?_eq_some_iff.mp hi).1
      have a2 := (List.getElem?_eq_some_iff.mp hj).1
      simp at a1 a2
      omega
/-- a cell at its index -/
theorem wsK_get {E : En_t} {S : Sb} {σ : S_t} {P : List Nat} {p : Nat} (hp : p ∈ P) : ∃ i : Nat, P[i]? = some p ∧ (wsK E S σ P)[i]? = some (ro E p, cellK E S σ p) := by
  obtain ⟨i, hi⟩ := List.mem_iff_getElem?.mp hp
  refine ⟨i, hi, ?_⟩
  unfold wsK
  rw [List.getElem?_map, hi]; rfl
theorem wsK_set {E : En_t} {S S' : Sb} {σ σ' : S_t} {P : List Nat} {p i : Nat} {c : va_E} (hn : NDx P) (hi : P[i]? = some p) (hc : c = cellK E S' σ' p) (h : ∀ q, q ≠ p → cellK E S' σ' q = cellK E S σ q) : (wsK E S σ P).set i (ro E p, c) = wsK E S' σ' P := by
  subst hc
  apply List.ext_getElem?
  intro j
  unfold wsK
  rw [List.getElem?_set, List.getElem?_map, List.getElem?_map, List.length_map]
  have hil : i < P.length := (List.getElem?_eq_some_iff.mp hi).1
  by_cases e : i = j
  · subst e; rw [if_pos rfl, if_pos hil, hi]; rfl
  · rw [if_neg e]
    cases hj : P[j]? with
    | none => rfl
    | some q =>
      have : q ≠ p := fun z => e (hn i j p hi (z ▸ hj))
      show some (ro E q, cellK E S σ q) = some (ro E q, cellK E S' σ' q)
      rw [h q this]
/-! the judgement -/
def nestL : List (String × Nat × M_t) := [("CanonPress", 9, m_Te_init), ("CanonPress", 18, m_Ou_init), ("CanonPress", 25, m_Nu_init), ("CanonPress", 32, m_Pr_init), ("CanonPress", 57, m_Po_init), ("CanonPress", 64, m_We_init), ("CanonPress", 75, m_Tr_init), ("CanonPress$Numeral", 17, m_Bi_init), ("CanonPress$Printer", 11, m_Bi_init), ("CanonPress$Reader", 11, m_Tr_init)]
def NstE (U : State) : Prop := (∀ q ∈ nestL, va_Nw (.methodLinkNest q.1 q.2.1 q.2.2.1 "CanonPress") U) ∧ va_AO "CanonPress$Tree" U
abbrev U_t : Type := En_t × Sb × List Nat × S_t
/-- what stands behind a constructor -/
def BK (E : En_t) (A : Nat → Prop) (u : U_t) (t : State) : Prop := va_P E.2.1 classes (wsK u.1 u.2.1 u.2.2.2 u.2.2.1) t.heap ∧ va_D A (wsK u.1 u.2.1 u.2.2.2 u.2.2.1) ∧ OKK u.2.1 u.2.2.2 u.2.2.1
def CtxK (E : En_t) (M : M_t) (p : Program) (s : State) (m : MethodId) (args : Array Value) (meth : Method) (c : Code) : Prop :=
  p.tables.exec = Jvm.exec ∧ c.code = M.2.1 ∧ c.maxLocals = M.2.2.1 ∧ s.vm.findClass M.1.cls = some m.cls ∧ (∀ w ∈ tb, w.before args s = true) ∧ meth.sig.returnType = M.2.2.2 ∧ meth.locks = false ∧ meth.name = "<init>" ∧ va_K E.2.1 classes (tysE E) s ∧ NstE s
def JK (E : En_t) (S : Sb) (P : List Nat) (σ : S_t) (R : Room) (cells slots mc ms : Nat) (M : M_t) (pc : Nat) (L : List (Nat × Value)) (st : List Value) (Q : U_t → Prop) : Prop :=
  ∀ (p : Program) (e : Env) (s : State) (m : MethodId) (args : Array Value) (below : List Frame) (meth : Method) (c : Code) (H : Heap) (locs : List Loc) (ls : Array Slot) (A : Nat → Prop), CtxK E M p s m args meth c → va_P E.2.1 classes (wsK E S σ P) H → va_D A (wsK E S σ P) → va_S A s.heap H locs → (∀ q : Nat, s.heap.size ≤ q → A q) → OKK S σ P → lv_has ls M.2.2.1 L →
    W p E.1 e R s m args below meth c H locs cells slots (MQ below (va_Qv Q (BK E A) A) args s mc ms A) (F0 m pc ls st)
section KR
variable {E : En_t} {S : Sb} {P : List Nat} {σ : S_t} {R : Room} {cells slots mc ms : Nat} {M : M_t} {pc pc' : Nat} {L L' : List (Nat × Value)} {st : List Value} {Q : U_t → Prop}
theorem K_aload_n {i : Fin 4} {a : Nat} (hd : decode M.2.1 pc = .ok (.aload_n i, 1)) (hp : pc + 1 = pc') (j : Nat) (hj : L[j]? = some ((i : Nat), .ref a)) (k : JK E S P σ R cells slots mc ms M pc' L (.ref a :: st) Q) : JK E S P σ R cells slots mc ms M pc L st Q := by
  subst hp; intro p e s m args below meth c H locs ls A C hP hD hS hA hO hl; exact lv_aload_n C.1 C.2.1 hd rfl (lv_at hl j hj) (k p e s m args below meth c H locs ls A C hP hD hS hA hO hl)
theorem K_iconst {n : Int} {v : Int32} (hd : decode M.2.1 pc = .ok (.iconst n, 1)) (hp : pc + 1 = pc') (hv : Int32.ofInt n = v) (k : JK E S P σ R cells slots mc ms M pc' L (.int v :: st) Q) : JK E S P σ R cells slots mc ms M pc L st Q := by
  subst hp; intro p e s m args below meth c H locs ls A C hP hD hS hA hO hl; exact lv_iconst C.1 C.2.1 hd hv (k p e s m args below meth c H locs ls A C hP hD hS hA hO hl)
theorem K_bipush {n : Int} {v : Int32} (hd : decode M.2.1 pc = .ok (.bipush n, 2)) (hp : pc + 2 = pc') (hv : (Int8.ofInt n).toInt32 = v) (k : JK E S P σ R cells slots mc ms M pc' L (.int v :: st) Q) : JK E S P σ R cells slots mc ms M pc L st Q := by
  subst hp; intro p e s m args below meth c H locs ls A C hP hD hS hA hO hl; exact lv_bipush C.1 C.2.1 hd hv (k p e s m args below meth c H locs ls A C hP hD hS hA hO hl)
theorem K_sipush {n : Int} {v : Int32} (hd : decode M.2.1 pc = .ok (.sipush n, 3)) (hp : pc + 3 = pc') (hv : (Int16.ofInt n).toInt32 = v) (k : JK E S P σ R cells slots mc ms M pc' L (.int v :: st) Q) : JK E S P σ R cells slots mc ms M pc L st Q := by
  subst hp; intro p e s m args below meth c H locs ls A C hP hD hS hA hO hl; exact lv_sipush C.1 C.2.1 hd hv (k p e s m args below meth c H locs ls A C hP hD hS hA hO hl)
theorem K_dup {v : Value} (hd : decode M.2.1 pc = .ok (.dup, 1)) (hp : pc + 1 = pc') (hv : v.category = 1) (k : JK E S P σ R cells slots mc ms M pc' L (v :: v :: st) Q) : JK E S P σ R cells slots mc ms M pc L (v :: st) Q := by
  subst hp; intro p e s m args below meth c H locs ls A C hP hD hS hA hO hl; exact lv_dup C.1 C.2.1 hd hv (k p e s m args below meth c H locs ls A C hP hD hS hA hO hl)
theorem K_ret (hd : decode M.2.1 pc = .ok (.return_, 1)) (hr : M.2.2.2 = none) (hc : cells = mc) (hs : slots = ms) (h : Q (E, S, P, σ)) : JK E S P σ R cells slots mc ms M pc L [] Q := by
  subst hc; subst hs
  intro p e s m args below meth c H locs ls A C hP hD hS hA hO hl
  exact W.vret C.1 C.2.1 (by rw [C.2.2.2.2.2.1, hr]) (fun t ht hW => ⟨⟨(E, S, P, σ), rfl, h, by rw [ht]; exact hP, hD, hO⟩, hS.F ht⟩) hS.2.2 hd C.2.2.2.2.2.2.1
theorem K_objInit {i a : Nat} (hd : decode M.2.1 pc = .ok (.invokespecial i, 3)) (hp : pc + 3 = pc') (hl0 : Cond.methodLink M.1.cls i objectInit ∈ tb) (hm : Cond.instanceMethod objectInit ∈ tb) (hcd : Cond.code objectInit ⟨#[0xb1]⟩ 1 none ∈ tb) (hR : 1 ≤ R.frames ∧ 20 ≤ R.locals) (k : JK E S P σ R cells slots mc ms M pc' L [] Q) : JK E S P σ R cells slots mc ms M pc L [.ref a] Q := by
  subst hp; intro p e s m args below meth c H locs ls A C hP hD hS hA hO hl
  refine W.objInit C.1 C.2.1 C.2.2.2.1 (C.2.2.2.2.1 _ hl0) (C.2.2.2.2.1 _ hm) (C.2.2.2.2.1 _ hcd) rfl (by rw [C.2.2.1]; exact hl.1) rfl hd hR.1 (Nat.le_trans (show 2 * 0 + 0 + 12 ≤ 20 by decide) hR.2) ?_
  exact W.eq (g2 := F0 m (pc + 3) ls []) rfl (k p e s m args below meth c H locs ls A C hP hD hS hA hO hl)
end KR
