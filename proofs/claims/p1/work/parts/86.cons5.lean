/-! E' has the places of E but those of Ls, which are new -/
def Ag (E E' : En_t) (Ls : List Nat) : Prop := SmE E E' ∧ ∀ p, p ∉ Ls → ro E' p = ro E p
theorem Ag.rf {E : En_t} : Ag E E [] := ⟨⟨rfl, rfl, rfl⟩, fun _ _ => rfl⟩
theorem SmE.tr {E E' E2 : En_t} (h : SmE E E') (g : SmE E' E2) : SmE E E2 := ⟨g.1.trans h.1, g.2.1.trans h.2.1, g.2.2.trans h.2.2⟩
theorem Ag.tr {E E' E2 : En_t} {Ls Ms Ns : List Nat} (h : Ag E E' Ls) (g : Ag E' E2 Ms) (hN : Ls ++ Ms = Ns) : Ag E E2 Ns := by
  subst hN
  exact ⟨h.1.tr g.1, fun p hp => (g.2 p (fun z => hp (List.mem_append_right _ z))).trans (h.2 p (fun z => hp (List.mem_append_left _ z)))⟩
theorem Ag.up (E : En_t) (x q : Nat) : Ag E (upE E x q) [x] := ⟨⟨rfl, rfl, rfl⟩, fun p hp => ro_up_n (fun e => hp (by rw [e]; exact List.mem_singleton_self x))⟩
section KA
variable {E0 E : En_t} {S : Sb} {P0 Ls Ls' : List Nat} {σ : S_t} {R : Room} {cells slots mc ms : Nat} {M : M_t} {pc pc' pc2 : Nat} {L L' : List (Nat × Value)} {st : List Value} {Q : U_t → Prop}
theorem nin2 {x : Nat} (h : x ∉ P0) (h2 : x ∉ Ls) : x ∉ P0 ++ Ls := fun z => (List.mem_append.mp z).elim h h2
/-- new int[n], and it is put into the object a0 at x0 -/
theorem K_arrI {x0 a0 x N i c k : Nat} {n : Int32} (hA : Ag E0 E Ls) (hd : decode M.2.1 pc = .ok (.newarray .int, 2)) (hp : pc + 2 = pc') (hd2 : decode M.2.1 pc' = .ok (.putfield i, 3)) (hp2 : pc' + 3 = pc2) (hw : Cond.arrayClass .int ∈ tb) (hk : kindP x = 20) (hN : lenP x = N) (hx : x ∉ P0) (hx2 : x ∉ Ls) (hn : ¬ n < 0) (hn2 : n.toNatClampNeg = N) (hb : N * 4 ≤ 536870912) (hR : cells + 1 ≤ R.cells ∧ slots + N ≤ R.slots)
    (hf : QLt M.1.cls i c k (.array .int)) (hc : c < 20) (hk0 : kindP x0 = c) (hx0 : x0 ∈ P0 ++ Ls) (ha0 : ro E x0 = a0) (hfk : fkind c k = 3) (hfy : finp c k x0 = x) (hL : Ls ++ [x] = Ls')
    (kk : ∀ E', Ag E0 E' Ls' → ro E' x0 = a0 → JK E' ((x0, k) :: S) (P0 ++ Ls') σ R (cells + 1) (slots + N) mc ms M pc2 L st Q) : JK E S (P0 ++ Ls) σ R cells slots mc ms M pc L (.int n :: .ref a0 :: st) Q := by
  subst hL
  refine K_newI hd hp hw hk hN (nin2 hx hx2) hn hn2 hb hR (fun q => ?_)
  have hne : x0 ≠ x := fun e => nin2 hx hx2 (e ▸ hx0)
  have hr : ro (upE E x q) x0 = a0 := by rw [ro_up_n hne]; exact ha0
  refine K_putF hd2 hp2 hf hc hk0 (List.mem_append_left _ hx0) (List.mem_append_right _ (List.mem_singleton_self x)) hr (ro_up_s E x q) (Or.inl hfk) hfy ⟨rfl, fun _ => rfl⟩ (fun _ => rfl) ?_
  rw [List.append_assoc]
  exact kk _ (hA.tr (Ag.up E x q) rfl) hr
theorem K_arrB {x0 a0 x N i c k : Nat} {n : Int32} (hA : Ag E0 E Ls) (hd : decode M.2.1 pc = .ok (.newarray .byte, 2)) (hp : pc + 2 = pc') (hd2 : decode M.2.1 pc' = .ok (.putfield i, 3)) (hp2 : pc' + 3 = pc2) (hw : Cond.arrayClass .byte ∈ tb) (hk : kindP x = 21) (hN : lenP x = N) (hx : x ∉ P0) (hx2 : x ∉ Ls) (hn : ¬ n < 0) (hn2 : n.toNatClampNeg = N) (hb : N * 1 ≤ 536870912) (hR : cells + 1 ≤ R.cells ∧ slots + N ≤ R.slots)
    (hf : QLt M.1.cls i c k (.array .byte)) (hc : c < 20) (hk0 : kindP x0 = c) (hx0 : x0 ∈ P0 ++ Ls) (ha0 : ro E x0 = a0) (hfk : fkind c k = 3) (hfy : finp c k x0 = x) (hL : Ls ++ [x] = Ls')
    (kk : ∀ E', Ag E0 E' Ls' → ro E' x0 = a0 → JK E' ((x0, k) :: S) (P0 ++ Ls') σ R (cells + 1) (slots + N) mc ms M pc2 L st Q) : JK E S (P0 ++ Ls) σ R cells slots mc ms M pc L (.int n :: .ref a0 :: st) Q := by
  subst hL
  refine K_newB hd hp hw hk hN (nin2 hx hx2) hn hn2 hb hR (fun q => ?_)
  have hne : x0 ≠ x := fun e => nin2 hx hx2 (e ▸ hx0)
  have hr : ro (upE E x q) x0 = a0 := by rw [ro_up_n hne]; exact ha0
  refine K_putF hd2 hp2 hf hc hk0 (List.mem_append_left _ hx0) (List.mem_append_right _ (List.mem_singleton_self x)) hr (ro_up_s E x q) (Or.inl hfk) hfy ⟨rfl, fun _ => rfl⟩ (fun _ => rfl) ?_
  rw [List.append_assoc]
  exact kk _ (hA.tr (Ag.up E x q) rfl) hr
theorem K_arrZ {x0 a0 x N i c k : Nat} {n : Int32} (hA : Ag E0 E Ls) (hd : decode M.2.1 pc = .ok (.newarray .boolean, 2)) (hp : pc + 2 = pc') (hd2 : decode M.2.1 pc' = .ok (.putfield i, 3)) (hp2 : pc' + 3 = pc2) (hw : Cond.arrayClass .boolean ∈ tb) (hk : kindP x = 22) (hN : lenP x = N) (hx : x ∉ P0) (hx2 : x ∉ Ls) (hn : ¬ n < 0) (hn2 : n.toNatClampNeg = N) (hb : N * 1 ≤ 536870912) (hR : cells + 1 ≤ R.cells ∧ slots + N ≤ R.slots)
    (hf : QLt M.1.cls i c k (.array .boolean)) (hc : c < 20) (hk0 : kindP x0 = c) (hx0 : x0 ∈ P0 ++ Ls) (ha0 : ro E x0 = a0) (hfk : fkind c k = 3) (hfy : finp c k x0 = x) (hL : Ls ++ [x] = Ls')
    (kk : ∀ E', Ag E0 E' Ls' → ro E' x0 = a0 → JK E' ((x0, k) :: S) (P0 ++ Ls') σ R (cells + 1) (slots + N) mc ms M pc2 L st Q) : JK E S (P0 ++ Ls) σ R cells slots mc ms M pc L (.int n :: .ref a0 :: st) Q := by
  subst hL
  refine K_newZ hd hp hw hk hN (nin2 hx hx2) hn hn2 hb hR (fun q => ?_)
  have hne : x0 ≠ x := fun e => nin2 hx hx2 (e ▸ hx0)
  have hr : ro (upE E x q) x0 = a0 := by rw [ro_up_n hne]; exact ha0
  refine K_putF hd2 hp2 hf hc hk0 (List.mem_append_left _ hx0) (List.mem_append_right _ (List.mem_singleton_self x)) hr (ro_up_s E x q) (Or.inl hfk) hfy ⟨rfl, fun _ => rfl⟩ (fun _ => rfl) ?_
  rw [List.append_assoc]
  exact kk _ (hA.tr (Ag.up E x q) rfl) hr
theorem K_arrJ {x0 a0 x N i c k : Nat} {n : Int32} (hA : Ag E0 E Ls) (hd : decode M.2.1 pc = .ok (.newarray .long, 2)) (hp : pc + 2 = pc') (hd2 : decode M.2.1 pc' = .ok (.putfield i, 3)) (hp2 : pc' + 3 = pc2) (hw : Cond.arrayClass .long ∈ tb) (hk : kindP x = 23) (hN : lenP x = N) (hx : x ∉ P0) (hx2 : x ∉ Ls) (hn : ¬ n < 0) (hn2 : n.toNatClampNeg = N) (hb : N * 8 ≤ 536870912) (hR : cells + 1 ≤ R.cells ∧ slots + N ≤ R.slots)
    (hf : QLt M.1.cls i c k (.array .long)) (hc : c < 20) (hk0 : kindP x0 = c) (hx0 : x0 ∈ P0 ++ Ls) (ha0 : ro E x0 = a0) (hfk : fkind c k = 3) (hfy : finp c k x0 = x) (hL : Ls ++ [x] = Ls')
    (kk : ∀ E', Ag E0 E' Ls' → ro E' x0 = a0 → JK E' ((x0, k) :: S) (P0 ++ Ls') σ R (cells + 1) (slots + N) mc ms M pc2 L st Q) : JK E S (P0 ++ Ls) σ R cells slots mc ms M pc L (.int n :: .ref a0 :: st) Q := by
  subst hL
  refine K_newJ hd hp hw hk hN (nin2 hx hx2) hn hn2 hb hR (fun q => ?_)
  have hne : x0 ≠ x := fun e => nin2 hx hx2 (e ▸ hx0)
  have hr : ro (upE E x q) x0 = a0 := by rw [ro_up_n hne]; exact ha0
  refine K_putF hd2 hp2 hf hc hk0 (List.mem_append_left _ hx0) (List.mem_append_right _ (List.mem_singleton_self x)) hr (ro_up_s E x q) (Or.inl hfk) hfy ⟨rfl, fun _ => rfl⟩ (fun _ => rfl) ?_
  rw [List.append_assoc]
  exact kk _ (hA.tr (Ag.up E x q) rfl) hr
end KA
theorem wI : Cond.arrayClass .int ∈ tb := tb_mem 205 (by decide +kernel) (by decide +kernel)
theorem wB : Cond.arrayClass .byte ∈ tb := tb_mem 165 (by decide +kernel) (by decide +kernel)
theorem wZ : Cond.arrayClass .boolean ∈ tb := tb_mem 1438 (by decide +kernel) (by decide +kernel)
theorem wJ : Cond.arrayClass .long ∈ tb := tb_mem 343 (by decide +kernel) (by decide +kernel)
theorem wOi : Cond.instanceMethod objectInit ∈ tb := tb_mem 139 (by decide +kernel) (by decide +kernel)
theorem wOc : Cond.code objectInit ⟨#[0xb1]⟩ 1 none ∈ tb := tb_mem 140 (by decide +kernel) (by decide +kernel)
theorem JK_P {E : En_t} {S : Sb} {P P' : List Nat} {σ : S_t} {R : Room} {cells slots mc ms : Nat} {M : M_t} {pc : Nat} {L : List (Nat × Value)} {st : List Value} {Q : U_t → Prop} (h : P' = P) (k : JK E S P' σ R cells slots mc ms M pc L st Q) : JK E S P σ R cells slots mc ms M pc L st Q := h ▸ k
section KB
variable {E0 E : En_t} {S : Sb} {P P0 Ls Ls' : List Nat} {σ : S_t} {R : Room} {d MC MS cells slots mc ms : Nat} {M M' : M_t} {pc pc' pc2 : Nat} {L L' : List (Nat × Value)} {st stk : List Value} {Q : U_t → Prop}
theorem K_newI3 {x N : Nat} {n : Int32} (hA : Ag E0 E Ls) (hd : decode M.2.1 pc = .ok (.newarray .int, 2)) (hp : pc + 2 = pc') (hw : Cond.arrayClass .int ∈ tb) (hk : kindP x = 20) (hN : lenP x = N) (hx : x ∉ P0) (hx2 : x ∉ Ls) (hn : ¬ n < 0) (hn2 : n.toNatClampNeg = N) (hb : N * 4 ≤ 536870912) (hR : cells + 1 ≤ R.cells ∧ slots + N ≤ R.slots) (hL : Ls ++ [x] = Ls')
    (kk : ∀ E' q, Ag E0 E' Ls' → ro E' x = q → (∀ p, p ≠ x → ro E' p = ro E p) → JK E' S (P0 ++ Ls') σ R (cells + 1) (slots + N) mc ms M pc' L (.ref q :: st) Q) : JK E S (P0 ++ Ls) σ R cells slots mc ms M pc L (.int n :: st) Q := by
  subst hL
  refine K_newI hd hp hw hk hN (nin2 hx hx2) hn hn2 hb hR (fun q => ?_)
  rw [List.append_assoc]
  exact kk _ q (hA.tr (Ag.up E x q) rfl) (ro_up_s E x q) (fun p hp => ro_up_n hp)
theorem K_newT3 {i x N : Nat} {n : Int32} (hA : Ag E0 E Ls) (hd : decode M.2.1 pc = .ok (.anewarray i, 3)) (hp : pc + 3 = pc') (hw : Cond.classLink M.1.cls i "CanonPress$Tree" ∈ tb) (hk : kindP x = 24) (hN : lenP x = N) (hx : x ∉ P0) (hx2 : x ∉ Ls) (hn : ¬ n < 0) (hn2 : n.toNatClampNeg = N) (hb : N * 4 ≤ 536870912) (hR : cells + 1 ≤ R.cells ∧ slots + N ≤ R.slots) (hL : Ls ++ [x] = Ls')
    (kk : ∀ E' q, Ag E0 E' Ls' → ro E' x = q → (∀ p, p ≠ x → ro E' p = ro E p) → JK E' S (P0 ++ Ls') σ R (cells + 1) (slots + N) mc ms M pc' L (.ref q :: st) Q) : JK E S (P0 ++ Ls) σ R cells slots mc ms M pc L (.int n :: st) Q := by
  subst hL
  refine K_newT hd hp hw hk hN (nin2 hx hx2) hn hn2 hb hR (fun q => ?_)
  rw [List.append_assoc]
  exact kk _ q (hA.tr (Ag.up E x q) rfl) (ro_up_s E x q) (fun p hp => ro_up_n hp)
theorem K_new3 {i x c : Nat} (hA : Ag E0 E Ls) (hd : decode M.2.1 pc = .ok (.new i, 3)) (hp : pc + 3 = pc') (hw : NWt M.1.cls i c) (hdf : dfOK c) (hk : kindP x = c) (hx : x ∉ P0) (hx2 : x ∉ Ls) (hR : cells + 1 ≤ R.cells ∧ slots + nfOf c ≤ R.slots) (hL : Ls ++ [x] = Ls')
    (kk : ∀ E' q, Ag E0 E' Ls' → ro E' x = q → (∀ p, p ≠ x → ro E' p = ro E p) → JK E' S (P0 ++ Ls') σ R (cells + 1) (slots + nfOf c) mc ms M pc' L (.ref q :: st) Q) : JK E S (P0 ++ Ls) σ R cells slots mc ms M pc L st Q := by
  subst hL
  refine K_new hd hp hw hdf hk (nin2 hx hx2) hR (fun q => ?_)
  rw [List.append_assoc]
  exact kk _ q (hA.tr (Ag.up E x q) rfl) (ro_up_s E x q) (fun p hp => ro_up_n hp)
theorem K_callN3 {i a : Nat} {As : List Value} {mc' ms' : Nat} {Ms : List Nat} {S' : Sb} {σ' : S_t} (hA : Ag E0 E Ls) (hd : decode M.2.1 pc = .ok (.invokespecial i, 3)) (hp : pc + 3 = pc') (hn : (M.1.cls, i, M') ∈ nestL) (hm : MKt M' As.length) (hs : stk = As.reverse ++ .ref a :: st) (hw : (st.map fun v => v.category).sum ≤ 8) (hR : cells + mc' ≤ MC ∧ slots + ms' ≤ MS)
    (kc : CK E S (P0 ++ Ls) σ d mc' ms' M' (.ref a :: As) (fun u => Ag E u.1 Ms ∧ u.2.1 = S' ∧ u.2.2.1 = (P0 ++ Ls) ++ Ms ∧ u.2.2.2 = σ')) (hL : Ls ++ Ms = Ls')
    (kk : ∀ E', Ag E0 E' Ls' → Ag E E' Ms → JK E' S' (P0 ++ Ls') σ' (rmK (d + 1) MC MS) (cells + mc') (slots + ms') mc ms M pc' L st Q) : JK E S (P0 ++ Ls) σ (rmK (d + 1) MC MS) cells slots mc ms M pc L stk Q := by
  subst hL
  refine K_callN hd hp hn hm hs hw hR (kc.mono (fun u hu => ?_))
  obtain ⟨E', S2, P2, σ2⟩ := u
  obtain ⟨h1, h2, h3, h4⟩ := hu
  simp only at h1 h2 h3 h4
  subst h2; subst h3; subst h4
  refine ⟨h1.1, ?_⟩
  rw [List.append_assoc]
  exact kk E' (hA.tr h1 rfl) h1
theorem K_callI3 {i a : Nat} {As : List Value} {mc' ms' : Nat} {Ms : List Nat} {S' : Sb} {σ' : S_t} (hA : Ag E0 E Ls) (hd : decode M.2.1 pc = .ok (.invokespecial i, 3)) (hp : pc + 3 = pc') (hn : Cond.methodLink M.1.cls i M'.1 ∈ tb) (hm : MKt M' As.length) (hs : stk = As.reverse ++ .ref a :: st) (hw : (st.map fun v => v.category).sum ≤ 8) (hR : cells + mc' ≤ MC ∧ slots + ms' ≤ MS)
    (kc : CK E S (P0 ++ Ls) σ d mc' ms' M' (.ref a :: As) (fun u => Ag E u.1 Ms ∧ u.2.1 = S' ∧ u.2.2.1 = (P0 ++ Ls) ++ Ms ∧ u.2.2.2 = σ')) (hL : Ls ++ Ms = Ls')
    (kk : ∀ E', Ag E0 E' Ls' → Ag E E' Ms → JK E' S' (P0 ++ Ls') σ' (rmK (d + 1) MC MS) (cells + mc') (slots + ms') mc ms M pc' L st Q) : JK E S (P0 ++ Ls) σ (rmK (d + 1) MC MS) cells slots mc ms M pc L stk Q := by
  subst hL
  refine K_callI hd hp hn hm hs hw hR (kc.mono (fun u hu => ?_))
  obtain ⟨E', S2, P2, σ2⟩ := u
  obtain ⟨h1, h2, h3, h4⟩ := hu
  simp only at h1 h2 h3 h4
  subst h2; subst h3; subst h4
  refine ⟨h1.1, ?_⟩
  rw [List.append_assoc]
  exact kk E' (hA.tr h1 rfl) h1
theorem K_iload_n {i : Fin 4} {x : Int32} (hd : decode M.2.1 pc = .ok (.iload_n i, 1)) (hp : pc + 1 = pc') (j : Nat) (hj : L[j]? = some ((i : Nat), .int x)) (k : JK E S P σ R cells slots mc ms M pc' L (.int x :: st) Q) : JK E S P σ R cells slots mc ms M pc L st Q := by
  subst hp; intro p e s m args below meth c H locs ls A C hP hD hS hA hO hl; exact lv_iload_n C.1 C.2.1 hd rfl (lv_at hl j hj) (k p e s m args below meth c H locs ls A C hP hD hS hA hO hl)
theorem K_istore_n {i : Fin 4} {x : Int32} (hd : decode M.2.1 pc = .ok (.istore_n i, 1)) (hp : pc + 1 = pc') (hn : (i : Nat) < M.2.2.1) (hL : ((i : Nat), Value.int x) :: L.filter (fun q => !(q.1 == (i : Nat)) && !(q.1 + 1 == (i : Nat) && q.2.category == 2)) = L') (k : JK E S P σ R cells slots mc ms M pc' L' st Q) : JK E S P σ R cells slots mc ms M pc L (Value.int x :: st) Q := by
  subst hp; intro p e s m args below meth c H locs ls A C hP hD hS hA hO hl; exact lv_istore_n C.1 C.2.1 hd rfl hl hn hL (fun ls hl => k p e s m args below meth c H locs ls A C hP hD hS hA hO hl)
theorem K_iinc {i : Nat} {n : Int} {x v : Int32} (hd : decode M.2.1 pc = .ok (.iinc i n, 3)) (hp : pc + 3 = pc') (j : Nat) (hj : L[j]? = some (i, .int x)) (hv : x + Int32.ofInt n = v) (hn : i < M.2.2.1) (hL : (i, Value.int v) :: L.filter (fun q => !(q.1 == i) && !(q.1 + 1 == i && q.2.category == 2)) = L') (k : JK E S P σ R cells slots mc ms M pc' L' st Q) : JK E S P σ R cells slots mc ms M pc L st Q := by
  subst hp; intro p e s m args below meth c H locs ls A C hP hD hS hA hO hl; exact lv_iinc C.1 C.2.1 hd hl (k := j) hj hv hn hL (fun ls hl => k p e s m args below meth c H locs ls A C hP hD hS hA hO hl)
theorem K_icge_n {x y : Int32} {off : Int} (hd : decode M.2.1 pc = .ok (.if_icmp .ge off, 3)) (hp : pc + 3 = pc') (tgt : Nat) (ht : (pc : Int) + off = (tgt : Int)) (hno : ¬ y ≤ x) (k : JK E S P σ R cells slots mc ms M pc' L st Q) : JK E S P σ R cells slots mc ms M pc L (.int y :: .int x :: st) Q := by
  subst hp; intro p e s m args below meth c H locs ls A C hP hD hS hA hO hl; exact lv_icmp_ge C.1 C.2.1 hd ht (fun h => absurd h hno) (fun _ => k p e s m args below meth c H locs ls A C hP hD hS hA hO hl)
theorem K_icge_y {x y : Int32} {off : Int} {tgt : Nat} (hd : decode M.2.1 pc = .ok (.if_icmp .ge off, 3)) (ht : (pc : Int) + off = (tgt : Int)) (hy : y ≤ x) (k : JK E S P σ R cells slots mc ms M tgt L st Q) : JK E S P σ R cells slots mc ms M pc L (.int y :: .int x :: st) Q := by
  intro p e s m args below meth c H locs ls A C hP hD hS hA hO hl; exact lv_icmp_ge C.1 C.2.1 hd ht (fun _ => k p e s m args below meth c H locs ls A C hP hD hS hA hO hl) (fun h => absurd hy h)
theorem K_goto {off : Int} {tgt : Nat} (hd : decode M.2.1 pc = .ok (.goto off, 3)) (ht : (pc : Int) + off = (tgt : Int)) (k : JK E S P σ R cells slots mc ms M tgt L st Q) : JK E S P σ R cells slots mc ms M pc L st Q := by
  intro p e s m args below meth c H locs ls A C hP hD hS hA hO hl; exact lv_goto C.1 C.2.1 hd ht (k p e s m args below meth c H locs ls A C hP hD hS hA hO hl)
theorem K_ldc {i : Nat} {v : Int32} (hd : decode M.2.1 pc = .ok (.ldc i, 2)) (hp : pc + 2 = pc') (hw : Cond.constant M.1.cls i v ∈ tb) (k : JK E S P σ R cells slots mc ms M pc' L (.int v :: st) Q) : JK E S P σ R cells slots mc ms M pc L st Q := by
  subst hp; intro p e s m args below meth c H locs ls A C hP hD hS hA hO hl; exact lv_ldc C.1 C.2.1 C.2.2.2.1 (C.2.2.2.2.1 _ hw) hd (k p e s m args below meth c H locs ls A C hP hD hS hA hO hl)
end KB
