/-! contracts of constructors, and their calls -/
def rmK (d mc ms : Nat) : Room := { frames := d, cells := mc, slots := ms, locals := 64 * d }
def PcK (E : En_t) (S : Sb) (P : List Nat) (σ : S_t) (sz : Nat) (U : State) : Prop := U.heap.size = sz ∧ va_P E.2.1 classes (wsK E S σ P) U.heap ∧ va_K E.2.1 classes (tysE E) U ∧ NstE U ∧ va_D (fun _ => True) (wsK E S σ P) ∧ OKK S σ P
def CK (E : En_t) (S : Sb) (P : List Nat) (σ : S_t) (d mc ms : Nat) (M : M_t) (av : List Value) (Q : U_t → Prop) : Prop := ∀ sz, Met E.1 M.1 (wM M) (rmK d mc ms) (va_Pc av (PcK E S P σ sz)) (va_Qv Q (BK E (va_A (wsK E S σ P) sz)) (va_A (wsK E S σ P) sz)) mc ms (va_A (wsK E S σ P) sz)
theorem CK.of {E : En_t} {S : Sb} {P : List Nat} {σ : S_t} {d mc ms : Nat} {M : M_t} {av : List Value} {Q : U_t → Prop} {L : List (Nat × Value)} (hn : plainName M.1.cls = true) (hi : M.1.name = "<init>") (hlen : (lg_sl av).length ≤ M.2.2.1) (hL : lv_args 0 av = L) (k : JK E S P σ (rmK d mc ms) 0 0 mc ms M 0 L [] Q) : CK E S P σ d mc ms M av Q := by
  intro sz
  refine Met.ofW (cc := M.2.1) (maxL := M.2.2.1) (ret := M.2.2.2) hn rfl ?_
  intro p e s m args below meth c s₁ B hml hv
  obtain ⟨rfl, hsz, hP, hK, hN, hD, hO⟩ := hv
  subst hsz
  have hts := atoms_spec (ws := wM M) B.pre
  rw [lg_entry_eq]
  exact k p e s m _ below meth c s.heap [] _ _ ⟨B.exec, B.bytes, hml, findClass_of_methodNamed B.named, fun w hw => hts w (List.mem_cons_of_mem _ hw), B.returns, B.notSynchronized, ((name_of_methodNamed B.named B.method).1).trans hi, hK, hN⟩ hP hD.self va_S.rf (fun q h => Or.inr h) hO (hL ▸ lv_entry av hlen)
theorem CK.mono {E : En_t} {S : Sb} {P : List Nat} {σ : S_t} {d mc ms : Nat} {M : M_t} {av : List Value} {Q Q' : U_t → Prop} (k : CK E S P σ d mc ms M av Q) (h : ∀ u, Q u → Q' u) : CK E S P σ d mc ms M av Q' := by
  intro sz p e ha hc hk s m args below hf hp hP hT
  obtain ⟨kk, o, h1, h2, h3, ⟨⟨⟨u, q1, q2, q3⟩, q4⟩, q5⟩⟩ := k sz p e ha hc hk s m args below hf hp hP hT
  exact ⟨kk, o, h1, h2, h3, ⟨⟨⟨u, q1, h u q2, q3⟩, q4⟩, q5⟩⟩
theorem NstE.warm {u U : State} (hW : u.WarmedH U.vm) (h : NstE u) : NstE U := ⟨fun q hq => (h.1 q hq).warmM hW, h.2.moved hW.alike⟩
theorem NstE.same {u U : State} (hv : u.vm = U.vm) (ha : u.vm.Alike U.vm) (h : NstE u) : NstE U := ⟨fun q hq => (h.1 q hq).same rfl hv, h.2.moved ha⟩
theorem PcK_blind {E : En_t} {S : Sb} {P : List Nat} {σ : S_t} {sz : Nat} {av : List Value} : FrameBlind (va_Pc av (PcK E S P σ sz)) := by
  intro a U g mk q
  obtain ⟨q0, q1, qP, qK, qN, qD⟩ := q
  exact ⟨q0, q1, qP, va_K.moved (u := U) (U := U.calling g mk a) (Vm.Alike.refl U.vm) qK, NstE.same (u := U) (U := U.calling g mk a) rfl (Vm.Alike.refl U.vm) qN, qD⟩
def MKt (M : M_t) (n : Nat) : Prop := Cond.instanceMethod M.1 ∈ tb ∧ Cond.initialized M.1.cls ∈ tb ∧ Cond.code M.1 M.2.1 M.2.2.1 M.2.2.2 ∈ tb ∧ M.1.cls ≠ "java/lang/invoke/MethodHandle" ∧ M.1.cls ≠ "java/lang/invoke/VarHandle" ∧ (parseMethodDescriptor M.1.desc).map (fun d => d.parameters.length) = some n ∧ M.1.name = "<init>" ∧ M.2.2.2 = none ∧ M.2.2.1 ≤ 45
/-- what a constructor's continuation must know of the new places -/
def SmE (E E' : En_t) : Prop := E'.1 = E.1 ∧ E'.2.1 = E.2.1 ∧ E'.2.2.2 = E.2.2.2
section KC
variable {E : En_t} {S : Sb} {P : List Nat} {σ : S_t} {d MC MS cells slots mc ms : Nat} {M M' : M_t} {pc pc' : Nat} {L L' : List (Nat × Value)} {st stk : List Value} {Q : U_t → Prop}
theorem K_back {p : Program} {e : Env} {R : Room} {s : State} {m : MethodId} {args : Array Value} {below : List Frame} {meth : Method} {c : Code} {H : Heap} {locs : List Loc} {ls : Array Slot} {A : Nat → Prop} {mc' ms' : Nat} {a : Array Value} {st0 : List Value}
    (C : CtxK E M p s m args meth c) (hP : va_P E.2.1 classes (wsK E S σ P) H) (hD : va_D A (wsK E S σ P)) (hS : va_S A s.heap H locs) (hA : ∀ q : Nat, s.heap.size ≤ q → A q) (hl : lv_has ls M.2.2.1 L)
    (hr : va_Run p E.1 e R s m args below meth c H locs cells slots mc' ms' (F0 m pc ls st0) st (va_Qv (fun u => SmE E u.1 ∧ JK u.1 u.2.1 u.2.2.1 u.2.2.2 R (cells + mc') (slots + ms') mc ms M (pc + 3) L st Q) (BK E (va_A (wsK E S σ P) H.size)) (va_A (wsK E S σ P) H.size) a) (va_A (wsK E S σ P) H.size)) :
    W p E.1 e R s m args below meth c H locs cells slots (MQ below (va_Qv Q (BK E A) A) args s mc ms A) (F0 m pc ls st0) := by
  have hFc : ∀ q, va_A (wsK E S σ P) H.size q → A q := by
    rintro q (⟨k, e2, hk⟩ | h)
    · exact hD.2 k _ hk
    · exact hA q (Nat.le_trans hS.1 h)
  refine va_callv hr hS (fun q _ h => hFc q h) hFc (fun u t H1 locs1 ht hvm hw hB hz1 hk1 hS1 => ?_)
  obtain ⟨hB1, hB2, hB3⟩ := hB
  obtain ⟨⟨s1, s2, s3⟩, hJ⟩ := hw
  rw [ht] at hB1
  obtain ⟨⟨l', D', ro', cA'⟩, S', P', σ'⟩ := u
  simp only at s1 s2 s3
  subst s1; subst s2; subst s3
  exact hJ p e s m args below meth c H1 locs1 ls A C hB1 (hB2.weaken (fun _ _ _ h => hFc _ h)) hS1 hA hB3 hl
theorem K_callN {i a : Nat} {As : List Value} {mc' ms' : Nat} (hd : decode M.2.1 pc = .ok (.invokespecial i, 3)) (hp : pc + 3 = pc') (hn : (M.1.cls, i, M') ∈ nestL) (hm : MKt M' As.length) (hs : stk = As.reverse ++ .ref a :: st) (hw : (st.map fun v => v.category).sum ≤ 8) (hR : cells + mc' ≤ MC ∧ slots + ms' ≤ MS)
    (kk : CK E S P σ d mc' ms' M' (.ref a :: As) (fun u => SmE E u.1 ∧ JK u.1 u.2.1 u.2.2.1 u.2.2.2 (rmK (d + 1) MC MS) (cells + mc') (slots + ms') mc ms M pc' L st Q)) : JK E S P σ (rmK (d + 1) MC MS) cells slots mc ms M pc L stk Q := by
  subst hp; intro p e s m args below meth c H locs ls A C hP hD hS hA hO hl
  obtain ⟨m1, m2, m3, m4, m5, m6, m7, m8, m9⟩ := hm
  refine K_back (st := st) C hP hD hS hA hl (va_runIN (As := As) (rest := st) (bytes := M'.2.1) (maxL := M'.2.2.1) (ws := wM M') (rm := rmK d mc' ms') ⟨C.1, C.2.1, C.2.2.1, C.2.2.2.1, C.2.2.2.2.1⟩ (kk H.size) ⟨va_cnB As.length C.2.2.2.2.1 (wM_good m3) (by unfold wM; rw [m8]) rfl rfl (C.2.2.2.2.2.2.2.2.2.1 _ hn) (C.2.2.2.2.1 _ m2) ⟨m4, m5, m6⟩ ⟨Nat.le_refl _, by show 8 + (M'.2.2.1 + 11) + 64 * d ≤ 64 * (d + 1); omega⟩, m7, C.2.2.2.2.1 _ m1⟩ ⟨PcK_blind, fun U hU hW => ⟨rfl, by rw [hU], by rw [hU]; exact hP, va_K.moved hW.alike C.2.2.2.2.2.2.2.2.1, C.2.2.2.2.2.2.2.2.2.warm hW, hD.weaken (fun _ _ _ _ => trivial), hO⟩⟩ rfl rfl hl.1 hs ?_ hd hR)
  show 2 * 0 + _ ≤ 8
  omega
theorem K_callI {i a : Nat} {As : List Value} {mc' ms' : Nat} (hd : decode M.2.1 pc = .ok (.invokespecial i, 3)) (hp : pc + 3 = pc') (hn : Cond.methodLink M.1.cls i M'.1 ∈ tb) (hm : MKt M' As.length) (hs : stk = As.reverse ++ .ref a :: st) (hw : (st.map fun v => v.category).sum ≤ 8) (hR : cells + mc' ≤ MC ∧ slots + ms' ≤ MS)
    (kk : CK E S P σ d mc' ms' M' (.ref a :: As) (fun u => SmE E u.1 ∧ JK u.1 u.2.1 u.2.2.1 u.2.2.2 (rmK (d + 1) MC MS) (cells + mc') (slots + ms') mc ms M pc' L st Q)) : JK E S P σ (rmK (d + 1) MC MS) cells slots mc ms M pc L stk Q := by
  subst hp; intro p e s m args below meth c H locs ls A C hP hD hS hA hO hl
  obtain ⟨m1, m2, m3, m4, m5, m6, m7, m8, m9⟩ := hm
  refine K_back (st := st) C hP hD hS hA hl (va_runI (As := As) (rest := st) (bytes := M'.2.1) (maxL := M'.2.2.1) (ws := wM M') (rm := rmK d mc' ms') ⟨C.1, C.2.1, C.2.2.1, C.2.2.2.1, C.2.2.2.2.1⟩ (kk H.size) ⟨callB_of As.length C.2.2.2.2.1 (wM_good m3) (by unfold wM; rw [m8]) rfl rfl (C.2.2.2.2.1 _ m2) (C.2.2.2.2.1 _ hn) ⟨m4, m5, m6⟩ ⟨Nat.le_refl _, by show 8 + (M'.2.2.1 + 11) + 64 * d ≤ 64 * (d + 1); omega⟩, m7, C.2.2.2.2.1 _ m1⟩ ⟨PcK_blind, fun U hU hW => ⟨rfl, by rw [hU], by rw [hU]; exact hP, va_K.moved hW.alike C.2.2.2.2.2.2.2.2.1, C.2.2.2.2.2.2.2.2.2.warm hW, hD.weaken (fun _ _ _ _ => trivial), hO⟩⟩ rfl rfl hl.1 hs ?_ hd hR)
  show 2 * 0 + _ ≤ 8
  omega
end KC
