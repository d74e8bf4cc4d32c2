/-! the pure state: what the cells of the two objects hold, by place and slot -/
abbrev S_t : Type := (Nat → Nat → Int32) × (Nat → Nat → Int64) × (Nat → Nat → Option Nat)
def gI (σ : S_t) (p k : Nat) : Int32 := σ.1 p k
def gL (σ : S_t) (p k : Nat) : Int64 := σ.2.1 p k
def gR (σ : S_t) (p k : Nat) : Option Nat := σ.2.2 p k
def sI (σ : S_t) (p k : Nat) (v : Int32) : S_t := (fun a b => if a = p ∧ b = k then v else σ.1 a b, σ.2)
def sL (σ : S_t) (p k : Nat) (v : Int64) : S_t := (σ.1, fun a b => if a = p ∧ b = k then v else σ.2.1 a b, σ.2.2)
def sR (σ : S_t) (p k : Nat) (v : Option Nat) : S_t := (σ.1, σ.2.1, fun a b => if a = p ∧ b = k then v else σ.2.2 a b)
theorem gI_sI (σ : S_t) (p k : Nat) (v : Int32) (a b : Nat) : gI (sI σ p k v) a b = if a = p ∧ b = k then v else gI σ a b := rfl
theorem gI_sI_s (σ : S_t) (p k : Nat) (v : Int32) : gI (sI σ p k v) p k = v := by rw [gI_sI]; simp
theorem gI_sI_n {σ : S_t} {p k : Nat} {v : Int32} {a b : Nat} (h : a ≠ p ∨ b ≠ k) : gI (sI σ p k v) a b = gI σ a b := by rw [gI_sI, if_neg]; rintro ⟨rfl, rfl⟩; rcases h with h | h <;> exact h rfl
theorem gL_sL (σ : S_t) (p k : Nat) (v : Int64) (a b : Nat) : gL (sL σ p k v) a b = if a = p ∧ b = k then v else gL σ a b := rfl
theorem gL_sL_s (σ : S_t) (p k : Nat) (v : Int64) : gL (sL σ p k v) p k = v := by rw [gL_sL]; simp
theorem gL_sL_n {σ : S_t} {p k : Nat} {v : Int64} {a b : Nat} (h : a ≠ p ∨ b ≠ k) : gL (sL σ p k v) a b = gL σ a b := by rw [gL_sL, if_neg]; rintro ⟨rfl, rfl⟩; rcases h with h | h <;> exact h rfl
theorem gR_sR (σ : S_t) (p k : Nat) (v : Option Nat) (a b : Nat) : gR (sR σ p k v) a b = if a = p ∧ b = k then v else gR σ a b := rfl
theorem gR_sR_s (σ : S_t) (p k : Nat) (v : Option Nat) : gR (sR σ p k v) p k = v := by rw [gR_sR]; simp
theorem gR_sR_n {σ : S_t} {p k : Nat} {v : Option Nat} {a b : Nat} (h : a ≠ p ∨ b ≠ k) : gR (sR σ p k v) a b = gR σ a b := by rw [gR_sR, if_neg]; rintro ⟨rfl, rfl⟩; rcases h with h | h <;> exact h rfl
theorem gI_sL (σ : S_t) (p k : Nat) (v : Int64) (a b : Nat) : gI (sL σ p k v) a b = gI σ a b := rfl
theorem gI_sR (σ : S_t) (p k : Nat) (v : Option Nat) (a b : Nat) : gI (sR σ p k v) a b = gI σ a b := rfl
theorem gL_sI (σ : S_t) (p k : Nat) (v : Int32) (a b : Nat) : gL (sI σ p k v) a b = gL σ a b := rfl
theorem gL_sR (σ : S_t) (p k : Nat) (v : Option Nat) (a b : Nat) : gL (sR σ p k v) a b = gL σ a b := rfl
theorem gR_sI (σ : S_t) (p k : Nat) (v : Int32) (a b : Nat) : gR (sI σ p k v) a b = gR σ a b := rfl
theorem gR_sL (σ : S_t) (p k : Nat) (v : Int64) (a b : Nat) : gR (sL σ p k v) a b = gR σ a b := rfl
/-! the fixed part: the launch, the classes' numbers, where the places lie, the arrays' classes -/
abbrev En_t : Type := Launch × va_G × (Nat → Nat) × (Nat → ClassId)
def ro (E : En_t) (p : Nat) : Nat := E.2.2.1 p
def pv (E : En_t) (p : Nat) : Value := .ref (ro E p)
def fvalE (E : En_t) (σ : S_t) (c p k : Nat) : Value := match fkind c k with
  | 0 => .int (gI σ p k)
  | 1 => .long (gL σ p k)
  | 2 => va_rf ((gR σ p k).map (ro E))
  | 5 => .int (gI σ p k)
  | _ => pv E (finp c k p)
def cellE (E : En_t) (σ : S_t) (p : Nat) : va_E :=
  if kindP p < 20 then .inr (kindP p, (List.range (nfOf (kindP p))).map (fvalE E σ (kindP p) p))
  else .inl (E.2.2.2 (kindP p - 20), lenP p, if kindP p = 23 then .inr (.inl (gL σ p)) else if kindP p = 24 then .inr (.inr (.inr (.inr (fun j => (gR σ p j).map (ro E))))) else .inl (gI σ p))
def wsE (E : En_t) (σ : S_t) : va_W := (List.range NP).map (fun p => (ro E p, cellE E σ p))
def tysE (E : En_t) : List (ClassId × FieldType) := [(E.2.2.2 0, .int), (E.2.2.2 1, .byte), (E.2.2.2 2, .boolean), (E.2.2.2 3, .long), (E.2.2.2 4, .object "CanonPress$Tree")]
def AE (E : En_t) : Nat → Prop := fun q => ∃ p, p < NP ∧ q = ro E p
def okE (E : En_t) : Prop := ∀ i j, i < NP → j < NP → ro E i = ro E j → i = j
def tabF (l : List Int32) (j : Nat) : Value := .int (l.getD j 0)
/-- the static arrays (places 1000, 1001 ..) -/
def tabV (t j : Nat) : Int32 := (stL.getD t ("", "", [])).2.2.getD j 0
def lenS : List Nat := [4, 5, 4, 8, 5, 5, 16]
def bytS : List (List Int32) := [[110, 117, 108, 108], [102, 97, 108, 115, 101], [116, 114, 117, 101], [34, 92, 47, 98, 102, 110, 114, 116], [8, 9, 10, 12, 13], [98, 116, 110, 102, 114], [48, 49, 50, 51, 52, 53, 54, 55, 56, 57, 97, 98, 99, 100, 101, 102]]
def srL : List (String × Nat × String × Nat) := [("CanonPress$Reader", 149, "null", 0), ("CanonPress$Reader", 155, "false", 1), ("CanonPress$Reader", 157, "true", 2), ("CanonPress$Reader", 224, "\"\\/bfnrt", 3), ("CanonPress$Former", 113, "\x08\t\n\x0c\x0d", 4), ("CanonPress$Former", 121, "btnf\x72", 5), ("CanonPress$Former", 131, "0123456789abcdef", 6), ("CanonPress$Former", 81, "null", 0), ("CanonPress$Former", 87, "false", 1), ("CanonPress$Former", 89, "true", 2)]
def StatE (E : En_t) (U : State) (H : Heap) : Prop := (∀ (i : Nat) (q : String × String × List Int32), stL[i]? = some q → va_Z q.1 q.2.1 "[I" (pv E (1000 + i)) (AE E) U H ∧ va_T .int (ro E (1000 + i)) q.2.2.length (tabF q.2.2) (AE E) U H) ∧ vk_S 7 lenS bytS (fun i => ro E (2000 + i)) (fun i => ro E (3000 + i)) (AE E) U H ∧ (va_Z "java/lang/String" "COMPACT_STRINGS" "Z" (.int 1) (AE E) U H ∧ va_Zq "jdk/internal/util/Preconditions" "SIOOBE_FORMATTER" "Ljava/util/function/BiFunction;" (AE E) U H) ∧ va_Nw (.fieldLinkNest "CanonPress$Numeral" 109 "CanonPress" "TENS" "[I" "CanonPress") U ∧ va_Nw (.methodLinkNest "CanonPress$Reader" 192 m_Cp_isNumber.1 "CanonPress") U ∧ (∀ (i : Nat) (q : String × Nat × String × Nat), srL[i]? = some q → vk_R q.1 q.2.1 q.2.2.1 (ro E (2000 + q.2.2.2)) U)
theorem StatE.warm {E : En_t} {u U : State} {H : Heap} (hW : u.WarmedH U.vm) (h : StatE E u H) : StatE E U H := ⟨fun i q hq => ⟨(h.1 i q hq).1.moved hW.alike, (h.1 i q hq).2.moved hW.alike⟩, h.2.1.moved hW.alike, ⟨h.2.2.1.1.moved hW.alike, h.2.2.1.2.moved hW.alike⟩, h.2.2.2.1.warmF hW, h.2.2.2.2.1.warmM hW, fun i q hq => (h.2.2.2.2.2 i q hq).warm hW⟩
theorem StatE.same {E : En_t} {u U : State} {H : Heap} (hv : u.vm = U.vm) (ha : u.vm.Alike U.vm) (h : StatE E u H) : StatE E U H := ⟨fun i q hq => ⟨(h.1 i q hq).1.moved ha, (h.1 i q hq).2.moved ha⟩, h.2.1.moved ha, ⟨h.2.2.1.1.moved ha, h.2.2.1.2.moved ha⟩, h.2.2.2.1.same rfl hv, h.2.2.2.2.1.same rfl hv, fun i q hq => (h.2.2.2.2.2 i q hq).same hv.symm⟩
theorem StatE.kept {E : En_t} {U : State} {H H1 : Heap} (h : StatE E U H) (hq : ∀ a : Nat, a < H.size → ¬ AE E a → H1[a]? = H[a]?) : StatE E U H1 := ⟨fun i q hi => ⟨(h.1 i q hi).1.kept hq, (h.1 i q hi).2.kept hq⟩, h.2.1.kept hq, ⟨h.2.2.1.1.kept hq, h.2.2.1.2.kept hq⟩, h.2.2.2⟩
theorem kindP_lt {p c : Nat} (h : kindP p = c) (hc : c < 99) : p < NP := by
  rcases Nat.lt_or_ge p NP with g | g
  · exact g
  · exfalso
    have e : kindL.length = NP := by decide +kernel
    unfold kindP at h
    rw [List.getD_eq_getElem?_getD, List.getElem?_eq_none (by omega)] at h
    simp at h
    omega
theorem wsE_get {E : En_t} {σ : S_t} {p : Nat} (h : p < NP) : (wsE E σ)[p]? = some (ro E p, cellE E σ p) := by
  simp [wsE, h]
theorem wsE_len (E : En_t) (σ : S_t) : (wsE E σ).length = NP := by simp [wsE]
theorem wsE_set {E : En_t} {σ σ' : S_t} {p : Nat} {c : va_E} (hc : c = cellE E σ' p) (h : ∀ q, q ≠ p → cellE E σ' q = cellE E σ q) : (wsE E σ).set p (ro E p, c) = wsE E σ' := by
  subst hc
  apply List.ext_getElem?
  intro i
  rw [List.getElem?_set, wsE_len]
  by_cases hi : i < NP
  · rw [wsE_get hi, wsE_get hi]
    by_cases hp : p = i
    · subst hp; simp [hi]
    · rw [if_neg hp, h i (fun e => hp e.symm)]
  · have e1 : (wsE E σ)[i]? = none := by rw [List.getElem?_eq_none_iff, wsE_len]; omega
    have e2 : (wsE E σ')[i]? = none := by rw [List.getElem?_eq_none_iff, wsE_len]; omega
    rw [e1, e2]
    by_cases hp : p = i
    · subst hp; simp [hi]
    · rw [if_neg hp]
theorem wsE_D {E : En_t} (h : okE E) (σ : S_t) : va_D (AE E) (wsE E σ) := by
  have key : ∀ (i : Nat) (p : Nat × va_E), (wsE E σ)[i]? = some p → i < NP ∧ p.1 = ro E i := by
    intro i p hp
    have hi : i < NP := by
      have := (List.getElem?_eq_some_iff.mp hp).1
      rwa [wsE_len] at this
    rw [wsE_get hi] at hp
    cases hp
    exact ⟨hi, rfl⟩
  refine ⟨fun i j p q hp hq e => ?_, fun k q hq => ?_⟩
  · obtain ⟨a1, a2⟩ := key i p hp
    obtain ⟨b1, b2⟩ := key j q hq
    exact h i j a1 b1 (by rw [← a2, ← b2, e])
  · obtain ⟨a1, a2⟩ := key k q hq
    exact ⟨k, a1, a2⟩
theorem cellE_obj {E : En_t} {σ : S_t} {p c : Nat} (h : kindP p = c) (hc : c < 20) : cellE E σ p = .inr (c, (List.range (nfOf c)).map (fvalE E σ c p)) := by
  subst h
  unfold cellE
  rw [if_pos hc]
theorem cellE_arr {E : En_t} {σ : S_t} {p t : Nat} (h : kindP p = 20 + t) (ht : t < 3) : cellE E σ p = .inl (E.2.2.2 t, lenP p, .inl (gI σ p)) := by
  unfold cellE
  rw [if_neg (by omega), if_neg (by omega), if_neg (by omega)]
  have e : kindP p - 20 = t := by omega
  rw [e]
theorem cellE_arrL {E : En_t} {σ : S_t} {p : Nat} (h : kindP p = 23) : cellE E σ p = .inl (E.2.2.2 3, lenP p, .inr (.inl (gL σ p))) := by
  unfold cellE
  rw [if_neg (by omega), if_pos h, h]
theorem cellE_arrR {E : En_t} {σ : S_t} {p : Nat} (h : kindP p = 24) : cellE E σ p = .inl (E.2.2.2 4, lenP p, .inr (.inr (.inr (.inr (fun j => (gR σ p j).map (ro E)))))) := by
  unfold cellE
  rw [if_neg (by omega), if_neg (by omega), if_pos h, h]
theorem cellE_sI_o {E : En_t} {σ : S_t} {p k : Nat} {v : Int32} {q : Nat} (h : q ≠ p) : cellE E (sI σ p k v) q = cellE E σ q := by
  have e : gI (sI σ p k v) q = gI σ q := by funext j; exact gI_sI_n (Or.inl h)
  have e2 : ∀ c, fvalE E (sI σ p k v) c q = fvalE E σ c q := by intro c; funext j; unfold fvalE; rw [e]; rfl
  unfold cellE
  rw [e, e2]
  rfl
theorem cellE_sL_o {E : En_t} {σ : S_t} {p k : Nat} {v : Int64} {q : Nat} (h : q ≠ p) : cellE E (sL σ p k v) q = cellE E σ q := by
  have e : gL (sL σ p k v) q = gL σ q := by funext j; exact gL_sL_n (Or.inl h)
  have e2 : ∀ c, fvalE E (sL σ p k v) c q = fvalE E σ c q := by intro c; funext j; unfold fvalE; rw [e]; rfl
  unfold cellE
  rw [e, e2]
  rfl
theorem cellE_sR_o {E : En_t} {σ : S_t} {p k : Nat} {v : Option Nat} {q : Nat} (h : q ≠ p) : cellE E (sR σ p k v) q = cellE E σ q := by
  have e : gR (sR σ p k v) q = gR σ q := by funext j; exact gR_sR_n (Or.inl h)
  have e2 : ∀ c, fvalE E (sR σ p k v) c q = fvalE E σ c q := by intro c; funext j; unfold fvalE; rw [e]; rfl
  unfold cellE
  rw [e, e2]
  rfl
theorem fval_set {f g : Nat → Value} {n k : Nat} {v : Value} (hv : g k = v) (h : ∀ j, j ≠ k → g j = f j) : ((List.range n).map f).set k v = (List.range n).map g := by
  apply List.ext_getElem?
  intro i
  rw [List.getElem?_set]
  by_cases hi : i < n
  · by_cases hk : k = i
    · subst hk; simp [hi, hv]
    · rw [if_neg hk]; simp [hi, h i (fun e => hk e.symm)]
  · by_cases hk : k = i
    · subst hk; simp [hi]
    · rw [if_neg hk]; simp [hi]
theorem fval_sI {E : En_t} {σ : S_t} {c p k : Nat} {v : Int32} (hf : fkind c k = 0 ∨ fkind c k = 5) : ((List.range (nfOf c)).map (fvalE E σ c p)).set k (.int v) = (List.range (nfOf c)).map (fvalE E (sI σ p k v) c p) := by
  refine fval_set ?_ (fun j hj => ?_)
  · unfold fvalE
    rcases hf with h | h <;> rw [h] <;> simp [gI_sI_s]
  · unfold fvalE
    rw [gI_sI_n (Or.inr hj)]
    rfl
theorem fval_sL {E : En_t} {σ : S_t} {c p k : Nat} {v : Int64} (hf : fkind c k = 1) : ((List.range (nfOf c)).map (fvalE E σ c p)).set k (.long v) = (List.range (nfOf c)).map (fvalE E (sL σ p k v) c p) := by
  refine fval_set ?_ (fun j hj => ?_)
  · unfold fvalE
    rw [hf]; simp [gL_sL_s]
  · unfold fvalE
    rw [gL_sL_n (Or.inr hj)]
    rfl
theorem fval_sR {E : En_t} {σ : S_t} {c p k q : Nat} (hf : fkind c k = 2) : ((List.range (nfOf c)).map (fvalE E σ c p)).set k (pv E q) = (List.range (nfOf c)).map (fvalE E (sR σ p k (some q)) c p) := by
  refine fval_set ?_ (fun j hj => ?_)
  · unfold fvalE
    rw [hf]; simp [gR_sR_s, va_rf, pv]
  · unfold fvalE
    rw [gR_sR_n (Or.inr hj)]
    rfl
/-! the judgements -/
def rmE (d : Nat) : Room := { frames := d, cells := 0, slots := 0, locals := 64 * d }
def wM (M : M_t) : List Cond := Cond.code M.1 M.2.1 M.2.2.1 M.2.2.2 :: tb
def QcE (E : En_t) (Q : Option Value → S_t → Prop) : Array Value → State → Outcome → State → Prop := fun _ st oc t => (∃ (r : Option Value) (σ' : S_t), oc = .returned r ∧ Q r σ' ∧ va_P E.2.1 classes (wsE E σ') t.heap ∧ va_K E.2.1 classes (tysE E) t) ∧ va_F (AE E) st t
def PcE (E : En_t) (σ : S_t) (U : State) : Prop := va_P E.2.1 classes (wsE E σ) U.heap ∧ va_K E.2.1 classes (tysE E) U ∧ StatE E U U.heap ∧ okE E
/-- method M with the arguments av from σ: it returns, and Q -/
def CE (E : En_t) (d : Nat) (M : M_t) (av : List Value) (σ : S_t) (Q : Option Value → S_t → Prop) : Prop := Met E.1 M.1 (wM M) (rmE d) (va_Pc av (PcE E σ)) (QcE E Q) 0 0 (AE E)
def CtxE (E : En_t) (M : M_t) (p : Program) (s : State) (m : MethodId) (args : Array Value) (meth : Method) (c : Code) : Prop :=
  p.tables.exec = Jvm.exec ∧ c.code = M.2.1 ∧ c.maxLocals = M.2.2.1 ∧ s.vm.findClass M.1.cls = some m.cls ∧ (∀ w ∈ tb, w.before args s = true) ∧ meth.sig.returnType = M.2.2.2 ∧ meth.locks = false ∧ va_K E.2.1 classes (tysE E) s ∧ StatE E s s.heap ∧ okE E
/-- within M, at pc, with locals L and operands st, from σ: it returns, and Q -/
def JE (E : En_t) (d : Nat) (M : M_t) (pc : Nat) (L : List (Nat × Value)) (st : List Value) (σ : S_t) (Q : Option Value → S_t → Prop) : Prop :=
  ∀ (p : Program) (e : Env) (s : State) (m : MethodId) (args : Array Value) (below : List Frame) (meth : Method) (c : Code) (H : Heap) (locs : List Loc) (ls : Array Slot), CtxE E M p s m args meth c → va_P E.2.1 classes (wsE E σ) H → va_S (AE E) s.heap H locs → lv_has ls M.2.2.1 L →
    W p E.1 e (rmE d) s m args below meth c H locs 0 0 (MQ below (QcE E Q) args s 0 0 (AE E)) (F0 m pc ls st)
theorem CE.of {E : En_t} {d : Nat} {M : M_t} {av : List Value} {σ : S_t} {Q : Option Value → S_t → Prop} {L : List (Nat × Value)} (hn : plainName M.1.cls = true) (hlen : (lg_sl av).length ≤ M.2.2.1) (hL : lv_args 0 av = L) (k : JE E d M 0 L [] σ Q) : CE E d M av σ Q := by
  refine Met.ofW (cc := M.2.1) (maxL := M.2.2.1) (ret := M.2.2.2) hn rfl ?_
  intro p e s m args below meth c s₁ B hml hv
  obtain ⟨rfl, hP, hK, hSt, hok⟩ := hv
  have hts := atoms_spec (ws := wM M) B.pre
  rw [lg_entry_eq]
  exact k p e s m _ below meth c s.heap [] _ ⟨B.exec, B.bytes, hml, findClass_of_methodNamed B.named, fun w hw => hts w (List.mem_cons_of_mem _ hw), B.returns, B.notSynchronized, hK, hSt, hok⟩ hP va_S.rf (hL ▸ lv_entry av hlen)
theorem JE.mono {E : En_t} {d : Nat} {M : M_t} {pc : Nat} {L : List (Nat × Value)} {st : List Value} {σ : S_t} {Q Q' : Option Value → S_t → Prop} (h : ∀ r s, Q r s → Q' r s) (k : JE E d M pc L st σ Q) : JE E d M pc L st σ Q' := by
  intro p e s m args below meth c H locs ls C hP hS hl T hT X
  obtain ⟨t, a, o, b1, b2, ⟨⟨r, s', q1, q2, q3⟩, q4⟩, b4⟩ := k p e s m args below meth c H locs ls C hP hS hl T hT X
  exact ⟨t, a, o, b1, b2, ⟨⟨r, s', q1, h r s' q2, q3⟩, q4⟩, b4⟩
theorem CE.mono {E : En_t} {d : Nat} {M : M_t} {av : List Value} {σ : S_t} {Q Q' : Option Value → S_t → Prop} (k : CE E d M av σ Q) (h : ∀ r s, Q r s → Q' r s) : CE E d M av σ Q' := by
  intro p e ha hc hk s m args below hf hp hP hT
  obtain ⟨kk, o, h1, h2, h3, ⟨⟨⟨r, s', q1, q2, q3⟩, q4⟩, q5⟩⟩ := k p e ha hc hk s m args below hf hp hP hT
  exact ⟨kk, o, h1, h2, h3, ⟨⟨⟨r, s', q1, h r s' q2, q3⟩, q4⟩, q5⟩⟩
theorem J_sub {E : En_t} {d : Nat} {M : M_t} {pc : Nat} {L L' : List (Nat × Value)} {st : List Value} {σ : S_t} {Q : Option Value → S_t → Prop} (ks : List Nat) (hl : lv_pick L ks = L') (k : JE E d M pc L' st σ Q) : JE E d M pc L st σ Q :=
  fun p e s m args below meth c H locs ls C hP hS h => k p e s m args below meth c H locs ls C hP hS (lv_sub h ks hl)
theorem J_st {E : En_t} {d : Nat} {M : M_t} {pc : Nat} {L : List (Nat × Value)} {st : List Value} {σ : S_t} {Q : Option Value → S_t → Prop} (k : ∀ σ', σ' = σ → JE E d M pc L st σ' Q) : JE E d M pc L st σ Q := k σ rfl
theorem J_topi {E : En_t} {d : Nat} {M : M_t} {pc : Nat} {L : List (Nat × Value)} {x : Int32} {st : List Value} {σ : S_t} {Q : Option Value → S_t → Prop} (k : ∀ v, v = x → JE E d M pc L (.int v :: st) σ Q) : JE E d M pc L (.int x :: st) σ Q := k x rfl
theorem J_topl {E : En_t} {d : Nat} {M : M_t} {pc : Nat} {L : List (Nat × Value)} {x : Int64} {st : List Value} {σ : S_t} {Q : Option Value → S_t → Prop} (k : ∀ v, v = x → JE E d M pc L (.long v :: st) σ Q) : JE E d M pc L (.long x :: st) σ Q := k x rfl
section JR
variable {E : En_t} {d : Nat} {M : M_t} {pc pc' : Nat} {L L' : List (Nat × Value)} {st : List Value} {σ : S_t} {Q : Option Value → S_t → Prop}
theorem J_iconst {n : Int} {v : Int32} (hd : decode M.2.1 pc = .ok (.iconst n, 1)) (hp : pc + 1 = pc') (hv : Int32.ofInt n = v) (k : JE E d M pc' L (.int v :: st) σ Q) : JE E d M pc L (st) σ Q := by
  subst hp; intro p e s m args below meth c H locs ls C hP hS hl; exact lv_iconst C.1 C.2.1 hd hv (k p e s m args below meth c H locs ls C hP hS hl)
theorem J_bipush {n : Int} {v : Int32} (hd : decode M.2.1 pc = .ok (.bipush n, 2)) (hp : pc + 2 = pc') (hv : (Int8.ofInt n).toInt32 = v) (k : JE E d M pc' L (.int v :: st) σ Q) : JE E d M pc L (st) σ Q := by
  subst hp; intro p e s m args below meth c H locs ls C hP hS hl; exact lv_bipush C.1 C.2.1 hd hv (k p e s m args below meth c H locs ls C hP hS hl)
theorem J_sipush {n : Int} {v : Int32} (hd : decode M.2.1 pc = .ok (.sipush n, 3)) (hp : pc + 3 = pc') (hv : (Int16.ofInt n).toInt32 = v) (k : JE E d M pc' L (.int v :: st) σ Q) : JE E d M pc L (st) σ Q := by
  subst hp; intro p e s m args below meth c H locs ls C hP hS hl; exact lv_sipush C.1 C.2.1 hd hv (k p e s m args below meth c H locs ls C hP hS hl)
theorem J_lconst {n : Fin 2} {v : Int64} (hd : decode M.2.1 pc = .ok (.lconst n, 1)) (hp : pc + 1 = pc') (hv : Int64.ofNat (n : Nat) = v) (k : JE E d M pc' L (.long v :: st) σ Q) : JE E d M pc L (st) σ Q := by
  subst hp; intro p e s m args below meth c H locs ls C hP hS hl; exact lv_lconst C.1 C.2.1 hd hv (k p e s m args below meth c H locs ls C hP hS hl)
theorem J_iload_n {i : Fin 4} {x : Int32} (hd : decode M.2.1 pc = .ok (.iload_n i, 1)) (hp : pc + 1 = pc') (j : Nat) (hj : L[j]? = some ((i : Nat), .int x)) (k : JE E d M pc' L (.int x :: st) σ Q) : JE E d M pc L (st) σ Q := by
  subst hp; intro p e s m args below meth c H locs ls C hP hS hl; exact lv_iload_n C.1 C.2.1 hd rfl (lv_at hl j hj) (k p e s m args below meth c H locs ls C hP hS hl)
theorem J_iload {i : Nat} {x : Int32} (hd : decode M.2.1 pc = .ok (.iload i, 2)) (hp : pc + 2 = pc') (j : Nat) (hj : L[j]? = some (i, .int x)) (k : JE E d M pc' L (.int x :: st) σ Q) : JE E d M pc L (st) σ Q := by
  subst hp; intro p e s m args below meth c H locs ls C hP hS hl; exact lv_iload C.1 C.2.1 hd (lv_at hl j hj) (k p e s m args below meth c H locs ls C hP hS hl)
theorem J_lload_n {i : Fin 4} {x : Int64} (hd : decode M.2.1 pc = .ok (.lload_n i, 1)) (hp : pc + 1 = pc') (j : Nat) (hj : L[j]? = some ((i : Nat), .long x)) (k : JE E d M pc' L (.long x :: st) σ Q) : JE E d M pc L (st) σ Q := by
  subst hp; intro p e s m args below meth c H locs ls C hP hS hl; exact lv_lload_n C.1 C.2.1 hd rfl (lv_at hl j hj) (k p e s m args below meth c H locs ls C hP hS hl)
theorem J_lload {i : Nat} {x : Int64} (hd : decode M.2.1 pc = .ok (.lload i, 2)) (hp : pc + 2 = pc') (j : Nat) (hj : L[j]? = some (i, .long x)) (k : JE E d M pc' L (.long x :: st) σ Q) : JE E d M pc L (st) σ Q := by
  subst hp; intro p e s m args below meth c H locs ls C hP hS hl; exact lv_lload C.1 C.2.1 hd (lv_at hl j hj) (k p e s m args below meth c H locs ls C hP hS hl)
theorem J_aload_n {i : Fin 4} {x : Nat} (hd : decode M.2.1 pc = .ok (.aload_n i, 1)) (hp : pc + 1 = pc') (j : Nat) (hj : L[j]? = some ((i : Nat), pv E x)) (k : JE E d M pc' L (pv E x :: st) σ Q) : JE E d M pc L (st) σ Q := by
  subst hp; intro p e s m args below meth c H locs ls C hP hS hl; exact lv_aload_n C.1 C.2.1 hd rfl (lv_at hl j hj) (k p e s m args below meth c H locs ls C hP hS hl)
theorem J_aload {i : Nat} {x : Nat} (hd : decode M.2.1 pc = .ok (.aload i, 2)) (hp : pc + 2 = pc') (j : Nat) (hj : L[j]? = some (i, pv E x)) (k : JE E d M pc' L (pv E x :: st) σ Q) : JE E d M pc L (st) σ Q := by
  subst hp; intro p e s m args below meth c H locs ls C hP hS hl; exact lv_aload C.1 C.2.1 hd (lv_at hl j hj) (k p e s m args below meth c H locs ls C hP hS hl)
theorem J_istore_n {i : Fin 4} {x : Int32} (hd : decode M.2.1 pc = .ok (.istore_n i, 1)) (hp : pc + 1 = pc') (hn : (i : Nat) < M.2.2.1) (hL : ((i : Nat), Value.int x) :: L.filter (fun q => !(q.1 == (i : Nat)) && !(q.1 + 1 == (i : Nat) && q.2.category == 2)) = L') (k : JE E d M pc' L' st σ Q) : JE E d M pc L (Value.int x :: st) σ Q := by
  subst hp; intro p e s m args below meth c H locs ls C hP hS hl; exact lv_istore_n C.1 C.2.1 hd rfl hl hn hL (fun ls hl => k p e s m args below meth c H locs ls C hP hS hl)
theorem J_istore {i : Nat} {x : Int32} (hd : decode M.2.1 pc = .ok (.istore i, 2)) (hp : pc + 2 = pc') (hn : i < M.2.2.1) (hL : (i, Value.int x) :: L.filter (fun q => !(q.1 == i) && !(q.1 + 1 == i && q.2.category == 2)) = L') (k : JE E d M pc' L' st σ Q) : JE E d M pc L (Value.int x :: st) σ Q := by
  subst hp; intro p e s m args below meth c H locs ls C hP hS hl; exact lv_istore C.1 C.2.1 hd hl hn hL (fun ls hl => k p e s m args below meth c H locs ls C hP hS hl)
theorem J_lstore_n {i : Fin 4} {x : Int64} (hd : decode M.2.1 pc = .ok (.lstore_n i, 1)) (hp : pc + 1 = pc') (hn : (i : Nat) + 1 < M.2.2.1) (hL : ((i : Nat), Value.long x) :: L.filter (fun q => !(q.1 == (i : Nat)) && (!(q.1 == (i : Nat) + 1) && !(q.1 + 1 == (i : Nat) && q.2.category == 2))) = L') (k : JE E d M pc' L' st σ Q) : JE E d M pc L (Value.long x :: st) σ Q := by
  subst hp; intro p e s m args below meth c H locs ls C hP hS hl; exact lv_lstore_n C.1 C.2.1 hd rfl hl hn hL (fun ls hl => k p e s m args below meth c H locs ls C hP hS hl)
theorem J_lstore {i : Nat} {x : Int64} (hd : decode M.2.1 pc = .ok (.lstore i, 2)) (hp : pc + 2 = pc') (hn : i + 1 < M.2.2.1) (hL : (i, Value.long x) :: L.filter (fun q => !(q.1 == i) && (!(q.1 == i + 1) && !(q.1 + 1 == i && q.2.category == 2))) = L') (k : JE E d M pc' L' st σ Q) : JE E d M pc L (Value.long x :: st) σ Q := by
  subst hp; intro p e s m args below meth c H locs ls C hP hS hl; exact lv_lstore C.1 C.2.1 hd hl hn hL (fun ls hl => k p e s m args below meth c H locs ls C hP hS hl)
theorem J_astore_n {i : Fin 4} {x : Nat} (hd : decode M.2.1 pc = .ok (.astore_n i, 1)) (hp : pc + 1 = pc') (hn : (i : Nat) < M.2.2.1) (hL : ((i : Nat), pv E x) :: L.filter (fun q => !(q.1 == (i : Nat)) && !(q.1 + 1 == (i : Nat) && q.2.category == 2)) = L') (k : JE E d M pc' L' st σ Q) : JE E d M pc L (pv E x :: st) σ Q := by
  subst hp; intro p e s m args below meth c H locs ls C hP hS hl; exact lv_astore_n C.1 C.2.1 hd rfl hl hn hL (fun ls hl => k p e s m args below meth c H locs ls C hP hS hl)
theorem J_astore {i : Nat} {x : Nat} (hd : decode M.2.1 pc = .ok (.astore i, 2)) (hp : pc + 2 = pc') (hn : i < M.2.2.1) (hL : (i, pv E x) :: L.filter (fun q => !(q.1 == i) && !(q.1 + 1 == i && q.2.category == 2)) = L') (k : JE E d M pc' L' st σ Q) : JE E d M pc L (pv E x :: st) σ Q := by
  subst hp; intro p e s m args below meth c H locs ls C hP hS hl; exact lv_astore C.1 C.2.1 hd hl hn hL (fun ls hl => k p e s m args below meth c H locs ls C hP hS hl)
theorem J_iinc {i : Nat} {n : Int} {x v : Int32} (hd : decode M.2.1 pc = .ok (.iinc i n, 3)) (hp : pc + 3 = pc') (j : Nat) (hj : L[j]? = some (i, .int x)) (hv : x + Int32.ofInt n = v) (hn : i < M.2.2.1) (hL : (i, Value.int v) :: L.filter (fun q => !(q.1 == i) && !(q.1 + 1 == i && q.2.category == 2)) = L') (k : JE E d M pc' L' st σ Q) : JE E d M pc L st σ Q := by
  subst hp; intro p e s m args below meth c H locs ls C hP hS hl; exact lv_iinc C.1 C.2.1 hd hl (k := j) hj hv hn hL (fun ls hl => k p e s m args below meth c H locs ls C hP hS hl)
theorem J_iadd {x y : Int32} (hd : decode M.2.1 pc = .ok (.iadd, 1)) (hp : pc + 1 = pc') (k : JE E d M pc' L (.int (x + y) :: st) σ Q) : JE E d M pc L (.int y :: .int x :: st) σ Q := by
  subst hp; intro p e s m args below meth c H locs ls C hP hS hl; exact lv_iadd C.1 C.2.1 hd (k p e s m args below meth c H locs ls C hP hS hl)
theorem J_isub {x y : Int32} (hd : decode M.2.1 pc = .ok (.isub, 1)) (hp : pc + 1 = pc') (k : JE E d M pc' L (.int (x - y) :: st) σ Q) : JE E d M pc L (.int y :: .int x :: st) σ Q := by
  subst hp; intro p e s m args below meth c H locs ls C hP hS hl; exact lv_isub C.1 C.2.1 hd (k p e s m args below meth c H locs ls C hP hS hl)
theorem J_imul {x y : Int32} (hd : decode M.2.1 pc = .ok (.imul, 1)) (hp : pc + 1 = pc') (k : JE E d M pc' L (.int (x * y) :: st) σ Q) : JE E d M pc L (.int y :: .int x :: st) σ Q := by
  subst hp; intro p e s m args below meth c H locs ls C hP hS hl; exact lv_imul C.1 C.2.1 hd (k p e s m args below meth c H locs ls C hP hS hl)
theorem J_iand {x y : Int32} (hd : decode M.2.1 pc = .ok (.iand, 1)) (hp : pc + 1 = pc') (k : JE E d M pc' L (.int (x &&& y) :: st) σ Q) : JE E d M pc L (.int y :: .int x :: st) σ Q := by
  subst hp; intro p e s m args below meth c H locs ls C hP hS hl; exact lv_iand C.1 C.2.1 hd (k p e s m args below meth c H locs ls C hP hS hl)
theorem J_ior {x y : Int32} (hd : decode M.2.1 pc = .ok (.ior, 1)) (hp : pc + 1 = pc') (k : JE E d M pc' L (.int (x ||| y) :: st) σ Q) : JE E d M pc L (.int y :: .int x :: st) σ Q := by
  subst hp; intro p e s m args below meth c H locs ls C hP hS hl; exact lv_ior C.1 C.2.1 hd (k p e s m args below meth c H locs ls C hP hS hl)
theorem J_ixor {x y : Int32} (hd : decode M.2.1 pc = .ok (.ixor, 1)) (hp : pc + 1 = pc') (k : JE E d M pc' L (.int (x ^^^ y) :: st) σ Q) : JE E d M pc L (.int y :: .int x :: st) σ Q := by
  subst hp; intro p e s m args below meth c H locs ls C hP hS hl; exact lv_ixor C.1 C.2.1 hd (k p e s m args below meth c H locs ls C hP hS hl)
theorem J_ishl {x y : Int32} (hd : decode M.2.1 pc = .ok (.ishl, 1)) (hp : pc + 1 = pc') (k : JE E d M pc' L (.int (x <<< (y &&& 31)) :: st) σ Q) : JE E d M pc L (.int y :: .int x :: st) σ Q := by
  subst hp; intro p e s m args below meth c H locs ls C hP hS hl; exact lv_ishl C.1 C.2.1 hd (k p e s m args below meth c H locs ls C hP hS hl)
theorem J_ishr {x y : Int32} (hd : decode M.2.1 pc = .ok (.ishr, 1)) (hp : pc + 1 = pc') (k : JE E d M pc' L (.int (x >>> (y &&& 31)) :: st) σ Q) : JE E d M pc L (.int y :: .int x :: st) σ Q := by
  subst hp; intro p e s m args below meth c H locs ls C hP hS hl; exact lv_ishr C.1 C.2.1 hd (k p e s m args below meth c H locs ls C hP hS hl)
theorem J_iushr {x y : Int32} (hd : decode M.2.1 pc = .ok (.iushr, 1)) (hp : pc + 1 = pc') (k : JE E d M pc' L (.int (x.toUInt32 >>> (y.toUInt32 &&& Int32.toUInt32 31)).toInt32 :: st) σ Q) : JE E d M pc L (.int y :: .int x :: st) σ Q := by
  subst hp; intro p e s m args below meth c H locs ls C hP hS hl; exact lv_iushr C.1 C.2.1 hd rfl (k p e s m args below meth c H locs ls C hP hS hl)
theorem J_idiv {x y : Int32} (hd : decode M.2.1 pc = .ok (.idiv, 1)) (hp : pc + 1 = pc') (hne : ¬ y = 0) (k : JE E d M pc' L (.int (x / y) :: st) σ Q) : JE E d M pc L (.int y :: .int x :: st) σ Q := by
  subst hp; intro p e s m args below meth c H locs ls C hP hS hl; exact lv_idiv C.1 C.2.1 hd hne (k p e s m args below meth c H locs ls C hP hS hl)
theorem J_irem {x y : Int32} (hd : decode M.2.1 pc = .ok (.irem, 1)) (hp : pc + 1 = pc') (hne : ¬ y = 0) (k : JE E d M pc' L (.int (x - x / y * y) :: st) σ Q) : JE E d M pc L (.int y :: .int x :: st) σ Q := by
  subst hp; intro p e s m args below meth c H locs ls C hP hS hl; exact lv_irem C.1 C.2.1 hd hne (k p e s m args below meth c H locs ls C hP hS hl)
theorem J_ineg {x : Int32} (hd : decode M.2.1 pc = .ok (.ineg, 1)) (hp : pc + 1 = pc') (k : JE E d M pc' L (.int (-x) :: st) σ Q) : JE E d M pc L (.int x :: st) σ Q := by
  subst hp; intro p e s m args below meth c H locs ls C hP hS hl; exact lv_ineg C.1 C.2.1 hd (k p e s m args below meth c H locs ls C hP hS hl)
theorem J_ladd {x y : Int64} (hd : decode M.2.1 pc = .ok (.ladd, 1)) (hp : pc + 1 = pc') (k : JE E d M pc' L (.long (x + y) :: st) σ Q) : JE E d M pc L (.long y :: .long x :: st) σ Q := by
  subst hp; intro p e s m args below meth c H locs ls C hP hS hl; exact lv_ladd C.1 C.2.1 hd (k p e s m args below meth c H locs ls C hP hS hl)
theorem J_lsub {x y : Int64} (hd : decode M.2.1 pc = .ok (.lsub, 1)) (hp : pc + 1 = pc') (k : JE E d M pc' L (.long (x - y) :: st) σ Q) : JE E d M pc L (.long y :: .long x :: st) σ Q := by
  subst hp; intro p e s m args below meth c H locs ls C hP hS hl; exact lv_lsub C.1 C.2.1 hd (k p e s m args below meth c H locs ls C hP hS hl)
theorem J_lmul {x y : Int64} (hd : decode M.2.1 pc = .ok (.lmul, 1)) (hp : pc + 1 = pc') (k : JE E d M pc' L (.long (x * y) :: st) σ Q) : JE E d M pc L (.long y :: .long x :: st) σ Q := by
  subst hp; intro p e s m args below meth c H locs ls C hP hS hl; exact lv_lmul C.1 C.2.1 hd (k p e s m args below meth c H locs ls C hP hS hl)
theorem J_land {x y : Int64} (hd : decode M.2.1 pc = .ok (.land, 1)) (hp : pc + 1 = pc') (k : JE E d M pc' L (.long (x &&& y) :: st) σ Q) : JE E d M pc L (.long y :: .long x :: st) σ Q := by
  subst hp; intro p e s m args below meth c H locs ls C hP hS hl; exact lv_land C.1 C.2.1 hd (k p e s m args below meth c H locs ls C hP hS hl)
theorem J_lor {x y : Int64} (hd : decode M.2.1 pc = .ok (.lor, 1)) (hp : pc + 1 = pc') (k : JE E d M pc' L (.long (x ||| y) :: st) σ Q) : JE E d M pc L (.long y :: .long x :: st) σ Q := by
  subst hp; intro p e s m args below meth c H locs ls C hP hS hl; exact lv_lor C.1 C.2.1 hd (k p e s m args below meth c H locs ls C hP hS hl)
theorem J_lxor {x y : Int64} (hd : decode M.2.1 pc = .ok (.lxor, 1)) (hp : pc + 1 = pc') (k : JE E d M pc' L (.long (x ^^^ y) :: st) σ Q) : JE E d M pc L (.long y :: .long x :: st) σ Q := by
  subst hp; intro p e s m args below meth c H locs ls C hP hS hl; exact lv_lxor C.1 C.2.1 hd (k p e s m args below meth c H locs ls C hP hS hl)
theorem J_ldiv {x y : Int64} (hd : decode M.2.1 pc = .ok (.ldiv, 1)) (hp : pc + 1 = pc') (hne : ¬ y = 0) (k : JE E d M pc' L (.long (x / y) :: st) σ Q) : JE E d M pc L (.long y :: .long x :: st) σ Q := by
  subst hp; intro p e s m args below meth c H locs ls C hP hS hl; exact lv_ldiv C.1 C.2.1 hd hne (k p e s m args below meth c H locs ls C hP hS hl)
theorem J_lrem {x y : Int64} (hd : decode M.2.1 pc = .ok (.lrem, 1)) (hp : pc + 1 = pc') (hne : ¬ y = 0) (k : JE E d M pc' L (.long (x - x / y * y) :: st) σ Q) : JE E d M pc L (.long y :: .long x :: st) σ Q := by
  subst hp; intro p e s m args below meth c H locs ls C hP hS hl; exact lv_lrem C.1 C.2.1 hd hne (k p e s m args below meth c H locs ls C hP hS hl)
theorem J_lshl {x : Int64} {y : Int32} (hd : decode M.2.1 pc = .ok (.lshl, 1)) (hp : pc + 1 = pc') (k : JE E d M pc' L (.long (x <<< (y.toInt64 &&& 63)) :: st) σ Q) : JE E d M pc L (.int y :: .long x :: st) σ Q := by
  subst hp; intro p e s m args below meth c H locs ls C hP hS hl; exact lv_lshl C.1 C.2.1 hd rfl (k p e s m args below meth c H locs ls C hP hS hl)
theorem J_lshr {x : Int64} {y : Int32} (hd : decode M.2.1 pc = .ok (.lshr, 1)) (hp : pc + 1 = pc') (k : JE E d M pc' L (.long (x >>> (y.toInt64 &&& 63)) :: st) σ Q) : JE E d M pc L (.int y :: .long x :: st) σ Q := by
  subst hp; intro p e s m args below meth c H locs ls C hP hS hl; exact lv_lshr C.1 C.2.1 hd rfl (k p e s m args below meth c H locs ls C hP hS hl)
theorem J_lushr {x : Int64} {y : Int32} (hd : decode M.2.1 pc = .ok (.lushr, 1)) (hp : pc + 1 = pc') (k : JE E d M pc' L (.long ((x.toUInt64 >>> (y.toInt64.toUInt64 &&& Int64.toUInt64 63)).toInt64) :: st) σ Q) : JE E d M pc L (.int y :: .long x :: st) σ Q := by
  subst hp; intro p e s m args below meth c H locs ls C hP hS hl; exact lv_lushr C.1 C.2.1 hd rfl (k p e s m args below meth c H locs ls C hP hS hl)
theorem J_i2l {x : Int32} (hd : decode M.2.1 pc = .ok (.i2l, 1)) (hp : pc + 1 = pc') (k : JE E d M pc' L (.long x.toInt64 :: st) σ Q) : JE E d M pc L (.int x :: st) σ Q := by
  subst hp; intro p e s m args below meth c H locs ls C hP hS hl; exact lv_i2l C.1 C.2.1 hd rfl (k p e s m args below meth c H locs ls C hP hS hl)
theorem J_l2i {x : Int64} (hd : decode M.2.1 pc = .ok (.l2i, 1)) (hp : pc + 1 = pc') (k : JE E d M pc' L (.int x.toInt32 :: st) σ Q) : JE E d M pc L (.long x :: st) σ Q := by
  subst hp; intro p e s m args below meth c H locs ls C hP hS hl; exact lv_l2i C.1 C.2.1 hd rfl (k p e s m args below meth c H locs ls C hP hS hl)
theorem J_i2b {x : Int32} (hd : decode M.2.1 pc = .ok (.i2b, 1)) (hp : pc + 1 = pc') (k : JE E d M pc' L (.int x.toInt8.toInt32 :: st) σ Q) : JE E d M pc L (.int x :: st) σ Q := by
  subst hp; intro p e s m args below meth c H locs ls C hP hS hl; exact lv_i2b C.1 C.2.1 hd rfl (k p e s m args below meth c H locs ls C hP hS hl)
theorem J_i2c {x : Int32} (hd : decode M.2.1 pc = .ok (.i2c, 1)) (hp : pc + 1 = pc') (k : JE E d M pc' L (.int (x.toUInt32 % 65536).toInt32 :: st) σ Q) : JE E d M pc L (.int x :: st) σ Q := by
  subst hp; intro p e s m args below meth c H locs ls C hP hS hl; exact lv_i2c C.1 C.2.1 hd rfl (k p e s m args below meth c H locs ls C hP hS hl)
theorem J_dup {va : Value} (hd : decode M.2.1 pc = .ok (.dup, 1)) (hp : pc + 1 = pc') (hva : va.category = 1) (k : JE E d M pc' L (va :: va :: st) σ Q) : JE E d M pc L (va :: st) σ Q := by
  subst hp; intro p e s m args below meth c H locs ls C hP hS hl; exact lv_dup C.1 C.2.1 hd hva (k p e s m args below meth c H locs ls C hP hS hl)
theorem J_dup2_11 {va vb : Value} (hd : decode M.2.1 pc = .ok (.dup2, 1)) (hp : pc + 1 = pc') (hva : va.category = 1) (hvb : vb.category = 1) (k : JE E d M pc' L (va :: vb :: va :: vb :: st) σ Q) : JE E d M pc L (va :: vb :: st) σ Q := by
  subst hp; intro p e s m args below meth c H locs ls C hP hS hl; exact lv_dup2_11 C.1 C.2.1 hd hva hvb (k p e s m args below meth c H locs ls C hP hS hl)
theorem J_dup2_2 {va : Value} (hd : decode M.2.1 pc = .ok (.dup2, 1)) (hp : pc + 1 = pc') (hva : va.category = 2) (k : JE E d M pc' L (va :: va :: st) σ Q) : JE E d M pc L (va :: st) σ Q := by
  subst hp; intro p e s m args below meth c H locs ls C hP hS hl; exact lv_dup2_2 C.1 C.2.1 hd hva (k p e s m args below meth c H locs ls C hP hS hl)
theorem J_dup_x1 {va vb : Value} (hd : decode M.2.1 pc = .ok (.dup_x1, 1)) (hp : pc + 1 = pc') (hva : va.category = 1) (hvb : vb.category = 1) (k : JE E d M pc' L (va :: vb :: va :: st) σ Q) : JE E d M pc L (va :: vb :: st) σ Q := by
  subst hp; intro p e s m args below meth c H locs ls C hP hS hl; exact lv_dup_x1 C.1 C.2.1 hd hva hvb (k p e s m args below meth c H locs ls C hP hS hl)
theorem J_pop {va : Value} (hd : decode M.2.1 pc = .ok (.pop, 1)) (hp : pc + 1 = pc') (hva : va.category = 1) (k : JE E d M pc' L (st) σ Q) : JE E d M pc L (va :: st) σ Q := by
  subst hp; intro p e s m args below meth c H locs ls C hP hS hl; exact lv_pop C.1 C.2.1 hd hva (k p e s m args below meth c H locs ls C hP hS hl)
theorem J_lcmp {x y : Int64} (hd : decode M.2.1 pc = .ok (.lcmp, 1)) (hp : pc + 1 = pc') (k : JE E d M pc' L (.int (lg_cmp x y) :: st) σ Q) : JE E d M pc L (.long y :: .long x :: st) σ Q := by
  subst hp; intro p e s m args below meth c H locs ls C hP hS hl; exact W.lcmp C.1 C.2.1 hd (k p e s m args below meth c H locs ls C hP hS hl)
theorem J_icmp_eq {x y : Int32} {off : Int} {tgt : Nat} (hd : decode M.2.1 pc = .ok (.if_icmp .eq off, 3)) (hp : pc + 3 = pc') (ht : (pc : Int) + off = (tgt : Int)) (kt : x = y → JE E d M tgt L st σ Q) (kf : ¬ x = y → JE E d M pc' L st σ Q) : JE E d M pc L (.int y :: .int x :: st) σ Q := by
  subst hp; intro p e s m args below meth c H locs ls C hP hS hl; exact lv_icmp_eq C.1 C.2.1 hd ht (fun h => kt h p e s m args below meth c H locs ls C hP hS hl) (fun h => kf h p e s m args below meth c H locs ls C hP hS hl)
theorem J_icmp_ne {x y : Int32} {off : Int} {tgt : Nat} (hd : decode M.2.1 pc = .ok (.if_icmp .ne off, 3)) (hp : pc + 3 = pc') (ht : (pc : Int) + off = (tgt : Int)) (kt : ¬ x = y → JE E d M tgt L st σ Q) (kf : x = y → JE E d M pc' L st σ Q) : JE E d M pc L (.int y :: .int x :: st) σ Q := by
  subst hp; intro p e s m args below meth c H locs ls C hP hS hl; exact lv_icmp_ne C.1 C.2.1 hd ht (fun h => kt h p e s m args below meth c H locs ls C hP hS hl) (fun h => kf h p e s m args below meth c H locs ls C hP hS hl)
theorem J_icmp_lt {x y : Int32} {off : Int} {tgt : Nat} (hd : decode M.2.1 pc = .ok (.if_icmp .lt off, 3)) (hp : pc + 3 = pc') (ht : (pc : Int) + off = (tgt : Int)) (kt : x < y → JE E d M tgt L st σ Q) (kf : ¬ x < y → JE E d M pc' L st σ Q) : JE E d M pc L (.int y :: .int x :: st) σ Q := by
  subst hp; intro p e s m args below meth c H locs ls C hP hS hl; exact lv_icmp_lt C.1 C.2.1 hd ht (fun h => kt h p e s m args below meth c H locs ls C hP hS hl) (fun h => kf h p e s m args below meth c H locs ls C hP hS hl)
theorem J_icmp_ge {x y : Int32} {off : Int} {tgt : Nat} (hd : decode M.2.1 pc = .ok (.if_icmp .ge off, 3)) (hp : pc + 3 = pc') (ht : (pc : Int) + off = (tgt : Int)) (kt : y ≤ x → JE E d M tgt L st σ Q) (kf : ¬ y ≤ x → JE E d M pc' L st σ Q) : JE E d M pc L (.int y :: .int x :: st) σ Q := by
  subst hp; intro p e s m args below meth c H locs ls C hP hS hl; exact lv_icmp_ge C.1 C.2.1 hd ht (fun h => kt h p e s m args below meth c H locs ls C hP hS hl) (fun h => kf h p e s m args below meth c H locs ls C hP hS hl)
theorem J_icmp_gt {x y : Int32} {off : Int} {tgt : Nat} (hd : decode M.2.1 pc = .ok (.if_icmp .gt off, 3)) (hp : pc + 3 = pc') (ht : (pc : Int) + off = (tgt : Int)) (kt : y < x → JE E d M tgt L st σ Q) (kf : ¬ y < x → JE E d M pc' L st σ Q) : JE E d M pc L (.int y :: .int x :: st) σ Q := by
  subst hp; intro p e s m args below meth c H locs ls C hP hS hl; exact lv_icmp_gt C.1 C.2.1 hd ht (fun h => kt h p e s m args below meth c H locs ls C hP hS hl) (fun h => kf h p e s m args below meth c H locs ls C hP hS hl)
theorem J_icmp_le {x y : Int32} {off : Int} {tgt : Nat} (hd : decode M.2.1 pc = .ok (.if_icmp .le off, 3)) (hp : pc + 3 = pc') (ht : (pc : Int) + off = (tgt : Int)) (kt : x ≤ y → JE E d M tgt L st σ Q) (kf : ¬ x ≤ y → JE E d M pc' L st σ Q) : JE E d M pc L (.int y :: .int x :: st) σ Q := by
  subst hp; intro p e s m args below meth c H locs ls C hP hS hl; exact lv_icmp_le C.1 C.2.1 hd ht (fun h => kt h p e s m args below meth c H locs ls C hP hS hl) (fun h => kf h p e s m args below meth c H locs ls C hP hS hl)
theorem J_if_eq {x : Int32} {off : Int} {tgt : Nat} (hd : decode M.2.1 pc = .ok (.ifCond .eq off, 3)) (hp : pc + 3 = pc') (ht : (pc : Int) + off = (tgt : Int)) (kt : x = 0 → JE E d M tgt L st σ Q) (kf : ¬ x = 0 → JE E d M pc' L st σ Q) : JE E d M pc L (.int x :: st) σ Q := by
  subst hp; intro p e s m args below meth c H locs ls C hP hS hl; exact lv_if_eq C.1 C.2.1 hd ht (fun h => kt h p e s m args below meth c H locs ls C hP hS hl) (fun h => kf h p e s m args below meth c H locs ls C hP hS hl)
theorem J_if_ne {x : Int32} {off : Int} {tgt : Nat} (hd : decode M.2.1 pc = .ok (.ifCond .ne off, 3)) (hp : pc + 3 = pc') (ht : (pc : Int) + off = (tgt : Int)) (kt : ¬ x = 0 → JE E d M tgt L st σ Q) (kf : x = 0 → JE E d M pc' L st σ Q) : JE E d M pc L (.int x :: st) σ Q := by
  subst hp; intro p e s m args below meth c H locs ls C hP hS hl; exact lv_if_ne C.1 C.2.1 hd ht (fun h => kt h p e s m args below meth c H locs ls C hP hS hl) (fun h => kf h p e s m args below meth c H locs ls C hP hS hl)
theorem J_if_lt {x : Int32} {off : Int} {tgt : Nat} (hd : decode M.2.1 pc = .ok (.ifCond .lt off, 3)) (hp : pc + 3 = pc') (ht : (pc : Int) + off = (tgt : Int)) (kt : x < 0 → JE E d M tgt L st σ Q) (kf : ¬ x < 0 → JE E d M pc' L st σ Q) : JE E d M pc L (.int x :: st) σ Q := by
  subst hp; intro p e s m args below meth c H locs ls C hP hS hl; exact lv_if_lt C.1 C.2.1 hd ht (fun h => kt h p e s m args below meth c H locs ls C hP hS hl) (fun h => kf h p e s m args below meth c H locs ls C hP hS hl)
theorem J_if_ge {x : Int32} {off : Int} {tgt : Nat} (hd : decode M.2.1 pc = .ok (.ifCond .ge off, 3)) (hp : pc + 3 = pc') (ht : (pc : Int) + off = (tgt : Int)) (kt : 0 ≤ x → JE E d M tgt L st σ Q) (kf : ¬ 0 ≤ x → JE E d M pc' L st σ Q) : JE E d M pc L (.int x :: st) σ Q := by
  subst hp; intro p e s m args below meth c H locs ls C hP hS hl; exact lv_if_ge C.1 C.2.1 hd ht (fun h => kt h p e s m args below meth c H locs ls C hP hS hl) (fun h => kf h p e s m args below meth c H locs ls C hP hS hl)
theorem J_if_gt {x : Int32} {off : Int} {tgt : Nat} (hd : decode M.2.1 pc = .ok (.ifCond .gt off, 3)) (hp : pc + 3 = pc') (ht : (pc : Int) + off = (tgt : Int)) (kt : 0 < x → JE E d M tgt L st σ Q) (kf : ¬ 0 < x → JE E d M pc' L st σ Q) : JE E d M pc L (.int x :: st) σ Q := by
  subst hp; intro p e s m args below meth c H locs ls C hP hS hl; exact lv_if_gt C.1 C.2.1 hd ht (fun h => kt h p e s m args below meth c H locs ls C hP hS hl) (fun h => kf h p e s m args below meth c H locs ls C hP hS hl)
theorem J_if_le {x : Int32} {off : Int} {tgt : Nat} (hd : decode M.2.1 pc = .ok (.ifCond .le off, 3)) (hp : pc + 3 = pc') (ht : (pc : Int) + off = (tgt : Int)) (kt : x ≤ 0 → JE E d M tgt L st σ Q) (kf : ¬ x ≤ 0 → JE E d M pc' L st σ Q) : JE E d M pc L (.int x :: st) σ Q := by
  subst hp; intro p e s m args below meth c H locs ls C hP hS hl; exact lv_if_le C.1 C.2.1 hd ht (fun h => kt h p e s m args below meth c H locs ls C hP hS hl) (fun h => kf h p e s m args below meth c H locs ls C hP hS hl)
theorem J_goto {off : Int} {tgt : Nat} (hd : decode M.2.1 pc = .ok (.goto off, 3)) (ht : (pc : Int) + off = (tgt : Int)) (k : JE E d M tgt L st σ Q) : JE E d M pc L st σ Q := by
  intro p e s m args below meth c H locs ls C hP hS hl; exact lv_goto C.1 C.2.1 hd ht (k p e s m args below meth c H locs ls C hP hS hl)
theorem J_tableIn {dflt lo hi : Int} {offs : Array Int} {len : Nat} {x : Int32} {off : Int} {tgt : Nat} (hd : decode M.2.1 pc = .ok (.tableswitch dflt lo hi offs, len)) (h1 : ¬ x.toInt < lo) (h2 : ¬ hi < x.toInt) (ho : offs[(x.toInt - lo).toNat]? = some off) (ht : (pc : Int) + off = (tgt : Int)) (k : JE E d M tgt L st σ Q) : JE E d M pc L (.int x :: st) σ Q := by
  intro p e s m args below meth c H locs ls C hP hS hl; exact lv_tableIn C.1 C.2.1 hd h1 h2 ho ht (k p e s m args below meth c H locs ls C hP hS hl)
theorem J_tableOut {dflt lo hi : Int} {offs : Array Int} {len : Nat} {x : Int32} {tgt : Nat} (hd : decode M.2.1 pc = .ok (.tableswitch dflt lo hi offs, len)) (h : x.toInt < lo ∨ hi < x.toInt) (ht : (pc : Int) + dflt = (tgt : Int)) (k : JE E d M tgt L st σ Q) : JE E d M pc L (.int x :: st) σ Q := by
  intro p e s m args below meth c H locs ls C hP hS hl; exact lv_tableOut C.1 C.2.1 hd h ht (k p e s m args below meth c H locs ls C hP hS hl)
theorem J_lookup {dflt : Int} {ps : Array (Int × Int)} {len : Nat} {x : Int32} {off : Int} {tgt : Nat} (hd : decode M.2.1 pc = .ok (.lookupswitch dflt ps, len)) (hq : (ps.toList.zip (ps.toList.drop 1)).all (fun (a, next) => a.1 < next.1) = true) (ho : Op.lookupswitch.offset ps.toList dflt x.toInt = off) (ht : (pc : Int) + off = (tgt : Int)) (k : JE E d M tgt L st σ Q) : JE E d M pc L (.int x :: st) σ Q := by
  intro p e s m args below meth c H locs ls C hP hS hl; exact lv_lookup C.1 C.2.1 hd hq ho ht (k p e s m args below meth c H locs ls C hP hS hl)
theorem J_ldc {i : Nat} {v : Int32} (hd : decode M.2.1 pc = .ok (.ldc i, 2)) (hp : pc + 2 = pc') (hw : Cond.constant M.1.cls i v ∈ tb) (k : JE E d M pc' L (.int v :: st) σ Q) : JE E d M pc L st σ Q := by
  subst hp; intro p e s m args below meth c H locs ls C hP hS hl; exact lv_ldc C.1 C.2.1 C.2.2.2.1 (C.2.2.2.2.1 _ hw) hd (k p e s m args below meth c H locs ls C hP hS hl)
theorem J_ldcw {i : Nat} {v : Int32} (hd : decode M.2.1 pc = .ok (.ldc_w i, 3)) (hp : pc + 3 = pc') (hw : Cond.constant M.1.cls i v ∈ tb) (k : JE E d M pc' L (.int v :: st) σ Q) : JE E d M pc L st σ Q := by
  subst hp; intro p e s m args below meth c H locs ls C hP hS hl; exact lv_ldcw C.1 C.2.1 C.2.2.2.1 (C.2.2.2.2.1 _ hw) hd (k p e s m args below meth c H locs ls C hP hS hl)
theorem J_ldc2 {i : Nat} {v : Int64} (hd : decode M.2.1 pc = .ok (.ldc2_w i, 3)) (hp : pc + 3 = pc') (hw : Cond.constantLong M.1.cls i v ∈ tb) (k : JE E d M pc' L (.long v :: st) σ Q) : JE E d M pc L st σ Q := by
  subst hp; intro p e s m args below meth c H locs ls C hP hS hl; exact lv_ldc2 C.1 C.2.1 C.2.2.2.1 (C.2.2.2.2.1 _ hw) hd (k p e s m args below meth c H locs ls C hP hS hl)
theorem J_iret {v : Int32} (hd : decode M.2.1 pc = .ok (.ireturn, 1)) (hr : M.2.2.2 = some .int) (h : Q (some (.int v)) σ) : JE E d M pc L [.int v] σ Q := by
  intro p e s m args below meth c H locs ls C hP hS hl; exact W.iret C.1 C.2.1 (by rw [C.2.2.2.2.2.1, hr]) (fun t ht hW => ⟨⟨some (.int v), σ, rfl, h, by rw [ht]; exact hP, va_K.moved hW.alike C.2.2.2.2.2.2.2.1⟩, hS.F ht⟩) hS.2.2 hd C.2.2.2.2.2.2.1
theorem J_zret {v : Int32} {ty : FieldType} (hd : decode M.2.1 pc = .ok (.ireturn, 1)) (hr : M.2.2.2 = some ty) (hn : narrow ty (.int v) = .int v) (h : Q (some (.int v)) σ) : JE E d M pc L [.int v] σ Q := by
  intro p e s m args below meth c H locs ls C hP hS hl; exact W.zret C.1 C.2.1 (by rw [C.2.2.2.2.2.1, hr]) hn (fun t ht hW => ⟨⟨some (.int v), σ, rfl, h, by rw [ht]; exact hP, va_K.moved hW.alike C.2.2.2.2.2.2.2.1⟩, hS.F ht⟩) hS.2.2 hd C.2.2.2.2.2.2.1
theorem J_lret {v : Int64} (hd : decode M.2.1 pc = .ok (.lreturn, 1)) (hr : M.2.2.2 = some .long) (h : Q (some (.long v)) σ) : JE E d M pc L [.long v] σ Q := by
  intro p e s m args below meth c H locs ls C hP hS hl; exact W.lret C.1 C.2.1 (by rw [C.2.2.2.2.2.1, hr]) (fun t ht hW => ⟨⟨some (.long v), σ, rfl, h, by rw [ht]; exact hP, va_K.moved hW.alike C.2.2.2.2.2.2.2.1⟩, hS.F ht⟩) hS.2.2 hd C.2.2.2.2.2.2.1
theorem J_vret (hd : decode M.2.1 pc = .ok (.return_, 1)) (hr : M.2.2.2 = none) (h : Q none σ) : JE E d M pc L [] σ Q := by
  intro p e s m args below meth c H locs ls C hP hS hl; exact W.vret C.1 C.2.1 (by rw [C.2.2.2.2.2.1, hr]) (fun t ht hW => ⟨⟨none, σ, rfl, h, by rw [ht]; exact hP, va_K.moved hW.alike C.2.2.2.2.2.2.2.1⟩, hS.F ht⟩) hS.2.2 hd C.2.2.2.2.2.2.1
/-- a field of class c, slot k, by entry i of own's file -/
def FLt (own : String) (i c k : Nat) : Prop := ∃ r : vw_C, classes[c]? = some r ∧ k < r.2.2 ∧ r.2.2 = nfOf c ∧ Cond.fieldLink own i r.1 (r.2.1 k).2.1 (r.2.1 k).2.2.1 ∈ tb
theorem J_getv {i c k x : Nat} {v : Value} (hd : decode M.2.1 pc = .ok (.getfield i, 3)) (hp : pc + 3 = pc') (hf : FLt M.1.cls i c k) (hc : c < 20) (hk : kindP x = c) (hv : fvalE E σ c x k = v) (kk : JE E d M pc' L (v :: st) σ Q) : JE E d M pc L (pv E x :: st) σ Q := by
  subst hp; intro p e s m args below meth c' H locs ls C hP hS hl
  obtain ⟨r, h1, h2, h3, h4⟩ := hf
  obtain ⟨w1, -, -, w4⟩ := cw_all r (List.mem_of_getElem? h1)
  have hx : x < NP := kindP_lt hk (by omega)
  refine va_get (D := E.2.1) (ci := c) (v := v) (C := r.1) (T := r.2.1) (N := r.2.2) C.1 C.2.1 C.2.2.2.2.1 w1 C.2.2.2.1 C.2.2.2.2.2.2.2.1 hP x (by rw [wsE_get hx, cellE_obj hk hc]) h1 k h2 (C.2.2.2.2.1 _ h4) (fun _ h9 => by rw [w4 k h2] at h9; exact h9) ?_ hd (kk p e s m args below meth c' H locs ls C hP hS hl)
  rw [List.getElem?_map, List.getElem?_range (by omega)]
  simp [hv]
theorem J_getI {i c k x : Nat} (hd : decode M.2.1 pc = .ok (.getfield i, 3)) (hp : pc + 3 = pc') (hf : FLt M.1.cls i c k) (hc : c < 20) (hk : kindP x = c) (h0 : fkind c k = 0 ∨ fkind c k = 5) (kk : JE E d M pc' L (.int (gI σ x k) :: st) σ Q) : JE E d M pc L (pv E x :: st) σ Q :=
  J_getv hd hp hf hc hk (by unfold fvalE; rcases h0 with h | h <;> rw [h] <;> rfl) kk
theorem J_getL {i c k x : Nat} (hd : decode M.2.1 pc = .ok (.getfield i, 3)) (hp : pc + 3 = pc') (hf : FLt M.1.cls i c k) (hc : c < 20) (hk : kindP x = c) (h0 : fkind c k = 1) (kk : JE E d M pc' L (.long (gL σ x k) :: st) σ Q) : JE E d M pc L (pv E x :: st) σ Q :=
  J_getv hd hp hf hc hk (by unfold fvalE; rw [h0]; rfl) kk
theorem J_getR {i c k x y : Nat} (hd : decode M.2.1 pc = .ok (.getfield i, 3)) (hp : pc + 3 = pc') (hf : FLt M.1.cls i c k) (hc : c < 20) (hk : kindP x = c) (h0 : fkind c k = 2) (hy : gR σ x k = some y) (kk : JE E d M pc' L (pv E y :: st) σ Q) : JE E d M pc L (pv E x :: st) σ Q :=
  J_getv hd hp hf hc hk (by unfold fvalE; rw [h0]; simp only; rw [hy]; rfl) kk
theorem J_getF {i c k x y : Nat} (hd : decode M.2.1 pc = .ok (.getfield i, 3)) (hp : pc + 3 = pc') (hf : FLt M.1.cls i c k) (hc : c < 20) (hk : kindP x = c) (h0 : fkind c k = 3 ∨ fkind c k = 4) (hy : finp c k x = y) (kk : JE E d M pc' L (pv E y :: st) σ Q) : JE E d M pc L (pv E x :: st) σ Q :=
  J_getv hd hp hf hc hk (by unfold fvalE; rcases h0 with h | h <;> rw [h] <;> simp only <;> rw [hy]) kk
/-- as FLt, and the field may be written: its type -/
def PLt (own : String) (i c k : Nat) (ty : FieldType) : Prop := ∃ r : vw_C, classes[c]? = some r ∧ k < r.2.2 ∧ r.2.2 = nfOf c ∧ Cond.fieldLink own i r.1 (r.2.1 k).2.1 (r.2.1 k).2.2.1 ∈ tb ∧ (r.2.1 k).2.2.2 = false ∧ parseFieldDescriptor (r.2.1 k).2.2.1 = some ty
theorem J_putv {i c k x : Nat} {v : Value} {ty : FieldType} {σ' : S_t} (hd : decode M.2.1 pc = .ok (.putfield i, 3)) (hp : pc + 3 = pc') (hf : PLt M.1.cls i c k ty) (hc : c < 20) (hk : kindP x = c) (hn : narrow ty v = v) (hfit : fits ty v = true) (h1 : ((List.range (nfOf c)).map (fvalE E σ c x)).set k v = (List.range (nfOf c)).map (fvalE E σ' c x)) (h2 : ∀ q, q ≠ x → cellE E σ' q = cellE E σ q) (kk : JE E d M pc' L st σ' Q) : JE E d M pc L (v :: pv E x :: st) σ Q := by
  subst hp; intro p e s m args below meth c' H locs ls C hP hS hl
  obtain ⟨r, g1, g2, g3, g4, g5, g6⟩ := hf
  obtain ⟨w1, ⟨ty0, w2⟩, w3, w4⟩ := cw_all r (List.mem_of_getElem? g1)
  have hx : x < NP := kindP_lt hk (by omega)
  refine va_put (D := E.2.1) (ci := c) (v := v) (ty := ty) (C := r.1) (T := r.2.1) (N := r.2.2) C.1 C.2.1 C.2.2.2.2.1 w1 ty0 w2 w3 C.2.2.2.1 C.2.2.2.2.2.2.2.1 hP (wsE_D C.2.2.2.2.2.2.2.2.2 σ) hS x (by rw [wsE_get hx, cellE_obj hk hc]) g1 k g2 (C.2.2.2.2.1 _ g4) (fun _ h9 => by rw [w4 k g2] at h9; exact h9) g5 g6 hn hfit (by simp; omega) hd (fun H locs hP hD hS => ?_)
  rw [wsE_set (σ' := σ') (by rw [cellE_obj hk hc, h1]) h2] at hP
  exact kk p e s m args below meth c' H locs ls C hP hS hl
theorem J_putI {i c k x : Nat} {v : Int32} (hd : decode M.2.1 pc = .ok (.putfield i, 3)) (hp : pc + 3 = pc') (hf : PLt M.1.cls i c k .int) (hc : c < 20) (hk : kindP x = c) (h0 : fkind c k = 0) (kk : JE E d M pc' L st (sI σ x k v) Q) : JE E d M pc L (.int v :: pv E x :: st) σ Q :=
  J_putv hd hp hf hc hk rfl rfl (fval_sI (Or.inl h0)) (fun _ h => cellE_sI_o h) kk
theorem J_putZ {i c k x : Nat} {v : Int32} (hd : decode M.2.1 pc = .ok (.putfield i, 3)) (hp : pc + 3 = pc') (hf : PLt M.1.cls i c k .boolean) (hc : c < 20) (hk : kindP x = c) (h0 : fkind c k = 5) (hv : v = 0 ∨ v = 1) (kk : JE E d M pc' L st (sI σ x k v) Q) : JE E d M pc L (.int v :: pv E x :: st) σ Q :=
  J_putv hd hp hf hc hk (by rcases hv with rfl | rfl <;> rfl) (by rcases hv with rfl | rfl <;> rfl) (fval_sI (Or.inr h0)) (fun _ h => cellE_sI_o h) kk
theorem J_putL {i c k x : Nat} {v : Int64} (hd : decode M.2.1 pc = .ok (.putfield i, 3)) (hp : pc + 3 = pc') (hf : PLt M.1.cls i c k .long) (hc : c < 20) (hk : kindP x = c) (h0 : fkind c k = 1) (kk : JE E d M pc' L st (sL σ x k v) Q) : JE E d M pc L (.long v :: pv E x :: st) σ Q :=
  J_putv hd hp hf hc hk rfl rfl (fval_sL h0) (fun _ h => cellE_sL_o h) kk
theorem J_putR {i c k x y : Nat} {C : String} (hd : decode M.2.1 pc = .ok (.putfield i, 3)) (hp : pc + 3 = pc') (hf : PLt M.1.cls i c k (.object C)) (hc : c < 20) (hk : kindP x = c) (h0 : fkind c k = 2) (kk : JE E d M pc' L st (sR σ x k (some y)) Q) : JE E d M pc L (pv E y :: pv E x :: st) σ Q :=
  J_putv hd hp hf hc hk rfl rfl (fval_sR h0) (fun _ h => cellE_sR_o h) kk
theorem J_iald {x : Nat} {i : Int32} {n : Nat} (hd : decode M.2.1 pc = .ok (.iaload, 1)) (hp : pc + 1 = pc') (hk : kindP x = 20) (hn : lenP x = n) (hi : vp_in i n) (kk : JE E d M pc' L (.int (gI σ x i.toNatClampNeg) :: st) σ Q) : JE E d M pc L (.int i :: pv E x :: st) σ Q := by
  subst hp; subst hn; intro p e s m args below meth c H locs ls C hP hS hl
  exact va_iald (D := E.2.1) (cl := classes) (tys := tysE E) C.1 C.2.1 C.2.2.2.2.2.2.2.1 hP x 0 (by rw [wsE_get (kindP_lt hk (by omega)), cellE_arr (t := 0) hk (by omega)]) rfl hi hd (kk p e s m args below meth c H locs ls C hP hS hl)
theorem J_bald {x : Nat} {i : Int32} {n : Nat} (hd : decode M.2.1 pc = .ok (.baload, 1)) (hp : pc + 1 = pc') (hk : kindP x = 21) (hn : lenP x = n) (hi : vp_in i n) (kk : JE E d M pc' L (.int (gI σ x i.toNatClampNeg) :: st) σ Q) : JE E d M pc L (.int i :: pv E x :: st) σ Q := by
  subst hp; subst hn; intro p e s m args below meth c H locs ls C hP hS hl
  exact va_bald (D := E.2.1) (cl := classes) (tys := tysE E) C.1 C.2.1 C.2.2.2.2.2.2.2.1 hP x 1 (by rw [wsE_get (kindP_lt hk (by omega)), cellE_arr (t := 1) hk (by omega)]) rfl hi hd (kk p e s m args below meth c H locs ls C hP hS hl)
theorem J_zald {x : Nat} {i : Int32} {n : Nat} (hd : decode M.2.1 pc = .ok (.baload, 1)) (hp : pc + 1 = pc') (hk : kindP x = 22) (hn : lenP x = n) (hi : vp_in i n) (kk : JE E d M pc' L (.int (gI σ x i.toNatClampNeg) :: st) σ Q) : JE E d M pc L (.int i :: pv E x :: st) σ Q := by
  subst hp; subst hn; intro p e s m args below meth c H locs ls C hP hS hl
  exact va_zald (D := E.2.1) (cl := classes) (tys := tysE E) C.1 C.2.1 C.2.2.2.2.2.2.2.1 hP x 2 (by rw [wsE_get (kindP_lt hk (by omega)), cellE_arr (t := 2) hk (by omega)]) rfl hi hd (kk p e s m args below meth c H locs ls C hP hS hl)
theorem J_iast {x : Nat} {i v : Int32} {n : Nat} (hd : decode M.2.1 pc = .ok (.iastore, 1)) (hp : pc + 1 = pc') (hk : kindP x = 20) (hn : lenP x = n) (hi : vp_in i n) (kk : JE E d M pc' L st (sI σ x i.toNatClampNeg v) Q) : JE E d M pc L (.int v :: .int i :: pv E x :: st) σ Q := by
  subst hp; subst hn; intro p e s m args below meth c H locs ls C hP hS hl
  refine va_iast (D := E.2.1) (cl := classes) (tys := tysE E) C.1 C.2.1 C.2.2.2.2.2.2.2.1 hP (wsE_D C.2.2.2.2.2.2.2.2.2 σ) hS x 0 (by rw [wsE_get (kindP_lt hk (by omega)), cellE_arr (t := 0) hk (by omega)]) rfl hi hd (fun H locs hP hD hS => ?_)
  rw [wsE_set (σ' := sI σ x i.toNatClampNeg v) ?_ (fun _ h => cellE_sI_o h)] at hP
  · exact kk p e s m args below meth c H locs ls C hP hS hl
  · rw [cellE_arr (t := 0) hk (by omega)]; congr 4; funext j; simp only [upd, gI_sI]; by_cases hj : j = i.toNatClampNeg <;> simp [hj]
theorem J_bast {x : Nat} {i v : Int32} {n : Nat} (hd : decode M.2.1 pc = .ok (.bastore, 1)) (hp : pc + 1 = pc') (hk : kindP x = 21) (hn : lenP x = n) (hi : vp_in i n) (kk : JE E d M pc' L st (sI σ x i.toNatClampNeg (vp_nar .byte v)) Q) : JE E d M pc L (.int v :: .int i :: pv E x :: st) σ Q := by
  subst hp; subst hn; intro p e s m args below meth c H locs ls C hP hS hl
  refine va_bast (D := E.2.1) (cl := classes) (tys := tysE E) C.1 C.2.1 C.2.2.2.2.2.2.2.1 hP (wsE_D C.2.2.2.2.2.2.2.2.2 σ) hS x 1 (by rw [wsE_get (kindP_lt hk (by omega)), cellE_arr (t := 1) hk (by omega)]) rfl hi hd (fun H locs hP hD hS => ?_)
  rw [wsE_set (σ' := sI σ x i.toNatClampNeg (vp_nar .byte v)) ?_ (fun _ h => cellE_sI_o h)] at hP
  · exact kk p e s m args below meth c H locs ls C hP hS hl
  · rw [cellE_arr (t := 1) hk (by omega)]; congr 4; funext j; simp only [upd, gI_sI]; by_cases hj : j = i.toNatClampNeg <;> simp [hj]
theorem J_zast {x : Nat} {i v : Int32} {n : Nat} (hd : decode M.2.1 pc = .ok (.bastore, 1)) (hp : pc + 1 = pc') (hk : kindP x = 22) (hn : lenP x = n) (hi : vp_in i n) (kk : JE E d M pc' L st (sI σ x i.toNatClampNeg (vp_nar .boolean v)) Q) : JE E d M pc L (.int v :: .int i :: pv E x :: st) σ Q := by
  subst hp; subst hn; intro p e s m args below meth c H locs ls C hP hS hl
  refine va_zast (D := E.2.1) (cl := classes) (tys := tysE E) C.1 C.2.1 C.2.2.2.2.2.2.2.1 hP (wsE_D C.2.2.2.2.2.2.2.2.2 σ) hS x 2 (by rw [wsE_get (kindP_lt hk (by omega)), cellE_arr (t := 2) hk (by omega)]) rfl hi hd (fun H locs hP hD hS => ?_)
  rw [wsE_set (σ' := sI σ x i.toNatClampNeg (vp_nar .boolean v)) ?_ (fun _ h => cellE_sI_o h)] at hP
  · exact kk p e s m args below meth c H locs ls C hP hS hl
  · rw [cellE_arr (t := 2) hk (by omega)]; congr 4; funext j; simp only [upd, gI_sI]; by_cases hj : j = i.toNatClampNeg <;> simp [hj]
theorem J_lald {x : Nat} {i : Int32} {n : Nat} (hd : decode M.2.1 pc = .ok (.laload, 1)) (hp : pc + 1 = pc') (hk : kindP x = 23) (hn : lenP x = n) (hi : vp_in i n) (kk : JE E d M pc' L (.long (gL σ x i.toNatClampNeg) :: st) σ Q) : JE E d M pc L (.int i :: pv E x :: st) σ Q := by
  subst hp; subst hn; intro p e s m args below meth c H locs ls C hP hS hl
  exact va_lald (D := E.2.1) (cl := classes) (tys := tysE E) C.1 C.2.1 C.2.2.2.2.2.2.2.1 hP x 3 (by rw [wsE_get (kindP_lt hk (by omega)), cellE_arrL hk]) rfl hi hd (kk p e s m args below meth c H locs ls C hP hS hl)
theorem J_last {x : Nat} {i : Int32} {v : Int64} {n : Nat} (hd : decode M.2.1 pc = .ok (.lastore, 1)) (hp : pc + 1 = pc') (hk : kindP x = 23) (hn : lenP x = n) (hi : vp_in i n) (kk : JE E d M pc' L st (sL σ x i.toNatClampNeg v) Q) : JE E d M pc L (.long v :: .int i :: pv E x :: st) σ Q := by
  subst hp; subst hn; intro p e s m args below meth c H locs ls C hP hS hl
  refine va_last (D := E.2.1) (cl := classes) (tys := tysE E) C.1 C.2.1 C.2.2.2.2.2.2.2.1 hP (wsE_D C.2.2.2.2.2.2.2.2.2 σ) hS x 3 (by rw [wsE_get (kindP_lt hk (by omega)), cellE_arrL hk]) rfl hi hd (fun H locs hP hD hS => ?_)
  rw [wsE_set (σ' := sL σ x i.toNatClampNeg v) ?_ (fun _ h => cellE_sL_o h)] at hP
  · exact kk p e s m args below meth c H locs ls C hP hS hl
  · rw [cellE_arrL hk]; congr 5; funext j; simp only [vp_updL, gL_sL]; by_cases hj : j = i.toNatClampNeg <;> simp [hj]
theorem J_aald {x y : Nat} {i : Int32} {n : Nat} (hd : decode M.2.1 pc = .ok (.aaload, 1)) (hp : pc + 1 = pc') (hk : kindP x = 24) (hn : lenP x = n) (hi : vp_in i n) (hy : gR σ x i.toNatClampNeg = some y) (kk : JE E d M pc' L (pv E y :: st) σ Q) : JE E d M pc L (.int i :: pv E x :: st) σ Q := by
  subst hp; subst hn; intro p e s m args below meth c H locs ls C hP hS hl
  refine va_aldq (D := E.2.1) (cl := classes) (tys := tysE E) C.1 C.2.1 C.2.2.2.2.2.2.2.1 hP x 4 (by rw [wsE_get (kindP_lt hk (by omega)), cellE_arrR hk]) rfl hi hd ?_
  have kk := kk p e s m args below meth c H locs ls C hP hS hl
  simp only [hy]; exact kk
theorem J_aast {x y : Nat} {i : Int32} {n : Nat} (hd : decode M.2.1 pc = .ok (.aastore, 1)) (hp : pc + 1 = pc') (hk : kindP x = 24) (hn : lenP x = n) (hi : vp_in i n) (hy : kindP y = 11) (kk : JE E d M pc' L st (sR σ x i.toNatClampNeg (some y)) Q) : JE E d M pc L (pv E y :: .int i :: pv E x :: st) σ Q := by
  subst hp; subst hn; intro p e s m args below meth c H locs ls C hP hS hl
  refine va_astq (D := E.2.1) (cl := classes) (tys := tysE E) C.1 C.2.1 C.2.2.2.2.2.2.2.1 hP (wsE_D C.2.2.2.2.2.2.2.2.2 σ) hS x 4 y 11 (r := ("CanonPress$Tree", F_Tr, 15)) (by rw [wsE_get (kindP_lt hk (by omega)), cellE_arrR hk]) rfl (by rw [wsE_get (kindP_lt hy (by omega)), cellE_obj hy (by omega)]) rfl hi hd (fun H locs hP hD hS => ?_)
  rw [wsE_set (σ' := sR σ x i.toNatClampNeg (some y)) ?_ (fun _ h => cellE_sR_o h)] at hP
  · exact kk p e s m args below meth c H locs ls C hP hS hl
  · rw [cellE_arrR hk]; congr 7; funext j; simp only [va_up, gR_sR]; by_cases hj : j = i.toNatClampNeg <;> simp [hj]
theorem J_alen {x : Nat} {n : Nat} {v : Int32} (hd : decode M.2.1 pc = .ok (.arraylength, 1)) (hp : pc + 1 = pc') (hk : kindP x = 20) (hn : lenP x = n) (hv : Int32.ofNat n = v) (kk : JE E d M pc' L (.int v :: st) σ Q) : JE E d M pc L (pv E x :: st) σ Q := by
  subst hp; subst hn; intro p e s m args below meth c H locs ls C hP hS hl
  exact va_alen (D := E.2.1) (cl := classes) (tys := tysE E) C.1 C.2.1 C.2.2.2.2.2.2.2.1 hP x 0 (by rw [wsE_get (kindP_lt hk (by omega)), cellE_arr (t := 0) hk (by omega)]) rfl hv hd (kk p e s m args below meth c H locs ls C hP hS hl)
theorem J_gets {i t : Nat} {q : String × String × List Int32} (hd : decode M.2.1 pc = .ok (.getstatic i, 3)) (hp : pc + 3 = pc') (hq : stL[t]? = some q) (hw : Cond.fieldLink M.1.cls i q.1 q.2.1 "[I" ∈ tb) (kk : JE E d M pc' L (pv E (1000 + t) :: st) σ Q) : JE E d M pc L st σ Q := by
  subst hp; intro p e s m args below meth c H locs ls C hP hS hl
  exact va_gets C.1 C.2.1 (C.2.2.2.2.2.2.2.2.1.1 t q hq).1 hS C.2.2.2.1 (C.2.2.2.2.1 _ hw) (fun _ h => h) hd (kk p e s m args below meth c H locs ls C hP hS hl)
theorem J_tald {i v : Int32} {t : Nat} {q : String × String × List Int32} (hd : decode M.2.1 pc = .ok (.iaload, 1)) (hp : pc + 1 = pc') (hq : stL[t]? = some q) (hi : vp_in i q.2.2.length) (hv : q.2.2.getD i.toNatClampNeg 0 = v) (kk : JE E d M pc' L (.int v :: st) σ Q) : JE E d M pc L (.int i :: pv E (1000 + t) :: st) σ Q := by
  subst hp; subst hv; intro p e s m args below meth c H locs ls C hP hS hl
  exact va_ti C.1 C.2.1 (C.2.2.2.2.2.2.2.2.1.1 t q hq).2 hS hi rfl hd (kk p e s m args below meth c H locs ls C hP hS hl)
theorem J_tlen {t : Nat} {q : String × String × List Int32} {v : Int32} (hd : decode M.2.1 pc = .ok (.arraylength, 1)) (hp : pc + 1 = pc') (hq : stL[t]? = some q) (hv : Int32.ofNat q.2.2.length = v) (kk : JE E d M pc' L (.int v :: st) σ Q) : JE E d M pc L (pv E (1000 + t) :: st) σ Q := by
  subst hp; intro p e s m args below meth c H locs ls C hP hS hl
  exact va_tlen C.1 C.2.1 (C.2.2.2.2.2.2.2.2.1.1 t q hq).2 hS hv hd (kk p e s m args below meth c H locs ls C hP hS hl)
def mnI (x y : Int32) : Int32 := if y < x then y else x
def mxI (x y : Int32) : Int32 := if x < y then y else x
def abI (x : Int32) : Int32 := if 0 ≤ x then x else -x
theorem J_mmin {i : Nat} {x y : Int32} (hd : decode M.2.1 pc = .ok (.invokestatic i, 3)) (hp : pc + 3 = pc') (hl0 : Cond.methodLink M.1.cls i m_JMa_min.1 ∈ tb) (hw : (st.map fun v => v.category).sum ≤ 8) (k : ∀ r, r = mnI x y → JE E (d + 1) M pc' L (.int r :: st) σ Q) : JE E (d + 1) M pc L (.int y :: .int x :: st) σ Q := by
  subst hp; intro p e s m args below meth c H locs ls C hP hS hl
  exact va_mmin C.1 C.2.1 (C.2.2.1.trans hl.1.symm) C.2.2.2.1 (C.2.2.2.2.1 _ hl0) (C.2.2.2.2.1 _ mi_JMa_min.1) (C.2.2.2.2.1 _ mi_JMa_min.2.1) (C.2.2.2.2.1 _ mi_JMa_min.2.2.1) (by show 1 ≤ d + 1; omega) (by show _ + 13 ≤ 64 * (d + 1); omega) (Nat.le_refl _) (Nat.le_refl _) hd (k _ rfl p e s m args below meth c H locs ls C hP hS hl)
theorem J_mmax {i : Nat} {x y : Int32} (hd : decode M.2.1 pc = .ok (.invokestatic i, 3)) (hp : pc + 3 = pc') (hl0 : Cond.methodLink M.1.cls i m_JMa_max.1 ∈ tb) (hw : (st.map fun v => v.category).sum ≤ 8) (k : ∀ r, r = mxI x y → JE E (d + 1) M pc' L (.int r :: st) σ Q) : JE E (d + 1) M pc L (.int y :: .int x :: st) σ Q := by
  subst hp; intro p e s m args below meth c H locs ls C hP hS hl
  exact va_mmax C.1 C.2.1 (C.2.2.1.trans hl.1.symm) C.2.2.2.1 (C.2.2.2.2.1 _ hl0) (C.2.2.2.2.1 _ mi_JMa_max.1) (C.2.2.2.2.1 _ mi_JMa_max.2.1) (C.2.2.2.2.1 _ mi_JMa_max.2.2.1) (by show 1 ≤ d + 1; omega) (by show _ + 13 ≤ 64 * (d + 1); omega) (Nat.le_refl _) (Nat.le_refl _) hd (k _ rfl p e s m args below meth c H locs ls C hP hS hl)
theorem J_mabs {i : Nat} {x : Int32} (hd : decode M.2.1 pc = .ok (.invokestatic i, 3)) (hp : pc + 3 = pc') (hl0 : Cond.methodLink M.1.cls i m_JMa_abs.1 ∈ tb) (hw : (st.map fun v => v.category).sum ≤ 8) (k : ∀ r, r = abI x → JE E (d + 1) M pc' L (.int r :: st) σ Q) : JE E (d + 1) M pc L (.int x :: st) σ Q := by
  subst hp; intro p e s m args below meth c H locs ls C hP hS hl
  exact va_mabs C.1 C.2.1 (C.2.2.1.trans hl.1.symm) C.2.2.2.1 (C.2.2.2.2.1 _ hl0) (C.2.2.2.2.1 _ mi_JMa_abs.1) (C.2.2.2.2.1 _ mi_JMa_abs.2.1) (C.2.2.2.2.1 _ mi_JMa_abs.2.2.1) (by show 1 ≤ d + 1; omega) (by show _ + 12 ≤ 64 * (d + 1); omega) (Nat.le_refl _) (Nat.le_refl _) hd (k _ rfl p e s m args below meth c H locs ls C hP hS hl)
theorem J_getsN {i : Nat} (hd : decode m_Nu_loadDigits.2.1 pc = .ok (.getstatic 109, 3)) (hp : pc + 3 = pc') (kk : JE E d m_Nu_loadDigits pc' L (pv E (1000 + 0) :: st) σ Q) : JE E d m_Nu_loadDigits pc L st σ Q := by
  subst hp; intro p e s m args below meth c H locs ls C hP hS hl
  exact va_getsN C.1 C.2.1 (C.2.2.2.2.2.2.2.2.1.1 0 _ rfl).1 hS C.2.2.2.1 (va_Nw.use rfl C.2.2.2.2.2.2.2.2.1.2.2.2.1) (fun _ h => h) hd (kk p e s m args below meth c H locs ls C hP hS hl)
theorem J_ldcS {i t w : Nat} {tx : String} (hd : decode M.2.1 pc = .ok (.ldc i, 2)) (hp : pc + 2 = pc') (hq : srL[t]? = some (M.1.cls, i, tx, w)) (kk : JE E d M pc' L (pv E (2000 + w) :: st) σ Q) : JE E d M pc L st σ Q := by
  subst hp; intro p e s m args below meth c H locs ls C hP hS hl
  exact va_ldcS C.1 C.2.1 C.2.2.2.1 (C.2.2.2.2.2.2.2.2.1.2.2.2.2.2 t _ hq) hd (kk p e s m args below meth c H locs ls C hP hS hl)
theorem J_getSv {i w : Nat} (hd : decode M.2.1 pc = .ok (.getfield i, 3)) (hp : pc + 3 = pc') (hl0 : Cond.fieldLink M.1.cls i "java/lang/String" "value" "[B" ∈ tb) (hw : w < 7) (kk : JE E d M pc' L (pv E (3000 + w) :: st) σ Q) : JE E d M pc L (pv E (2000 + w) :: st) σ Q := by
  subst hp; intro p e s m args below meth c H locs ls C hP hS hl
  exact vk_getf C.1 C.2.1 (C.2.2.2.2.2.2.2.2.1.2.1.1 w hw).2.2.1 hS C.2.2.2.1 (C.2.2.2.2.1 _ hl0) (fun _ h => h) hd (kk p e s m args below meth c H locs ls C hP hS hl)
theorem J_getSc {i w : Nat} (hd : decode M.2.1 pc = .ok (.getfield i, 3)) (hp : pc + 3 = pc') (hl0 : Cond.fieldLink M.1.cls i "java/lang/String" "coder" "B" ∈ tb) (hw : w < 7) (kk : JE E d M pc' L (.int 0 :: st) σ Q) : JE E d M pc L (pv E (2000 + w) :: st) σ Q := by
  subst hp; intro p e s m args below meth c H locs ls C hP hS hl
  exact vk_getf C.1 C.2.1 (C.2.2.2.2.2.2.2.2.1.2.1.1 w hw).2.1 hS C.2.2.2.1 (C.2.2.2.2.1 _ hl0) (fun _ h => h) hd (kk p e s m args below meth c H locs ls C hP hS hl)
theorem J_btald {i : Int32} {w : Nat} (hd : decode M.2.1 pc = .ok (.baload, 1)) (hp : pc + 1 = pc') (hw : w < 7) (hi : vp_in i (lenS.getD w 0)) (kk : JE E d M pc' L (.int ((bytS.getD w []).getD i.toNatClampNeg 0) :: st) σ Q) : JE E d M pc L (.int i :: pv E (3000 + w) :: st) σ Q := by
  subst hp; intro p e s m args below meth c H locs ls C hP hS hl
  exact va_tb C.1 C.2.1 (C.2.2.2.2.2.2.2.2.1.2.1.1 w hw).2.2.2 hS hi rfl hd (kk p e s m args below meth c H locs ls C hP hS hl)
theorem J_btlen {w : Nat} (hd : decode M.2.1 pc = .ok (.arraylength, 1)) (hp : pc + 1 = pc') (hw : w < 7) (kk : JE E d M pc' L (.int (nI (lenS.getD w 0)) :: st) σ Q) : JE E d M pc L (pv E (3000 + w) :: st) σ Q := by
  subst hp; intro p e s m args below meth c H locs ls C hP hS hl
  exact va_tlen C.1 C.2.1 (C.2.2.2.2.2.2.2.2.1.2.1.1 w hw).2.2.2 hS rfl hd (kk p e s m args below meth c H locs ls C hP hS hl)
theorem J_getsC {i : Nat} (hd : decode M.2.1 pc = .ok (.getstatic i, 3)) (hp : pc + 3 = pc') (hl0 : Cond.fieldLink M.1.cls i "java/lang/String" "COMPACT_STRINGS" "Z" ∈ tb) (kk : JE E d M pc' L (.int 1 :: st) σ Q) : JE E d M pc L st σ Q := by
  subst hp; intro p e s m args below meth c H locs ls C hP hS hl
  exact va_gets C.1 C.2.1 C.2.2.2.2.2.2.2.2.1.2.2.1.1 hS C.2.2.2.1 (C.2.2.2.2.1 _ hl0) (fun _ h => h) hd (kk p e s m args below meth c H locs ls C hP hS hl)
theorem J_getsQ {i : Nat} (hd : decode M.2.1 pc = .ok (.getstatic i, 3)) (hp : pc + 3 = pc') (hl0 : Cond.fieldLink M.1.cls i "jdk/internal/util/Preconditions" "SIOOBE_FORMATTER" "Ljava/util/function/BiFunction;" ∈ tb) (kk : ∀ v : Value, v = .null ∨ (∃ t : Nat, v = .ref t) → JE E d M pc' L (v :: st) σ Q) : JE E d M pc L st σ Q := by
  subst hp; intro p e s m args below meth c H locs ls C hP hS hl
  rcases C.2.2.2.2.2.2.2.2.1.2.2.1.2 with h | ⟨t, h⟩
  · exact va_gets C.1 C.2.1 h hS C.2.2.2.1 (C.2.2.2.2.1 _ hl0) (fun _ h => h) hd (kk _ (Or.inl rfl) p e s m args below meth c H locs ls C hP hS hl)
  · exact va_gets C.1 C.2.1 h hS C.2.2.2.1 (C.2.2.2.2.1 _ hl0) (fun _ h => h) hd (kk _ (Or.inr ⟨t, rfl⟩) p e s m args below meth c H locs ls C hP hS hl)
end JR
theorem wM_good {M' : M_t} (h : Cond.code M'.1 M'.2.1 M'.2.2.1 M'.2.2.2 ∈ tb) : GoodIn tb (wM M') := by
  intro w hw
  rcases List.mem_cons.mp hw with rfl | hw
  · exact ⟨h, tb_good h⟩
  · exact ⟨hw, tb_good hw⟩
section JC
variable {p : Program} {l : Launch} {e : Env} {R : Room} {s : State} {m : MethodId} {args : Array Value} {below : List Frame} {meth : Method} {c : Code} {H : Heap} {locs : List Loc} {E : En_t} {pc : Nat} {ls : Array Slot} {rest st0 : List Value} {a : Array Value} {Qf : State → Prop} {Q : Option Value → S_t → Prop}
theorem callE (hr : va_Run p l e R s m args below meth c H locs 0 0 0 0 (F0 m pc ls st0) rest (QcE E Q a) (AE E)) (hS : va_S (AE E) s.heap H locs)
    (kk : ∀ (r : Option Value) (σ' : S_t) (H1 : Heap) (locs1 : List Loc), Q r σ' → va_P E.2.1 classes (wsE E σ') H1 → va_S (AE E) s.heap H1 locs1 → W p l e R s m args below meth c H1 locs1 0 0 Qf (F0 m (pc + 3) ls (r.toList ++ rest))) : W p l e R s m args below meth c H locs 0 0 Qf (F0 m pc ls st0) := by
  intro T hT X
  obtain ⟨v, st₀, t, T', L, h0, X', hL, e1, e2, ⟨⟨r, σ', hv, hp, hb, hk⟩, hz, hkp⟩, st⟩ := hr T hT X
  cases hv
  rw [h0] at hz hkp
  obtain ⟨t2, a1, b1⟩ := kk v σ' T'.heap (locs ++ L) hp (by rw [e1]; exact hb)
    ⟨Nat.le_trans hS.1 (by rw [e1]; exact hz), fun q h1 h2 => by rw [e1, hkp q (Nat.lt_of_lt_of_le h1 hS.1) h2]; exact hS.2.1 q h1 h2, fun q hq => by
      rcases List.mem_append.mp hq with h | h
      · exact hS.2.2 q h
      · exact hL q h⟩ T' rfl X'
  exact ⟨t2, st t2 a1, b1⟩
end JC
theorem PcE_blind {E : En_t} {σ : S_t} {av : List Value} : FrameBlind (va_Pc av (PcE E σ)) := by
  intro a U g mk q
  obtain ⟨q0, qP, qK, qS, qo⟩ := q
  exact ⟨q0, qP, va_K.moved (u := U) (U := U.calling g mk a) (Vm.Alike.refl U.vm) qK, StatE.same (u := U) (U := U.calling g mk a) rfl (Vm.Alike.refl U.vm) qS, qo⟩
theorem PcE_at {E : En_t} {M : M_t} {p : Program} {s : State} {m : MethodId} {args : Array Value} {meth : Method} {c : Code} {σ : S_t} {H : Heap} {locs : List Loc} (C : CtxE E M p s m args meth c) (hP : va_P E.2.1 classes (wsE E σ) H) (hS : va_S (AE E) s.heap H locs) {av : List Value} : ∀ U : State, U.heap = H → s.WarmedH U.vm → va_Pc av (PcE E σ) av.toArray U := by
  intro U hU hW
  refine ⟨rfl, by rw [hU]; exact hP, va_K.moved hW.alike C.2.2.2.2.2.2.2.1, ?_, C.2.2.2.2.2.2.2.2.2⟩
  rw [hU]
  exact StatE.warm hW (StatE.kept C.2.2.2.2.2.2.2.2.1 hS.2.1)
section JD
variable {E : En_t} {d : Nat} {M M' : M_t} {pc pc' : Nat} {L : List (Nat × Value)} {st stk : List Value} {σ : S_t} {Q : Option Value → S_t → Prop}
theorem J_callV {i x c : Nat} {r : vw_C} {As : List Value} (hd : decode M.2.1 pc = .ok (.invokevirtual i, 3)) (hp : pc + 3 = pc') (hl : Cond.methodLink M.1.cls i M'.1 ∈ tb) (hm : MIt M' As.length) (hk : kindP x = c) (hc : c < 20) (hr : classes[c]? = some r) (hrc : M'.1.cls = r.1) (hL : M'.2.2.1 ≤ 45) (hs : stk = As.reverse ++ pv E x :: st) (hw : (st.map fun v => v.category).sum ≤ 8)
    (kk : CE E d M' (pv E x :: As) σ (fun r σ' => JE E (d + 1) M pc' L (r.toList ++ st) σ' Q)) : JE E (d + 1) M pc L stk σ Q := by
  subst hp; intro p e s m args below meth c' H locs ls C hP hS hls
  obtain ⟨m1, m2, m3, m4, m5, m6, m7⟩ := hm
  refine callE (va_runV (As := As) (rest := st) (C := M'.1.cls) (ws := wM M') (rm := rmE d) ⟨C.1, C.2.1, C.2.2.1, C.2.2.2.1, C.2.2.2.2.1⟩ kk ⟨callB_of As.length C.2.2.2.2.1 (wM_good m4) rfl rfl rfl (C.2.2.2.2.1 _ m3) (C.2.2.2.2.1 _ hl) ⟨m5, m6, m7⟩ ⟨Nat.le_refl _, by show 8 + (M'.2.2.1 + 11) + 64 * d ≤ 64 * (d + 1); omega⟩, C.2.2.2.2.1 _ m1, C.2.2.2.2.1 _ m2⟩ ⟨PcE_blind, ?_, PcE_at C hP hS⟩ rfl rfl hls.1 hs ?_ hd ⟨Nat.le_refl _, Nat.le_refl _⟩) hS (fun r σ' H1 locs1 hq hP hS => hq p e s m args below meth c' H1 locs1 ls C hP hS hls)
  · have h := va_recv (q0 := x) C.2.2.2.2.2.2.2.1 hP hr (by rw [wsE_get (kindP_lt hk (by omega)), cellE_obj hk hc])
    rw [hrc]; exact h
  · show 2 * 0 + _ ≤ 8
    omega
theorem J_callS {i : Nat} {As : List Value} (hd : decode M.2.1 pc = .ok (.invokestatic i, 3)) (hp : pc + 3 = pc') (hl : Cond.methodLink M.1.cls i M'.1 ∈ tb) (hm : MSt M' As.length) (hL : M'.2.2.1 ≤ 45) (hs : stk = As.reverse ++ st) (hw : (st.map fun v => v.category).sum ≤ 8)
    (kk : CE E d M' As σ (fun r σ' => JE E (d + 1) M pc' L (r.toList ++ st) σ' Q)) : JE E (d + 1) M pc L stk σ Q := by
  subst hp; intro p e s m args below meth c' H locs ls C hP hS hls
  obtain ⟨m1, m3, m4, m5, m6, m7⟩ := hm
  refine callE (va_runS (As := As) (rest := st) (ws := wM M') (rm := rmE d) ⟨C.1, C.2.1, C.2.2.1, C.2.2.2.1, C.2.2.2.2.1⟩ kk ⟨callB_of As.length C.2.2.2.2.1 (wM_good m4) rfl rfl rfl (C.2.2.2.2.1 _ m3) (C.2.2.2.2.1 _ hl) ⟨m5, m6, m7⟩ ⟨Nat.le_refl _, by show 8 + (M'.2.2.1 + 11) + 64 * d ≤ 64 * (d + 1); omega⟩, C.2.2.2.2.1 _ m1⟩ ⟨PcE_blind, PcE_at C hP hS⟩ rfl rfl hls.1 hs ?_ hd ⟨Nat.le_refl _, Nat.le_refl _⟩) hS (fun r σ' H1 locs1 hq hP hS => hq p e s m args below meth c' H1 locs1 ls C hP hS hls)
  show 2 * 0 + _ ≤ 8
  omega
end JD
/-! contracts by the kind of the answer -/
def CI (E : En_t) (d : Nat) (M : M_t) (av : List Value) (σ : S_t) (Q : Int32 → S_t → Prop) : Prop := CE E d M av σ (fun r σ' => ∃ x, r = some (.int x) ∧ Q x σ')
def CL (E : En_t) (d : Nat) (M : M_t) (av : List Value) (σ : S_t) (Q : Int64 → S_t → Prop) : Prop := CE E d M av σ (fun r σ' => ∃ x, r = some (.long x) ∧ Q x σ')
def CV (E : En_t) (d : Nat) (M : M_t) (av : List Value) (σ : S_t) (Q : S_t → Prop) : Prop := CE E d M av σ (fun r σ' => r = none ∧ Q σ')
theorem CI.mono {E : En_t} {d : Nat} {M : M_t} {av : List Value} {σ : S_t} {Q Q' : Int32 → S_t → Prop} (k : CI E d M av σ Q) (h : ∀ x s, Q x s → Q' x s) : CI E d M av σ Q' := CE.mono k (fun _ s ⟨x, e, q⟩ => ⟨x, e, h x s q⟩)
theorem CL.mono {E : En_t} {d : Nat} {M : M_t} {av : List Value} {σ : S_t} {Q Q' : Int64 → S_t → Prop} (k : CL E d M av σ Q) (h : ∀ x s, Q x s → Q' x s) : CL E d M av σ Q' := CE.mono k (fun _ s ⟨x, e, q⟩ => ⟨x, e, h x s q⟩)
theorem CV.mono {E : En_t} {d : Nat} {M : M_t} {av : List Value} {σ : S_t} {Q Q' : S_t → Prop} (k : CV E d M av σ Q) (h : ∀ s, Q s → Q' s) : CV E d M av σ Q' := CE.mono k (fun _ s ⟨e, q⟩ => ⟨e, h s q⟩)
section JT
variable {E : En_t} {d : Nat} {M M' : M_t} {pc pc' : Nat} {L : List (Nat × Value)} {st stk : List Value} {σ : S_t} {Q : Option Value → S_t → Prop}
theorem J_callVI {i x c : Nat} {r : vw_C} {As : List Value} (hd : decode M.2.1 pc = .ok (.invokevirtual i, 3)) (hp : pc + 3 = pc') (hl : Cond.methodLink M.1.cls i M'.1 ∈ tb) (hm : MIt M' As.length) (hk : kindP x = c) (hc : c < 20) (hr : classes[c]? = some r) (hrc : M'.1.cls = r.1) (hL : M'.2.2.1 ≤ 45) (hs : stk = As.reverse ++ pv E x :: st) (hw : (st.map fun v => v.category).sum ≤ 8) (kk : CI E d M' (pv E x :: As) σ (fun x σ' => JE E (d + 1) M pc' L (.int x :: st) σ' Q)) : JE E (d + 1) M pc L stk σ Q := J_callV hd hp hl hm hk hc hr hrc hL hs hw (CE.mono kk (fun _ _ ⟨x, e, q⟩ => by subst e; exact q))
theorem J_callSI {i : Nat} {As : List Value} (hd : decode M.2.1 pc = .ok (.invokestatic i, 3)) (hp : pc + 3 = pc') (hl : Cond.methodLink M.1.cls i M'.1 ∈ tb) (hm : MSt M' As.length) (hL : M'.2.2.1 ≤ 45) (hs : stk = As.reverse ++ st) (hw : (st.map fun v => v.category).sum ≤ 8) (kk : CI E d M' As σ (fun x σ' => JE E (d + 1) M pc' L (.int x :: st) σ' Q)) : JE E (d + 1) M pc L stk σ Q := J_callS hd hp hl hm hL hs hw (CE.mono kk (fun _ _ ⟨x, e, q⟩ => by subst e; exact q))
theorem J_callVL {i x c : Nat} {r : vw_C} {As : List Value} (hd : decode M.2.1 pc = .ok (.invokevirtual i, 3)) (hp : pc + 3 = pc') (hl : Cond.methodLink M.1.cls i M'.1 ∈ tb) (hm : MIt M' As.length) (hk : kindP x = c) (hc : c < 20) (hr : classes[c]? = some r) (hrc : M'.1.cls = r.1) (hL : M'.2.2.1 ≤ 45) (hs : stk = As.reverse ++ pv E x :: st) (hw : (st.map fun v => v.category).sum ≤ 8) (kk : CL E d M' (pv E x :: As) σ (fun x σ' => JE E (d + 1) M pc' L (.long x :: st) σ' Q)) : JE E (d + 1) M pc L stk σ Q := J_callV hd hp hl hm hk hc hr hrc hL hs hw (CE.mono kk (fun _ _ ⟨x, e, q⟩ => by subst e; exact q))
theorem J_callSL {i : Nat} {As : List Value} (hd : decode M.2.1 pc = .ok (.invokestatic i, 3)) (hp : pc + 3 = pc') (hl : Cond.methodLink M.1.cls i M'.1 ∈ tb) (hm : MSt M' As.length) (hL : M'.2.2.1 ≤ 45) (hs : stk = As.reverse ++ st) (hw : (st.map fun v => v.category).sum ≤ 8) (kk : CL E d M' As σ (fun x σ' => JE E (d + 1) M pc' L (.long x :: st) σ' Q)) : JE E (d + 1) M pc L stk σ Q := J_callS hd hp hl hm hL hs hw (CE.mono kk (fun _ _ ⟨x, e, q⟩ => by subst e; exact q))
theorem J_callVV {i x c : Nat} {r : vw_C} {As : List Value} (hd : decode M.2.1 pc = .ok (.invokevirtual i, 3)) (hp : pc + 3 = pc') (hl : Cond.methodLink M.1.cls i M'.1 ∈ tb) (hm : MIt M' As.length) (hk : kindP x = c) (hc : c < 20) (hr : classes[c]? = some r) (hrc : M'.1.cls = r.1) (hL : M'.2.2.1 ≤ 45) (hs : stk = As.reverse ++ pv E x :: st) (hw : (st.map fun v => v.category).sum ≤ 8) (kk : CV E d M' (pv E x :: As) σ (fun σ' => JE E (d + 1) M pc' L st σ' Q)) : JE E (d + 1) M pc L stk σ Q := J_callV hd hp hl hm hk hc hr hrc hL hs hw (CE.mono kk (fun _ _ ⟨e, q⟩ => by subst e; exact q))
theorem J_callSV {i : Nat} {As : List Value} (hd : decode M.2.1 pc = .ok (.invokestatic i, 3)) (hp : pc + 3 = pc') (hl : Cond.methodLink M.1.cls i M'.1 ∈ tb) (hm : MSt M' As.length) (hL : M'.2.2.1 ≤ 45) (hs : stk = As.reverse ++ st) (hw : (st.map fun v => v.category).sum ≤ 8) (kk : CV E d M' As σ (fun σ' => JE E (d + 1) M pc' L st σ' Q)) : JE E (d + 1) M pc L stk σ Q := J_callS hd hp hl hm hL hs hw (CE.mono kk (fun _ _ ⟨e, q⟩ => by subst e; exact q))
end JT
theorem sw_out {x : Int32} {n : Nat} (hn : n < 1000) (h : ∀ k, k ≤ n → ¬ x = nI k) : x.toInt < 0 ∨ (n : Int) < x.toInt := by
  rcases Int.lt_or_le x.toInt 0 with g | g
  · exact Or.inl g
  · rcases Int.lt_or_le n x.toInt with g2 | g2
    · exact Or.inr g2
    · exfalso
      refine h x.toInt.toNat (by omega) ?_
      apply Int32.toInt_inj.mp
      rw [nI_toInt (by omega)]
      omega
section JN
variable {E : En_t} {d : Nat} {M M' : M_t} {pc pc' : Nat} {L : List (Nat × Value)} {st stk : List Value} {σ : S_t} {Q : Option Value → S_t → Prop}
theorem J_callSNI {i : Nat} {host : String} {As : List Value} (hd : decode M.2.1 pc = .ok (.invokestatic i, 3)) (hp : pc + 3 = pc') (hl : ∀ U H, StatE E U H → va_Nw (.methodLinkNest M.1.cls i M'.1 host) U) (hm : MSt M' As.length) (hL : M'.2.2.1 ≤ 45) (hs : stk = As.reverse ++ st) (hw : (st.map fun v => v.category).sum ≤ 8)
    (kk : CI E d M' As σ (fun x σ' => JE E (d + 1) M pc' L (.int x :: st) σ' Q)) : JE E (d + 1) M pc L stk σ Q := by
  subst hp; intro p e s m args below meth c' H locs ls C hP hS hls
  obtain ⟨m1, m3, m4, m5, m6, m7⟩ := hm
  have kk := CE.mono kk (Q' := fun r σ' => JE E (d + 1) M (pc + 3) L (r.toList ++ st) σ' Q) (fun _ _ ⟨x, e, q⟩ => by subst e; exact q)
  refine callE (va_runSN (As := As) (rest := st) (ws := wM M') (rm := rmE d) ⟨C.1, C.2.1, C.2.2.1, C.2.2.2.1, C.2.2.2.2.1⟩ kk ⟨⟨⟨rfl, rfl, Nat.le_refl _, by show 8 + (M'.2.2.1 + 11) + 64 * d ≤ 64 * (d + 1); omega, pay_in C.2.2.2.2.1 (wM_good m4), List.mem_cons_self⟩, C.2.2.2.2.1 _ m4, C.2.2.2.2.1 _ m3, ⟨m5, m6⟩, fun sig h => ?_, va_Nw.use rfl (hl _ _ C.2.2.2.2.2.2.2.2.1)⟩, C.2.2.2.2.1 _ m1, trivial⟩ ⟨PcE_blind, PcE_at C hP hS⟩ rfl rfl hls.1 hs ?_ hd ⟨Nat.le_refl _, Nat.le_refl _⟩) hS (fun r σ' H1 locs1 hq hP hS => hq p e s m args below meth c' H1 locs1 ls C hP hS hls)
  · rw [h] at m7; exact (Option.some.inj m7).symm
  · show 2 * 0 + _ ≤ 8
    omega
theorem J_callVSI {i w : Nat} {As : List Value} (hd : decode M.2.1 pc = .ok (.invokevirtual i, 3)) (hp : pc + 3 = pc') (hl : Cond.methodLink M.1.cls i M'.1 ∈ tb) (hm : MIt M' As.length) (hw7 : w < 7) (hrc : M'.1.cls = "java/lang/String") (hL : M'.2.2.1 ≤ 45) (hs : stk = As.reverse ++ pv E (2000 + w) :: st) (hw : (st.map fun v => v.category).sum ≤ 8)
    (kk : CI E d M' (pv E (2000 + w) :: As) σ (fun x σ' => JE E (d + 1) M pc' L (.int x :: st) σ' Q)) : JE E (d + 1) M pc L stk σ Q := by
  subst hp; intro p e s m args below meth c' H locs ls C hP hS hls
  obtain ⟨m1, m2, m3, m4, m5, m6, m7⟩ := hm
  have kk := CE.mono kk (Q' := fun r σ' => JE E (d + 1) M (pc + 3) L (r.toList ++ st) σ' Q) (fun _ _ ⟨x, e, q⟩ => by subst e; exact q)
  refine callE (va_runV (As := As) (rest := st) (C := M'.1.cls) (ws := wM M') (rm := rmE d) ⟨C.1, C.2.1, C.2.2.1, C.2.2.2.1, C.2.2.2.2.1⟩ kk ⟨callB_of As.length C.2.2.2.2.1 (wM_good m4) rfl rfl rfl (C.2.2.2.2.1 _ m3) (C.2.2.2.2.1 _ hl) ⟨m5, m6, m7⟩ ⟨Nat.le_refl _, by show 8 + (M'.2.2.1 + 11) + 64 * d ≤ 64 * (d + 1); omega⟩, C.2.2.2.2.1 _ m1, C.2.2.2.2.1 _ m2⟩ ⟨PcE_blind, ?_, PcE_at C hP hS⟩ rfl rfl hls.1 hs ?_ hd ⟨Nat.le_refl _, Nat.le_refl _⟩) hS (fun r σ' H1 locs1 hq hP hS => hq p e s m args below meth c' H1 locs1 ls C hP hS hls)
  · have h := vk_recv C.2.2.2.2.2.2.2.2.1.2.1 hw7 hS
    rw [hrc]; exact h
  · show 2 * 0 + _ ≤ 8
    omega
end JN
theorem lk_out {x : Int32} (q34 : ¬ x = 34) (q91 : ¬ x = 91) (q102 : ¬ x = 102) (q110 : ¬ x = 110) (q116 : ¬ x = 116) (q123 : ¬ x = 123) : Op.lookupswitch.offset (#[(34, 65), (91, 67), (102, 61), (110, 59), (116, 63), (123, 69)] : Array (Int × Int)).toList 72 x.toInt = 72 := by
  have key : ∀ k : Nat, k < 200 → ¬ x = nI k → ¬ x.toInt = (k : Int) := fun k hk h e => h (Int32.toInt_inj.mp (by rw [nI_toInt (by omega)]; exact e))
  have h1 := key 34 (by decide) q34
  have h2 := key 91 (by decide) q91
  have h3 := key 102 (by decide) q102
  have h4 := key 110 (by decide) q110
  have h5 := key 116 (by decide) q116
  have h6 := key 123 (by decide) q123
  simp only [Op.lookupswitch.offset, List.find?]
  have g : ∀ a : Int, ¬ x.toInt = a → (a == x.toInt) = false := fun a h => by simp; exact fun e => h e.symm
  simp_all
