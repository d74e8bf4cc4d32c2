/-! the law's frame -/
abbrev Lw_t : Type := Program × Env × State × MethodId × List Frame × Method × Code × Nat × Nat × (Nat → Int32)
def LwA (X : Lw_t) : Prop := lw_At X.1 X.2.2.1 X.2.2.2.1 X.2.2.2.2.2.1 X.2.2.2.2.2.2.1 X.2.2.2.2.2.2.2.1 X.2.2.2.2.2.2.2.2.1 X.2.2.2.2.2.2.2.2.2
def CtxW (X : Lw_t) (E : En_t) : Prop := LwA X ∧ va_K E.2.1 classes (tysE E) X.2.2.1 ∧ StatE E X.2.2.1 X.2.2.1.heap ∧ okE E ∧ ∀ q, AE E q → X.2.2.1.heap.size ≤ q
def bW (X : Lw_t) : Nat := X.2.2.2.2.2.2.2.1
def LW (X : Lw_t) : Nat := X.2.2.2.2.2.2.2.2.1
def xW (X : Lw_t) : Nat → Int32 := X.2.2.2.2.2.2.2.2.2
def JW (cells slots : Nat) (X : Lw_t) (E : En_t) (σ : S_t) (pc : Nat) (L : List (Nat × Value)) (st : List Value) : Prop := ∀ (H : Heap) (locs : List Loc) (ls : Array Slot), va_P E.2.1 classes (wsE E σ) H → va_S (fun q : Nat => X.2.2.1.heap.size ≤ q) X.2.2.1.heap H locs → lv_has ls 4 L → W X.1 E.1 X.2.1 room_1 X.2.2.1 X.2.2.2.1 #[Value.ref (bW X)] X.2.2.2.2.1 X.2.2.2.2.2.1 X.2.2.2.2.2.2.1 H locs cells slots (lw_Z X.2.2.2.2.1 #[Value.ref (bW X)] X.2.2.1) (F0 X.2.2.2.1 pc ls st)
section WR
variable {cells slots : Nat} {X : Lw_t} {E : En_t} {σ : S_t} {pc pc' : Nat} {L L' : List (Nat × Value)} {st : List Value}
theorem W_aload {i : Fin 4} {x : Nat} (C : CtxW X E) (hd : decode code pc = .ok (.aload_n i, 1)) (hp : pc + 1 = pc') (j : Nat) (hj : L[j]? = some ((i : Nat), .ref x)) (k : JW cells slots X E σ pc' L (.ref x :: st)) : JW cells slots X E σ pc L st := by
  subst hp; intro H locs ls hP hS hl; exact lv_aload_n C.1.1 C.1.2.1 hd rfl (lv_at hl j hj) (k H locs ls hP hS hl)
theorem W_iload {i : Fin 4} {x : Int32} (C : CtxW X E) (hd : decode code pc = .ok (.iload_n i, 1)) (hp : pc + 1 = pc') (j : Nat) (hj : L[j]? = some ((i : Nat), .int x)) (k : JW cells slots X E σ pc' L (.int x :: st)) : JW cells slots X E σ pc L st := by
  subst hp; intro H locs ls hP hS hl; exact lv_iload_n C.1.1 C.1.2.1 hd rfl (lv_at hl j hj) (k H locs ls hP hS hl)
theorem W_iconst {n : Int} {v : Int32} (C : CtxW X E) (hd : decode code pc = .ok (.iconst n, 1)) (hp : pc + 1 = pc') (hv : Int32.ofInt n = v) (k : JW cells slots X E σ pc' L (.int v :: st)) : JW cells slots X E σ pc L st := by
  subst hp; intro H locs ls hP hS hl; exact lv_iconst C.1.1 C.1.2.1 hd hv (k H locs ls hP hS hl)
theorem W_bipush {n : Int} {v : Int32} (C : CtxW X E) (hd : decode code pc = .ok (.bipush n, 2)) (hp : pc + 2 = pc') (hv : (Int8.ofInt n).toInt32 = v) (k : JW cells slots X E σ pc' L (.int v :: st)) : JW cells slots X E σ pc L st := by
  subst hp; intro H locs ls hP hS hl; exact lv_bipush C.1.1 C.1.2.1 hd hv (k H locs ls hP hS hl)
theorem W_iadd {x y v : Int32} (C : CtxW X E) (hd : decode code pc = .ok (.iadd, 1)) (hp : pc + 1 = pc') (hv : x + y = v) (k : JW cells slots X E σ pc' L (.int v :: st)) : JW cells slots X E σ pc L (.int y :: .int x :: st) := by
  subst hp; subst hv; intro H locs ls hP hS hl; exact lv_iadd C.1.1 C.1.2.1 hd (k H locs ls hP hS hl)
theorem W_isub {x y v : Int32} (C : CtxW X E) (hd : decode code pc = .ok (.isub, 1)) (hp : pc + 1 = pc') (hv : x - y = v) (k : JW cells slots X E σ pc' L (.int v :: st)) : JW cells slots X E σ pc L (.int y :: .int x :: st) := by
  subst hp; subst hv; intro H locs ls hP hS hl; exact lv_isub C.1.1 C.1.2.1 hd (k H locs ls hP hS hl)
theorem W_iand {x y : Int32} (C : CtxW X E) (hd : decode code pc = .ok (.iand, 1)) (hp : pc + 1 = pc') (k : JW cells slots X E σ pc' L (.int (x &&& y) :: st)) : JW cells slots X E σ pc L (.int y :: .int x :: st) := by
  subst hp; intro H locs ls hP hS hl; exact lv_iand C.1.1 C.1.2.1 hd (k H locs ls hP hS hl)
theorem W_i2l {x : Int32} (C : CtxW X E) (hd : decode code pc = .ok (.i2l, 1)) (hp : pc + 1 = pc') (k : JW cells slots X E σ pc' L (.long x.toInt64 :: st)) : JW cells slots X E σ pc L (.int x :: st) := by
  subst hp; intro H locs ls hP hS hl; exact lv_i2l C.1.1 C.1.2.1 hd rfl (k H locs ls hP hS hl)
theorem W_lshl {x : Int64} {y : Int32} (C : CtxW X E) (hd : decode code pc = .ok (.lshl, 1)) (hp : pc + 1 = pc') (k : JW cells slots X E σ pc' L (.long (x <<< (y.toInt64 &&& 63)) :: st)) : JW cells slots X E σ pc L (.int y :: .long x :: st) := by
  subst hp; intro H locs ls hP hS hl; exact lv_lshl C.1.1 C.1.2.1 hd rfl (k H locs ls hP hS hl)
theorem W_land {x y : Int64} (C : CtxW X E) (hd : decode code pc = .ok (.land, 1)) (hp : pc + 1 = pc') (k : JW cells slots X E σ pc' L (.long (x &&& y) :: st)) : JW cells slots X E σ pc L (.long y :: .long x :: st) := by
  subst hp; intro H locs ls hP hS hl; exact lv_land C.1.1 C.1.2.1 hd (k H locs ls hP hS hl)
theorem W_lor {x y : Int64} (C : CtxW X E) (hd : decode code pc = .ok (.lor, 1)) (hp : pc + 1 = pc') (k : JW cells slots X E σ pc' L (.long (x ||| y) :: st)) : JW cells slots X E σ pc L (.long y :: .long x :: st) := by
  subst hp; intro H locs ls hP hS hl; exact lv_lor C.1.1 C.1.2.1 hd (k H locs ls hP hS hl)
theorem W_ldc2 {i : Nat} {v : Int64} (C : CtxW X E) (hd : decode code pc = .ok (.ldc2_w i, 3)) (hp : pc + 3 = pc') (hw : Cond.constantLong R_law i v ∈ lw_tbl) (k : JW cells slots X E σ pc' L (.long v :: st)) : JW cells slots X E σ pc L st := by
  subst hp; intro H locs ls hP hS hl; exact lv_ldc2 C.1.1 C.1.2.1 C.1.2.2.2.2.1 (C.1.2.2.2.2.2.1 _ hw) hd (k H locs ls hP hS hl)
theorem W_icmp_eq {x y : Int32} {off : Int} {tgt : Nat} (C : CtxW X E) (hd : decode code pc = .ok (.if_icmp .eq off, 3)) (ht : (pc : Int) + off = (tgt : Int)) (h : x = y) (kt : JW cells slots X E σ tgt L st) : JW cells slots X E σ pc L (.int y :: .int x :: st) := by
  intro H locs ls hP hS hl; exact lv_icmp_eq C.1.1 C.1.2.1 hd ht (fun _ => kt H locs ls hP hS hl) (fun z => absurd h z)
theorem W_lcmp_eq {x y : Int64} {off : Int} {tgt : Nat} (C : CtxW X E) (hd : decode code pc = .ok (.lcmp, 1)) (hp : pc + 1 = pc') (hd2 : decode code pc' = .ok (.ifCond .eq off, 3)) (ht : (pc' : Int) + off = (tgt : Int)) (h : x = y) (kt : JW cells slots X E σ tgt L st) : JW cells slots X E σ pc L (.long y :: .long x :: st) := by
  subst hp; intro H locs ls hP hS hl; exact W.lcmp C.1.1 C.1.2.1 hd (lv_if_eq C.1.1 C.1.2.1 hd2 ht (fun _ => kt H locs ls hP hS hl) (fun z => absurd ((lg_cmp_eq x y).mpr h) z))
theorem W_icmp_gt {x y : Int32} {off : Int} {tgt : Nat} (C : CtxW X E) (hd : decode code pc = .ok (.if_icmp .gt off, 3)) (hp : pc + 3 = pc') (ht : (pc : Int) + off = (tgt : Int)) (kt : y < x → JW cells slots X E σ tgt L st) (kf : ¬ y < x → JW cells slots X E σ pc' L st) : JW cells slots X E σ pc L (.int y :: .int x :: st) := by
  subst hp; intro H locs ls hP hS hl; exact lv_icmp_gt C.1.1 C.1.2.1 hd ht (fun h => kt h H locs ls hP hS hl) (fun h => kf h H locs ls hP hS hl)
theorem W_goto {off : Int} {tgt : Nat} (C : CtxW X E) (hd : decode code pc = .ok (.goto off, 3)) (ht : (pc : Int) + off = (tgt : Int)) (k : JW cells slots X E σ tgt L st) : JW cells slots X E σ pc L st := by
  intro H locs ls hP hS hl; exact lv_goto C.1.1 C.1.2.1 hd ht (k H locs ls hP hS hl)
theorem W_iinc {i : Nat} {n : Int} {x v : Int32} (C : CtxW X E) (hd : decode code pc = .ok (.iinc i n, 3)) (hp : pc + 3 = pc') (j : Nat) (hj : L[j]? = some (i, .int x)) (hv : x + Int32.ofInt n = v) (hn : i < 4) (hL : (i, Value.int v) :: L.filter (fun q => !(q.1 == i) && !(q.1 + 1 == i && q.2.category == 2)) = L') (k : JW cells slots X E σ pc' L' st) : JW cells slots X E σ pc L st := by
  subst hp; intro H locs ls hP hS hl; exact lv_iinc C.1.1 C.1.2.1 hd hl (k := j) hj hv hn hL (fun ls hl => k H locs ls hP hS hl)
theorem W_tableIn {dflt lo hi : Int} {offs : Array Int} {len : Nat} {x : Int32} {off : Int} {tgt : Nat} (C : CtxW X E) (hd : decode code pc = .ok (.tableswitch dflt lo hi offs, len)) (h1 : ¬ x.toInt < lo) (h2 : ¬ hi < x.toInt) (ho : offs[(x.toInt - lo).toNat]? = some off) (ht : (pc : Int) + off = (tgt : Int)) (k : JW cells slots X E σ tgt L st) : JW cells slots X E σ pc L (.int x :: st) := by
  intro H locs ls hP hS hl; exact lv_tableIn C.1.1 C.1.2.1 hd h1 h2 ho ht (k H locs ls hP hS hl)
theorem W_tableOut {dflt lo hi : Int} {offs : Array Int} {len : Nat} {x : Int32} {tgt : Nat} (C : CtxW X E) (hd : decode code pc = .ok (.tableswitch dflt lo hi offs, len)) (h : x.toInt < lo ∨ hi < x.toInt) (ht : (pc : Int) + dflt = (tgt : Int)) (k : JW cells slots X E σ tgt L st) : JW cells slots X E σ pc L (.int x :: st) := by
  intro H locs ls hP hS hl; exact lv_tableOut C.1.1 C.1.2.1 hd h ht (k H locs ls hP hS hl)
theorem W_sld {i : Int32} {v : Int32} (C : CtxW X E) (hd : decode code pc = .ok (.iaload, 1)) (hp : pc + 1 = pc') (hi : vp_in i (LW X)) (hv : xW X i.toNatClampNeg = v) (k : JW cells slots X E σ pc' L (.int v :: st)) : JW cells slots X E σ pc L (.int i :: .ref (bW X) :: st) := by
  subst hp; subst hv; intro H locs ls hP hS hl
  exact va_sld C.1.1 C.1.2.1 C.1.2.2.2.2.2.2.1 C.1.2.2.2.2.2.2.2.1 (Nat.not_le.mpr C.1.2.2.2.2.2.2.2.1) hS hi hd (k H locs ls hP hS hl)
theorem W_slen {v : Int32} (C : CtxW X E) (hd : decode code pc = .ok (.arraylength, 1)) (hp : pc + 1 = pc') (hv : Int32.ofNat (LW X) = v) (k : JW cells slots X E σ pc' L (.int v :: st)) : JW cells slots X E σ pc L (.ref (bW X) :: st) := by
  subst hp; subst hv; intro H locs ls hP hS hl
  exact va_slen C.1.1 C.1.2.1 C.1.2.2.2.2.2.2.1 C.1.2.2.2.2.2.2.2.1 (Nat.not_le.mpr C.1.2.2.2.2.2.2.2.1) hS hd (k H locs ls hP hS hl)
/-- the law's end -/
theorem W_end (C : CtxW X E) (hd : decode code pc = .ok (.ireturn, 1)) (hc : cells ≤ 600000) (hs : slots ≤ 7302250) : JW cells slots X E σ pc L [.int 1] := by
  intro H locs ls hP hS hl
  refine va_forget (fun q hq => hS.2.2 q hq) ?_
  refine W.widen (k := 600000) (n := 7302250) hc hs ?_
  exact lw_ret C.1.1 C.1.2.1 C.1.2.2.1 C.1.2.2.2.2.2.2.2.2.1 hd
theorem PcW {C : CtxW X E} {H : Heap} {locs : List Loc} (hP : va_P E.2.1 classes (wsE E σ) H) (hS : va_S (fun q : Nat => X.2.2.1.heap.size ≤ q) X.2.2.1.heap H locs) {av : List Value} : ∀ U : State, U.heap = H → X.2.2.1.WarmedH U.vm → va_Pc av (PcE E σ) av.toArray U := by
  intro U hU hW
  refine ⟨rfl, by rw [hU]; exact hP, va_K.moved hW.alike C.2.1, ?_, C.2.2.2.1⟩
  rw [hU]
  exact (C.2.2.1.kept (fun a h1 h2 => hS.2.1 a h1 (Nat.not_le.mpr h1))).warm hW
theorem callW {R : Room} {p : Program} {l : Launch} {e : Env} {s : State} {m : MethodId} {args : Array Value} {below : List Frame} {meth : Method} {c : Code} {H : Heap} {locs : List Loc} {ls : Array Slot} {rest st0 : List Value} {a : Array Value} {Qf : State → Prop} {Q : Option Value → S_t → Prop} {A : Nat → Prop} (hAE : ∀ q, AE E q → A q) (hr : va_Run p l e R s m args below meth c H locs cells slots 0 0 (F0 m pc ls st0) rest (QcE E Q a) (AE E)) (hS : va_S A s.heap H locs)
    (kk : ∀ (r : Option Value) (σ' : S_t) (H1 : Heap) (locs1 : List Loc), Q r σ' → va_P E.2.1 classes (wsE E σ') H1 → va_S A s.heap H1 locs1 → W p l e R s m args below meth c H1 locs1 cells slots Qf (F0 m (pc + 3) ls (r.toList ++ rest))) : W p l e R s m args below meth c H locs cells slots Qf (F0 m pc ls st0) := by
  intro T hT X
  obtain ⟨v, st₀, t, T', L, h0, X', hL, e1, e2, ⟨⟨r, σ', hv, hp, hb, hk⟩, hz, hkp⟩, st⟩ := hr T hT X
  cases hv
  rw [h0] at hz hkp
  obtain ⟨t2, a1, b1⟩ := kk v σ' T'.heap (locs ++ L) hp (by rw [e1]; exact hb)
    ⟨Nat.le_trans hS.1 (by rw [e1]; exact hz), fun q h1 h2 => by rw [e1, hkp q (Nat.lt_of_lt_of_le h1 hS.1) (fun z => h2 (hAE q z))]; exact hS.2.1 q h1 h2, fun q hq => by
      rcases List.mem_append.mp hq with h | h
      · exact hS.2.2 q h
      · exact hAE _ (hL q h)⟩ T' rfl X'
  exact ⟨t2, st t2 a1, b1⟩
theorem W_call {M' : M_t} {i x c d : Nat} {r : vw_C} {As : List Value} {stk : List Value} (C : CtxW X E) (hd : decode code pc = .ok (.invokevirtual i, 3)) (hp : pc + 3 = pc') (hl : Cond.methodLink R_law i M'.1 ∈ lw_tbl) (hm : MIt M' As.length) (hk : kindP x = c) (hc : c < 20) (hr : classes[c]? = some r) (hrc : M'.1.cls = r.1) (hL : M'.2.2.1 ≤ 45) (hs : stk = As.reverse ++ pv E x :: st) (hw : (st.map fun v => v.category).sum ≤ 8) (hdd : d ≤ 1000) (hcs : cells ≤ 600000 ∧ slots ≤ 7302250)
    (kk : CE E d M' (pv E x :: As) σ (fun r σ' => JW cells slots X E σ' pc' L (r.toList ++ st))) : JW cells slots X E σ pc L stk := by
  subst hp; intro H locs ls hP hS hls
  obtain ⟨m1, m2, m3, m4, m5, m6, m7⟩ := hm
  have htb : ∀ w ∈ tb, w.before #[Value.ref (bW X)] X.2.2.1 = true := fun w hw => C.1.2.2.2.2.2.1 w (tb_sub hw)
  refine callW C.2.2.2.2 (va_runV (As := As) (rest := st) (C := M'.1.cls) (ws := wM M') (rm := rmE d) (Ts := tb) ⟨C.1.1, C.1.2.1, C.1.2.2.2.1, C.1.2.2.2.2.1, htb⟩ kk ⟨callB_of As.length htb (wM_good m4) rfl rfl rfl (htb _ m3) (C.1.2.2.2.2.2.1 _ hl) ⟨m5, m6, m7⟩ ⟨by show d + 1 ≤ 2048; omega, by show 8 + (M'.2.2.1 + 11) + 64 * d ≤ 84000; omega⟩, htb _ m1, htb _ m2⟩ ⟨PcE_blind, ?_, PcW (C := C) hP hS⟩ rfl rfl hls.1 hs ?_ hd ⟨by show cells + 0 ≤ 600000; omega, by show slots + 0 ≤ 7302250; omega⟩) hS (fun r σ' H1 locs1 hq hP hS => hq H1 locs1 ls hP hS hls)
  · have h := va_recv (q0 := x) C.2.1 hP hr (by rw [wsE_get (kindP_lt hk (by omega)), cellE_obj hk hc])
    rw [hrc]; exact h
  · show 2 * 0 + _ ≤ 8
    omega
end WR
