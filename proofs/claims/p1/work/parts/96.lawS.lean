/-! the law's start -/
def σ0 : S_t := (fun _ _ => 0, fun _ _ => 0, fun _ _ => none)
def σCp (σ : S_t) : S_t := sR (sR (sR (sR (sR (sR (sR (sR (sI (sR σ 49 9 (some 168)) 49 10 (-1 : Int32)) 50 0 (some 72)) 50 1 (some 84)) 50 2 (some 96)) 50 3 (some 108)) 50 4 (some 120)) 50 5 (some 132)) 50 6 (some 144)) 50 7 (some 156)
def σMo (σ : S_t) : S_t := sI (sI (sI (sI (sI (sI (sI (sI (sI (sI (sI (sI (sI (sI σ 0 42 (-1 : Int32)) 40 0 (110 : Int32)) 40 1 (117 : Int32)) 40 2 (108 : Int32)) 40 3 (108 : Int32)) 40 4 (102 : Int32)) 40 5 (97 : Int32)) 40 6 (108 : Int32)) 40 7 (115 : Int32)) 40 8 (101 : Int32)) 40 9 (116 : Int32)) 40 10 (114 : Int32)) 40 11 (117 : Int32)) 40 12 (101 : Int32)
def LsCp : List Nat := [51, 52, 53, 54, 55, 56, 57, 58, 59, 61, 62, 60, 63, 180, 181, 182, 183, 184, 185, 186, 187, 188, 189, 190, 191, 64, 65, 66, 67, 68, 69, 70, 71, 50, 168, 169, 170, 171, 172, 173, 174, 175, 176, 177, 178, 179, 72, 73, 74, 75, 76, 77, 78, 79, 80, 81, 82, 83, 84, 85, 86, 87, 88, 89, 90, 91, 92, 93, 94, 95, 96, 97, 98, 99, 100, 101, 102, 103, 104, 105, 106, 107, 108, 109, 110, 111, 112, 113, 114, 115, 116, 117, 118, 119, 120, 121, 122, 123, 124, 125, 126, 127, 128, 129, 130, 131, 132, 133, 134, 135, 136, 137, 138, 139, 140, 141, 142, 143, 144, 145, 146, 147, 148, 149, 150, 151, 152, 153, 154, 155, 156, 157, 158, 159, 160, 161, 162, 163, 164, 165, 166, 167]
def LsMo : List Nat := [1, 2, 3, 4, 5, 6, 7, 8, 9, 10, 11, 12, 13, 14, 15, 16, 17, 18, 19, 20, 21, 22, 23, 24, 25, 26, 27, 28, 29, 30, 31, 32, 33, 34, 35, 36, 37, 38, 39, 40, 41, 42, 43, 44, 45, 46, 47, 48]
def SCp (S : Sb) : Sb := (156, 10) :: (156, 9) :: (156, 8) :: (156, 7) :: (156, 6) :: (156, 5) :: (156, 4) :: (156, 3) :: (156, 2) :: (156, 1) :: (156, 0) :: (144, 10) :: (144, 9) :: (144, 8) :: (144, 7) :: (144, 6) :: (144, 5) :: (144, 4) :: (144, 3) :: (144, 2) :: (144, 1) :: (144, 0) :: (132, 10) :: (132, 9) :: (132, 8) :: (132, 7) :: (132, 6) :: (132, 5) :: (132, 4) :: (132, 3) :: (132, 2) :: (132, 1) :: (132, 0) :: (120, 10) :: (120, 9) :: (120, 8) :: (120, 7) :: (120, 6) :: (120, 5) :: (120, 4) :: (120, 3) :: (120, 2) :: (120, 1) :: (120, 0) :: (108, 10) :: (108, 9) :: (108, 8) :: (108, 7) :: (108, 6) :: (108, 5) :: (108, 4) :: (108, 3) :: (108, 2) :: (108, 1) :: (108, 0) :: (96, 10) :: (96, 9) :: (96, 8) :: (96, 7) :: (96, 6) :: (96, 5) :: (96, 4) :: (96, 3) :: (96, 2) :: (96, 1) :: (96, 0) :: (84, 10) :: (84, 9) :: (84, 8) :: (84, 7) :: (84, 6) :: (84, 5) :: (84, 4) :: (84, 3) :: (84, 2) :: (84, 1) :: (84, 0) :: (72, 10) :: (72, 9) :: (72, 8) :: (72, 7) :: (72, 6) :: (72, 5) :: (72, 4) :: (72, 3) :: (72, 2) :: (72, 1) :: (72, 0) :: (168, 10) :: (168, 9) :: (168, 8) :: (168, 7) :: (168, 6) :: (168, 5) :: (168, 4) :: (168, 3) :: (168, 2) :: (168, 1) :: (168, 0) :: (49, 8) :: (49, 7) :: (49, 6) :: (69, 0) :: (49, 5) :: (68, 0) :: (49, 4) :: (63, 1) :: (63, 0) :: (63, 6) :: (63, 5) :: (63, 4) :: (63, 3) :: (63, 2) :: (180, 10) :: (180, 9) :: (180, 8) :: (180, 7) :: (180, 6) :: (180, 5) :: (180, 4) :: (180, 3) :: (180, 2) :: (180, 1) :: (180, 0) :: (49, 3) :: (59, 1) :: (59, 0) :: (61, 0) :: (49, 2) :: (55, 1) :: (57, 0) :: (55, 0) :: (49, 1) :: (53, 0) :: (49, 0) :: (51, 0) :: S
def SMo (S : Sb) : Sb := (0, 66) :: (0, 65) :: (0, 64) :: (0, 63) :: (0, 61) :: (0, 60) :: (0, 59) :: (0, 58) :: (0, 57) :: (0, 55) :: (0, 54) :: (0, 53) :: (0, 52) :: (0, 51) :: (0, 50) :: (0, 49) :: (0, 48) :: (0, 47) :: (0, 46) :: (0, 45) :: (0, 40) :: (0, 38) :: (0, 37) :: (0, 36) :: (0, 35) :: (0, 34) :: (0, 33) :: (0, 32) :: (0, 31) :: (0, 30) :: (0, 29) :: (0, 28) :: (0, 27) :: (0, 26) :: (0, 25) :: (0, 24) :: (0, 23) :: (0, 22) :: (0, 21) :: (0, 20) :: (0, 19) :: (0, 17) :: (0, 12) :: (0, 11) :: (0, 8) :: (0, 5) :: (0, 2) :: (0, 0) :: S
theorem k_start {s : State} {args : Array Value} (htb : ∀ w ∈ tb, w.before args s = true) (hts : ∀ w ∈ lw_tbl, w.before args s = true) : ∃ (D : va_G) (cA : Nat → ClassId), va_K D classes [(cA 0, .int), (cA 1, .byte), (cA 2, .boolean), (cA 3, .long), (cA 4, .object "CanonPress$Tree")] s := by
  have inst : ∀ (k : Nat), k < 12 → ∃ (r : vw_C), classes[k]? = some r ∧ Cond.instantiable r.1 r.2.2 ∈ tb := by
    intro k hk
    match k, hk with
    | 0, _ => exact ⟨_, rfl, tb_mem 1229 (by decide +kernel) (by decide +kernel)⟩
    | 1, _ => exact ⟨_, rfl, tb_mem 134 (by decide +kernel) (by decide +kernel)⟩
    | 2, _ => exact ⟨_, rfl, tb_mem 142 (by decide +kernel) (by decide +kernel)⟩
    | 3, _ => exact ⟨_, rfl, tb_mem 167 (by decide +kernel) (by decide +kernel)⟩
    | 4, _ => exact ⟨_, rfl, tb_mem 182 (by decide +kernel) (by decide +kernel)⟩
    | 5, _ => exact ⟨_, rfl, tb_mem 188 (by decide +kernel) (by decide +kernel)⟩
    | 6, _ => exact ⟨_, rfl, tb_mem 226 (by decide +kernel) (by decide +kernel)⟩
    | 7, _ => exact ⟨_, rfl, tb_mem 247 (by decide +kernel) (by decide +kernel)⟩
    | 8, _ => exact ⟨_, rfl, tb_mem 392 (by decide +kernel) (by decide +kernel)⟩
    | 9, _ => exact ⟨_, rfl, tb_mem 402 (by decide +kernel) (by decide +kernel)⟩
    | 10, _ => exact ⟨_, rfl, tb_mem 415 (by decide +kernel) (by decide +kernel)⟩
    | 11, _ => exact ⟨_, rfl, tb_mem 253 (by decide +kernel) (by decide +kernel)⟩
    | k + 12, h => exact absurd h (by omega)
  have ex : ∀ (k : Nat), ∃ (u : ClassId × (Nat → Nat)), ∀ (q : vw_C), classes[k]? = some q → u_Kn s q.1 q.2.1 q.2.2 u.1 u.2 := by
    intro k
    by_cases hk : k < 12
    · obtain ⟨r, h1, h2⟩ := inst k hk
      obtain ⟨w1, -, -, -⟩ := cw_all r (List.mem_of_getElem? h1)
      obtain ⟨cC, iS, h3⟩ := u_known (C := r.1) (T := r.2.1) (N := r.2.2) (n := r.2.2) htb w1 (htb _ h2)
      exact ⟨(cC, iS), fun q hq => by rw [h1] at hq; cases hq; exact h3⟩
    · refine ⟨(s.vm.classes.size, fun _ => 0), fun q hq => ?_⟩
      have := (List.getElem?_eq_some_iff.mp hq).1
      exact absurd this (by show ¬ k < 12; exact hk)
  obtain ⟨f, hf⟩ := Classical.axiomOfChoice ex
  have ar : ∀ {ty : FieldType}, Cond.arrayClass ty ∈ tb → ∃ cA, ArrOfT s cA ty ∧ s.vm.findClass ("[" ++ ty.toString) = some cA := fun {ty} h => by
    obtain ⟨cA, kA, comp, hfind, hk, hkind⟩ := Cond.arrayClass_spec (htb _ h)
    exact ⟨cA, fun n z => ⟨fun k h => (by cases h), kA, hk, comp, hkind⟩, hfind⟩
  obtain ⟨c0, a0, b0⟩ := ar wI
  obtain ⟨c1, a1, b1⟩ := ar wB
  obtain ⟨c2, a2, b2⟩ := ar wZ
  obtain ⟨c3, a3, b3⟩ := ar wJ
  obtain ⟨comp, c4, k4, h1, h2, h3, h4, h5⟩ := Cond.arrayOver_spec (n := "CanonPress$Tree") (hts (.arrayOver (.object "CanonPress$Tree")) (List.mem_of_getElem? (i := 438) (by decide +kernel)))
  refine ⟨(fun k => (f k).1, fun k => (f k).2), fun t => match t with | 0 => c0 | 1 => c1 | 2 => c2 | 3 => c3 | _ => c4, fun c q hq => hf c q hq, fun k q hq => ?_⟩
  match k, hq with
  | 0, hq => cases hq; exact ⟨a0, b0⟩
  | 1, hq => cases hq; exact ⟨a1, b1⟩
  | 2, hq => cases hq; exact ⟨a2, b2⟩
  | 3, hq => cases hq; exact ⟨a3, b3⟩
  | 4, hq => cases hq; exact ⟨fun n z => ⟨fun k h => (by cases h), k4, h3, comp, h4⟩, k4, comp, h3, h4, h1, h5⟩
  | k + 5, hq => simp at hq
theorem n_start {s : State} {args : Array Value} (hts : ∀ w ∈ lw_tbl, w.before args s = true) : NstE s := by
  refine ⟨fun q hq => ?_, va_AO.of (hts (.arrayOver (.object "CanonPress$Tree")) (List.mem_of_getElem? (i := 438) (by decide +kernel)))⟩
  unfold nestL at hq
  simp only [List.mem_cons, List.not_mem_nil, or_false] at hq
  rcases hq with rfl | rfl | rfl | rfl | rfl | rfl | rfl | rfl | rfl | rfl
  · exact va_Nw.of rfl (hts _ (List.mem_of_getElem? (i := 143) (by decide +kernel)))
  · exact va_Nw.of rfl (hts _ (List.mem_of_getElem? (i := 168) (by decide +kernel)))
  · exact va_Nw.of rfl (hts _ (List.mem_of_getElem? (i := 183) (by decide +kernel)))
  · exact va_Nw.of rfl (hts _ (List.mem_of_getElem? (i := 227) (by decide +kernel)))
  · exact va_Nw.of rfl (hts _ (List.mem_of_getElem? (i := 403) (by decide +kernel)))
  · exact va_Nw.of rfl (hts _ (List.mem_of_getElem? (i := 416) (by decide +kernel)))
  · exact va_Nw.of rfl (hts _ (List.mem_of_getElem? (i := 439) (by decide +kernel)))
  · exact va_Nw.of rfl (hts _ (List.mem_of_getElem? (i := 189) (by decide +kernel)))
  · exact va_Nw.of rfl (hts _ (List.mem_of_getElem? (i := 232) (by decide +kernel)))
  · exact va_Nw.of rfl (hts _ (List.mem_of_getElem? (i := 254) (by decide +kernel)))
/-- all is made -/
theorem fin_world {E : En_t} {S : Sb} {σ : S_t} {P : List Nat} {H : Heap} {A : Nat → Prop} (hP : va_P E.2.1 classes (wsK E S σ P) H) (hD : va_D A (wsK E S σ P)) (hall : ∀ p, p < NP → p ∈ P) (hS : ∀ p, p < NP → kindP p < 20 → ∀ k, k < nfOf (kindP p) → fxK (kindP p) k → (p, k) ∈ S) : va_P E.2.1 classes (wsE E σ) H ∧ okE E ∧ ∀ q, AE E q → A q := by
  have hc : ∀ p, p < NP → cellK E S σ p = cellE E σ p := by
    intro p hp
    unfold cellK
    by_cases g : kindP p < 20
    · rw [if_pos g]
      unfold cellE
      rw [if_pos g]
      congr 2
      refine List.map_congr_left (fun k hk => ?_)
      unfold fvalK
      rw [if_neg (fun z => z.2 (hS p hp g k (List.mem_range.mp hk) z.1))]
    · rw [if_neg g]
  have hg : ∀ p, p < NP → ∃ i : Nat, P[i]? = some p ∧ (wsK E S σ P)[i]? = some (ro E p, cellE E σ p) := by
    intro p hp
    obtain ⟨i, h1, h2⟩ := wsK_get (E := E) (S := S) (σ := σ) (hall p hp)
    rw [hc p hp] at h2
    exact ⟨i, h1, h2⟩
  refine ⟨fun k q hq => ?_, fun i j hi hj e => ?_, ?_⟩
  · have hk : k < NP := by
      have := (List.getElem?_eq_some_iff.mp hq).1
      rwa [wsE_len] at this
    rw [wsE_get hk] at hq
    cases hq
    obtain ⟨i, -, h2⟩ := hg k hk
    exact hP i _ h2
  · obtain ⟨i1, a1, a2⟩ := hg i hi
    obtain ⟨j1, b1, b2⟩ := hg j hj
    have := hD.1 i1 j1 _ _ a2 b2 e
    subst this
    rw [a1] at b1
    exact Option.some.inj b1
  · rintro q ⟨p, hp, rfl⟩
    obtain ⟨i, -, h2⟩ := hg p hp
    exact hD.2 i _ h2
theorem K_backW {E : En_t} {S : Sb} {P : List Nat} {σ : S_t} {cells slots mc' ms' pc : Nat} {p : Program} {e : Env} {R : Room} {s : State} {m : MethodId} {args : Array Value} {below : List Frame} {meth : Method} {c : Code} {H : Heap} {locs : List Loc} {ls : Array Slot} {A : Nat → Prop} {a : Array Value} {st st0 : List Value} {Qf : State → Prop} {Qu : U_t → Prop}
    (hD : va_D A (wsK E S σ P)) (hS : va_S A s.heap H locs) (hA : ∀ q : Nat, s.heap.size ≤ q → A q)
    (hr : va_Run p E.1 e R s m args below meth c H locs cells slots mc' ms' (F0 m pc ls st0) st (va_Qv Qu (BK E (va_A (wsK E S σ P) H.size)) (va_A (wsK E S σ P) H.size) a) (va_A (wsK E S σ P) H.size))
    (kk : ∀ (u : U_t) (H1 : Heap) (locs1 : List Loc), Qu u → va_P E.2.1 classes (wsK u.1 u.2.1 u.2.2.2 u.2.2.1) H1 → va_D A (wsK u.1 u.2.1 u.2.2.2 u.2.2.1) → OKK u.2.1 u.2.2.2 u.2.2.1 → va_S A s.heap H1 locs1 → W p E.1 e R s m args below meth c H1 locs1 (cells + mc') (slots + ms') Qf (F0 m (pc + 3) ls st)) :
    W p E.1 e R s m args below meth c H locs cells slots Qf (F0 m pc ls st0) := by
  have hFc : ∀ q, va_A (wsK E S σ P) H.size q → A q := by
    rintro q (⟨k, e2, hk⟩ | h)
    · exact hD.2 k _ hk
    · exact hA q (Nat.le_trans hS.1 h)
  refine va_callv hr hS (fun q _ h => hFc q h) hFc (fun u t H1 locs1 ht hvm hw hB hz1 hk1 hS1 => ?_)
  obtain ⟨hB1, hB2, hB3⟩ := hB
  rw [ht] at hB1
  exact kk u H1 locs1 hw hB1 (hB2.weaken (fun _ _ _ h => hFc _ h)) hB3 hS1
