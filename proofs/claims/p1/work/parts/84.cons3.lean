section KR3
variable {E : En_t} {S : Sb} {P : List Nat} {σ : S_t} {R : Room} {cells slots mc ms : Nat} {M : M_t} {pc pc' : Nat} {L L' : List (Nat × Value)} {st : List Value} {Q : U_t → Prop}
theorem cellK_obj {E : En_t} {S : Sb} {σ : S_t} {x c : Nat} (hk : kindP x = c) (hc : c < 20) : cellK E S σ x = .inr (c, (List.range (nfOf c)).map (fvalK E S σ c x)) := by
  unfold cellK; rw [hk, if_pos hc]
theorem fvalK_oS {E : En_t} {S : Sb} {σ : S_t} {c p k : Nat} {a b : Nat} (h : p ≠ a ∨ k ≠ b) : fvalK E ((a, b) :: S) σ c p k = fvalK E S σ c p k := by
  unfold fvalK
  have : (p, k) ∉ (a, b) :: S ↔ (p, k) ∉ S := by
    rw [List.mem_cons]
    constructor
    · exact fun z y => z (Or.inr y)
    · rintro z (y | y)
      · have e1 := congrArg Prod.fst y
        have e2 := congrArg Prod.snd y
        rcases h with h | h
        · exact h e1
        · exact h e2
      · exact z y
  simp only [this]
theorem cellK_oS {E : En_t} {S : Sb} {σ : S_t} {a b q : Nat} (h : q ≠ a) : cellK E ((a, b) :: S) σ q = cellK E S σ q := by
  unfold cellK
  split
  · congr 3; funext k; exact fvalK_oS (Or.inl h)
  · rfl
/-- as FLt, and the field is final and set here -/
def QLt (own : String) (i c k : Nat) (ty : FieldType) : Prop := ∃ r : vw_C, classes[c]? = some r ∧ k < r.2.2 ∧ r.2.2 = nfOf c ∧ Cond.fieldLink own i r.1 (r.2.1 k).2.1 (r.2.1 k).2.2.1 ∈ tb ∧ (r.2.1 k).2.2.2 = true ∧ (r.2.1 k).1 = own ∧ parseFieldDescriptor (r.2.1 k).2.2.1 = some ty
/-- a fixed reference is set -/
theorem K_putF {i c k x y : Nat} {ty : FieldType} (hd : decode M.2.1 pc = .ok (.putfield i, 3)) (hp : pc + 3 = pc') (hf : QLt M.1.cls i c k ty) (hc : c < 20) (hk : kindP x = c) (hx : x ∈ P) (hy : y ∈ P) {ax ay : Nat} (hax : ro E x = ax) (hay : ro E y = ay) (hfk : fkind c k = 3 ∨ fkind c k = 4) (hfy : finp c k x = y) (hn : narrow ty (.ref 0) = .ref 0 ∧ ∀ q, narrow ty (.ref q) = .ref q) (hfit : ∀ q, fits ty (.ref q) = true) (kk : JK E ((x, k) :: S) P σ R cells slots mc ms M pc' L st Q) : JK E S P σ R cells slots mc ms M pc L (.ref ay :: .ref ax :: st) Q := by
  subst hp; subst hax; subst hay; intro p e s m args below meth c' H locs ls A C hP hD hS hA hO hl
  obtain ⟨r, g1, g2, g3, g4, g5, g5b, g6⟩ := hf
  obtain ⟨w1, ⟨ty0, w2⟩, w3, w4⟩ := cw_all r (List.mem_of_getElem? g1)
  obtain ⟨j, hj, hjw⟩ := wsK_get (E := E) (S := S) (σ := σ) hx
  rw [cellK_obj hk hc] at hjw
  refine va_putF (D := E.2.1) (ci := c) (v := pv E y) (ty := ty) (C := r.1) (T := r.2.1) (N := r.2.2) C.1 C.2.1 C.2.2.2.2.1 w1 ty0 w2 w3 C.2.2.2.1 C.2.2.2.2.2.2.2.2.1 hP hD hS j hjw g1 k g2 (C.2.2.2.2.1 _ g4) (fun _ h9 => by rw [w4 k g2] at h9; exact h9) g5 C.2.2.2.2.2.2.2.1 g5b g6 (hn.2 _) (hfit _) (by simp; omega) hd (fun H locs hP1 hD1 hS1 => ?_)
  have hxk : fxK c k := by
    rcases hfk with h | h <;> rw [fxK, h] <;> decide
  have ec : (Sum.inr (c, ((List.range (nfOf c)).map (fvalK E S σ c x)).set k (pv E y)) : va_E) = cellK E ((x, k) :: S) σ x := by
    rw [cellK_obj hk hc]
    congr 2
    refine fval_set ?_ (fun j hj => fvalK_oS (Or.inr hj))
    unfold fvalK
    rw [if_neg (fun z => z.2 List.mem_cons_self)]
    unfold fvalE
    rcases hfk with h | h <;> rw [h] <;> simp only <;> rw [hfy]
  rw [ec] at hP1 hD1
  have ew := wsK_set (E := E) (S := S) (S' := (x, k) :: S) (σ := σ) (σ' := σ) (c := cellK E ((x, k) :: S) σ x) hO.2.2.2 hj rfl (fun q hq => cellK_oS hq)
  rw [ew] at hP1 hD1
  refine kk p e s m args below meth c' H locs ls A C hP1 hD1 hS1 hA ⟨fun r2 k2 h => ?_, hO.2.1, hO.2.2.1, hO.2.2.2⟩ hl
  rcases List.mem_cons.mp h with h | h
  · have e1 := congrArg Prod.fst h
    have e2 := congrArg Prod.snd h
    simp only at e1 e2
    subst e1; subst e2
    rw [hk, hfy]
    exact ⟨hx, hy⟩
  · exact hO.1 r2 k2 h
/-- an int or a changing reference is set -/
theorem K_putv {i c k x : Nat} {v : Value} {ty : FieldType} {σ' : S_t} (hd : decode M.2.1 pc = .ok (.putfield i, 3)) (hp : pc + 3 = pc') (hf : PLt M.1.cls i c k ty) (hc : c < 20) (hk : kindP x = c) (hx : x ∈ P) {ax : Nat} (hax : ro E x = ax) (hn : narrow ty v = v) (hfit : fits ty v = true) (h1 : ((List.range (nfOf c)).map (fvalK E S σ c x)).set k v = (List.range (nfOf c)).map (fvalK E S σ' c x)) (h2 : ∀ q, q ≠ x → cellK E S σ' q = cellK E S σ q) (hO' : OKK S σ P → OKK S σ' P) (kk : JK E S P σ' R cells slots mc ms M pc' L st Q) : JK E S P σ R cells slots mc ms M pc L (v :: .ref ax :: st) Q := by
  subst hp; subst hax; intro p e s m args below meth c' H locs ls A C hP hD hS hA hO hl
  obtain ⟨r, g1, g2, g3, g4, g5, g6⟩ := hf
  obtain ⟨w1, ⟨ty0, w2⟩, w3, w4⟩ := cw_all r (List.mem_of_getElem? g1)
  obtain ⟨j, hj, hjw⟩ := wsK_get (E := E) (S := S) (σ := σ) hx
  rw [cellK_obj hk hc] at hjw
  refine va_put (D := E.2.1) (ci := c) (v := v) (ty := ty) (C := r.1) (T := r.2.1) (N := r.2.2) C.1 C.2.1 C.2.2.2.2.1 w1 ty0 w2 w3 C.2.2.2.1 C.2.2.2.2.2.2.2.2.1 hP hD hS j hjw g1 k g2 (C.2.2.2.2.1 _ g4) (fun _ h9 => by rw [w4 k g2] at h9; exact h9) g5 g6 hn hfit (by simp; omega) hd (fun H locs hP1 hD1 hS1 => ?_)
  have ew := wsK_set (E := E) (S := S) (S' := S) (σ := σ) (σ' := σ') (c := .inr (c, ((List.range (nfOf c)).map (fvalK E S σ c x)).set k v)) hO.2.2.2 hj (by rw [cellK_obj hk hc, h1]) h2
  rw [ew] at hP1 hD1
  exact kk p e s m args below meth c' H locs ls A C hP1 hD1 hS1 hA (hO' hO) hl
theorem cellK_sI_o {E : En_t} {S : Sb} {σ : S_t} {p k : Nat} {v : Int32} {q : Nat} (h : q ≠ p) : cellK E S (sI σ p k v) q = cellK E S σ q := by
  have e : gI (sI σ p k v) q = gI σ q := by funext j; exact gI_sI_n (Or.inl h)
  have e2 : ∀ c, fvalK E S (sI σ p k v) c q = fvalK E S σ c q := by intro c; funext j; unfold fvalK fvalE; rw [e]; rfl
  unfold cellK
  rw [e2, cellE_sI_o h]
theorem cellK_sR_o {E : En_t} {S : Sb} {σ : S_t} {p k : Nat} {v : Option Nat} {q : Nat} (h : q ≠ p) : cellK E S (sR σ p k v) q = cellK E S σ q := by
  have e : gR (sR σ p k v) q = gR σ q := by funext j; exact gR_sR_n (Or.inl h)
  have e2 : ∀ c, fvalK E S (sR σ p k v) c q = fvalK E S σ c q := by intro c; funext j; unfold fvalK fvalE; rw [e]; rfl
  unfold cellK
  rw [e2, cellE_sR_o h]
theorem OKK.sI {S : Sb} {σ : S_t} {P : List Nat} {p k : Nat} {v : Int32} (h : OKK S σ P) (hp : p ∈ P) : OKK S (sI σ p k v) P :=
  ⟨h.1, h.2.1, fun x hx => ⟨fun j => by
    have hne : x ≠ p := fun e => hx (e ▸ hp)
    rw [gI_sI_n (Or.inl hne)]; exact (h.2.2.1 x hx).1 j, (h.2.2.1 x hx).2⟩, h.2.2.2⟩
theorem OKK.sR {S : Sb} {σ : S_t} {P : List Nat} {p k y : Nat} (h : OKK S σ P) (hp : p ∈ P) (hy : y ∈ P) : OKK S (sR σ p k (some y)) P := by
  refine ⟨h.1, fun r j x hx => ?_, h.2.2.1, h.2.2.2⟩
  rw [gR_sR] at hx
  split at hx
  · rename_i g
    rw [g.1]
    exact ⟨hp, Option.some.inj hx ▸ hy⟩
  · exact h.2.1 r j x hx
theorem K_putI {i c k x : Nat} {v : Int32} (hd : decode M.2.1 pc = .ok (.putfield i, 3)) (hp : pc + 3 = pc') (hf : PLt M.1.cls i c k .int) (hc : c < 20) (hk : kindP x = c) (hx : x ∈ P) {ax : Nat} (hax : ro E x = ax) (h0 : fkind c k = 0) (kk : JK E S P (sI σ x k v) R cells slots mc ms M pc' L st Q) : JK E S P σ R cells slots mc ms M pc L (.int v :: .ref ax :: st) Q := by
  refine K_putv hd hp hf hc hk hx hax rfl rfl ?_ (fun _ h => cellK_sI_o h) (fun h => h.sI hx) kk
  refine fval_set ?_ (fun j hj => ?_)
  · unfold fvalK
    rw [if_neg (fun z => z.1.1 h0)]
    unfold fvalE; rw [h0]; simp [gI_sI_s]
  · unfold fvalK fvalE; rw [gI_sI_n (Or.inr hj)]; rfl
theorem K_putR {i c k x y : Nat} {C : String} (hd : decode M.2.1 pc = .ok (.putfield i, 3)) (hp : pc + 3 = pc') (hf : PLt M.1.cls i c k (.object C)) (hc : c < 20) (hk : kindP x = c) (hx : x ∈ P) (hy : y ∈ P) {ax ay : Nat} (hax : ro E x = ax) (hay : ro E y = ay) (h0 : fkind c k = 2) (kk : JK E S P (sR σ x k (some y)) R cells slots mc ms M pc' L st Q) : JK E S P σ R cells slots mc ms M pc L (.ref ay :: .ref ax :: st) Q := by
  subst hay
  refine K_putv hd hp hf hc hk hx hax rfl rfl ?_ (fun _ h => cellK_sR_o h) (fun h => h.sR hx hy) kk
  refine fval_set ?_ (fun j hj => ?_)
  · unfold fvalK
    rw [if_neg (fun z => z.1.2.2.1 h0)]
    unfold fvalE; rw [h0]; simp [gR_sR_s, va_rf, pv]
  · unfold fvalK fvalE; rw [gR_sR_n (Or.inr hj)]; rfl
theorem K_iast {x : Nat} {i v : Int32} {n : Nat} (hd : decode M.2.1 pc = .ok (.iastore, 1)) (hp : pc + 1 = pc') (hk : kindP x = 20) (hn : lenP x = n) (hx : x ∈ P) {ax : Nat} (hax : ro E x = ax) (hi : vp_in i n) (kk : JK E S P (sI σ x i.toNatClampNeg v) R cells slots mc ms M pc' L st Q) : JK E S P σ R cells slots mc ms M pc L (.int v :: .int i :: .ref ax :: st) Q := by
  subst hp; subst hn; subst hax; intro p e s m args below meth c H locs ls A C hP hD hS hA hO hl
  have hcell : ∀ τ, cellK E S τ x = .inl (E.2.2.2 0, lenP x, .inl (gI τ x)) := fun τ => by unfold cellK; rw [if_neg (by omega), cellE_arr (t := 0) hk (by omega)]
  obtain ⟨j, hj, hjw⟩ := wsK_get (E := E) (S := S) (σ := σ) hx
  rw [hcell] at hjw
  refine va_iast (D := E.2.1) (cl := classes) (tys := tysE E) C.1 C.2.1 C.2.2.2.2.2.2.2.2.1 hP hD hS j 0 hjw rfl hi hd (fun H locs hP1 hD1 hS1 => ?_)
  have ew := wsK_set (E := E) (S := S) (S' := S) (σ := σ) (σ' := sI σ x i.toNatClampNeg v) (c := .inl (E.2.2.2 0, lenP x, .inl (upd (gI σ x) i.toNatClampNeg v))) hO.2.2.2 hj (by
    rw [hcell]; congr 4; funext j; simp only [upd, gI_sI]; by_cases hj : j = i.toNatClampNeg <;> simp [hj]) (fun _ h => cellK_sI_o h)
  rw [ew] at hP1 hD1
  exact kk p e s m args below meth c H locs ls A C hP1 hD1 hS1 hA (hO.sI hx) hl
theorem K_astT {x y : Nat} {i : Int32} {n : Nat} (hd : decode M.2.1 pc = .ok (.aastore, 1)) (hp : pc + 1 = pc') (hk : kindP x = 24) (hn : lenP x = n) (hx : x ∈ P) (hky : kindP y = 11) (hy : y ∈ P) {ax ay : Nat} (hax : ro E x = ax) (hay : ro E y = ay) (hi : vp_in i n) (kk : JK E S P (sR σ x i.toNatClampNeg (some y)) R cells slots mc ms M pc' L st Q) : JK E S P σ R cells slots mc ms M pc L (.ref ay :: .int i :: .ref ax :: st) Q := by
  subst hp; subst hn; subst hax; subst hay; intro p e s m args below meth c H locs ls A C hP hD hS hA hO hl
  have hcell : ∀ τ, cellK E S τ x = .inl (E.2.2.2 4, lenP x, .inr (.inr (.inr (.inr (fun j => (gR τ x j).map (ro E)))))) := fun τ => by unfold cellK; rw [if_neg (by omega), cellE_arrR hk]
  obtain ⟨j, hj, hjw⟩ := wsK_get (E := E) (S := S) (σ := σ) hx
  obtain ⟨j2, hj2, hjw2⟩ := wsK_get (E := E) (S := S) (σ := σ) hy
  rw [hcell] at hjw
  rw [cellK_obj hky (by omega)] at hjw2
  refine va_astq (D := E.2.1) (cl := classes) (tys := tysE E) C.1 C.2.1 C.2.2.2.2.2.2.2.2.1 hP hD hS j 4 j2 11 hjw rfl hjw2 rfl hi hd (fun H locs hP1 hD1 hS1 => ?_)
  have ew := wsK_set (E := E) (S := S) (S' := S) (σ := σ) (σ' := sR σ x i.toNatClampNeg (some y)) (c := .inl (E.2.2.2 4, lenP x, .inr (.inr (.inr (.inr (va_up (fun j => (gR σ x j).map (ro E)) i.toNatClampNeg (some (ro E y)))))))) hO.2.2.2 hj (by
    rw [hcell]; congr 7; funext j; simp only [va_up, gR_sR]; by_cases hj : j = i.toNatClampNeg <;> simp [hj]) (fun _ h => cellK_sR_o h)
  rw [ew] at hP1 hD1
  exact kk p e s m args below meth c H locs ls A C hP1 hD1 hS1 hA (hO.sR hx hy) hl
theorem K_getF {i c k x y : Nat} (hd : decode M.2.1 pc = .ok (.getfield i, 3)) (hp : pc + 3 = pc') (hf : FLt M.1.cls i c k) (hc : c < 20) (hk : kindP x = c) (hx : x ∈ P) (hS0 : (x, k) ∈ S) {ax ay : Nat} (hax : ro E x = ax) (hay : ro E y = ay) (h0 : fkind c k = 3 ∨ fkind c k = 4) (hy : finp c k x = y) (kk : JK E S P σ R cells slots mc ms M pc' L (.ref ay :: st) Q) : JK E S P σ R cells slots mc ms M pc L (.ref ax :: st) Q := by
  subst hp; subst hax; subst hay; intro p e s m args below meth c' H locs ls A C hP hD hS hA hO hl
  obtain ⟨r, h1, h2, h3, h4⟩ := hf
  obtain ⟨w1, -, -, w4⟩ := cw_all r (List.mem_of_getElem? h1)
  obtain ⟨j, hj, hjw⟩ := wsK_get (E := E) (S := S) (σ := σ) hx
  rw [cellK_obj hk hc] at hjw
  refine va_get (D := E.2.1) (ci := c) (v := pv E y) (C := r.1) (T := r.2.1) (N := r.2.2) C.1 C.2.1 C.2.2.2.2.1 w1 C.2.2.2.1 C.2.2.2.2.2.2.2.2.1 hP j hjw h1 k h2 (C.2.2.2.2.1 _ h4) (fun _ h9 => by rw [w4 k h2] at h9; exact h9) ?_ hd (kk p e s m args below meth c' H locs ls A C hP hD hS hA hO hl)
  rw [List.getElem?_map, List.getElem?_range (by omega)]
  have : fvalK E S σ c x k = pv E y := by
    unfold fvalK
    rw [if_neg (fun z => z.2 hS0)]
    unfold fvalE
    rcases h0 with h | h <;> rw [h] <;> simp only <;> rw [hy]
  simp [this]
end KR3
