/-! the model writes -/
def WM (σ σ' : S_t) (l m : List Nat) : Prop := Fs MU σ σ' ∧ OuM σ' (l ++ m)
theorem WM.tr {σ σ1 σ2 : S_t} {l m1 m2 : List Nat} (h : WM σ σ1 l m1) (g : WM σ1 σ2 (l ++ m1) m2) : WM σ σ2 l (m1 ++ m2) := ⟨h.1.tr g.1, by rw [← List.append_assoc]; exact g.2⟩
theorem v_put {E : En_t} {d x : Nat} {l : List Nat} {σ : S_t} (h : OuM σ l) : CV E d m_Mo_put [pv E 0, .int (nI x)] σ (fun σ' => WM σ σ' l [x]) := c_putM h
theorem v_ch {E : En_t} {d c : Nat} {l : List Nat} {σ : S_t} (h : OuM σ l) (hc : c < 1114112) : CV E (d + 1) m_Mo_putWide [pv E 0, .int (nI c)] σ (fun σ' => WM σ σ' l (u8 c)) := by
  refine CE.of (L := [(0, pv E 0), (1, .int (nI c))]) rfl (Nat.le_of_ble_eq_true rfl) rfl (b_Mo_putWide_0 ?_)
  have s6 : nI c >>> ((6 : Int32) &&& 31) = nI (c / 64) := sh6 hc (Or.inl rfl)
  have s12 : nI c >>> ((12 : Int32) &&& 31) = nI (c / 4096) := sh6 hc (Or.inr (Or.inl rfl))
  have s18 : nI c >>> ((18 : Int32) &&& 31) = nI (c / 262144) := sh6 hc (Or.inr (Or.inr rfl))
  rw [s6, s12, s18, p128, p128, p128]
  refine pk_le 128 c (fun g => pk_le 2048 c (fun g2 => pk_le 65536 c (fun g3 => ?_) (fun g3 => ?_)) (fun g2 => ?_)) (fun g => ?_)
  · rw [show (240 : Int32) + nI (c / 262144) = nI (240 + c / 262144) from nI_add 240 _]
    have e : u8 c = [240 + c / 262144] ++ [128 + c / 4096 % 64] ++ [128 + c / 64 % 64] ++ [128 + c % 64] := by unfold u8; rw [if_neg (by omega), if_neg (by omega), if_neg (by omega)]; rfl
    rw [e]
    refine (v_put h).mono (fun σ1 q1 => (v_put q1.2).mono (fun σ2 q2 => (v_put q2.2).mono (fun σ3 q3 => (v_put q3.2).mono (fun σ4 q4 => ⟨rfl, ?_⟩))))
    have t1 := q1.tr q2
    have t2 := t1.tr (m2 := [128 + c / 64 % 64]) (by rw [← List.append_assoc]; exact q3)
    exact t2.tr (by rw [← List.append_assoc, ← List.append_assoc]; exact q4)
  · rw [show (224 : Int32) + nI (c / 4096) = nI (224 + c / 4096) from nI_add 224 _]
    have e : u8 c = [224 + c / 4096] ++ [128 + c / 64 % 64] ++ [128 + c % 64] := by unfold u8; rw [if_neg (by omega), if_neg (by omega), if_pos g3]; rfl
    rw [e]
    refine (v_put h).mono (fun σ1 q1 => (v_put q1.2).mono (fun σ2 q2 => (v_put q2.2).mono (fun σ3 q3 => ⟨rfl, ?_⟩)))
    exact (q1.tr q2).tr (by rw [← List.append_assoc]; exact q3)
  · rw [show (192 : Int32) + nI (c / 64) = nI (192 + c / 64) from nI_add 192 _]
    have e : u8 c = [192 + c / 64] ++ [128 + c % 64] := by unfold u8; rw [if_neg (by omega), if_pos g2]; rfl
    rw [e]
    exact (v_put h).mono (fun σ1 q1 => (v_put q1.2).mono (fun σ2 q2 => ⟨rfl, q1.tr q2⟩))
  · have e : u8 c = [c] := by unfold u8; rw [if_pos g]
    rw [e]
    exact (v_put h).mono (fun σ1 q1 => ⟨rfl, q1⟩)
theorem v_dig {E : En_t} {d v : Nat} {σ : S_t} (hv : v < 16) : CI E d m_Mo_digitOf [.int (nI v)] σ (fun r σ' => r = nI (hx v) ∧ σ' = σ) := by
  have key : ∀ v, v < 16 → ((10 : Int32) ≤ nI v → ((97 : Int32) + nI v) - (10 : Int32) = nI (hx v)) ∧ (¬ (10 : Int32) ≤ nI v → (48 : Int32) + nI v = nI (hx v)) := by decide
  obtain ⟨k1, k2⟩ := key v hv
  exact CE.of (L := [(0, .int (nI v))]) rfl (Nat.le_of_ble_eq_true rfl) rfl (b_Mo_digitOf_0 ⟨fun q => ⟨_, rfl, k1 q, rfl⟩, fun q => ⟨_, rfl, k2 q, rfl⟩⟩)
theorem v_str {E : En_t} {d a : Nat} {s l : List Nat} {σ : S_t} (h : OuM σ l) (ha : a + s.length ≤ 36000) (hs : StrA (gI σ 26) a s) (hls : Ltrs s) : CV E (d + 2) m_Mo_putString [pv E 0, .int (nI a), .int (nI s.length)] σ (fun σ' => WM σ σ' l (strq s)) := by
  have loop : ∀ (m j : Nat) (τ : S_t), j + m = s.length → WM σ τ l ([34] ++ escP s j) → JE E (d + 2) m_Mo_putString 8 [(0, pv E 0), (1, .int (nI a)), (2, .int (nI s.length)), (3, .int (nI j))] [] τ (fun q σ' => q = none ∧ WM σ σ' l (strq s)) := by
    intro m
    induction m with
    | zero =>
      intro j τ hj hW
      have : j = s.length := by omega
      subst this
      exact b_Mo_putString_8 (d := d + 1) ⟨fun _ => (v_put (x := 34) hW.2).mono (fun σ1 q1 => ⟨rfl, hW.tr q1⟩), fun q => absurd (Int32.le_refl _) q⟩
    | succ m ih =>
      intro j τ hj hW
      have hlt := hls j (by omega)
      have hgs : gI τ 26 (a + j) = nI (gA s j) := by rw [hW.1.1 26 (a + j) (by unfold MU; omega)]; exact hs j (by omega)
      generalize hcc : gA s j = c at hlt hgs
      have hc : c < 1114112 := by unfold Ltr at hlt; omega
      have nx : ∀ σ1, WM τ σ1 (l ++ ([34] ++ escP s j)) (esc c) → JE E (d + 2) m_Mo_putString 188 [(0, pv E 0), (1, .int (nI a)), (2, .int (nI s.length)), (3, .int (nI j))] [] σ1 (fun q σ' => q = none ∧ WM σ σ' l (strq s)) := by
        intro σ1 q1
        refine b_Mo_putString_188 (d := d + 1) ?_
        rw [nI_1]
        refine ih (j + 1) σ1 (by omega) ?_
        have := hW.tr q1
        rw [List.append_assoc] at this
        show WM σ σ1 l ([34] ++ (escP s j ++ esc (gA s j)))
        rw [hcc]; exact this
      have two : ∀ x : Nat, esc c = [92] ++ [x] → JE E (d + 2) m_Mo_putString 103 [(0, pv E 0), (1, .int (nI a)), (2, .int (nI s.length)), (3, .int (nI j)), (4, .int (nI c))] [.int (nI x)] τ (fun q σ' => q = none ∧ WM σ σ' l (strq s)) := by
        intro x e
        by_cases hx0 : x < 2 ^ 31
        · refine b_Mo_putString_103 (d := d + 1) ⟨fun q => absurd q (nI_nn hx0), fun _ => (v_put (x := 92) hW.2).mono (fun σ1 q1 => (v_put q1.2).mono (fun σ2 q2 => nx σ2 ?_))⟩
          rw [e]; exact q1.tr q2
        · exfalso
          have hm : x ∈ esc c := by rw [e]; simp
          have : ∀ y ∈ esc c, y < 2 ^ 31 := by
            intro y hy
            unfold esc u8 hx at hy
            (repeat' split at hy)
            all_goals (simp at hy; omega)
          exact hx0 (this x hm)
      have n34 : nI c = 34 ↔ c = 34 := nI_eq (b := 34) (by omega) (by decide)
      have n92 : nI c = 92 ↔ c = 92 := nI_eq (b := 92) (by omega) (by decide)
      have n8 : nI c = 8 ↔ c = 8 := nI_eq (b := 8) (by omega) (by decide)
      have n9 : nI c = 9 ↔ c = 9 := nI_eq (b := 9) (by omega) (by decide)
      have n10 : nI c = 10 ↔ c = 10 := nI_eq (b := 10) (by omega) (by decide)
      have n12 : nI c = 12 ↔ c = 12 := nI_eq (b := 12) (by omega) (by decide)
      have n13 : nI c = 13 ↔ c = 13 := nI_eq (b := 13) (by omega) (by decide)
      refine b_Mo_putString_8 (d := d + 1) ⟨fun q => absurd q (nI_ge (by omega) (by omega)), fun _ => ?_⟩
      rw [nI_add, nI_clamp (by omega), hgs, n34, n92, n8, n9, n10, n12, n13]
      refine ⟨vin (by omega) (by decide), fun q => b_Mo_putString_37 (d := d + 1) (two c (if_pos (Or.inl q))), fun q1 => ⟨fun q2 => ⟨fun q3 => ⟨fun q4 => ⟨fun q5 => ⟨fun q6 => ⟨fun q7 => ?_, fun q7 => two 114 (by rw [q7]; rfl)⟩, fun q6 => two 102 (by rw [q6]; rfl)⟩, fun q5 => two 110 (by rw [q5]; rfl)⟩, fun q4 => two 116 (by rw [q4]; rfl)⟩, fun q3 => two 98 (by rw [q3]; rfl)⟩, fun q2 => b_Mo_putString_37 (d := d + 1) (two c (if_pos (Or.inr q2)))⟩⟩
      refine b_Mo_putString_103 (d := d + 1) ⟨fun _ => ⟨fun q => ?_, fun q => ?_⟩, fun q => absurd (by decide) q⟩
      · have h32 : 32 ≤ c := Nat.not_lt.mp (fun z => absurd q (nI_ge (b := 32) z (by decide)))
        refine (v_ch (d := d) hW.2 hc).mono (fun σ1 q1 => nx σ1 ?_)
        rw [esc_hi h32 (by omega) (by omega)]; exact q1
      · have h32 : c < 32 := Nat.not_le.mp (fun z => q (nI_le (a := 32) z (by omega)))
        have k4 : ∀ c, c < 32 → (nI c >>> ((4 : Int32) &&& 31)) = nI (c / 16) ∧ nI c &&& (15 : Int32) = nI (c % 16) := by decide
        obtain ⟨k4a, k4b⟩ := k4 c h32
        have e : esc c = [92] ++ [117] ++ [48] ++ [48] ++ [hx (c / 16)] ++ [hx (c % 16)] := by
          unfold esc
          rw [if_neg (by omega), if_neg q3, if_neg q4, if_neg q5, if_neg q6, if_neg q7, if_pos h32]; rfl
        rw [k4a, k4b]
        refine (v_put (x := 92) hW.2).mono (fun σ1 p1 => (v_put (x := 117) p1.2).mono (fun σ2 p2 => (v_put (x := 48) p2.2).mono (fun σ3 p3 => (v_put (x := 48) p3.2).mono (fun σ4 p4 => (v_dig (show c / 16 < 16 by omega)).mono (fun r σ5 hq => ?_)))))
        obtain ⟨rfl, rfl⟩ := hq
        refine (v_put p4.2).mono (fun σ6 p5 => (v_dig (show c % 16 < 16 by omega)).mono (fun r σ7 hq => ?_))
        obtain ⟨rfl, rfl⟩ := hq
        refine (v_put p5.2).mono (fun σ8 p6 => nx σ8 ?_)
        rw [e]
        exact ((((p1.tr p2).tr (by rw [← List.append_assoc]; exact p3)).tr (by rw [← List.append_assoc, ← List.append_assoc]; exact p4)).tr (by rw [← List.append_assoc, ← List.append_assoc, ← List.append_assoc]; exact p5)).tr (by rw [← List.append_assoc, ← List.append_assoc, ← List.append_assoc, ← List.append_assoc]; exact p6)
  refine CE.of (L := [(0, pv E 0), (1, .int (nI a)), (2, .int (nI s.length))]) rfl (Nat.le_of_ble_eq_true rfl) rfl (b_Mo_putString_0 (d := d + 1) ((v_put (x := 34) h).mono (fun σ1 q1 => loop s.length 0 σ1 (by omega) q1)))
theorem v_word {E : En_t} {d f n : Nat} {l : List Nat} {σ : S_t} (hw : Wrd σ) (hf : f + n ≤ 13) (h : OuM σ l) : CV E (d + 1) m_Mo_putWord [pv E 0, .int (nI f), .int (nI n)] σ (fun σ' => WM σ σ' l (sub (gA wordL) f n)) := by
  have loop : ∀ (m j : Nat) (τ : S_t), j + m = n → WM σ τ l (sub (gA wordL) f j) → JE E (d + 1) m_Mo_putWord 2 [(0, pv E 0), (1, .int (nI f)), (2, .int (nI n)), (3, .int (nI j))] [] τ (fun q σ' => q = none ∧ WM σ σ' l (sub (gA wordL) f n)) := by
    intro m
    induction m with
    | zero =>
      intro j τ hj hW
      have : j = n := by omega
      subst this
      exact b_Mo_putWord_2 ⟨fun _ => ⟨rfl, hW⟩, fun q => absurd (Int32.le_refl _) q⟩
    | succ m ih =>
      intro j τ hj hW
      refine b_Mo_putWord_2 ⟨fun q => absurd q (nI_ge (by omega) (by omega)), fun _ => ?_⟩
      rw [nI_add, nI_clamp (by omega), hW.1.1 40 (f + j) (by unfold MU; omega), hw (f + j) (by omega), nI_1]
      exact ⟨vin (by omega) (by decide), (v_put hW.2).mono (fun σ1 q1 => ih (j + 1) σ1 (by omega) (hW.tr q1))⟩
  exact CE.of (L := [(0, pv E 0), (1, .int (nI f)), (2, .int (nI n))]) rfl (Nat.le_of_ble_eq_true rfl) rfl (b_Mo_putWord_0 (loop n 0 σ (by omega) ⟨Fs.rf, by show OuM σ (l ++ []); rw [List.append_nil]; exact h⟩))
