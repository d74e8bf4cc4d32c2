/-! what is written: characters, strings, words -/
def u8 (c : Nat) : List Nat := if c < 128 then [c] else if c < 2048 then [192 + c / 64, 128 + c % 64] else if c < 65536 then [224 + c / 4096, 128 + c / 64 % 64, 128 + c % 64] else [240 + c / 262144, 128 + c / 4096 % 64, 128 + c / 64 % 64, 128 + c % 64]
def hx (v : Nat) : Nat := if v < 10 then 48 + v else 87 + v
def esc (c : Nat) : List Nat := if c = 34 ∨ c = 92 then [92, c] else if c = 8 then [92, 98] else if c = 9 then [92, 116] else if c = 10 then [92, 110] else if c = 12 then [92, 102] else if c = 13 then [92, 114] else if c < 32 then [92, 117, 48, 48, hx (c / 16), hx (c % 16)] else u8 c
def escP (s : List Nat) : Nat → List Nat
  | 0 => []
  | j + 1 => escP s j ++ esc (gA s j)
def strq (s : List Nat) : List Nat := [34] ++ escP s s.length ++ [34]
def sub (g : Nat → Nat) (f : Nat) : Nat → List Nat
  | 0 => []
  | j + 1 => sub g f j ++ [g (f + j)]
theorem esc_len (c : Nat) : (esc c).length ≤ 6 := by
  unfold esc u8
  (repeat' split) <;> exact Nat.le_of_ble_eq_true rfl
theorem escP_len (s : List Nat) : ∀ j, (escP s j).length ≤ 6 * j
  | 0 => Nat.le_refl _
  | j + 1 => by
    show (escP s j ++ esc (gA s j)).length ≤ _
    rw [List.length_append]
    have := escP_len s j
    have := esc_len (gA s j)
    omega
theorem sub_len (g : Nat → Nat) (f : Nat) : ∀ j, (sub g f j).length = j
  | 0 => rfl
  | j + 1 => by
    show (sub g f j ++ [g (f + j)]).length = _
    rw [List.length_append, sub_len g f j]; rfl
theorem strq_len (s : List Nat) : (strq s).length ≤ 6 * s.length + 2 := by
  have := escP_len s s.length
  unfold strq
  rw [List.length_append, List.length_append]
  show 1 + _ + 1 ≤ _
  omega
theorem esc_hi {c : Nat} (h : 32 ≤ c) (h1 : c ≠ 34) (h2 : c ≠ 92) : esc c = u8 c := by
  unfold esc
  rw [if_neg (by omega), if_neg (by omega), if_neg (by omega), if_neg (by omega), if_neg (by omega), if_neg (by omega), if_neg (by omega)]
/-- the class writes -/
def WC (σ σ' : S_t) (l m : List Nat) : Prop := Fs MO σ σ' ∧ OuC σ' (l ++ m)
theorem WC.tr {σ σ1 σ2 : S_t} {l m1 m2 : List Nat} (h : WC σ σ1 l m1) (g : WC σ1 σ2 (l ++ m1) m2) : WC σ σ2 l (m1 ++ m2) := ⟨h.1.tr g.1, by rw [← List.append_assoc]; exact g.2⟩
theorem w_put {E : En_t} {d x : Nat} {l : List Nat} {σ : S_t} (h : OuC σ l) (hl : l.length ≤ 2000000) : CV E d m_Ou_put [pv E 53, .int (nI x)] σ (fun σ' => WC σ σ' l [x]) := c_putC h (by omega)
theorem sh6 {c k : Nat} (h : c < 1114112) (hk : k = 6 ∨ k = 12 ∨ k = 18) : nI c >>> (nI k &&& 31) = nI (c / 2 ^ k) := by
  rcases hk with rfl | rfl | rfl
  · exact pk_shrN (by omega) _ 6 (by decide)
  · exact pk_shrN (by omega) _ 12 (by decide)
  · exact pk_shrN (by omega) _ 18 (by decide)
theorem o128 (g : Nat) : (128 : Int32) ||| (nI g &&& (63 : Int32)) = nI (128 + g % 64) := by
  rw [show nI g &&& (63 : Int32) = nI (g % 64) from fa_mask g 6]
  exact fa_or_sum (k := 6) 2 (Nat.mod_lt g (by decide))
theorem p128 (g : Nat) : (128 : Int32) + (nI g &&& (63 : Int32)) = nI (128 + g % 64) := by
  rw [show nI g &&& (63 : Int32) = nI (g % 64) from fa_mask g 6]
  exact nI_add 128 _
theorem w_ch {E : En_t} {d c : Nat} {l : List Nat} {σ : S_t} (h : OuC σ l) (hl : l.length ≤ 1000000) (hc : c < 1114112) : CV E (d + 1) m_Ou_putCharacter [pv E 53, .int (nI c)] σ (fun σ' => WC σ σ' l (u8 c)) := by
  refine CE.of (L := [(0, pv E 53), (1, .int (nI c))]) rfl (Nat.le_of_ble_eq_true rfl) rfl (b_Ou_putCharacter_0 ?_)
  have s6 : nI c >>> ((6 : Int32) &&& 31) = nI (c / 64) := sh6 hc (Or.inl rfl)
  have s12 : nI c >>> ((12 : Int32) &&& 31) = nI (c / 4096) := sh6 hc (Or.inr (Or.inl rfl))
  have s18 : nI c >>> ((18 : Int32) &&& 31) = nI (c / 262144) := sh6 hc (Or.inr (Or.inr rfl))
  rw [s6, s12, s18, o128, o128, o128]
  refine pk_le 128 c (fun g => pk_le 2048 c (fun g2 => pk_le 65536 c (fun g3 => ?_) (fun g3 => ?_)) (fun g2 => ?_)) (fun g => ?_)
  · rw [show (240 : Int32) ||| nI (c / 262144) = nI (240 + c / 262144) from fa_or_sum (k := 4) 15 (by omega)]
    have e : u8 c = [240 + c / 262144] ++ [128 + c / 4096 % 64] ++ [128 + c / 64 % 64] ++ [128 + c % 64] := by unfold u8; rw [if_neg (by omega), if_neg (by omega), if_neg (by omega)]; rfl
    rw [e]
    refine (w_put h (by omega)).mono (fun σ1 q1 => (w_put q1.2 (by rw [List.length_append]; show l.length + 1 ≤ _; omega)).mono (fun σ2 q2 => (w_put q2.2 (by rw [List.length_append, List.length_append]; show l.length + 1 + 1 ≤ _; omega)).mono (fun σ3 q3 => (w_put q3.2 (by rw [List.length_append, List.length_append, List.length_append]; show l.length + 1 + 1 + 1 ≤ _; omega)).mono (fun σ4 q4 => ⟨rfl, ?_⟩))))
    have t1 := q1.tr q2
    have t2 := t1.tr (m2 := [128 + c / 64 % 64]) (by rw [← List.append_assoc]; exact q3)
    exact t2.tr (by rw [← List.append_assoc, ← List.append_assoc]; exact q4)
  · rw [show (224 : Int32) ||| nI (c / 4096) = nI (224 + c / 4096) from fa_or_sum (k := 5) 7 (by omega)]
    have e : u8 c = [224 + c / 4096] ++ [128 + c / 64 % 64] ++ [128 + c % 64] := by unfold u8; rw [if_neg (by omega), if_neg (by omega), if_pos g3]; rfl
    rw [e]
    refine (w_put h (by omega)).mono (fun σ1 q1 => (w_put q1.2 (by rw [List.length_append]; show l.length + 1 ≤ _; omega)).mono (fun σ2 q2 => (w_put q2.2 (by rw [List.length_append, List.length_append]; show l.length + 1 + 1 ≤ _; omega)).mono (fun σ3 q3 => ⟨rfl, ?_⟩)))
    exact (q1.tr q2).tr (by rw [← List.append_assoc]; exact q3)
  · rw [show (192 : Int32) ||| nI (c / 64) = nI (192 + c / 64) from fa_or_sum (k := 6) 3 (by omega)]
    have e : u8 c = [192 + c / 64] ++ [128 + c % 64] := by unfold u8; rw [if_neg (by omega), if_pos g2]; rfl
    rw [e]
    exact (w_put h (by omega)).mono (fun σ1 q1 => (w_put q1.2 (by rw [List.length_append]; show l.length + 1 ≤ _; omega)).mono (fun σ2 q2 => ⟨rfl, q1.tr q2⟩))
  · have e : u8 c = [c] := by unfold u8; rw [if_pos g]
    rw [e]
    exact (w_put h (by omega)).mono (fun σ1 q1 => ⟨rfl, q1⟩)
theorem w_esc {E : En_t} {d c : Nat} {l : List Nat} {σ : S_t} (h : OuC σ l) (hl : l.length ≤ 1000000) (hc : c < 32) : CV E (d + 5) m_Fo_writeEscape [.int (nI c), pv E 53] σ (fun σ' => WC σ σ' l (esc c)) := by
  have k1 : ∀ c, c < 32 → ((nI c).toUInt32 % 65536).toInt32 = nI c := by decide
  have k2 : ∀ k, k < 5 → ∀ c, c < 32 → (bytS.getD 4 []).getD k 0 = nI c → (bytS.getD 5 []).getD k 0 = nI (gA (esc c) 1) ∧ esc c = [92] ++ [gA (esc c) 1] := by decide
  have k3 : ∀ c, c < 32 → (∀ j, j < 5 → ¬ (bytS.getD 4 []).getD j 0 = nI c) → esc c = [92] ++ [117] ++ [48] ++ [48] ++ [hx (c / 16)] ++ [hx (c % 16)] := by decide
  have k4 : ∀ c, c < 32 → (nI c >>> ((4 : Int32) &&& 31)) &&& (15 : Int32) = nI (c / 16) ∧ nI c &&& (15 : Int32) = nI (c % 16) := by decide
  have k5 : ∀ v, v < 16 → (bytS.getD 6 []).getD v 0 = nI (hx v) := by decide
  obtain ⟨k4a, k4b⟩ := k4 c hc
  have len1 : ∀ {l : List Nat} {x : Nat}, (l ++ [x]).length = l.length + 1 := fun {l x} => by rw [List.length_append]; rfl
  refine CE.of (L := [(0, .int (nI c)), (1, pv E 53)]) rfl (Nat.le_of_ble_eq_true rfl) rfl (b_Fo_writeEscape_0 (d := d + 4) ?_)
  rw [k1 c hc]
  refine (c_indexOf (d := d + 1) (w := 4) (by decide) (by omega)).mono (fun r σ1 hq => ?_)
  obtain ⟨hF, rfl⟩ := hq
  refine (w_put (x := 92) h (by omega)).mono (fun σ2 q1 => ?_)
  rcases hF with ⟨k, hk, e, rfl⟩ | ⟨hno, rfl⟩
  · have hk5 : k < 5 := hk
    obtain ⟨e1, e2⟩ := k2 k hk5 c hc e
    refine ⟨fun q => absurd q (nI_nn (by omega)), fun _ => (c_strlen (d := d + 3) (w := 5) (by decide)).mono (fun r σ3 hq => ?_)⟩
    obtain ⟨rfl, rfl⟩ := hq
    refine ⟨fun q => absurd q (nI_ge (b := 5) hk5 (by omega)), fun _ => (c_charAt (d := d) (w := 5) (by decide) hk5).mono (fun r σ4 hq => ?_)⟩
    obtain ⟨rfl, rfl⟩ := hq
    rw [e1]
    refine (w_put q1.2 (by rw [len1]; omega)).mono (fun σ5 q2 => ⟨rfl, ?_⟩)
    rw [e2]; exact q1.tr q2
  · refine ⟨fun _ => b_Fo_writeEscape_38 (d := d + 4) ?_, fun q => absurd (by decide) q⟩
    rw [k4a, k4b, k3 c hc hno]
    refine (w_put (x := 117) q1.2 (by rw [len1]; omega)).mono (fun σ3 q2 => (w_put (x := 48) q2.2 (by rw [len1, len1]; omega)).mono (fun σ4 q3 => (w_put (x := 48) q3.2 (by rw [len1, len1, len1]; omega)).mono (fun σ5 q4 => (c_charAt (d := d) (w := 6) (by decide) (show c / 16 < 16 by omega)).mono (fun r σ6 hq => ?_))))
    obtain ⟨rfl, rfl⟩ := hq
    rw [k5 _ (by omega)]
    refine (w_put q4.2 (by rw [len1, len1, len1, len1]; omega)).mono (fun σ7 q5 => (c_charAt (d := d) (w := 6) (by decide) (show c % 16 < 16 by omega)).mono (fun r σ8 hq => ?_))
    obtain ⟨rfl, rfl⟩ := hq
    rw [k5 _ (by omega)]
    refine (w_put q5.2 (by rw [len1, len1, len1, len1, len1]; omega)).mono (fun σ9 q6 => ⟨rfl, ?_⟩)
    exact ((((q1.tr q2).tr (by rw [← List.append_assoc]; exact q3)).tr (by rw [← List.append_assoc, ← List.append_assoc]; exact q4)).tr (by rw [← List.append_assoc, ← List.append_assoc, ← List.append_assoc]; exact q5)).tr (by rw [← List.append_assoc, ← List.append_assoc, ← List.append_assoc, ← List.append_assoc]; exact q6)
theorem w_wch {E : En_t} {d c : Nat} {l : List Nat} {σ : S_t} (h : OuC σ l) (hl : l.length ≤ 1000000) (hc : c < 1114112) : CV E (d + 6) m_Fo_writeCharacter [.int (nI c), pv E 53] σ (fun σ' => WC σ σ' l (esc c)) := by
  have len1 : ∀ {l : List Nat} {x : Nat}, (l ++ [x]).length = l.length + 1 := fun {l x} => by rw [List.length_append]; rfl
  have n34 : nI c = 34 ↔ c = 34 := nI_eq (b := 34) (by omega) (by decide)
  have n92 : nI c = 92 ↔ c = 92 := nI_eq (b := 92) (by omega) (by decide)
  have at12 : c = 34 ∨ c = 92 → JE E (d + 6) m_Fo_writeCharacter 12 [(0, .int (nI c)), (1, pv E 53)] [] σ (fun q σ' => q = none ∧ WC σ σ' l (esc c)) := by
    intro hq
    have e : esc c = [92] ++ [c] := if_pos hq
    rw [e]
    exact b_Fo_writeCharacter_12 (d := d + 5) ((w_put (x := 92) h (by omega)).mono (fun σ1 q1 => (w_put q1.2 (by rw [len1]; omega)).mono (fun σ2 q2 => ⟨rfl, q1.tr q2⟩)))
  refine CE.of (L := [(0, .int (nI c)), (1, pv E 53)]) rfl (Nat.le_of_ble_eq_true rfl) rfl (b_Fo_writeCharacter_0 (d := d + 5) ?_)
  rw [n34, n92]
  refine ⟨fun q => at12 (Or.inl q), fun q => ⟨fun q2 => ⟨fun q3 => ?_, fun q3 => ?_⟩, fun q2 => at12 (Or.inr q2)⟩⟩
  · have : c < 32 := Nat.not_le.mp (fun z => absurd (Int32.lt_of_lt_of_le q3 (nI_le (a := 32) z (by omega))) Int32.lt_irrefl)
    exact (w_esc (d := d) h hl this).mono (fun σ1 q1 => ⟨rfl, q1⟩)
  · have : 32 ≤ c := Nat.not_lt.mp (fun z => q3 (nI_lt (b := 32) z (by decide)))
    rw [esc_hi this q q2]
    exact (w_ch (d := d + 4) h hl hc).mono (fun σ1 q1 => ⟨rfl, q1⟩)
theorem w_str {E : En_t} {d t a n : Nat} {s l : List Nat} {σ : S_t} (ht : kindP t = 11) (ht2 : 72 ≤ t) (h : OuC σ l) (hl : l.length ≤ 900000) (hn : gI σ t 11 = nI n) (han : a + s.length ≤ n) (hn4 : n ≤ 4000) (hs : StrA (gI σ (t + 11)) a s) (hls : Ltrs s) : CV E (d + 7) m_Fo_writeString [pv E t, .int (nI a), .int (nI s.length), pv E 53] σ (fun σ' => WC σ σ' l (strq s)) := by
  have len1 : ∀ {l : List Nat} {x : Nat}, (l ++ [x]).length = l.length + 1 := fun {l x} => by rw [List.length_append]; rfl
  have loop : ∀ (m j : Nat) (τ : S_t), j + m = s.length → WC σ τ l ([34] ++ escP s j) → JE E (d + 7) m_Fo_writeString 21 [(0, pv E t), (3, pv E 53), (4, .int (nI (a + s.length))), (5, .int (nI (a + j)))] [] τ (fun q σ' => q = none ∧ WC σ σ' l (strq s)) := by
    intro m
    induction m with
    | zero =>
      intro j τ hj hW
      have : j = s.length := by omega
      subst this
      have := escP_len s s.length
      refine b_Fo_writeString_21 (d := d + 6) ht ⟨fun _ => (w_put (x := 34) hW.2 (by rw [List.length_append, List.length_append]; show l.length + (1 + _) ≤ _; omega)).mono (fun σ1 q1 => ⟨rfl, hW.tr q1⟩), fun q => absurd (Int32.le_refl _) q⟩
    | succ m ih =>
      intro j τ hj hW
      have hle := escP_len s j
      have hlt := hls j (by omega)
      refine b_Fo_writeString_21 (d := d + 6) ht ⟨fun q => absurd q (nI_ge (by omega) (by omega)), fun _ => ⟨vin (by omega) (by decide), ?_⟩⟩
      rw [nI_clamp (by omega), hW.1.1 (t + 11) (a + j) (by unfold MO; omega), hs j (by omega), nI_1]
      refine (w_wch (d := d) hW.2 (by rw [List.length_append, List.length_append]; show l.length + (1 + _) ≤ _; omega) (by unfold Ltr at hlt; omega)).mono (fun σ1 q1 => ih (j + 1) σ1 (by omega) ?_)
      have := hW.tr q1
      rw [List.append_assoc] at this
      exact this
  refine CE.of (L := [(0, pv E t), (1, .int (nI a)), (2, .int (nI s.length)), (3, pv E 53)]) rfl (Nat.le_of_ble_eq_true rfl) rfl (b_Fo_writeString_0 (d := d + 6) ht (fun r1 e1 => ?_))
  rw [hn, nI_add, mn_n (by omega) (by omega), show min n (a + s.length) = a + s.length by omega] at e1
  rw [e1]
  exact (w_put (x := 34) h (by omega)).mono (fun σ1 q1 => loop s.length 0 σ1 (by omega) q1)
/-- where a word begins -/
def wof (w : Nat) : Nat := if w = 0 then 0 else if w = 1 then 4 else 9
theorem w_word {E : En_t} {d w : Nat} {l : List Nat} {σ : S_t} (hw : w < 3) (h : OuC σ l) (hl : l.length ≤ 1000000) : CV E (d + 5) m_Ou_putWord [pv E 53, pv E (2000 + w)] σ (fun σ' => WC σ σ' l (sub (gA wordL) (wof w) (lenS.getD w 0))) := by
  have key : ∀ w, w < 3 → ∀ j, j < lenS.getD w 0 → (bytS.getD w []).getD j 0 = nI (gA wordL (wof w + j)) := by decide
  have hle := lenS_le w (by omega)
  have loop : ∀ (m j : Nat) (τ : S_t), j + m = lenS.getD w 0 → WC σ τ l (sub (gA wordL) (wof w) j) → JE E (d + 5) m_Ou_putWord 2 [(0, pv E 53), (1, pv E (2000 + w)), (2, .int (nI j))] [] τ (fun q σ' => q = none ∧ WC σ σ' l (sub (gA wordL) (wof w) (lenS.getD w 0))) := by
    intro m
    induction m with
    | zero =>
      intro j τ hj hW
      have : j = lenS.getD w 0 := by omega
      subst this
      refine b_Ou_putWord_2 (d := d + 4) (by omega) ((c_strlen (d := d + 3) (by omega)).mono (fun r σ1 hq => ?_))
      obtain ⟨rfl, rfl⟩ := hq
      exact ⟨fun _ => ⟨rfl, hW⟩, fun q => absurd (Int32.le_refl _) q⟩
    | succ m ih =>
      intro j τ hj hW
      refine b_Ou_putWord_2 (d := d + 4) (by omega) ((c_strlen (d := d + 3) (by omega)).mono (fun r σ1 hq => ?_))
      obtain ⟨rfl, rfl⟩ := hq
      refine ⟨fun q => absurd q (nI_ge (by omega) (by omega)), fun _ => (c_charAt (d := d) (by omega) (show j < lenS.getD w 0 by omega)).mono (fun r σ2 hq => ?_)⟩
      obtain ⟨rfl, rfl⟩ := hq
      rw [key w hw j (by omega), nI_1]
      exact (w_put hW.2 (by rw [List.length_append, sub_len]; omega)).mono (fun σ3 q1 => ih (j + 1) σ3 (by omega) (hW.tr q1))
  exact CE.of (L := [(0, pv E 53), (1, pv E (2000 + w))]) rfl (Nat.le_of_ble_eq_true rfl) rfl (b_Ou_putWord_0 (d := d + 4) (by omega) (loop (lenS.getD w 0) 0 σ (by omega) ⟨Fs.rf, by show OuC σ (l ++ []); rw [List.append_nil]; exact h⟩))
