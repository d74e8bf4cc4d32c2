/-! the Strings -/
theorem JE_imp {E : En_t} {d : Nat} {M : M_t} {pc : Nat} {L : List (Nat × Value)} {st : List Value} {σ : S_t} {Q Q' : Option Value → S_t → Prop} (k : JE E d M pc L st σ Q) (h : ∀ r s, Q r s → Q' r s) : JE E d M pc L st σ Q' := JE.mono h k
theorem lenS_le : ∀ w, w < 7 → lenS.getD w 0 ≤ 16 := by decide
theorem c_coder {E : En_t} {d w : Nat} {σ : S_t} (hw : w < 7) : CI E d m_JSt_coder [pv E (2000 + w)] σ (fun r σ' => r = 0 ∧ σ' = σ) :=
  CE.of (L := [(0, pv E (2000 + w))]) rfl (Nat.le_of_ble_eq_true rfl) rfl (b_JSt_coder_0 hw ⟨fun q => absurd q (by decide), fun _ => ⟨_, rfl, rfl, rfl⟩⟩)
theorem c_strlen {E : En_t} {d w : Nat} {σ : S_t} (hw : w < 7) : CI E (d + 1) m_JSt_length [pv E (2000 + w)] σ (fun r σ' => r = nI (lenS.getD w 0) ∧ σ' = σ) := by
  have key : ∀ w, w < 7 → (nI (lenS.getD w 0)) >>> ((0 : Int32) &&& 31) = nI (lenS.getD w 0) := by decide
  refine CE.of (L := [(0, pv E (2000 + w))]) rfl (Nat.le_of_ble_eq_true rfl) rfl (b_JSt_length_0 hw ((c_coder hw).mono (fun r σ1 hq => ?_)))
  obtain ⟨rfl, rfl⟩ := hq
  exact ⟨_, rfl, key w hw, rfl⟩
theorem c_latin {E : En_t} {d w : Nat} {σ : S_t} (hw : w < 7) : CI E d m_JSt_isLatin1 [pv E (2000 + w)] σ (fun r σ' => r = 1 ∧ σ' = σ) :=
  CE.of (L := [(0, pv E (2000 + w))]) rfl (Nat.le_of_ble_eq_true rfl) rfl (b_JSt_isLatin1_0 hw ⟨fun q => absurd q (by decide), fun _ => ⟨fun q => absurd rfl q, fun _ => ⟨_, rfl, rfl, rfl⟩⟩⟩)
theorem c_pchk {E : En_t} {d i n : Nat} {v : Value} {σ : S_t} (hv : v = .null ∨ ∃ t : Nat, v = .ref t) (h : i < n) (hn : n < 2 ^ 31) : CI E (d + 1) m_JPc_checkIndex [.int (nI i), .int (nI n), v] σ (fun r σ' => σ' = σ) := by
  have k : JE E (d + 1) m_JPc_checkIndex 0 [(0, .int (nI i)), (1, .int (nI n))] [] σ (fun q σ' => ∃ r, q = some (.int r) ∧ σ' = σ) := b_JPc_checkIndex_0 ⟨fun q => absurd q (nI_nn (by omega)), fun _ => ⟨fun _ => ⟨_, rfl, rfl⟩, fun q => absurd (nI_lt h hn) q⟩⟩
  rcases hv with rfl | ⟨t, rfl⟩
  · exact CE.of (L := [(0, .int (nI i)), (1, .int (nI n)), (2, .null)]) rfl (Nat.le_of_ble_eq_true rfl) rfl (J_sub [0, 1] rfl k)
  · exact CE.of (L := [(0, .int (nI i)), (1, .int (nI n)), (2, .ref t)]) rfl (Nat.le_of_ble_eq_true rfl) rfl (J_sub [0, 1] rfl k)
theorem c_schk {E : En_t} {d i n : Nat} {σ : S_t} (h : i < n) (hn : n < 2 ^ 31) : CV E (d + 2) m_JSt_checkIndex [.int (nI i), .int (nI n)] σ (fun σ' => σ' = σ) :=
  CE.of (L := [(0, .int (nI i)), (1, .int (nI n))]) rfl (Nat.le_of_ble_eq_true rfl) rfl (b_JSt_checkIndex_0 (fun v hv => (c_pchk hv h hn).mono (fun r σ1 hq => ⟨rfl, hq⟩)))
theorem c_lch {E : En_t} {d i w : Nat} {σ : S_t} (hw : w < 7) (hi : i < lenS.getD w 0) : CI E (d + 3) m_JSl_charAt [pv E (3000 + w), .int (nI i)] σ (fun r σ' => r = (bytS.getD w []).getD i 0 ∧ σ' = σ) := by
  have hle := lenS_le w hw
  have key : ∀ w, w < 7 → ∀ i, i < lenS.getD w 0 → (((((bytS.getD w []).getD i 0) &&& (255 : Int32)).toUInt32 % 65536).toInt32) = (bytS.getD w []).getD i 0 ∧ narrow .char (.int ((bytS.getD w []).getD i 0)) = .int ((bytS.getD w []).getD i 0) := by decide
  obtain ⟨k1, k2⟩ := key w hw i hi
  refine CE.of (L := [(0, pv E (3000 + w)), (1, .int (nI i))]) rfl (Nat.le_of_ble_eq_true rfl) rfl (b_JSl_charAt_0 hw ((c_schk hi (by omega)).mono (fun σ1 hq => ?_)))
  rw [nI_clamp (by omega), k1, hq]
  exact ⟨vin hi (by omega), k2, _, rfl, rfl, rfl⟩
theorem c_charAt {E : En_t} {d i w : Nat} {σ : S_t} (hw : w < 7) (hi : i < lenS.getD w 0) : CI E (d + 4) m_JSt_charAt [pv E (2000 + w), .int (nI i)] σ (fun r σ' => r = (bytS.getD w []).getD i 0 ∧ σ' = σ) := by
  have key : ∀ w, w < 7 → ∀ i, i < lenS.getD w 0 → narrow .char (.int ((bytS.getD w []).getD i 0)) = .int ((bytS.getD w []).getD i 0) := by decide
  refine CE.of (L := [(0, pv E (2000 + w)), (1, .int (nI i))]) rfl (Nat.le_of_ble_eq_true rfl) rfl (b_JSt_charAt_0 hw ((c_latin hw).mono (fun r σ1 hq => ?_)))
  obtain ⟨rfl, rfl⟩ := hq
  refine ⟨fun q => absurd q (by decide), fun _ => (c_lch hw hi).mono (fun r σ2 hq => ?_)⟩
  obtain ⟨rfl, rfl⟩ := hq
  exact ⟨key w hw i hi, _, rfl, rfl, rfl⟩
/-- where a byte stands in a String -/
def FIx (w c : Nat) (r : Int32) : Prop := (∃ k, k < lenS.getD w 0 ∧ (bytS.getD w []).getD k 0 = nI c ∧ r = nI k) ∨ ((∀ j, j < lenS.getD w 0 → ¬ (bytS.getD w []).getD j 0 = nI c) ∧ r = -1)
theorem c_indexOf {E : En_t} {d w c : Nat} {σ : S_t} (hw : w < 7) (hc : c < 256) : CI E (d + 3) m_JSt_indexOf [pv E (2000 + w), .int (nI c)] σ (fun r σ' => FIx w c r ∧ σ' = σ) := by
  have hle := lenS_le w hw
  have hpos : ∀ w, w < 7 → 0 < lenS.getD w 0 := by decide
  have hp := hpos w hw
  have i8 : ∀ c, c < 256 → (c < 128 ∧ (nI c).toInt8.toInt32 = nI c) ∨ (128 ≤ c ∧ (nI c).toInt8.toInt32 < 0) := by decide +kernel
  have bp : ∀ w, w < 7 → ∀ j, j < lenS.getD w 0 → 0 < (bytS.getD w []).getD j 0 ∧ (bytS.getD w []).getD j 0 < 128 := by decide
  have heq : ∀ j, j < lenS.getD w 0 → ((bytS.getD w []).getD j 0 = (nI c).toInt8.toInt32 ↔ (bytS.getD w []).getD j 0 = nI c) := fun j hj => by
    rcases i8 c hc with ⟨_, e⟩ | ⟨h1, h2⟩
    · rw [e]
    · obtain ⟨b1, b2⟩ := bp w hw j hj
      constructor
      · intro z; rw [z] at b1; exact absurd (Int32.lt_trans b1 h2) Int32.lt_irrefl
      · intro z; rw [z] at b2; exact absurd (Int32.lt_of_lt_of_le b2 (nI_le (a := 128) h1 (by omega))) Int32.lt_irrefl
  have loop : ∀ (m j : Nat), j + m = lenS.getD w 0 → (∀ k, k < j → ¬ (bytS.getD w []).getD k 0 = nI c) → JE E d m_JSl_indexOfChar 7 [(0, pv E (3000 + w)), (3, .int (nI (lenS.getD w 0))), (4, .int (nI c).toInt8.toInt32), (5, .int (nI j))] [] σ (fun q σ' => ∃ r, q = some (.int r) ∧ FIx w c r ∧ σ' = σ) := by
    intro m
    induction m with
    | zero =>
      intro j hj hno
      have : j = lenS.getD w 0 := by omega
      subst this
      exact b_JSl_indexOfChar_7 hw ⟨fun _ => ⟨_, rfl, Or.inr ⟨hno, rfl⟩, rfl⟩, fun q => absurd (Int32.le_refl _) q⟩
    | succ m ih =>
      intro j hj hno
      refine b_JSl_indexOfChar_7 hw ⟨fun q => absurd q (nI_ge (by omega) (by omega)), fun _ => ?_⟩
      rw [nI_clamp (by omega), nI_1, heq j (by omega)]
      refine ⟨vin (by omega) (by omega), fun q => ih (j + 1) (by omega) (fun k hk => ?_), fun q => ⟨_, rfl, Or.inl ⟨j, by omega, q, rfl⟩, rfl⟩⟩
      rcases Nat.lt_or_ge k j with z | z
      · exact hno k z
      · have : k = j := by omega
        subst this; exact q
  refine CE.of (L := [(0, pv E (2000 + w)), (1, .int (nI c))]) rfl (Nat.le_of_ble_eq_true rfl) rfl (b_JSt_indexOf_0 (d := d + 2) hw ?_)
  refine CE.of (L := [(0, pv E (2000 + w)), (1, .int (nI c)), (2, .int (0 : Int32))]) rfl (Nat.le_of_ble_eq_true rfl) rfl (b_JSt_indexOf_II_0 (d := d + 1) hw ((c_latin hw).mono (fun r σ1 hq => ?_)))
  obtain ⟨rfl, rfl⟩ := hq
  refine ⟨fun q => absurd q (by decide), fun _ => (c_strlen hw).mono (fun r σ2 hq => ?_)⟩
  obtain ⟨rfl, rfl⟩ := hq
  refine CE.of (L := [(0, pv E (3000 + w)), (1, .int (nI c)), (2, .int (0 : Int32)), (3, .int (nI (lenS.getD w 0)))]) rfl (Nat.le_of_ble_eq_true rfl) rfl (b_JSl_indexOf_0 (d := d) hw ?_)
  have enc : CI E d m_JSl_canEncode [.int (nI c)] σ2 (fun r σ' => r = 1 ∧ σ' = σ2) := CE.of (L := [(0, .int (nI c))]) rfl (Nat.le_of_ble_eq_true rfl) rfl (b_JSl_canEncode_0 ⟨fun q => absurd q (nI_nn (by omega)), fun _ => ⟨fun q => absurd (Int32.lt_of_lt_of_le q (nI_le (b := 255) (show c ≤ 255 by omega) (by decide))) Int32.lt_irrefl, fun _ => ⟨_, rfl, rfl, rfl⟩⟩⟩)
  refine enc.mono (fun r σ3 hq => ?_)
  obtain ⟨rfl, rfl⟩ := hq
  refine ⟨fun _ r3 e3 r4 e4 => ?_, fun q => absurd q (by decide)⟩
  have e3' : r3 = nI 0 := e3
  rw [mn_n (by omega) (by omega), Nat.min_self] at e4
  rw [e3', e4]
  refine ⟨fun _ => ?_, fun q => absurd (nI_lt hp (by omega)) q⟩
  refine CE.of (L := [(0, pv E (3000 + w)), (1, .int (nI c)), (2, .int (nI 0)), (3, .int (nI (lenS.getD w 0)))]) rfl (Nat.le_of_ble_eq_true rfl) rfl (b_JSl_indexOfChar_0 hw ?_)
  refine JE_imp (loop (lenS.getD w 0) 0 (by omega) (fun k hk => absurd hk (Nat.not_lt_zero k))) (fun q σ' hq => ?_)
  obtain ⟨r, e, h1, h2⟩ := hq
  exact ⟨r, e, r, rfl, r, rfl, r, rfl, h1, h2⟩
