/-! the law's loop -/
def OpsE (E : En_t) (d : Nat) (I I2 : S_t → Prop) : Prop := Op_0 E d I I2 ∧ Op_1 E d I I2 ∧ Op_2 E d I I2 ∧ Op_3 E d I I2 ∧ Op_4 E d I I2 ∧ Op_5 E d I I2 ∧ Op_6 E d I I2 ∧ Op_7 E d I I2 ∧ Op_8 E d I I2 ∧ Op_9 E d I I2 ∧ Op_10 E d I I2 ∧ Op_11 E d I I2 ∧ Op_12 E d I I2 ∧ Op_13 E d I I2 ∧ Op_14 E d I I2 ∧ Op_15 E d I I2 ∧ Op_16 E d I I2 ∧ Op_17 E d I I2 ∧ Op_18 E d I I2
theorem an31 (x : Int32) : ∃ j, j < 32 ∧ x &&& (31 : Int32) = nI j := by
  refine ⟨un x % 32, Nat.mod_lt _ (by decide), ?_⟩
  have := fa_mask (un x) 5
  rw [nI_un] at this
  exact this
theorem law_loop {cells slots d : Nat} {X : Lw_t} {E : En_t} {I : Nat → S_t → Prop} (C : CtxW X E) (hL : LW X ≤ 3072) (hd : d ≤ 1000) (hcs : cells ≤ 600000 ∧ slots ≤ 7302250) (ops : ∀ n, 6 * n + 6 ≤ LW X → OpsE E d (I n) (I (n + 1))) (idle : ∀ n σ, I n σ → I (n + 1) σ) :
    ∀ (m n : Nat) (σ : S_t), LW X + 6 ≤ 6 * n + m → 6 * n ≤ LW X + 6 → I n σ → JW cells slots X E σ 18 [(3, .int (nI (6 * n))), (2, pv E 0), (1, pv E 49), (0, .ref (bW X))] [] := by
  intro m
  induction m using Nat.strongRecOn with
  | _ m ih =>
    intro n σ hm hn hI
    refine W_iload (x := nI (6 * n)) C dc_law_18 (Eq.refl 19) 0 rfl ?_
    refine W_aload C dc_law_19 (Eq.refl 20) 3 rfl ?_
    refine W_slen (v := nI (LW X)) C dc_law_20 (Eq.refl 21) rfl ?_
    refine W_bipush (v := (6 : Int32)) C dc_law_21 (Eq.refl 23) rfl ?_
    refine W_isub (v := zI ((LW X : Int) - 6)) C dc_law_23 (Eq.refl 24) (by rw [← zI_nI, show (6 : Int32) = zI 6 from rfl, zI_sub]) ?_
    have hc : zI ((LW X : Int) - 6) < nI (6 * n) ↔ (LW X : Int) - 6 < ((6 * n : Nat) : Int) := by rw [← zI_nI]; exact zI_lt (by omega) (by omega) (by omega) (by omega)
    refine W_icmp_gt C dc_law_24 (Eq.refl 27) (tgt := 809) rfl (fun _ => ?_) (fun g => ?_)
    · refine W_iconst (v := (1 : Int32)) C dc_law_809 (Eq.refl 810) rfl ?_
      exact W_end C dc_law_810 hcs.1 hcs.2
    · have hi : 6 * n + 6 ≤ LW X := by
        have h3 : ¬ ((LW X : Int) - 6 < ((6 * n : Nat) : Int)) := fun z => g (hc.mpr z)
        omega
      have next : ∀ σ2, I (n + 1) σ2 → JW cells slots X E σ2 803 [(3, .int (nI (6 * n))), (2, pv E 0), (1, pv E 49), (0, .ref (bW X))] [] := by
        intro σ2 h2
        refine W_iinc (v := nI (6 * (n + 1))) (L' := [(3, .int (nI (6 * (n + 1)))), (2, pv E 0), (1, pv E 49), (0, .ref (bW X))]) C dc_law_803 (Eq.refl 806) 0 rfl (by exact nI_add (6 * n) 6) (by decide) rfl ?_
        refine W_goto C dc_law_806 (tgt := 18) rfl ?_
        exact ih (m - 6) (by omega) (n + 1) σ2 (by omega) (by omega) h2
      refine W_aload C dc_law_27 (Eq.refl 28) 3 rfl ?_
      refine W_iload (x := nI (6 * n)) C dc_law_28 (Eq.refl 29) 0 rfl ?_
      refine W_sld (v := xW X (6 * n)) C dc_law_29 (Eq.refl 30) (vin (by omega) (by omega)) (by rw [nI_clamp (by omega)]) ?_
      refine W_bipush (v := (31 : Int32)) C dc_law_30 (Eq.refl 32) rfl ?_
      refine W_iand C dc_law_32 (Eq.refl 33) ?_
      obtain ⟨j, hj, ej⟩ := an31 (xW X (6 * n))
      rw [ej]
      have hop := ops n hi
      have hjt : (nI j).toInt = (j : Int) := nI_toInt (by omega)
      by_cases h18 : j ≤ 18
      · match j, h18, hjt with
        | 0, _, hjt => exact W_tableIn (off := 91) (tgt := 124) C dc_law_33 (by rw [hjt]; decide) (by rw [hjt]; decide) (by rw [hjt]; rfl) rfl (law_case_0 C hi hL hd hcs hop.1 hI next)
        | 1, _, hjt => exact W_tableIn (off := 154) (tgt := 187) C dc_law_33 (by rw [hjt]; decide) (by rw [hjt]; decide) (by rw [hjt]; rfl) rfl (law_case_1 C hi hL hd hcs hop.2.1 hI next)
        | 2, _, hjt => exact W_tableIn (off := 177) (tgt := 210) C dc_law_33 (by rw [hjt]; decide) (by rw [hjt]; decide) (by rw [hjt]; rfl) rfl (law_case_2 C hi hL hd hcs hop.2.2.1 hI next)
        | 3, _, hjt => exact W_tableIn (off := 190) (tgt := 223) C dc_law_33 (by rw [hjt]; decide) (by rw [hjt]; decide) (by rw [hjt]; rfl) rfl (law_case_3 C hi hL hd hcs hop.2.2.2.1 hI next)
        | 4, _, hjt => exact W_tableIn (off := 204) (tgt := 237) C dc_law_33 (by rw [hjt]; decide) (by rw [hjt]; decide) (by rw [hjt]; rfl) rfl (law_case_4 C hi hL hd hcs hop.2.2.2.2.1 hI next)
        | 5, _, hjt => exact W_tableIn (off := 257) (tgt := 290) C dc_law_33 (by rw [hjt]; decide) (by rw [hjt]; decide) (by rw [hjt]; rfl) rfl (law_case_5 C hi hL hd hcs hop.2.2.2.2.2.1 hI next)
        | 6, _, hjt => exact W_tableIn (off := 320) (tgt := 353) C dc_law_33 (by rw [hjt]; decide) (by rw [hjt]; decide) (by rw [hjt]; rfl) rfl (law_case_6 C hi hL hd hcs hop.2.2.2.2.2.2.1 hI next)
        | 7, _, hjt => exact W_tableIn (off := 343) (tgt := 376) C dc_law_33 (by rw [hjt]; decide) (by rw [hjt]; decide) (by rw [hjt]; rfl) rfl (law_case_7 C hi hL hd hcs hop.2.2.2.2.2.2.2.1 hI next)
        | 8, _, hjt => exact W_tableIn (off := 366) (tgt := 399) C dc_law_33 (by rw [hjt]; decide) (by rw [hjt]; decide) (by rw [hjt]; rfl) rfl (law_case_8 C hi hL hd hcs hop.2.2.2.2.2.2.2.2.1 hI next)
        | 9, _, hjt => exact W_tableIn (off := 379) (tgt := 412) C dc_law_33 (by rw [hjt]; decide) (by rw [hjt]; decide) (by rw [hjt]; rfl) rfl (law_case_9 C hi hL hd hcs hop.2.2.2.2.2.2.2.2.2.1 hI next)
        | 10, _, hjt => exact W_tableIn (off := 412) (tgt := 445) C dc_law_33 (by rw [hjt]; decide) (by rw [hjt]; decide) (by rw [hjt]; rfl) rfl (law_case_10 C hi hL hd hcs hop.2.2.2.2.2.2.2.2.2.2.1 hI next)
        | 11, _, hjt => exact W_tableIn (off := 455) (tgt := 488) C dc_law_33 (by rw [hjt]; decide) (by rw [hjt]; decide) (by rw [hjt]; rfl) rfl (law_case_11 C hi hL hd hcs hop.2.2.2.2.2.2.2.2.2.2.2.1 hI next)
        | 12, _, hjt => exact W_tableIn (off := 489) (tgt := 522) C dc_law_33 (by rw [hjt]; decide) (by rw [hjt]; decide) (by rw [hjt]; rfl) rfl (law_case_12 C hi hL hd hcs hop.2.2.2.2.2.2.2.2.2.2.2.2.1 hI next)
        | 13, _, hjt => exact W_tableIn (off := 542) (tgt := 575) C dc_law_33 (by rw [hjt]; decide) (by rw [hjt]; decide) (by rw [hjt]; rfl) rfl (law_case_13 C hi hL hd hcs hop.2.2.2.2.2.2.2.2.2.2.2.2.2.1 hI next)
        | 14, _, hjt => exact W_tableIn (off := 565) (tgt := 598) C dc_law_33 (by rw [hjt]; decide) (by rw [hjt]; decide) (by rw [hjt]; rfl) rfl (law_case_14 C hi hL hd hcs hop.2.2.2.2.2.2.2.2.2.2.2.2.2.2.1 hI next)
        | 15, _, hjt => exact W_tableIn (off := 618) (tgt := 651) C dc_law_33 (by rw [hjt]; decide) (by rw [hjt]; decide) (by rw [hjt]; rfl) rfl (law_case_15 C hi hL hd hcs hop.2.2.2.2.2.2.2.2.2.2.2.2.2.2.2.1 hI next)
        | 16, _, hjt => exact W_tableIn (off := 661) (tgt := 694) C dc_law_33 (by rw [hjt]; decide) (by rw [hjt]; decide) (by rw [hjt]; rfl) rfl (law_case_16 C hi hL hd hcs hop.2.2.2.2.2.2.2.2.2.2.2.2.2.2.2.2.1 hI next)
        | 17, _, hjt => exact W_tableIn (off := 704) (tgt := 737) C dc_law_33 (by rw [hjt]; decide) (by rw [hjt]; decide) (by rw [hjt]; rfl) rfl (law_case_17 C hi hL hd hcs hop.2.2.2.2.2.2.2.2.2.2.2.2.2.2.2.2.2.1 hI next)
        | 18, _, hjt => exact W_tableIn (off := 747) (tgt := 780) C dc_law_33 (by rw [hjt]; decide) (by rw [hjt]; decide) (by rw [hjt]; rfl) rfl (law_case_18 C hi hL hd hcs hop.2.2.2.2.2.2.2.2.2.2.2.2.2.2.2.2.2.2 hI next)
        | j + 19, h, _ => exact absurd h (by omega)
      · exact W_tableOut (tgt := 803) C dc_law_33 (Or.inr (by rw [hjt]; omega)) rfl (next σ (idle n σ hI))
