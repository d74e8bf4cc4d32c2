theorem wSy1 : Cond.methodLink "CanonPress" 102 arraycopyName ∈ tb := tb_mem 497 (by decide +kernel) (by decide +kernel)
theorem wSy2 : Cond.native arraycopyName ∈ tb := tb_mem 499 (by decide +kernel) (by decide +kernel)
theorem wSy3 : Cond.static arraycopyName ∈ tb := tb_mem 498 (by decide +kernel) (by decide +kernel)
theorem wSy4 : Cond.initialized "java/lang/System" ∈ tb := tb_mem 125 (by decide +kernel) (by decide +kernel)
theorem c_takeC {E : En_t} {d : Nat} {l : List Nat} {σ : S_t} (h : OuC σ l) : CI E (d + 2) m_Cp_take [pv E 49] σ (fun r σ' => (2000 < l.length ∧ r = -1 ∧ σ' = σ) ∨ (l.length ≤ 2000 ∧ r = nI l.length ∧ Fs CTp σ σ' ∧ TpC σ' l)) := by
  refine CE.of (L := [(0, pv E 49)]) rfl (Nat.le_of_ble_eq_true rfl) rfl ?_
  refine J_aload_n dc_Cp_take_0 (Eq.refl 1) 0 rfl ?_
  refine J_getF (y := 53) dc_Cp_take_1 (Eq.refl 4) fl_Cp_19 (Nat.le_of_ble_eq_true rfl) rfl (Or.inr rfl) rfl ?_
  refine J_callVI (As := []) (st := []) dc_Cp_take_4 (Eq.refl 7) lk_Cp_91 mi_Ou_keptBytes rfl (Nat.le_of_ble_eq_true rfl) rfl rfl (Nat.le_of_ble_eq_true rfl) rfl (Nat.le_of_ble_eq_true rfl) ((c_kept h).mono (fun r2 σ1 hq => ?_))
  rw [hq.1, hq.2]
  refine J_istore_n (L' := [(1, .int (nI (min l.length 12000))), (0, pv E 49)]) dc_Cp_take_7 (Eq.refl 8) (Nat.le_of_ble_eq_true rfl) rfl ?_
  refine J_iload_n (x := nI (min l.length 12000)) dc_Cp_take_8 (Eq.refl 9) 0 rfl ?_
  refine J_sipush (v := (2000 : Int32)) dc_Cp_take_9 (Eq.refl 12) rfl ?_
  have c : nI (min l.length 12000) ≤ (2000 : Int32) ↔ min l.length 12000 ≤ 2000 := nI_leI (b := 2000) (by omega) (by omega)
  refine J_icmp_le dc_Cp_take_12 (Eq.refl 15) (tgt := 17) rfl (fun g => ?_) (fun g => ?_)
  · have g := c.mp g
    have hm : min l.length 12000 = l.length := by omega
    rw [hm]
    refine J_aload_n dc_Cp_take_17 (Eq.refl 18) 1 rfl ?_
    refine J_getF (y := 53) dc_Cp_take_18 (Eq.refl 21) fl_Cp_19 (Nat.le_of_ble_eq_true rfl) rfl (Or.inr rfl) rfl ?_
    refine J_getF (y := 54) dc_Cp_take_21 (Eq.refl 24) fl_Cp_95 (Nat.le_of_ble_eq_true rfl) rfl (Or.inl rfl) rfl ?_
    refine J_iconst (v := (0 : Int32)) dc_Cp_take_24 (Eq.refl 25) rfl ?_
    refine J_aload_n dc_Cp_take_25 (Eq.refl 26) 1 rfl ?_
    refine J_getF (y := 51) dc_Cp_take_26 (Eq.refl 29) fl_Cp_10 (Nat.le_of_ble_eq_true rfl) rfl (Or.inr rfl) rfl ?_
    refine J_getF (y := 52) dc_Cp_take_29 (Eq.refl 32) fl_Cp_99 (Nat.le_of_ble_eq_true rfl) rfl (Or.inl rfl) rfl ?_
    refine J_iconst (v := (0 : Int32)) dc_Cp_take_32 (Eq.refl 33) rfl ?_
    refine J_iload_n (x := nI l.length) dc_Cp_take_33 (Eq.refl 34) 0 rfl ?_
    refine J_copyB (x := 54) (y := 52) (sp := 0) (dp := 0) (n := l.length) dc_Cp_take_34 (Eq.refl 37) wSy1 wSy2 wSy3 wSy4 rfl rfl (by decide) (by decide) (by omega) (by show 0 + l.length ≤ 12000; omega) (by show 0 + l.length ≤ 2000; omega) (fun j hj => ?_) (Nat.le_of_ble_eq_true rfl) ?_
    · rw [Nat.zero_add, h.2.2 j (by omega)]
      exact ⟨_, rfl⟩
    · refine J_aload_n dc_Cp_take_37 (Eq.refl 38) 1 rfl ?_
      refine J_getF (y := 51) dc_Cp_take_38 (Eq.refl 41) fl_Cp_10 (Nat.le_of_ble_eq_true rfl) rfl (Or.inr rfl) rfl ?_
      refine J_iload_n (x := nI l.length) dc_Cp_take_41 (Eq.refl 42) 0 rfl ?_
      refine J_putI dc_Cp_take_42 (Eq.refl 45) pl_Cp_84 (Nat.le_of_ble_eq_true rfl) rfl rfl ?_
      refine J_iload_n (x := nI l.length) dc_Cp_take_45 (Eq.refl 46) 0 rfl ?_
      refine J_iret dc_Cp_take_46 rfl ⟨_, rfl, Or.inr ⟨by omega, rfl, ⟨fun p k hp => ?_, rfl⟩, gI_sI_s _ _ _ _, fun k hk => ?_⟩⟩
      · rw [gI_sI_n, gI_cp_o]
        · exact fun e => hp (Or.inl e)
        · by_cases e : p = 51
          · exact Or.inr (fun e2 => hp (Or.inr ⟨e, Or.inl e2⟩))
          · exact Or.inl e
      · rw [gI_sI_n (Or.inl (by decide)), gI_cp_s]
        unfold va_cpy
        rw [if_pos ⟨Nat.zero_le _, by omega⟩, Nat.zero_add, Nat.sub_zero]
        exact h.2.2 k (by omega)
  · have g : ¬ min l.length 12000 ≤ 2000 := fun z => g (c.mpr z)
    refine J_iconst (v := (-1 : Int32)) dc_Cp_take_15 (Eq.refl 16) rfl ?_
    exact J_iret dc_Cp_take_16 rfl ⟨_, rfl, Or.inl ⟨by omega, rfl, rfl⟩⟩
theorem op_take {E : En_t} {Sh : S_t → Prop} (hSh : ShFr Sh) : Op_2 E 40 (Sim Sh) (Sim Sh) := by
  intro σ ⟨tp, o, t1, t2, t3, t4, o1, o2, o3, pl, hs⟩
  refine (c_takeC (d := 38) o2).mono (fun r1 σ1 hq1 => ?_)
  have nn : ∀ {p k : Nat}, MCTp p k → (p = 1 ∨ (p = 0 ∧ k = 1)) ∨ p = 51 ∨ p = 52 := fun {p k} h => by unfold MCTp MTp CTp at h; omega
  rcases hq1 with ⟨g, rfl, rfl⟩ | ⟨g, rfl, F1, T1⟩
  · refine (c_takeM (d := 40) o1 o2.2.1).mono (fun r2 σ2 hq2 => ?_)
    rcases hq2 with ⟨_, rfl, rfl⟩ | ⟨g2, _⟩
    · exact ⟨rfl, tp, o, t1, t2, t3, t4, o1, o2, o3, pl, hs⟩
    · omega
  · have o1' : OuM σ1 o := OuM_fr F1 (by unfold CTp; omega) (by unfold CTp; omega) (fun k => by unfold CTp; omega) o1
    refine (c_takeM (d := 40) o1' o2.2.1).mono (fun r2 σ2 hq2 => ?_)
    rcases hq2 with ⟨g2, _⟩ | ⟨_, rfl, F2, T2⟩
    · omega
    · have F3 : Fs MCTp σ σ2 := (F1.mono (fun _ _ q => Or.inr q)).tr (F2.mono (fun _ _ q => Or.inl q))
      refine ⟨rfl, o, o, T2, TpC_fr F2 (by unfold MTp; omega) (fun k => by unfold MTp; omega) T1, g, o3, OuM_fr F3 (fun q => by have := nn q; omega) (fun q => by have := nn q; omega) (fun k q => by have := nn q; omega) o1, OuC_fr F3 (fun q => by have := nn q; omega) (fun k q => by have := nn q; omega) o2, o3, ?_, Sh_fr hSh F3 (fun p k hp q => by have := nn q; unfold ShD at hp; omega) hs⟩
      rw [F3.1 0 42 (fun q => by have := nn q; omega), F3.1 49 10 (fun q => by have := nn q; omega)]; exact pl
/-! which shelves are full, on both sides -/
def ShN (σ : S_t) : Prop := ∀ i, i < 8 → ∃ t c, gR σ 50 i = some t ∧ kindP t = 11 ∧ c ≤ 500 ∧ gI σ t 13 = nI c ∧ (gI σ 8 i = 0 ∨ gI σ 8 i = 1) ∧ (gI σ 8 i = 0 ↔ c = 0) ∧ (c ≠ 0 → gI σ 9 i = nI c)
theorem c_isShC {E : En_t} {d : Nat} {x : Int32} {σ : S_t} : CI E d m_Cp_isShelf [.int x] σ (fun r σ' => σ' = σ ∧ ((r = 0 ∧ (x < 0 ∨ 8 ≤ x)) ∨ (r = 1 ∧ ∃ i, i < 8 ∧ x = nI i))) := by
  refine CE.of (L := [(0, .int x)]) rfl (Nat.le_of_ble_eq_true rfl) rfl (b_Cp_isShelf_0 ⟨fun g => ⟨_, rfl, rfl, Or.inl ⟨rfl, Or.inl g⟩⟩, fun g => ⟨fun g2 => ⟨_, rfl, rfl, Or.inl ⟨rfl, Or.inr g2⟩⟩, fun g2 => ?_⟩⟩)
  obtain ⟨i, rfl, hi⟩ := x_of (m := 8) g g2 (by decide)
  exact ⟨_, rfl, rfl, Or.inr ⟨rfl, i, hi, rfl⟩⟩
theorem c_isShM {E : En_t} {d : Nat} {x : Int32} {σ : S_t} : CI E d m_Mo_isShelf [.int x] σ (fun r σ' => σ' = σ ∧ ((r = 0 ∧ (x < 0 ∨ 8 ≤ x)) ∨ (r = 1 ∧ ∃ i, i < 8 ∧ x = nI i))) := by
  refine CE.of (L := [(0, .int x)]) rfl (Nat.le_of_ble_eq_true rfl) rfl (b_Mo_isShelf_0 ⟨fun g => ⟨_, rfl, rfl, Or.inl ⟨rfl, Or.inl g⟩⟩, fun g => ⟨fun g2 => ⟨_, rfl, rfl, Or.inl ⟨rfl, Or.inr g2⟩⟩, fun g2 => ?_⟩⟩)
  obtain ⟨i, rfl, hi⟩ := x_of (m := 8) g g2 (by decide)
  exact ⟨_, rfl, rfl, Or.inr ⟨rfl, i, hi, rfl⟩⟩
theorem x_sh {x : Int32} {i : Nat} (hi : i < 8) (e : x = nI i) : ¬ (x < 0 ∨ (8 : Int32) ≤ x) := by
  rintro (h | h)
  · rw [e] at h; exact nI_pos (by omega) h
  · rw [e] at h; exact nI_ge (b := 8) hi (by decide) h
/-- a shelf holds a document -/
def isD (σ : S_t) (x : Int32) : Prop := ∃ i, i < 8 ∧ x = nI i ∧ ¬ gI σ 8 i = 0
theorem c_hasDoc {E : En_t} {d : Nat} {x : Int32} {σ : S_t} (hN : ShN σ) : CI E (d + 1) m_Cp_hasDocument [pv E 49, .int x] σ (fun r σ' => σ' = σ ∧ ((r = 0 ∧ ¬ isD σ x) ∨ (r = 1 ∧ isD σ x))) := by
  refine CE.of (L := [(0, pv E 49), (1, .int x)]) rfl (Nat.le_of_ble_eq_true rfl) rfl (b_Cp_hasDocument_0 (c_isShC.mono (fun r σ1 hq => ?_)))
  obtain ⟨rfl, hq⟩ := hq
  rcases hq with ⟨rfl, h⟩ | ⟨rfl, i, hi, rfl⟩
  · exact ⟨fun _ => ⟨_, rfl, rfl, Or.inl ⟨rfl, fun ⟨i, hi, e, _⟩ => x_sh hi e h⟩⟩, fun q => absurd rfl q⟩
  · refine ⟨fun q => absurd q (by decide), fun _ => ⟨vin hi (by decide), ?_⟩⟩
    obtain ⟨t, c, h1, h2, h3, h4, h5, h6, h7⟩ := hN i hi
    rw [nI_clamp (by omega)]
    refine ⟨t, h1, h2, ?_⟩
    rw [h4]
    have c0 : nI c ≤ (0 : Int32) ↔ c = 0 := by
      have := nI_leI (a := c) (b := 0) (by omega) (by omega)
      exact this.trans (by omega)
    rw [c0, ← h6]
    refine ⟨fun q => ⟨_, rfl, rfl, Or.inl ⟨rfl, fun ⟨j, hj, e, hn⟩ => ?_⟩⟩, fun q => ⟨_, rfl, rfl, Or.inr ⟨rfl, i, hi, rfl, q⟩⟩⟩
    have : i = j := (nI_eq (by omega) (by omega)).mp e
    subst this
    exact hn q
