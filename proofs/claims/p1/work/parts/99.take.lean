/-! take of the class: System.arraycopy of bytes -/
def cpB (σ : S_t) (a b sp dp n : Nat) : S_t := (fun p k => if p = b ∧ dp ≤ k ∧ k < dp + n then σ.1 a (sp + (k - dp)) else σ.1 p k, σ.2)
theorem gI_cp_o {σ : S_t} {a b sp dp n p k : Nat} (h : p ≠ b) : gI (cpB σ a b sp dp n) p k = gI σ p k := by
  show (if p = b ∧ dp ≤ k ∧ k < dp + n then σ.1 a (sp + (k - dp)) else σ.1 p k) = σ.1 p k
  rw [if_neg (fun z => h z.1)]
theorem gI_cp_s (σ : S_t) (a b sp dp n k : Nat) : gI (cpB σ a b sp dp n) b k = va_cpy (gI σ a) (gI σ b) sp dp n k := by
  show (if b = b ∧ dp ≤ k ∧ k < dp + n then σ.1 a (sp + (k - dp)) else σ.1 b k) = (if dp ≤ k ∧ k < dp + n then σ.1 a (sp + (k - dp)) else σ.1 b k)
  by_cases h : dp ≤ k ∧ k < dp + n
  · rw [if_pos h, if_pos ⟨rfl, h⟩]
  · rw [if_neg h, if_neg (fun z => h z.2)]
theorem J_copyB {E : En_t} {d : Nat} {M : M_t} {pc pc' : Nat} {L : List (Nat × Value)} {st : List Value} {σ : S_t} {Q : Option Value → S_t → Prop} {i x y sp dp n : Nat} (hd : decode M.2.1 pc = .ok (.invokestatic i, 3)) (hp : pc + 3 = pc') (hl0 : Cond.methodLink M.1.cls i arraycopyName ∈ tb) (hnat : Cond.native arraycopyName ∈ tb) (hst : Cond.static arraycopyName ∈ tb) (hini : Cond.initialized "java/lang/System" ∈ tb) (hkx : kindP x = 21) (hky : kindP y = 21) (hsp : sp < 2 ^ 31) (hdp : dp < 2 ^ 31) (hn : n < 2 ^ 31) (h4 : sp + n ≤ lenP x) (h5 : dp + n ≤ lenP y) (hfit : ∀ j, j < n → ∃ r : Int32, gI σ x (sp + j) = r.toInt8.toInt32) (hw : (st.map fun v => v.category).sum ≤ 8)
    (kk : JE E (d + 1) M pc' L st (cpB σ x y sp dp n) Q) : JE E (d + 1) M pc L (.int (nI n) :: .int (nI dp) :: pv E y :: .int (nI sp) :: pv E x :: st) σ Q := by
  subst hp; intro p e s m args below meth c H locs ls C hP hS hl
  have ex := cellE_arr (E := E) (σ := σ) (p := x) (t := 1) hkx (by omega)
  have ey : ∀ τ, cellE E τ y = .inl (E.2.2.2 1, lenP y, .inl (gI τ y)) := fun τ => cellE_arr (t := 1) hky (by omega)
  have hfr : 1 ≤ (rmE (d + 1)).frames := by show 1 ≤ d + 1; omega
  have hnw : nativeFrameWords "java/lang/System" "arraycopy" 5 + 11 ≤ 56 := by decide +kernel
  have hlo : (st.map fun v => v.category).sum + (nativeFrameWords "java/lang/System" "arraycopy" 5 + 11) ≤ (rmE (d + 1)).locals := by
    show _ ≤ 64 * (d + 1)
    omega
  refine va_copyi (D := E.2.1) (cl := classes) (tys := tysE E) (ty := .byte) C.1 C.2.1 (C.2.2.1.trans hl.1.symm) C.2.2.2.1 (C.2.2.2.2.1 _ hl0) (C.2.2.2.2.1 _ hnat) (C.2.2.2.2.1 _ hst) (C.2.2.2.2.1 _ hini) C.2.2.2.2.2.2.2.1 hP (wsE_D C.2.2.2.2.2.2.2.2.2 σ) hS x y 1 1 (by rw [wsE_get (kindP_lt hkx (by omega)), ex]) (by rw [wsE_get (kindP_lt hky (by omega)), ey]) rfl rfl rfl (nI_pos hsp) (nI_pos hdp) (nI_pos hn) (by rw [nI_clamp hsp, nI_clamp hn]; exact h4) (by rw [nI_clamp hdp, nI_clamp hn]; exact h5) (fun j hj => ?_) hfr hlo hd (fun H1 locs1 hP1 hD1 hS1 => ?_)
  · rw [nI_clamp hn] at hj
    rw [nI_clamp hsp]
    obtain ⟨r, hr⟩ := hfit j hj
    rw [hr]; exact pk_fb r
  · rw [nI_clamp hsp, nI_clamp hdp, nI_clamp hn] at hP1
    rw [wsE_set (σ' := cpB σ x y sp dp n) (by rw [ey]; congr 4; funext k; exact (gI_cp_s σ x y sp dp n k).symm) (fun q hq => ?_)] at hP1
    · exact kk p e s m args below meth c H1 locs1 ls C hP1 hS1 hl
    · have e1 : gI (cpB σ x y sp dp n) q = gI σ q := by funext k; exact gI_cp_o hq
      have e2 : ∀ c, fvalE E (cpB σ x y sp dp n) c q = fvalE E σ c q := by intro c; funext j; unfold fvalE; rw [e1]; rfl
      unfold cellE
      rw [e1, e2]
      rfl
theorem dc_Cp_take_0 : decode m_Cp_take.2.1 0 = .ok (.aload_n 0, 1) := by decide +kernel
theorem dc_Cp_take_1 : decode m_Cp_take.2.1 1 = .ok (.getfield 19, 3) := by decide +kernel
theorem dc_Cp_take_4 : decode m_Cp_take.2.1 4 = .ok (.invokevirtual 91, 3) := by decide +kernel
theorem dc_Cp_take_7 : decode m_Cp_take.2.1 7 = .ok (.istore_n 1, 1) := by decide +kernel
theorem dc_Cp_take_8 : decode m_Cp_take.2.1 8 = .ok (.iload_n 1, 1) := by decide +kernel
theorem dc_Cp_take_9 : decode m_Cp_take.2.1 9 = .ok (.sipush 2000, 3) := by decide +kernel
theorem dc_Cp_take_12 : decode m_Cp_take.2.1 12 = .ok (.if_icmp .le 5, 3) := by decide +kernel
theorem dc_Cp_take_15 : decode m_Cp_take.2.1 15 = .ok (.iconst (-1), 1) := by decide +kernel
theorem dc_Cp_take_16 : decode m_Cp_take.2.1 16 = .ok (.ireturn, 1) := by decide +kernel
theorem dc_Cp_take_17 : decode m_Cp_take.2.1 17 = .ok (.aload_n 0, 1) := by decide +kernel
theorem dc_Cp_take_18 : decode m_Cp_take.2.1 18 = .ok (.getfield 19, 3) := by decide +kernel
theorem dc_Cp_take_21 : decode m_Cp_take.2.1 21 = .ok (.getfield 95, 3) := by decide +kernel
theorem dc_Cp_take_24 : decode m_Cp_take.2.1 24 = .ok (.iconst 0, 1) := by decide +kernel
theorem dc_Cp_take_25 : decode m_Cp_take.2.1 25 = .ok (.aload_n 0, 1) := by decide +kernel
theorem dc_Cp_take_26 : decode m_Cp_take.2.1 26 = .ok (.getfield 10, 3) := by decide +kernel
theorem dc_Cp_take_29 : decode m_Cp_take.2.1 29 = .ok (.getfield 99, 3) := by decide +kernel
theorem dc_Cp_take_32 : decode m_Cp_take.2.1 32 = .ok (.iconst 0, 1) := by decide +kernel
theorem dc_Cp_take_33 : decode m_Cp_take.2.1 33 = .ok (.iload_n 1, 1) := by decide +kernel
theorem dc_Cp_take_34 : decode m_Cp_take.2.1 34 = .ok (.invokestatic 102, 3) := by decide +kernel
theorem dc_Cp_take_37 : decode m_Cp_take.2.1 37 = .ok (.aload_n 0, 1) := by decide +kernel
theorem dc_Cp_take_38 : decode m_Cp_take.2.1 38 = .ok (.getfield 10, 3) := by decide +kernel
theorem dc_Cp_take_41 : decode m_Cp_take.2.1 41 = .ok (.iload_n 1, 1) := by decide +kernel
theorem dc_Cp_take_42 : decode m_Cp_take.2.1 42 = .ok (.putfield 84, 3) := by decide +kernel
theorem dc_Cp_take_45 : decode m_Cp_take.2.1 45 = .ok (.iload_n 1, 1) := by decide +kernel
theorem dc_Cp_take_46 : decode m_Cp_take.2.1 46 = .ok (.ireturn, 1) := by decide +kernel
