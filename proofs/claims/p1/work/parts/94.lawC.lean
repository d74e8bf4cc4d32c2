/-! the law, case by case: what is asked of the two objects -/
def bitsW (a b : Int32) : Int64 := (a.toInt64 <<< ((32 : Int32).toInt64 &&& 63)) ||| (b.toInt64 &&& (4294967295 : Int64))
def Op_0 (E : En_t) (d : Nat) (I I2 : S_t → Prop) : Prop := ∀ (a0 : Int32) (a1 : Int32) (a2 : Int32) (a3 : Int32) (a4 : Int32) (σ : S_t), I σ → CI E d m_Cp_feed ([pv E 49, .int a0, .int a1, .int a2, .int a3, .int a4]) σ (fun r1 σ1 => CI E d m_Mo_feed ([pv E 0, .int a0, .int a1, .int a2, .int a3, .int a4]) σ1 (fun r2 σ2 => r1 = r2 ∧ I2 σ2))
def Op_1 (E : En_t) (d : Nat) (I I2 : S_t → Prop) : Prop := ∀ (a0 : Int32) (σ : S_t), I σ → CI E d m_Cp_end ([pv E 49, .int a0]) σ (fun r1 σ1 => CI E d m_Mo_end ([pv E 0, .int a0]) σ1 (fun r2 σ2 => r1 = r2 ∧ I2 σ2))
def Op_2 (E : En_t) (d : Nat) (I I2 : S_t → Prop) : Prop := ∀ (σ : S_t), I σ → CI E d m_Cp_take ([pv E 49]) σ (fun r1 σ1 => CI E d m_Mo_take ([pv E 0]) σ1 (fun r2 σ2 => r1 = r2 ∧ I2 σ2))
def Op_3 (E : En_t) (d : Nat) (I I2 : S_t → Prop) : Prop := ∀ (σ : S_t), I σ → CL E d m_Cp_numeral ([pv E 49]) σ (fun r1 σ1 => CL E d m_Mo_numeral ([pv E 0]) σ1 (fun r2 σ2 => r1 = r2 ∧ I2 σ2))
def Op_4 (E : En_t) (d : Nat) (I I2 : S_t → Prop) : Prop := ∀ (a0 : Int64) (σ : S_t), I σ → CI E d m_Cp_print ([pv E 49, .long a0]) σ (fun r1 σ1 => CI E d m_Mo_print ([pv E 0, .long a0]) σ1 (fun r2 σ2 => r1 = r2 ∧ I2 σ2))
def Op_5 (E : En_t) (d : Nat) (I I2 : S_t → Prop) : Prop := ∀ (a0 : Int64) (a1 : Int32) (σ : S_t), I σ → CI E d m_Cp_round ([pv E 49, .long a0, .int a1]) σ (fun r1 σ1 => CI E d m_Mo_round ([pv E 0, .long a0, .int a1]) σ1 (fun r2 σ2 => r1 = r2 ∧ I2 σ2))
def Op_6 (E : En_t) (d : Nat) (I I2 : S_t → Prop) : Prop := ∀ (a0 : Int32) (σ : S_t), I σ → CI E d m_Cp_out ([pv E 49, .int a0]) σ (fun r1 σ1 => CI E d m_Mo_out ([pv E 0, .int a0]) σ1 (fun r2 σ2 => r1 = r2 ∧ I2 σ2))
def Op_7 (E : En_t) (d : Nat) (I I2 : S_t → Prop) : Prop := ∀ (a0 : Int32) (σ : S_t), I σ → CI E d m_Cp_document ([pv E 49, .int a0]) σ (fun r1 σ1 => CI E d m_Mo_document ([pv E 0, .int a0]) σ1 (fun r2 σ2 => r1 = r2 ∧ I2 σ2))
def Op_8 (E : En_t) (d : Nat) (I I2 : S_t → Prop) : Prop := ∀ (σ : S_t), I σ → CI E d m_Cp_place ([pv E 49]) σ (fun r1 σ1 => CI E d m_Mo_place ([pv E 0]) σ1 (fun r2 σ2 => r1 = r2 ∧ I2 σ2))
def Op_9 (E : En_t) (d : Nat) (I I2 : S_t → Prop) : Prop := ∀ (a0 : Int32) (a1 : Int32) (σ : S_t), I σ → CI E d m_Cp_form ([pv E 49, .int a0, .int a1]) σ (fun r1 σ1 => CI E d m_Mo_form ([pv E 0, .int a0, .int a1]) σ1 (fun r2 σ2 => r1 = r2 ∧ I2 σ2))
def Op_10 (E : En_t) (d : Nat) (I I2 : S_t → Prop) : Prop := ∀ (a0 : Int32) (a1 : Int32) (a2 : Int32) (σ : S_t), I σ → CI E d m_Cp_value ([pv E 49, .int a0, .int a1, .int a2]) σ (fun r1 σ1 => CI E d m_Mo_value ([pv E 0, .int a0, .int a1, .int a2]) σ1 (fun r2 σ2 => r1 = r2 ∧ I2 σ2))
def Op_11 (E : En_t) (d : Nat) (I I2 : S_t → Prop) : Prop := ∀ (a0 : Int32) (a1 : Int32) (σ : S_t), I σ → CL E d m_Cp_bits ([pv E 49, .int a0, .int a1]) σ (fun r1 σ1 => CL E d m_Mo_bits ([pv E 0, .int a0, .int a1]) σ1 (fun r2 σ2 => r1 = r2 ∧ I2 σ2))
def Op_12 (E : En_t) (d : Nat) (I I2 : S_t → Prop) : Prop := ∀ (a0 : Int32) (a1 : Int32) (a2 : Int32) (a3 : Int32) (σ : S_t), I σ → CI E d m_Cp_character ([pv E 49, .int a0, .int a1, .int a2, .int a3]) σ (fun r1 σ1 => CI E d m_Mo_character ([pv E 0, .int a0, .int a1, .int a2, .int a3]) σ1 (fun r2 σ2 => r1 = r2 ∧ I2 σ2))
def Op_13 (E : En_t) (d : Nat) (I I2 : S_t → Prop) : Prop := ∀ (a0 : Int32) (σ : S_t), I σ → CI E d m_Cp_point ([pv E 49, .int a0]) σ (fun r1 σ1 => CI E d m_Mo_point ([pv E 0, .int a0]) σ1 (fun r2 σ2 => r1 = r2 ∧ I2 σ2))
def Op_14 (E : En_t) (d : Nat) (I I2 : S_t → Prop) : Prop := ∀ (a0 : Int32) (a1 : Int32) (a2 : Int32) (a3 : Int32) (σ : S_t), I σ → CI E d m_Cp_same ([pv E 49, .int a0, .int a1, .int a2, .int a3]) σ (fun r1 σ1 => CI E d m_Mo_same ([pv E 0, .int a0, .int a1, .int a2, .int a3]) σ1 (fun r2 σ2 => r1 = r2 ∧ I2 σ2))
def Op_15 (E : En_t) (d : Nat) (I I2 : S_t → Prop) : Prop := ∀ (a0 : Int32) (a1 : Int32) (a2 : Int32) (σ : S_t), I σ → CI E d m_Cp_merge ([pv E 49, .int a0, .int a1, .int a2]) σ (fun r1 σ1 => CI E d m_Mo_merge ([pv E 0, .int a0, .int a1, .int a2]) σ1 (fun r2 σ2 => r1 = r2 ∧ I2 σ2))
def Op_16 (E : En_t) (d : Nat) (I I2 : S_t → Prop) : Prop := ∀ (a0 : Int32) (a1 : Int32) (a2 : Int32) (σ : S_t), I σ → CI E d m_Cp_patch ([pv E 49, .int a0, .int a1, .int a2]) σ (fun r1 σ1 => CI E d m_Mo_patch ([pv E 0, .int a0, .int a1, .int a2]) σ1 (fun r2 σ2 => r1 = r2 ∧ I2 σ2))
def Op_17 (E : En_t) (d : Nat) (I I2 : S_t → Prop) : Prop := ∀ (a0 : Int32) (a1 : Int32) (a2 : Int32) (σ : S_t), I σ → CI E d m_Cp_part ([pv E 49, .int a0, .int a1, .int a2]) σ (fun r1 σ1 => CI E d m_Mo_part ([pv E 0, .int a0, .int a1, .int a2]) σ1 (fun r2 σ2 => r1 = r2 ∧ I2 σ2))
def Op_18 (E : En_t) (d : Nat) (I I2 : S_t → Prop) : Prop := ∀ (a0 : Int32) (σ : S_t), I σ → CI E d m_Cp_about ([pv E 49, .int a0]) σ (fun r1 σ1 => CI E d m_Mo_about ([pv E 0, .int a0]) σ1 (fun r2 σ2 => r1 = r2 ∧ I2 σ2))
theorem law_case_0 {cells slots d i : Nat} {X : Lw_t} {E : En_t} {σ : S_t} {I I2 : S_t → Prop} (C : CtxW X E) (hi : i + 6 ≤ LW X) (hL : LW X ≤ 3072) (hd : d ≤ 1000) (hcs : cells ≤ 600000 ∧ slots ≤ 7302250) (h : Op_0 E d I I2) (hI : I σ) (kk : ∀ σ2, I2 σ2 → JW cells slots X E σ2 803 [(3, .int (nI i)), (2, pv E 0), (1, pv E 49), (0, .ref (bW X))] []) : JW cells slots X E σ 124 [(3, .int (nI i)), (2, pv E 0), (1, pv E 49), (0, .ref (bW X))] [] := by
  refine W_aload C dc_law_124 (Eq.refl 125) 2 rfl ?_
  refine W_aload C dc_law_125 (Eq.refl 126) 3 rfl ?_
  refine W_iload (x := nI i) C dc_law_126 (Eq.refl 127) 0 rfl ?_
  refine W_iconst (v := (1 : Int32)) C dc_law_127 (Eq.refl 128) rfl ?_
  refine W_iadd (v := nI (i + 1)) C dc_law_128 (Eq.refl 129) (nI_add i 1) ?_
  refine W_sld (v := xW X (i + 1)) C dc_law_129 (Eq.refl 130) (vin (by omega) (by omega)) (by rw [nI_clamp (by omega)]) ?_
  refine W_aload C dc_law_130 (Eq.refl 131) 3 rfl ?_
  refine W_iload (x := nI i) C dc_law_131 (Eq.refl 132) 0 rfl ?_
  refine W_iconst (v := (2 : Int32)) C dc_law_132 (Eq.refl 133) rfl ?_
  refine W_iadd (v := nI (i + 2)) C dc_law_133 (Eq.refl 134) (nI_add i 2) ?_
  refine W_sld (v := xW X (i + 2)) C dc_law_134 (Eq.refl 135) (vin (by omega) (by omega)) (by rw [nI_clamp (by omega)]) ?_
  refine W_aload C dc_law_135 (Eq.refl 136) 3 rfl ?_
  refine W_iload (x := nI i) C dc_law_136 (Eq.refl 137) 0 rfl ?_
  refine W_iconst (v := (3 : Int32)) C dc_law_137 (Eq.refl 138) rfl ?_
  refine W_iadd (v := nI (i + 3)) C dc_law_138 (Eq.refl 139) (nI_add i 3) ?_
  refine W_sld (v := xW X (i + 3)) C dc_law_139 (Eq.refl 140) (vin (by omega) (by omega)) (by rw [nI_clamp (by omega)]) ?_
  refine W_aload C dc_law_140 (Eq.refl 141) 3 rfl ?_
  refine W_iload (x := nI i) C dc_law_141 (Eq.refl 142) 0 rfl ?_
  refine W_iconst (v := (4 : Int32)) C dc_law_142 (Eq.refl 143) rfl ?_
  refine W_iadd (v := nI (i + 4)) C dc_law_143 (Eq.refl 144) (nI_add i 4) ?_
  refine W_sld (v := xW X (i + 4)) C dc_law_144 (Eq.refl 145) (vin (by omega) (by omega)) (by rw [nI_clamp (by omega)]) ?_
  refine W_aload C dc_law_145 (Eq.refl 146) 3 rfl ?_
  refine W_iload (x := nI i) C dc_law_146 (Eq.refl 147) 0 rfl ?_
  refine W_iconst (v := (5 : Int32)) C dc_law_147 (Eq.refl 148) rfl ?_
  refine W_iadd (v := nI (i + 5)) C dc_law_148 (Eq.refl 149) (nI_add i 5) ?_
  refine W_sld (v := xW X (i + 5)) C dc_law_149 (Eq.refl 150) (vin (by omega) (by omega)) (by rw [nI_clamp (by omega)]) ?_
  refine W_call (x := 49) (As := [.int (xW X (i + 1)), .int (xW X (i + 2)), .int (xW X (i + 3)), .int (xW X (i + 4)), .int (xW X (i + 5))]) C dc_law_150 (Eq.refl 153) ll_13 lm_Cp_feed rfl (by decide) rfl rfl (by decide) rfl (Nat.le_of_ble_eq_true rfl) hd hcs (CE.mono (h (xW X (i + 1)) (xW X (i + 2)) (xW X (i + 3)) (xW X (i + 4)) (xW X (i + 5)) σ hI) (fun r σ1 hq => ?_))
  obtain ⟨r1, rfl, hq⟩ := hq
  show JW cells slots X E σ1 153 _ [.int r1]
  refine W_aload C dc_law_153 (Eq.refl 154) 1 rfl ?_
  refine W_aload C dc_law_154 (Eq.refl 155) 3 rfl ?_
  refine W_iload (x := nI i) C dc_law_155 (Eq.refl 156) 0 rfl ?_
  refine W_iconst (v := (1 : Int32)) C dc_law_156 (Eq.refl 157) rfl ?_
  refine W_iadd (v := nI (i + 1)) C dc_law_157 (Eq.refl 158) (nI_add i 1) ?_
  refine W_sld (v := xW X (i + 1)) C dc_law_158 (Eq.refl 159) (vin (by omega) (by omega)) (by rw [nI_clamp (by omega)]) ?_
  refine W_aload C dc_law_159 (Eq.refl 160) 3 rfl ?_
  refine W_iload (x := nI i) C dc_law_160 (Eq.refl 161) 0 rfl ?_
  refine W_iconst (v := (2 : Int32)) C dc_law_161 (Eq.refl 162) rfl ?_
  refine W_iadd (v := nI (i + 2)) C dc_law_162 (Eq.refl 163) (nI_add i 2) ?_
  refine W_sld (v := xW X (i + 2)) C dc_law_163 (Eq.refl 164) (vin (by omega) (by omega)) (by rw [nI_clamp (by omega)]) ?_
  refine W_aload C dc_law_164 (Eq.refl 165) 3 rfl ?_
  refine W_iload (x := nI i) C dc_law_165 (Eq.refl 166) 0 rfl ?_
  refine W_iconst (v := (3 : Int32)) C dc_law_166 (Eq.refl 167) rfl ?_
  refine W_iadd (v := nI (i + 3)) C dc_law_167 (Eq.refl 168) (nI_add i 3) ?_
  refine W_sld (v := xW X (i + 3)) C dc_law_168 (Eq.refl 169) (vin (by omega) (by omega)) (by rw [nI_clamp (by omega)]) ?_
  refine W_aload C dc_law_169 (Eq.refl 170) 3 rfl ?_
  refine W_iload (x := nI i) C dc_law_170 (Eq.refl 171) 0 rfl ?_
  refine W_iconst (v := (4 : Int32)) C dc_law_171 (Eq.refl 172) rfl ?_
  refine W_iadd (v := nI (i + 4)) C dc_law_172 (Eq.refl 173) (nI_add i 4) ?_
  refine W_sld (v := xW X (i + 4)) C dc_law_173 (Eq.refl 174) (vin (by omega) (by omega)) (by rw [nI_clamp (by omega)]) ?_
  refine W_aload C dc_law_174 (Eq.refl 175) 3 rfl ?_
  refine W_iload (x := nI i) C dc_law_175 (Eq.refl 176) 0 rfl ?_
  refine W_iconst (v := (5 : Int32)) C dc_law_176 (Eq.refl 177) rfl ?_
  refine W_iadd (v := nI (i + 5)) C dc_law_177 (Eq.refl 178) (nI_add i 5) ?_
  refine W_sld (v := xW X (i + 5)) C dc_law_178 (Eq.refl 179) (vin (by omega) (by omega)) (by rw [nI_clamp (by omega)]) ?_
  refine W_call (x := 0) (As := [.int (xW X (i + 1)), .int (xW X (i + 2)), .int (xW X (i + 3)), .int (xW X (i + 4)), .int (xW X (i + 5))]) C dc_law_179 (Eq.refl 182) ll_17 lm_Mo_feed rfl (by decide) rfl rfl (by decide) rfl (Nat.le_of_ble_eq_true rfl) hd hcs (CE.mono hq (fun r σ2 hq => ?_))
  obtain ⟨r2, rfl, hr, hI⟩ := hq
  show JW cells slots X E σ2 182 _ [.int r2, .int r1]
  exact W_icmp_eq C dc_law_182 rfl hr (kk σ2 hI)

theorem law_case_1 {cells slots d i : Nat} {X : Lw_t} {E : En_t} {σ : S_t} {I I2 : S_t → Prop} (C : CtxW X E) (hi : i + 6 ≤ LW X) (hL : LW X ≤ 3072) (hd : d ≤ 1000) (hcs : cells ≤ 600000 ∧ slots ≤ 7302250) (h : Op_1 E d I I2) (hI : I σ) (kk : ∀ σ2, I2 σ2 → JW cells slots X E σ2 803 [(3, .int (nI i)), (2, pv E 0), (1, pv E 49), (0, .ref (bW X))] []) : JW cells slots X E σ 187 [(3, .int (nI i)), (2, pv E 0), (1, pv E 49), (0, .ref (bW X))] [] := by
  refine W_aload C dc_law_187 (Eq.refl 188) 2 rfl ?_
  refine W_aload C dc_law_188 (Eq.refl 189) 3 rfl ?_
  refine W_iload (x := nI i) C dc_law_189 (Eq.refl 190) 0 rfl ?_
  refine W_iconst (v := (1 : Int32)) C dc_law_190 (Eq.refl 191) rfl ?_
  refine W_iadd (v := nI (i + 1)) C dc_law_191 (Eq.refl 192) (nI_add i 1) ?_
  refine W_sld (v := xW X (i + 1)) C dc_law_192 (Eq.refl 193) (vin (by omega) (by omega)) (by rw [nI_clamp (by omega)]) ?_
  refine W_call (x := 49) (As := [.int (xW X (i + 1))]) C dc_law_193 (Eq.refl 196) ll_18 lm_Cp_end rfl (by decide) rfl rfl (by decide) rfl (Nat.le_of_ble_eq_true rfl) hd hcs (CE.mono (h (xW X (i + 1)) σ hI) (fun r σ1 hq => ?_))
  obtain ⟨r1, rfl, hq⟩ := hq
  show JW cells slots X E σ1 196 _ [.int r1]
  refine W_aload C dc_law_196 (Eq.refl 197) 1 rfl ?_
  refine W_aload C dc_law_197 (Eq.refl 198) 3 rfl ?_
  refine W_iload (x := nI i) C dc_law_198 (Eq.refl 199) 0 rfl ?_
  refine W_iconst (v := (1 : Int32)) C dc_law_199 (Eq.refl 200) rfl ?_
  refine W_iadd (v := nI (i + 1)) C dc_law_200 (Eq.refl 201) (nI_add i 1) ?_
  refine W_sld (v := xW X (i + 1)) C dc_law_201 (Eq.refl 202) (vin (by omega) (by omega)) (by rw [nI_clamp (by omega)]) ?_
  refine W_call (x := 0) (As := [.int (xW X (i + 1))]) C dc_law_202 (Eq.refl 205) ll_22 lm_Mo_end rfl (by decide) rfl rfl (by decide) rfl (Nat.le_of_ble_eq_true rfl) hd hcs (CE.mono hq (fun r σ2 hq => ?_))
  obtain ⟨r2, rfl, hr, hI⟩ := hq
  show JW cells slots X E σ2 205 _ [.int r2, .int r1]
  exact W_icmp_eq C dc_law_205 rfl hr (kk σ2 hI)

theorem law_case_2 {cells slots d i : Nat} {X : Lw_t} {E : En_t} {σ : S_t} {I I2 : S_t → Prop} (C : CtxW X E) (hi : i + 6 ≤ LW X) (hL : LW X ≤ 3072) (hd : d ≤ 1000) (hcs : cells ≤ 600000 ∧ slots ≤ 7302250) (h : Op_2 E d I I2) (hI : I σ) (kk : ∀ σ2, I2 σ2 → JW cells slots X E σ2 803 [(3, .int (nI i)), (2, pv E 0), (1, pv E 49), (0, .ref (bW X))] []) : JW cells slots X E σ 210 [(3, .int (nI i)), (2, pv E 0), (1, pv E 49), (0, .ref (bW X))] [] := by
  refine W_aload C dc_law_210 (Eq.refl 211) 2 rfl ?_
  refine W_call (x := 49) (As := []) C dc_law_211 (Eq.refl 214) ll_23 lm_Cp_take rfl (by decide) rfl rfl (by decide) rfl (Nat.le_of_ble_eq_true rfl) hd hcs (CE.mono (h  σ hI) (fun r σ1 hq => ?_))
  obtain ⟨r1, rfl, hq⟩ := hq
  show JW cells slots X E σ1 214 _ [.int r1]
  refine W_aload C dc_law_214 (Eq.refl 215) 1 rfl ?_
  refine W_call (x := 0) (As := []) C dc_law_215 (Eq.refl 218) ll_27 lm_Mo_take rfl (by decide) rfl rfl (by decide) rfl (Nat.le_of_ble_eq_true rfl) hd hcs (CE.mono hq (fun r σ2 hq => ?_))
  obtain ⟨r2, rfl, hr, hI⟩ := hq
  show JW cells slots X E σ2 218 _ [.int r2, .int r1]
  exact W_icmp_eq C dc_law_218 rfl hr (kk σ2 hI)

theorem law_case_3 {cells slots d i : Nat} {X : Lw_t} {E : En_t} {σ : S_t} {I I2 : S_t → Prop} (C : CtxW X E) (hi : i + 6 ≤ LW X) (hL : LW X ≤ 3072) (hd : d ≤ 1000) (hcs : cells ≤ 600000 ∧ slots ≤ 7302250) (h : Op_3 E d I I2) (hI : I σ) (kk : ∀ σ2, I2 σ2 → JW cells slots X E σ2 803 [(3, .int (nI i)), (2, pv E 0), (1, pv E 49), (0, .ref (bW X))] []) : JW cells slots X E σ 223 [(3, .int (nI i)), (2, pv E 0), (1, pv E 49), (0, .ref (bW X))] [] := by
  refine W_aload C dc_law_223 (Eq.refl 224) 2 rfl ?_
  refine W_call (x := 49) (As := []) C dc_law_224 (Eq.refl 227) ll_28 lm_Cp_numeral rfl (by decide) rfl rfl (by decide) rfl (Nat.le_of_ble_eq_true rfl) hd hcs (CE.mono (h  σ hI) (fun r σ1 hq => ?_))
  obtain ⟨r1, rfl, hq⟩ := hq
  show JW cells slots X E σ1 227 _ [.long r1]
  refine W_aload C dc_law_227 (Eq.refl 228) 1 rfl ?_
  refine W_call (x := 0) (As := []) C dc_law_228 (Eq.refl 231) ll_32 lm_Mo_numeral rfl (by decide) rfl rfl (by decide) rfl (Nat.le_of_ble_eq_true rfl) hd hcs (CE.mono hq (fun r σ2 hq => ?_))
  obtain ⟨r2, rfl, hr, hI⟩ := hq
  show JW cells slots X E σ2 231 _ [.long r2, .long r1]
  exact W_lcmp_eq C dc_law_231 (Eq.refl 232) dc_law_232 rfl hr (kk σ2 hI)

theorem law_case_4 {cells slots d i : Nat} {X : Lw_t} {E : En_t} {σ : S_t} {I I2 : S_t → Prop} (C : CtxW X E) (hi : i + 6 ≤ LW X) (hL : LW X ≤ 3072) (hd : d ≤ 1000) (hcs : cells ≤ 600000 ∧ slots ≤ 7302250) (h : Op_4 E d I I2) (hI : I σ) (kk : ∀ σ2, I2 σ2 → JW cells slots X E σ2 803 [(3, .int (nI i)), (2, pv E 0), (1, pv E 49), (0, .ref (bW X))] []) : JW cells slots X E σ 237 [(3, .int (nI i)), (2, pv E 0), (1, pv E 49), (0, .ref (bW X))] [] := by
  refine W_aload C dc_law_237 (Eq.refl 238) 2 rfl ?_
  refine W_aload C dc_law_238 (Eq.refl 239) 3 rfl ?_
  refine W_iload (x := nI i) C dc_law_239 (Eq.refl 240) 0 rfl ?_
  refine W_iconst (v := (1 : Int32)) C dc_law_240 (Eq.refl 241) rfl ?_
  refine W_iadd (v := nI (i + 1)) C dc_law_241 (Eq.refl 242) (nI_add i 1) ?_
  refine W_sld (v := xW X (i + 1)) C dc_law_242 (Eq.refl 243) (vin (by omega) (by omega)) (by rw [nI_clamp (by omega)]) ?_
  refine W_i2l C dc_law_243 (Eq.refl 244) ?_
  refine W_bipush (v := (32 : Int32)) C dc_law_244 (Eq.refl 246) rfl ?_
  refine W_lshl C dc_law_246 (Eq.refl 247) ?_
  refine W_aload C dc_law_247 (Eq.refl 248) 3 rfl ?_
  refine W_iload (x := nI i) C dc_law_248 (Eq.refl 249) 0 rfl ?_
  refine W_iconst (v := (2 : Int32)) C dc_law_249 (Eq.refl 250) rfl ?_
  refine W_iadd (v := nI (i + 2)) C dc_law_250 (Eq.refl 251) (nI_add i 2) ?_
  refine W_sld (v := xW X (i + 2)) C dc_law_251 (Eq.refl 252) (vin (by omega) (by omega)) (by rw [nI_clamp (by omega)]) ?_
  refine W_i2l C dc_law_252 (Eq.refl 253) ?_
  refine W_ldc2 (v := (4294967295 : Int64)) C dc_law_253 (Eq.refl 256) lk_33 ?_
  refine W_land C dc_law_256 (Eq.refl 257) ?_
  refine W_lor C dc_law_257 (Eq.refl 258) ?_
  refine W_call (x := 49) (As := [.long (bitsW (xW X (i + 1)) (xW X (i + 2)))]) C dc_law_258 (Eq.refl 261) ll_35 lm_Cp_print rfl (by decide) rfl rfl (by decide) rfl (Nat.le_of_ble_eq_true rfl) hd hcs (CE.mono (h (bitsW (xW X (i + 1)) (xW X (i + 2))) σ hI) (fun r σ1 hq => ?_))
  obtain ⟨r1, rfl, hq⟩ := hq
  show JW cells slots X E σ1 261 _ [.int r1]
  refine W_aload C dc_law_261 (Eq.refl 262) 1 rfl ?_
  refine W_aload C dc_law_262 (Eq.refl 263) 3 rfl ?_
  refine W_iload (x := nI i) C dc_law_263 (Eq.refl 264) 0 rfl ?_
  refine W_iconst (v := (1 : Int32)) C dc_law_264 (Eq.refl 265) rfl ?_
  refine W_iadd (v := nI (i + 1)) C dc_law_265 (Eq.refl 266) (nI_add i 1) ?_
  refine W_sld (v := xW X (i + 1)) C dc_law_266 (Eq.refl 267) (vin (by omega) (by omega)) (by rw [nI_clamp (by omega)]) ?_
  refine W_i2l C dc_law_267 (Eq.refl 268) ?_
  refine W_bipush (v := (32 : Int32)) C dc_law_268 (Eq.refl 270) rfl ?_
  refine W_lshl C dc_law_270 (Eq.refl 271) ?_
  refine W_aload C dc_law_271 (Eq.refl 272) 3 rfl ?_
  refine W_iload (x := nI i) C dc_law_272 (Eq.refl 273) 0 rfl ?_
  refine W_iconst (v := (2 : Int32)) C dc_law_273 (Eq.refl 274) rfl ?_
  refine W_iadd (v := nI (i + 2)) C dc_law_274 (Eq.refl 275) (nI_add i 2) ?_
  refine W_sld (v := xW X (i + 2)) C dc_law_275 (Eq.refl 276) (vin (by omega) (by omega)) (by rw [nI_clamp (by omega)]) ?_
  refine W_i2l C dc_law_276 (Eq.refl 277) ?_
  refine W_ldc2 (v := (4294967295 : Int64)) C dc_law_277 (Eq.refl 280) lk_33 ?_
  refine W_land C dc_law_280 (Eq.refl 281) ?_
  refine W_lor C dc_law_281 (Eq.refl 282) ?_
  refine W_call (x := 0) (As := [.long (bitsW (xW X (i + 1)) (xW X (i + 2)))]) C dc_law_282 (Eq.refl 285) ll_39 lm_Mo_print rfl (by decide) rfl rfl (by decide) rfl (Nat.le_of_ble_eq_true rfl) hd hcs (CE.mono hq (fun r σ2 hq => ?_))
  obtain ⟨r2, rfl, hr, hI⟩ := hq
  show JW cells slots X E σ2 285 _ [.int r2, .int r1]
  exact W_icmp_eq C dc_law_285 rfl hr (kk σ2 hI)

theorem law_case_5 {cells slots d i : Nat} {X : Lw_t} {E : En_t} {σ : S_t} {I I2 : S_t → Prop} (C : CtxW X E) (hi : i + 6 ≤ LW X) (hL : LW X ≤ 3072) (hd : d ≤ 1000) (hcs : cells ≤ 600000 ∧ slots ≤ 7302250) (h : Op_5 E d I I2) (hI : I σ) (kk : ∀ σ2, I2 σ2 → JW cells slots X E σ2 803 [(3, .int (nI i)), (2, pv E 0), (1, pv E 49), (0, .ref (bW X))] []) : JW cells slots X E σ 290 [(3, .int (nI i)), (2, pv E 0), (1, pv E 49), (0, .ref (bW X))] [] := by
  refine W_aload C dc_law_290 (Eq.refl 291) 2 rfl ?_
  refine W_aload C dc_law_291 (Eq.refl 292) 3 rfl ?_
  refine W_iload (x := nI i) C dc_law_292 (Eq.refl 293) 0 rfl ?_
  refine W_iconst (v := (1 : Int32)) C dc_law_293 (Eq.refl 294) rfl ?_
  refine W_iadd (v := nI (i + 1)) C dc_law_294 (Eq.refl 295) (nI_add i 1) ?_
  refine W_sld (v := xW X (i + 1)) C dc_law_295 (Eq.refl 296) (vin (by omega) (by omega)) (by rw [nI_clamp (by omega)]) ?_
  refine W_i2l C dc_law_296 (Eq.refl 297) ?_
  refine W_bipush (v := (32 : Int32)) C dc_law_297 (Eq.refl 299) rfl ?_
  refine W_lshl C dc_law_299 (Eq.refl 300) ?_
  refine W_aload C dc_law_300 (Eq.refl 301) 3 rfl ?_
  refine W_iload (x := nI i) C dc_law_301 (Eq.refl 302) 0 rfl ?_
  refine W_iconst (v := (2 : Int32)) C dc_law_302 (Eq.refl 303) rfl ?_
  refine W_iadd (v := nI (i + 2)) C dc_law_303 (Eq.refl 304) (nI_add i 2) ?_
  refine W_sld (v := xW X (i + 2)) C dc_law_304 (Eq.refl 305) (vin (by omega) (by omega)) (by rw [nI_clamp (by omega)]) ?_
  refine W_i2l C dc_law_305 (Eq.refl 306) ?_
  refine W_ldc2 (v := (4294967295 : Int64)) C dc_law_306 (Eq.refl 309) lk_33 ?_
  refine W_land C dc_law_309 (Eq.refl 310) ?_
  refine W_lor C dc_law_310 (Eq.refl 311) ?_
  refine W_aload C dc_law_311 (Eq.refl 312) 3 rfl ?_
  refine W_iload (x := nI i) C dc_law_312 (Eq.refl 313) 0 rfl ?_
  refine W_iconst (v := (3 : Int32)) C dc_law_313 (Eq.refl 314) rfl ?_
  refine W_iadd (v := nI (i + 3)) C dc_law_314 (Eq.refl 315) (nI_add i 3) ?_
  refine W_sld (v := xW X (i + 3)) C dc_law_315 (Eq.refl 316) (vin (by omega) (by omega)) (by rw [nI_clamp (by omega)]) ?_
  refine W_call (x := 49) (As := [.long (bitsW (xW X (i + 1)) (xW X (i + 2))), .int (xW X (i + 3))]) C dc_law_316 (Eq.refl 319) ll_40 lm_Cp_round rfl (by decide) rfl rfl (by decide) rfl (Nat.le_of_ble_eq_true rfl) hd hcs (CE.mono (h (bitsW (xW X (i + 1)) (xW X (i + 2))) (xW X (i + 3)) σ hI) (fun r σ1 hq => ?_))
  obtain ⟨r1, rfl, hq⟩ := hq
  show JW cells slots X E σ1 319 _ [.int r1]
  refine W_aload C dc_law_319 (Eq.refl 320) 1 rfl ?_
  refine W_aload C dc_law_320 (Eq.refl 321) 3 rfl ?_
  refine W_iload (x := nI i) C dc_law_321 (Eq.refl 322) 0 rfl ?_
  refine W_iconst (v := (1 : Int32)) C dc_law_322 (Eq.refl 323) rfl ?_
  refine W_iadd (v := nI (i + 1)) C dc_law_323 (Eq.refl 324) (nI_add i 1) ?_
  refine W_sld (v := xW X (i + 1)) C dc_law_324 (Eq.refl 325) (vin (by omega) (by omega)) (by rw [nI_clamp (by omega)]) ?_
  refine W_i2l C dc_law_325 (Eq.refl 326) ?_
  refine W_bipush (v := (32 : Int32)) C dc_law_326 (Eq.refl 328) rfl ?_
  refine W_lshl C dc_law_328 (Eq.refl 329) ?_
  refine W_aload C dc_law_329 (Eq.refl 330) 3 rfl ?_
  refine W_iload (x := nI i) C dc_law_330 (Eq.refl 331) 0 rfl ?_
  refine W_iconst (v := (2 : Int32)) C dc_law_331 (Eq.refl 332) rfl ?_
  refine W_iadd (v := nI (i + 2)) C dc_law_332 (Eq.refl 333) (nI_add i 2) ?_
  refine W_sld (v := xW X (i + 2)) C dc_law_333 (Eq.refl 334) (vin (by omega) (by omega)) (by rw [nI_clamp (by omega)]) ?_
  refine W_i2l C dc_law_334 (Eq.refl 335) ?_
  refine W_ldc2 (v := (4294967295 : Int64)) C dc_law_335 (Eq.refl 338) lk_33 ?_
  refine W_land C dc_law_338 (Eq.refl 339) ?_
  refine W_lor C dc_law_339 (Eq.refl 340) ?_
  refine W_aload C dc_law_340 (Eq.refl 341) 3 rfl ?_
  refine W_iload (x := nI i) C dc_law_341 (Eq.refl 342) 0 rfl ?_
  refine W_iconst (v := (3 : Int32)) C dc_law_342 (Eq.refl 343) rfl ?_
  refine W_iadd (v := nI (i + 3)) C dc_law_343 (Eq.refl 344) (nI_add i 3) ?_
  refine W_sld (v := xW X (i + 3)) C dc_law_344 (Eq.refl 345) (vin (by omega) (by omega)) (by rw [nI_clamp (by omega)]) ?_
  refine W_call (x := 0) (As := [.long (bitsW (xW X (i + 1)) (xW X (i + 2))), .int (xW X (i + 3))]) C dc_law_345 (Eq.refl 348) ll_44 lm_Mo_round rfl (by decide) rfl rfl (by decide) rfl (Nat.le_of_ble_eq_true rfl) hd hcs (CE.mono hq (fun r σ2 hq => ?_))
  obtain ⟨r2, rfl, hr, hI⟩ := hq
  show JW cells slots X E σ2 348 _ [.int r2, .int r1]
  exact W_icmp_eq C dc_law_348 rfl hr (kk σ2 hI)

theorem law_case_6 {cells slots d i : Nat} {X : Lw_t} {E : En_t} {σ : S_t} {I I2 : S_t → Prop} (C : CtxW X E) (hi : i + 6 ≤ LW X) (hL : LW X ≤ 3072) (hd : d ≤ 1000) (hcs : cells ≤ 600000 ∧ slots ≤ 7302250) (h : Op_6 E d I I2) (hI : I σ) (kk : ∀ σ2, I2 σ2 → JW cells slots X E σ2 803 [(3, .int (nI i)), (2, pv E 0), (1, pv E 49), (0, .ref (bW X))] []) : JW cells slots X E σ 353 [(3, .int (nI i)), (2, pv E 0), (1, pv E 49), (0, .ref (bW X))] [] := by
  refine W_aload C dc_law_353 (Eq.refl 354) 2 rfl ?_
  refine W_aload C dc_law_354 (Eq.refl 355) 3 rfl ?_
  refine W_iload (x := nI i) C dc_law_355 (Eq.refl 356) 0 rfl ?_
  refine W_iconst (v := (1 : Int32)) C dc_law_356 (Eq.refl 357) rfl ?_
  refine W_iadd (v := nI (i + 1)) C dc_law_357 (Eq.refl 358) (nI_add i 1) ?_
  refine W_sld (v := xW X (i + 1)) C dc_law_358 (Eq.refl 359) (vin (by omega) (by omega)) (by rw [nI_clamp (by omega)]) ?_
  refine W_call (x := 49) (As := [.int (xW X (i + 1))]) C dc_law_359 (Eq.refl 362) ll_45 lm_Cp_out rfl (by decide) rfl rfl (by decide) rfl (Nat.le_of_ble_eq_true rfl) hd hcs (CE.mono (h (xW X (i + 1)) σ hI) (fun r σ1 hq => ?_))
  obtain ⟨r1, rfl, hq⟩ := hq
  show JW cells slots X E σ1 362 _ [.int r1]
  refine W_aload C dc_law_362 (Eq.refl 363) 1 rfl ?_
  refine W_aload C dc_law_363 (Eq.refl 364) 3 rfl ?_
  refine W_iload (x := nI i) C dc_law_364 (Eq.refl 365) 0 rfl ?_
  refine W_iconst (v := (1 : Int32)) C dc_law_365 (Eq.refl 366) rfl ?_
  refine W_iadd (v := nI (i + 1)) C dc_law_366 (Eq.refl 367) (nI_add i 1) ?_
  refine W_sld (v := xW X (i + 1)) C dc_law_367 (Eq.refl 368) (vin (by omega) (by omega)) (by rw [nI_clamp (by omega)]) ?_
  refine W_call (x := 0) (As := [.int (xW X (i + 1))]) C dc_law_368 (Eq.refl 371) ll_48 lm_Mo_out rfl (by decide) rfl rfl (by decide) rfl (Nat.le_of_ble_eq_true rfl) hd hcs (CE.mono hq (fun r σ2 hq => ?_))
  obtain ⟨r2, rfl, hr, hI⟩ := hq
  show JW cells slots X E σ2 371 _ [.int r2, .int r1]
  exact W_icmp_eq C dc_law_371 rfl hr (kk σ2 hI)

theorem law_case_7 {cells slots d i : Nat} {X : Lw_t} {E : En_t} {σ : S_t} {I I2 : S_t → Prop} (C : CtxW X E) (hi : i + 6 ≤ LW X) (hL : LW X ≤ 3072) (hd : d ≤ 1000) (hcs : cells ≤ 600000 ∧ slots ≤ 7302250) (h : Op_7 E d I I2) (hI : I σ) (kk : ∀ σ2, I2 σ2 → JW cells slots X E σ2 803 [(3, .int (nI i)), (2, pv E 0), (1, pv E 49), (0, .ref (bW X))] []) : JW cells slots X E σ 376 [(3, .int (nI i)), (2, pv E 0), (1, pv E 49), (0, .ref (bW X))] [] := by
  refine W_aload C dc_law_376 (Eq.refl 377) 2 rfl ?_
  refine W_aload C dc_law_377 (Eq.refl 378) 3 rfl ?_
  refine W_iload (x := nI i) C dc_law_378 (Eq.refl 379) 0 rfl ?_
  refine W_iconst (v := (1 : Int32)) C dc_law_379 (Eq.refl 380) rfl ?_
  refine W_iadd (v := nI (i + 1)) C dc_law_380 (Eq.refl 381) (nI_add i 1) ?_
  refine W_sld (v := xW X (i + 1)) C dc_law_381 (Eq.refl 382) (vin (by omega) (by omega)) (by rw [nI_clamp (by omega)]) ?_
  refine W_call (x := 49) (As := [.int (xW X (i + 1))]) C dc_law_382 (Eq.refl 385) ll_49 lm_Cp_document rfl (by decide) rfl rfl (by decide) rfl (Nat.le_of_ble_eq_true rfl) hd hcs (CE.mono (h (xW X (i + 1)) σ hI) (fun r σ1 hq => ?_))
  obtain ⟨r1, rfl, hq⟩ := hq
  show JW cells slots X E σ1 385 _ [.int r1]
  refine W_aload C dc_law_385 (Eq.refl 386) 1 rfl ?_
  refine W_aload C dc_law_386 (Eq.refl 387) 3 rfl ?_
  refine W_iload (x := nI i) C dc_law_387 (Eq.refl 388) 0 rfl ?_
  refine W_iconst (v := (1 : Int32)) C dc_law_388 (Eq.refl 389) rfl ?_
  refine W_iadd (v := nI (i + 1)) C dc_law_389 (Eq.refl 390) (nI_add i 1) ?_
  refine W_sld (v := xW X (i + 1)) C dc_law_390 (Eq.refl 391) (vin (by omega) (by omega)) (by rw [nI_clamp (by omega)]) ?_
  refine W_call (x := 0) (As := [.int (xW X (i + 1))]) C dc_law_391 (Eq.refl 394) ll_52 lm_Mo_document rfl (by decide) rfl rfl (by decide) rfl (Nat.le_of_ble_eq_true rfl) hd hcs (CE.mono hq (fun r σ2 hq => ?_))
  obtain ⟨r2, rfl, hr, hI⟩ := hq
  show JW cells slots X E σ2 394 _ [.int r2, .int r1]
  exact W_icmp_eq C dc_law_394 rfl hr (kk σ2 hI)

theorem law_case_8 {cells slots d i : Nat} {X : Lw_t} {E : En_t} {σ : S_t} {I I2 : S_t → Prop} (C : CtxW X E) (hi : i + 6 ≤ LW X) (hL : LW X ≤ 3072) (hd : d ≤ 1000) (hcs : cells ≤ 600000 ∧ slots ≤ 7302250) (h : Op_8 E d I I2) (hI : I σ) (kk : ∀ σ2, I2 σ2 → JW cells slots X E σ2 803 [(3, .int (nI i)), (2, pv E 0), (1, pv E 49), (0, .ref (bW X))] []) : JW cells slots X E σ 399 [(3, .int (nI i)), (2, pv E 0), (1, pv E 49), (0, .ref (bW X))] [] := by
  refine W_aload C dc_law_399 (Eq.refl 400) 2 rfl ?_
  refine W_call (x := 49) (As := []) C dc_law_400 (Eq.refl 403) ll_53 lm_Cp_place rfl (by decide) rfl rfl (by decide) rfl (Nat.le_of_ble_eq_true rfl) hd hcs (CE.mono (h  σ hI) (fun r σ1 hq => ?_))
  obtain ⟨r1, rfl, hq⟩ := hq
  show JW cells slots X E σ1 403 _ [.int r1]
  refine W_aload C dc_law_403 (Eq.refl 404) 1 rfl ?_
  refine W_call (x := 0) (As := []) C dc_law_404 (Eq.refl 407) ll_56 lm_Mo_place rfl (by decide) rfl rfl (by decide) rfl (Nat.le_of_ble_eq_true rfl) hd hcs (CE.mono hq (fun r σ2 hq => ?_))
  obtain ⟨r2, rfl, hr, hI⟩ := hq
  show JW cells slots X E σ2 407 _ [.int r2, .int r1]
  exact W_icmp_eq C dc_law_407 rfl hr (kk σ2 hI)

theorem law_case_9 {cells slots d i : Nat} {X : Lw_t} {E : En_t} {σ : S_t} {I I2 : S_t → Prop} (C : CtxW X E) (hi : i + 6 ≤ LW X) (hL : LW X ≤ 3072) (hd : d ≤ 1000) (hcs : cells ≤ 600000 ∧ slots ≤ 7302250) (h : Op_9 E d I I2) (hI : I σ) (kk : ∀ σ2, I2 σ2 → JW cells slots X E σ2 803 [(3, .int (nI i)), (2, pv E 0), (1, pv E 49), (0, .ref (bW X))] []) : JW cells slots X E σ 412 [(3, .int (nI i)), (2, pv E 0), (1, pv E 49), (0, .ref (bW X))] [] := by
  refine W_aload C dc_law_412 (Eq.refl 413) 2 rfl ?_
  refine W_aload C dc_law_413 (Eq.refl 414) 3 rfl ?_
  refine W_iload (x := nI i) C dc_law_414 (Eq.refl 415) 0 rfl ?_
  refine W_iconst (v := (1 : Int32)) C dc_law_415 (Eq.refl 416) rfl ?_
  refine W_iadd (v := nI (i + 1)) C dc_law_416 (Eq.refl 417) (nI_add i 1) ?_
  refine W_sld (v := xW X (i + 1)) C dc_law_417 (Eq.refl 418) (vin (by omega) (by omega)) (by rw [nI_clamp (by omega)]) ?_
  refine W_aload C dc_law_418 (Eq.refl 419) 3 rfl ?_
  refine W_iload (x := nI i) C dc_law_419 (Eq.refl 420) 0 rfl ?_
  refine W_iconst (v := (2 : Int32)) C dc_law_420 (Eq.refl 421) rfl ?_
  refine W_iadd (v := nI (i + 2)) C dc_law_421 (Eq.refl 422) (nI_add i 2) ?_
  refine W_sld (v := xW X (i + 2)) C dc_law_422 (Eq.refl 423) (vin (by omega) (by omega)) (by rw [nI_clamp (by omega)]) ?_
  refine W_call (x := 49) (As := [.int (xW X (i + 1)), .int (xW X (i + 2))]) C dc_law_423 (Eq.refl 426) ll_57 lm_Cp_form rfl (by decide) rfl rfl (by decide) rfl (Nat.le_of_ble_eq_true rfl) hd hcs (CE.mono (h (xW X (i + 1)) (xW X (i + 2)) σ hI) (fun r σ1 hq => ?_))
  obtain ⟨r1, rfl, hq⟩ := hq
  show JW cells slots X E σ1 426 _ [.int r1]
  refine W_aload C dc_law_426 (Eq.refl 427) 1 rfl ?_
  refine W_aload C dc_law_427 (Eq.refl 428) 3 rfl ?_
  refine W_iload (x := nI i) C dc_law_428 (Eq.refl 429) 0 rfl ?_
  refine W_iconst (v := (1 : Int32)) C dc_law_429 (Eq.refl 430) rfl ?_
  refine W_iadd (v := nI (i + 1)) C dc_law_430 (Eq.refl 431) (nI_add i 1) ?_
  refine W_sld (v := xW X (i + 1)) C dc_law_431 (Eq.refl 432) (vin (by omega) (by omega)) (by rw [nI_clamp (by omega)]) ?_
  refine W_aload C dc_law_432 (Eq.refl 433) 3 rfl ?_
  refine W_iload (x := nI i) C dc_law_433 (Eq.refl 434) 0 rfl ?_
  refine W_iconst (v := (2 : Int32)) C dc_law_434 (Eq.refl 435) rfl ?_
  refine W_iadd (v := nI (i + 2)) C dc_law_435 (Eq.refl 436) (nI_add i 2) ?_
  refine W_sld (v := xW X (i + 2)) C dc_law_436 (Eq.refl 437) (vin (by omega) (by omega)) (by rw [nI_clamp (by omega)]) ?_
  refine W_call (x := 0) (As := [.int (xW X (i + 1)), .int (xW X (i + 2))]) C dc_law_437 (Eq.refl 440) ll_61 lm_Mo_form rfl (by decide) rfl rfl (by decide) rfl (Nat.le_of_ble_eq_true rfl) hd hcs (CE.mono hq (fun r σ2 hq => ?_))
  obtain ⟨r2, rfl, hr, hI⟩ := hq
  show JW cells slots X E σ2 440 _ [.int r2, .int r1]
  exact W_icmp_eq C dc_law_440 rfl hr (kk σ2 hI)

theorem law_case_10 {cells slots d i : Nat} {X : Lw_t} {E : En_t} {σ : S_t} {I I2 : S_t → Prop} (C : CtxW X E) (hi : i + 6 ≤ LW X) (hL : LW X ≤ 3072) (hd : d ≤ 1000) (hcs : cells ≤ 600000 ∧ slots ≤ 7302250) (h : Op_10 E d I I2) (hI : I σ) (kk : ∀ σ2, I2 σ2 → JW cells slots X E σ2 803 [(3, .int (nI i)), (2, pv E 0), (1, pv E 49), (0, .ref (bW X))] []) : JW cells slots X E σ 445 [(3, .int (nI i)), (2, pv E 0), (1, pv E 49), (0, .ref (bW X))] [] := by
  refine W_aload C dc_law_445 (Eq.refl 446) 2 rfl ?_
  refine W_aload C dc_law_446 (Eq.refl 447) 3 rfl ?_
  refine W_iload (x := nI i) C dc_law_447 (Eq.refl 448) 0 rfl ?_
  refine W_iconst (v := (1 : Int32)) C dc_law_448 (Eq.refl 449) rfl ?_
  refine W_iadd (v := nI (i + 1)) C dc_law_449 (Eq.refl 450) (nI_add i 1) ?_
  refine W_sld (v := xW X (i + 1)) C dc_law_450 (Eq.refl 451) (vin (by omega) (by omega)) (by rw [nI_clamp (by omega)]) ?_
  refine W_aload C dc_law_451 (Eq.refl 452) 3 rfl ?_
  refine W_iload (x := nI i) C dc_law_452 (Eq.refl 453) 0 rfl ?_
  refine W_iconst (v := (2 : Int32)) C dc_law_453 (Eq.refl 454) rfl ?_
  refine W_iadd (v := nI (i + 2)) C dc_law_454 (Eq.refl 455) (nI_add i 2) ?_
  refine W_sld (v := xW X (i + 2)) C dc_law_455 (Eq.refl 456) (vin (by omega) (by omega)) (by rw [nI_clamp (by omega)]) ?_
  refine W_aload C dc_law_456 (Eq.refl 457) 3 rfl ?_
  refine W_iload (x := nI i) C dc_law_457 (Eq.refl 458) 0 rfl ?_
  refine W_iconst (v := (3 : Int32)) C dc_law_458 (Eq.refl 459) rfl ?_
  refine W_iadd (v := nI (i + 3)) C dc_law_459 (Eq.refl 460) (nI_add i 3) ?_
  refine W_sld (v := xW X (i + 3)) C dc_law_460 (Eq.refl 461) (vin (by omega) (by omega)) (by rw [nI_clamp (by omega)]) ?_
  refine W_call (x := 49) (As := [.int (xW X (i + 1)), .int (xW X (i + 2)), .int (xW X (i + 3))]) C dc_law_461 (Eq.refl 464) ll_62 lm_Cp_value rfl (by decide) rfl rfl (by decide) rfl (Nat.le_of_ble_eq_true rfl) hd hcs (CE.mono (h (xW X (i + 1)) (xW X (i + 2)) (xW X (i + 3)) σ hI) (fun r σ1 hq => ?_))
  obtain ⟨r1, rfl, hq⟩ := hq
  show JW cells slots X E σ1 464 _ [.int r1]
  refine W_aload C dc_law_464 (Eq.refl 465) 1 rfl ?_
  refine W_aload C dc_law_465 (Eq.refl 466) 3 rfl ?_
  refine W_iload (x := nI i) C dc_law_466 (Eq.refl 467) 0 rfl ?_
  refine W_iconst (v := (1 : Int32)) C dc_law_467 (Eq.refl 468) rfl ?_
  refine W_iadd (v := nI (i + 1)) C dc_law_468 (Eq.refl 469) (nI_add i 1) ?_
  refine W_sld (v := xW X (i + 1)) C dc_law_469 (Eq.refl 470) (vin (by omega) (by omega)) (by rw [nI_clamp (by omega)]) ?_
  refine W_aload C dc_law_470 (Eq.refl 471) 3 rfl ?_
  refine W_iload (x := nI i) C dc_law_471 (Eq.refl 472) 0 rfl ?_
  refine W_iconst (v := (2 : Int32)) C dc_law_472 (Eq.refl 473) rfl ?_
  refine W_iadd (v := nI (i + 2)) C dc_law_473 (Eq.refl 474) (nI_add i 2) ?_
  refine W_sld (v := xW X (i + 2)) C dc_law_474 (Eq.refl 475) (vin (by omega) (by omega)) (by rw [nI_clamp (by omega)]) ?_
  refine W_aload C dc_law_475 (Eq.refl 476) 3 rfl ?_
  refine W_iload (x := nI i) C dc_law_476 (Eq.refl 477) 0 rfl ?_
  refine W_iconst (v := (3 : Int32)) C dc_law_477 (Eq.refl 478) rfl ?_
  refine W_iadd (v := nI (i + 3)) C dc_law_478 (Eq.refl 479) (nI_add i 3) ?_
  refine W_sld (v := xW X (i + 3)) C dc_law_479 (Eq.refl 480) (vin (by omega) (by omega)) (by rw [nI_clamp (by omega)]) ?_
  refine W_call (x := 0) (As := [.int (xW X (i + 1)), .int (xW X (i + 2)), .int (xW X (i + 3))]) C dc_law_480 (Eq.refl 483) ll_66 lm_Mo_value rfl (by decide) rfl rfl (by decide) rfl (Nat.le_of_ble_eq_true rfl) hd hcs (CE.mono hq (fun r σ2 hq => ?_))
  obtain ⟨r2, rfl, hr, hI⟩ := hq
  show JW cells slots X E σ2 483 _ [.int r2, .int r1]
  exact W_icmp_eq C dc_law_483 rfl hr (kk σ2 hI)

theorem law_case_11 {cells slots d i : Nat} {X : Lw_t} {E : En_t} {σ : S_t} {I I2 : S_t → Prop} (C : CtxW X E) (hi : i + 6 ≤ LW X) (hL : LW X ≤ 3072) (hd : d ≤ 1000) (hcs : cells ≤ 600000 ∧ slots ≤ 7302250) (h : Op_11 E d I I2) (hI : I σ) (kk : ∀ σ2, I2 σ2 → JW cells slots X E σ2 803 [(3, .int (nI i)), (2, pv E 0), (1, pv E 49), (0, .ref (bW X))] []) : JW cells slots X E σ 488 [(3, .int (nI i)), (2, pv E 0), (1, pv E 49), (0, .ref (bW X))] [] := by
  refine W_aload C dc_law_488 (Eq.refl 489) 2 rfl ?_
  refine W_aload C dc_law_489 (Eq.refl 490) 3 rfl ?_
  refine W_iload (x := nI i) C dc_law_490 (Eq.refl 491) 0 rfl ?_
  refine W_iconst (v := (1 : Int32)) C dc_law_491 (Eq.refl 492) rfl ?_
  refine W_iadd (v := nI (i + 1)) C dc_law_492 (Eq.refl 493) (nI_add i 1) ?_
  refine W_sld (v := xW X (i + 1)) C dc_law_493 (Eq.refl 494) (vin (by omega) (by omega)) (by rw [nI_clamp (by omega)]) ?_
  refine W_aload C dc_law_494 (Eq.refl 495) 3 rfl ?_
  refine W_iload (x := nI i) C dc_law_495 (Eq.refl 496) 0 rfl ?_
  refine W_iconst (v := (2 : Int32)) C dc_law_496 (Eq.refl 497) rfl ?_
  refine W_iadd (v := nI (i + 2)) C dc_law_497 (Eq.refl 498) (nI_add i 2) ?_
  refine W_sld (v := xW X (i + 2)) C dc_law_498 (Eq.refl 499) (vin (by omega) (by omega)) (by rw [nI_clamp (by omega)]) ?_
  refine W_call (x := 49) (As := [.int (xW X (i + 1)), .int (xW X (i + 2))]) C dc_law_499 (Eq.refl 502) ll_67 lm_Cp_bits rfl (by decide) rfl rfl (by decide) rfl (Nat.le_of_ble_eq_true rfl) hd hcs (CE.mono (h (xW X (i + 1)) (xW X (i + 2)) σ hI) (fun r σ1 hq => ?_))
  obtain ⟨r1, rfl, hq⟩ := hq
  show JW cells slots X E σ1 502 _ [.long r1]
  refine W_aload C dc_law_502 (Eq.refl 503) 1 rfl ?_
  refine W_aload C dc_law_503 (Eq.refl 504) 3 rfl ?_
  refine W_iload (x := nI i) C dc_law_504 (Eq.refl 505) 0 rfl ?_
  refine W_iconst (v := (1 : Int32)) C dc_law_505 (Eq.refl 506) rfl ?_
  refine W_iadd (v := nI (i + 1)) C dc_law_506 (Eq.refl 507) (nI_add i 1) ?_
  refine W_sld (v := xW X (i + 1)) C dc_law_507 (Eq.refl 508) (vin (by omega) (by omega)) (by rw [nI_clamp (by omega)]) ?_
  refine W_aload C dc_law_508 (Eq.refl 509) 3 rfl ?_
  refine W_iload (x := nI i) C dc_law_509 (Eq.refl 510) 0 rfl ?_
  refine W_iconst (v := (2 : Int32)) C dc_law_510 (Eq.refl 511) rfl ?_
  refine W_iadd (v := nI (i + 2)) C dc_law_511 (Eq.refl 512) (nI_add i 2) ?_
  refine W_sld (v := xW X (i + 2)) C dc_law_512 (Eq.refl 513) (vin (by omega) (by omega)) (by rw [nI_clamp (by omega)]) ?_
  refine W_call (x := 0) (As := [.int (xW X (i + 1)), .int (xW X (i + 2))]) C dc_law_513 (Eq.refl 516) ll_71 lm_Mo_bits rfl (by decide) rfl rfl (by decide) rfl (Nat.le_of_ble_eq_true rfl) hd hcs (CE.mono hq (fun r σ2 hq => ?_))
  obtain ⟨r2, rfl, hr, hI⟩ := hq
  show JW cells slots X E σ2 516 _ [.long r2, .long r1]
  exact W_lcmp_eq C dc_law_516 (Eq.refl 517) dc_law_517 rfl hr (kk σ2 hI)

theorem law_case_12 {cells slots d i : Nat} {X : Lw_t} {E : En_t} {σ : S_t} {I I2 : S_t → Prop} (C : CtxW X E) (hi : i + 6 ≤ LW X) (hL : LW X ≤ 3072) (hd : d ≤ 1000) (hcs : cells ≤ 600000 ∧ slots ≤ 7302250) (h : Op_12 E d I I2) (hI : I σ) (kk : ∀ σ2, I2 σ2 → JW cells slots X E σ2 803 [(3, .int (nI i)), (2, pv E 0), (1, pv E 49), (0, .ref (bW X))] []) : JW cells slots X E σ 522 [(3, .int (nI i)), (2, pv E 0), (1, pv E 49), (0, .ref (bW X))] [] := by
  refine W_aload C dc_law_522 (Eq.refl 523) 2 rfl ?_
  refine W_aload C dc_law_523 (Eq.refl 524) 3 rfl ?_
  refine W_iload (x := nI i) C dc_law_524 (Eq.refl 525) 0 rfl ?_
  refine W_iconst (v := (1 : Int32)) C dc_law_525 (Eq.refl 526) rfl ?_
  refine W_iadd (v := nI (i + 1)) C dc_law_526 (Eq.refl 527) (nI_add i 1) ?_
  refine W_sld (v := xW X (i + 1)) C dc_law_527 (Eq.refl 528) (vin (by omega) (by omega)) (by rw [nI_clamp (by omega)]) ?_
  refine W_aload C dc_law_528 (Eq.refl 529) 3 rfl ?_
  refine W_iload (x := nI i) C dc_law_529 (Eq.refl 530) 0 rfl ?_
  refine W_iconst (v := (2 : Int32)) C dc_law_530 (Eq.refl 531) rfl ?_
  refine W_iadd (v := nI (i + 2)) C dc_law_531 (Eq.refl 532) (nI_add i 2) ?_
  refine W_sld (v := xW X (i + 2)) C dc_law_532 (Eq.refl 533) (vin (by omega) (by omega)) (by rw [nI_clamp (by omega)]) ?_
  refine W_aload C dc_law_533 (Eq.refl 534) 3 rfl ?_
  refine W_iload (x := nI i) C dc_law_534 (Eq.refl 535) 0 rfl ?_
  refine W_iconst (v := (3 : Int32)) C dc_law_535 (Eq.refl 536) rfl ?_
  refine W_iadd (v := nI (i + 3)) C dc_law_536 (Eq.refl 537) (nI_add i 3) ?_
  refine W_sld (v := xW X (i + 3)) C dc_law_537 (Eq.refl 538) (vin (by omega) (by omega)) (by rw [nI_clamp (by omega)]) ?_
  refine W_aload C dc_law_538 (Eq.refl 539) 3 rfl ?_
  refine W_iload (x := nI i) C dc_law_539 (Eq.refl 540) 0 rfl ?_
  refine W_iconst (v := (4 : Int32)) C dc_law_540 (Eq.refl 541) rfl ?_
  refine W_iadd (v := nI (i + 4)) C dc_law_541 (Eq.refl 542) (nI_add i 4) ?_
  refine W_sld (v := xW X (i + 4)) C dc_law_542 (Eq.refl 543) (vin (by omega) (by omega)) (by rw [nI_clamp (by omega)]) ?_
  refine W_call (x := 49) (As := [.int (xW X (i + 1)), .int (xW X (i + 2)), .int (xW X (i + 3)), .int (xW X (i + 4))]) C dc_law_543 (Eq.refl 546) ll_72 lm_Cp_character rfl (by decide) rfl rfl (by decide) rfl (Nat.le_of_ble_eq_true rfl) hd hcs (CE.mono (h (xW X (i + 1)) (xW X (i + 2)) (xW X (i + 3)) (xW X (i + 4)) σ hI) (fun r σ1 hq => ?_))
  obtain ⟨r1, rfl, hq⟩ := hq
  show JW cells slots X E σ1 546 _ [.int r1]
  refine W_aload C dc_law_546 (Eq.refl 547) 1 rfl ?_
  refine W_aload C dc_law_547 (Eq.refl 548) 3 rfl ?_
  refine W_iload (x := nI i) C dc_law_548 (Eq.refl 549) 0 rfl ?_
  refine W_iconst (v := (1 : Int32)) C dc_law_549 (Eq.refl 550) rfl ?_
  refine W_iadd (v := nI (i + 1)) C dc_law_550 (Eq.refl 551) (nI_add i 1) ?_
  refine W_sld (v := xW X (i + 1)) C dc_law_551 (Eq.refl 552) (vin (by omega) (by omega)) (by rw [nI_clamp (by omega)]) ?_
  refine W_aload C dc_law_552 (Eq.refl 553) 3 rfl ?_
  refine W_iload (x := nI i) C dc_law_553 (Eq.refl 554) 0 rfl ?_
  refine W_iconst (v := (2 : Int32)) C dc_law_554 (Eq.refl 555) rfl ?_
  refine W_iadd (v := nI (i + 2)) C dc_law_555 (Eq.refl 556) (nI_add i 2) ?_
  refine W_sld (v := xW X (i + 2)) C dc_law_556 (Eq.refl 557) (vin (by omega) (by omega)) (by rw [nI_clamp (by omega)]) ?_
  refine W_aload C dc_law_557 (Eq.refl 558) 3 rfl ?_
  refine W_iload (x := nI i) C dc_law_558 (Eq.refl 559) 0 rfl ?_
  refine W_iconst (v := (3 : Int32)) C dc_law_559 (Eq.refl 560) rfl ?_
  refine W_iadd (v := nI (i + 3)) C dc_law_560 (Eq.refl 561) (nI_add i 3) ?_
  refine W_sld (v := xW X (i + 3)) C dc_law_561 (Eq.refl 562) (vin (by omega) (by omega)) (by rw [nI_clamp (by omega)]) ?_
  refine W_aload C dc_law_562 (Eq.refl 563) 3 rfl ?_
  refine W_iload (x := nI i) C dc_law_563 (Eq.refl 564) 0 rfl ?_
  refine W_iconst (v := (4 : Int32)) C dc_law_564 (Eq.refl 565) rfl ?_
  refine W_iadd (v := nI (i + 4)) C dc_law_565 (Eq.refl 566) (nI_add i 4) ?_
  refine W_sld (v := xW X (i + 4)) C dc_law_566 (Eq.refl 567) (vin (by omega) (by omega)) (by rw [nI_clamp (by omega)]) ?_
  refine W_call (x := 0) (As := [.int (xW X (i + 1)), .int (xW X (i + 2)), .int (xW X (i + 3)), .int (xW X (i + 4))]) C dc_law_567 (Eq.refl 570) ll_76 lm_Mo_character rfl (by decide) rfl rfl (by decide) rfl (Nat.le_of_ble_eq_true rfl) hd hcs (CE.mono hq (fun r σ2 hq => ?_))
  obtain ⟨r2, rfl, hr, hI⟩ := hq
  show JW cells slots X E σ2 570 _ [.int r2, .int r1]
  exact W_icmp_eq C dc_law_570 rfl hr (kk σ2 hI)

theorem law_case_13 {cells slots d i : Nat} {X : Lw_t} {E : En_t} {σ : S_t} {I I2 : S_t → Prop} (C : CtxW X E) (hi : i + 6 ≤ LW X) (hL : LW X ≤ 3072) (hd : d ≤ 1000) (hcs : cells ≤ 600000 ∧ slots ≤ 7302250) (h : Op_13 E d I I2) (hI : I σ) (kk : ∀ σ2, I2 σ2 → JW cells slots X E σ2 803 [(3, .int (nI i)), (2, pv E 0), (1, pv E 49), (0, .ref (bW X))] []) : JW cells slots X E σ 575 [(3, .int (nI i)), (2, pv E 0), (1, pv E 49), (0, .ref (bW X))] [] := by
  refine W_aload C dc_law_575 (Eq.refl 576) 2 rfl ?_
  refine W_aload C dc_law_576 (Eq.refl 577) 3 rfl ?_
  refine W_iload (x := nI i) C dc_law_577 (Eq.refl 578) 0 rfl ?_
  refine W_iconst (v := (1 : Int32)) C dc_law_578 (Eq.refl 579) rfl ?_
  refine W_iadd (v := nI (i + 1)) C dc_law_579 (Eq.refl 580) (nI_add i 1) ?_
  refine W_sld (v := xW X (i + 1)) C dc_law_580 (Eq.refl 581) (vin (by omega) (by omega)) (by rw [nI_clamp (by omega)]) ?_
  refine W_call (x := 49) (As := [.int (xW X (i + 1))]) C dc_law_581 (Eq.refl 584) ll_77 lm_Cp_point rfl (by decide) rfl rfl (by decide) rfl (Nat.le_of_ble_eq_true rfl) hd hcs (CE.mono (h (xW X (i + 1)) σ hI) (fun r σ1 hq => ?_))
  obtain ⟨r1, rfl, hq⟩ := hq
  show JW cells slots X E σ1 584 _ [.int r1]
  refine W_aload C dc_law_584 (Eq.refl 585) 1 rfl ?_
  refine W_aload C dc_law_585 (Eq.refl 586) 3 rfl ?_
  refine W_iload (x := nI i) C dc_law_586 (Eq.refl 587) 0 rfl ?_
  refine W_iconst (v := (1 : Int32)) C dc_law_587 (Eq.refl 588) rfl ?_
  refine W_iadd (v := nI (i + 1)) C dc_law_588 (Eq.refl 589) (nI_add i 1) ?_
  refine W_sld (v := xW X (i + 1)) C dc_law_589 (Eq.refl 590) (vin (by omega) (by omega)) (by rw [nI_clamp (by omega)]) ?_
  refine W_call (x := 0) (As := [.int (xW X (i + 1))]) C dc_law_590 (Eq.refl 593) ll_80 lm_Mo_point rfl (by decide) rfl rfl (by decide) rfl (Nat.le_of_ble_eq_true rfl) hd hcs (CE.mono hq (fun r σ2 hq => ?_))
  obtain ⟨r2, rfl, hr, hI⟩ := hq
  show JW cells slots X E σ2 593 _ [.int r2, .int r1]
  exact W_icmp_eq C dc_law_593 rfl hr (kk σ2 hI)

theorem law_case_14 {cells slots d i : Nat} {X : Lw_t} {E : En_t} {σ : S_t} {I I2 : S_t → Prop} (C : CtxW X E) (hi : i + 6 ≤ LW X) (hL : LW X ≤ 3072) (hd : d ≤ 1000) (hcs : cells ≤ 600000 ∧ slots ≤ 7302250) (h : Op_14 E d I I2) (hI : I σ) (kk : ∀ σ2, I2 σ2 → JW cells slots X E σ2 803 [(3, .int (nI i)), (2, pv E 0), (1, pv E 49), (0, .ref (bW X))] []) : JW cells slots X E σ 598 [(3, .int (nI i)), (2, pv E 0), (1, pv E 49), (0, .ref (bW X))] [] := by
  refine W_aload C dc_law_598 (Eq.refl 599) 2 rfl ?_
  refine W_aload C dc_law_599 (Eq.refl 600) 3 rfl ?_
  refine W_iload (x := nI i) C dc_law_600 (Eq.refl 601) 0 rfl ?_
  refine W_iconst (v := (1 : Int32)) C dc_law_601 (Eq.refl 602) rfl ?_
  refine W_iadd (v := nI (i + 1)) C dc_law_602 (Eq.refl 603) (nI_add i 1) ?_
  refine W_sld (v := xW X (i + 1)) C dc_law_603 (Eq.refl 604) (vin (by omega) (by omega)) (by rw [nI_clamp (by omega)]) ?_
  refine W_aload C dc_law_604 (Eq.refl 605) 3 rfl ?_
  refine W_iload (x := nI i) C dc_law_605 (Eq.refl 606) 0 rfl ?_
  refine W_iconst (v := (2 : Int32)) C dc_law_606 (Eq.refl 607) rfl ?_
  refine W_iadd (v := nI (i + 2)) C dc_law_607 (Eq.refl 608) (nI_add i 2) ?_
  refine W_sld (v := xW X (i + 2)) C dc_law_608 (Eq.refl 609) (vin (by omega) (by omega)) (by rw [nI_clamp (by omega)]) ?_
  refine W_aload C dc_law_609 (Eq.refl 610) 3 rfl ?_
  refine W_iload (x := nI i) C dc_law_610 (Eq.refl 611) 0 rfl ?_
  refine W_iconst (v := (3 : Int32)) C dc_law_611 (Eq.refl 612) rfl ?_
  refine W_iadd (v := nI (i + 3)) C dc_law_612 (Eq.refl 613) (nI_add i 3) ?_
  refine W_sld (v := xW X (i + 3)) C dc_law_613 (Eq.refl 614) (vin (by omega) (by omega)) (by rw [nI_clamp (by omega)]) ?_
  refine W_aload C dc_law_614 (Eq.refl 615) 3 rfl ?_
  refine W_iload (x := nI i) C dc_law_615 (Eq.refl 616) 0 rfl ?_
  refine W_iconst (v := (4 : Int32)) C dc_law_616 (Eq.refl 617) rfl ?_
  refine W_iadd (v := nI (i + 4)) C dc_law_617 (Eq.refl 618) (nI_add i 4) ?_
  refine W_sld (v := xW X (i + 4)) C dc_law_618 (Eq.refl 619) (vin (by omega) (by omega)) (by rw [nI_clamp (by omega)]) ?_
  refine W_call (x := 49) (As := [.int (xW X (i + 1)), .int (xW X (i + 2)), .int (xW X (i + 3)), .int (xW X (i + 4))]) C dc_law_619 (Eq.refl 622) ll_81 lm_Cp_same rfl (by decide) rfl rfl (by decide) rfl (Nat.le_of_ble_eq_true rfl) hd hcs (CE.mono (h (xW X (i + 1)) (xW X (i + 2)) (xW X (i + 3)) (xW X (i + 4)) σ hI) (fun r σ1 hq => ?_))
  obtain ⟨r1, rfl, hq⟩ := hq
  show JW cells slots X E σ1 622 _ [.int r1]
  refine W_aload C dc_law_622 (Eq.refl 623) 1 rfl ?_
  refine W_aload C dc_law_623 (Eq.refl 624) 3 rfl ?_
  refine W_iload (x := nI i) C dc_law_624 (Eq.refl 625) 0 rfl ?_
  refine W_iconst (v := (1 : Int32)) C dc_law_625 (Eq.refl 626) rfl ?_
  refine W_iadd (v := nI (i + 1)) C dc_law_626 (Eq.refl 627) (nI_add i 1) ?_
  refine W_sld (v := xW X (i + 1)) C dc_law_627 (Eq.refl 628) (vin (by omega) (by omega)) (by rw [nI_clamp (by omega)]) ?_
  refine W_aload C dc_law_628 (Eq.refl 629) 3 rfl ?_
  refine W_iload (x := nI i) C dc_law_629 (Eq.refl 630) 0 rfl ?_
  refine W_iconst (v := (2 : Int32)) C dc_law_630 (Eq.refl 631) rfl ?_
  refine W_iadd (v := nI (i + 2)) C dc_law_631 (Eq.refl 632) (nI_add i 2) ?_
  refine W_sld (v := xW X (i + 2)) C dc_law_632 (Eq.refl 633) (vin (by omega) (by omega)) (by rw [nI_clamp (by omega)]) ?_
  refine W_aload C dc_law_633 (Eq.refl 634) 3 rfl ?_
  refine W_iload (x := nI i) C dc_law_634 (Eq.refl 635) 0 rfl ?_
  refine W_iconst (v := (3 : Int32)) C dc_law_635 (Eq.refl 636) rfl ?_
  refine W_iadd (v := nI (i + 3)) C dc_law_636 (Eq.refl 637) (nI_add i 3) ?_
  refine W_sld (v := xW X (i + 3)) C dc_law_637 (Eq.refl 638) (vin (by omega) (by omega)) (by rw [nI_clamp (by omega)]) ?_
  refine W_aload C dc_law_638 (Eq.refl 639) 3 rfl ?_
  refine W_iload (x := nI i) C dc_law_639 (Eq.refl 640) 0 rfl ?_
  refine W_iconst (v := (4 : Int32)) C dc_law_640 (Eq.refl 641) rfl ?_
  refine W_iadd (v := nI (i + 4)) C dc_law_641 (Eq.refl 642) (nI_add i 4) ?_
  refine W_sld (v := xW X (i + 4)) C dc_law_642 (Eq.refl 643) (vin (by omega) (by omega)) (by rw [nI_clamp (by omega)]) ?_
  refine W_call (x := 0) (As := [.int (xW X (i + 1)), .int (xW X (i + 2)), .int (xW X (i + 3)), .int (xW X (i + 4))]) C dc_law_643 (Eq.refl 646) ll_84 lm_Mo_same rfl (by decide) rfl rfl (by decide) rfl (Nat.le_of_ble_eq_true rfl) hd hcs (CE.mono hq (fun r σ2 hq => ?_))
  obtain ⟨r2, rfl, hr, hI⟩ := hq
  show JW cells slots X E σ2 646 _ [.int r2, .int r1]
  exact W_icmp_eq C dc_law_646 rfl hr (kk σ2 hI)

theorem law_case_15 {cells slots d i : Nat} {X : Lw_t} {E : En_t} {σ : S_t} {I I2 : S_t → Prop} (C : CtxW X E) (hi : i + 6 ≤ LW X) (hL : LW X ≤ 3072) (hd : d ≤ 1000) (hcs : cells ≤ 600000 ∧ slots ≤ 7302250) (h : Op_15 E d I I2) (hI : I σ) (kk : ∀ σ2, I2 σ2 → JW cells slots X E σ2 803 [(3, .int (nI i)), (2, pv E 0), (1, pv E 49), (0, .ref (bW X))] []) : JW cells slots X E σ 651 [(3, .int (nI i)), (2, pv E 0), (1, pv E 49), (0, .ref (bW X))] [] := by
  refine W_aload C dc_law_651 (Eq.refl 652) 2 rfl ?_
  refine W_aload C dc_law_652 (Eq.refl 653) 3 rfl ?_
  refine W_iload (x := nI i) C dc_law_653 (Eq.refl 654) 0 rfl ?_
  refine W_iconst (v := (1 : Int32)) C dc_law_654 (Eq.refl 655) rfl ?_
  refine W_iadd (v := nI (i + 1)) C dc_law_655 (Eq.refl 656) (nI_add i 1) ?_
  refine W_sld (v := xW X (i + 1)) C dc_law_656 (Eq.refl 657) (vin (by omega) (by omega)) (by rw [nI_clamp (by omega)]) ?_
  refine W_aload C dc_law_657 (Eq.refl 658) 3 rfl ?_
  refine W_iload (x := nI i) C dc_law_658 (Eq.refl 659) 0 rfl ?_
  refine W_iconst (v := (2 : Int32)) C dc_law_659 (Eq.refl 660) rfl ?_
  refine W_iadd (v := nI (i + 2)) C dc_law_660 (Eq.refl 661) (nI_add i 2) ?_
  refine W_sld (v := xW X (i + 2)) C dc_law_661 (Eq.refl 662) (vin (by omega) (by omega)) (by rw [nI_clamp (by omega)]) ?_
  refine W_aload C dc_law_662 (Eq.refl 663) 3 rfl ?_
  refine W_iload (x := nI i) C dc_law_663 (Eq.refl 664) 0 rfl ?_
  refine W_iconst (v := (3 : Int32)) C dc_law_664 (Eq.refl 665) rfl ?_
  refine W_iadd (v := nI (i + 3)) C dc_law_665 (Eq.refl 666) (nI_add i 3) ?_
  refine W_sld (v := xW X (i + 3)) C dc_law_666 (Eq.refl 667) (vin (by omega) (by omega)) (by rw [nI_clamp (by omega)]) ?_
  refine W_call (x := 49) (As := [.int (xW X (i + 1)), .int (xW X (i + 2)), .int (xW X (i + 3))]) C dc_law_667 (Eq.refl 670) ll_85 lm_Cp_merge rfl (by decide) rfl rfl (by decide) rfl (Nat.le_of_ble_eq_true rfl) hd hcs (CE.mono (h (xW X (i + 1)) (xW X (i + 2)) (xW X (i + 3)) σ hI) (fun r σ1 hq => ?_))
  obtain ⟨r1, rfl, hq⟩ := hq
  show JW cells slots X E σ1 670 _ [.int r1]
  refine W_aload C dc_law_670 (Eq.refl 671) 1 rfl ?_
  refine W_aload C dc_law_671 (Eq.refl 672) 3 rfl ?_
  refine W_iload (x := nI i) C dc_law_672 (Eq.refl 673) 0 rfl ?_
  refine W_iconst (v := (1 : Int32)) C dc_law_673 (Eq.refl 674) rfl ?_
  refine W_iadd (v := nI (i + 1)) C dc_law_674 (Eq.refl 675) (nI_add i 1) ?_
  refine W_sld (v := xW X (i + 1)) C dc_law_675 (Eq.refl 676) (vin (by omega) (by omega)) (by rw [nI_clamp (by omega)]) ?_
  refine W_aload C dc_law_676 (Eq.refl 677) 3 rfl ?_
  refine W_iload (x := nI i) C dc_law_677 (Eq.refl 678) 0 rfl ?_
  refine W_iconst (v := (2 : Int32)) C dc_law_678 (Eq.refl 679) rfl ?_
  refine W_iadd (v := nI (i + 2)) C dc_law_679 (Eq.refl 680) (nI_add i 2) ?_
  refine W_sld (v := xW X (i + 2)) C dc_law_680 (Eq.refl 681) (vin (by omega) (by omega)) (by rw [nI_clamp (by omega)]) ?_
  refine W_aload C dc_law_681 (Eq.refl 682) 3 rfl ?_
  refine W_iload (x := nI i) C dc_law_682 (Eq.refl 683) 0 rfl ?_
  refine W_iconst (v := (3 : Int32)) C dc_law_683 (Eq.refl 684) rfl ?_
  refine W_iadd (v := nI (i + 3)) C dc_law_684 (Eq.refl 685) (nI_add i 3) ?_
  refine W_sld (v := xW X (i + 3)) C dc_law_685 (Eq.refl 686) (vin (by omega) (by omega)) (by rw [nI_clamp (by omega)]) ?_
  refine W_call (x := 0) (As := [.int (xW X (i + 1)), .int (xW X (i + 2)), .int (xW X (i + 3))]) C dc_law_686 (Eq.refl 689) ll_88 lm_Mo_merge rfl (by decide) rfl rfl (by decide) rfl (Nat.le_of_ble_eq_true rfl) hd hcs (CE.mono hq (fun r σ2 hq => ?_))
  obtain ⟨r2, rfl, hr, hI⟩ := hq
  show JW cells slots X E σ2 689 _ [.int r2, .int r1]
  exact W_icmp_eq C dc_law_689 rfl hr (kk σ2 hI)

theorem law_case_16 {cells slots d i : Nat} {X : Lw_t} {E : En_t} {σ : S_t} {I I2 : S_t → Prop} (C : CtxW X E) (hi : i + 6 ≤ LW X) (hL : LW X ≤ 3072) (hd : d ≤ 1000) (hcs : cells ≤ 600000 ∧ slots ≤ 7302250) (h : Op_16 E d I I2) (hI : I σ) (kk : ∀ σ2, I2 σ2 → JW cells slots X E σ2 803 [(3, .int (nI i)), (2, pv E 0), (1, pv E 49), (0, .ref (bW X))] []) : JW cells slots X E σ 694 [(3, .int (nI i)), (2, pv E 0), (1, pv E 49), (0, .ref (bW X))] [] := by
  refine W_aload C dc_law_694 (Eq.refl 695) 2 rfl ?_
  refine W_aload C dc_law_695 (Eq.refl 696) 3 rfl ?_
  refine W_iload (x := nI i) C dc_law_696 (Eq.refl 697) 0 rfl ?_
  refine W_iconst (v := (1 : Int32)) C dc_law_697 (Eq.refl 698) rfl ?_
  refine W_iadd (v := nI (i + 1)) C dc_law_698 (Eq.refl 699) (nI_add i 1) ?_
  refine W_sld (v := xW X (i + 1)) C dc_law_699 (Eq.refl 700) (vin (by omega) (by omega)) (by rw [nI_clamp (by omega)]) ?_
  refine W_aload C dc_law_700 (Eq.refl 701) 3 rfl ?_
  refine W_iload (x := nI i) C dc_law_701 (Eq.refl 702) 0 rfl ?_
  refine W_iconst (v := (2 : Int32)) C dc_law_702 (Eq.refl 703) rfl ?_
  refine W_iadd (v := nI (i + 2)) C dc_law_703 (Eq.refl 704) (nI_add i 2) ?_
  refine W_sld (v := xW X (i + 2)) C dc_law_704 (Eq.refl 705) (vin (by omega) (by omega)) (by rw [nI_clamp (by omega)]) ?_
  refine W_aload C dc_law_705 (Eq.refl 706) 3 rfl ?_
  refine W_iload (x := nI i) C dc_law_706 (Eq.refl 707) 0 rfl ?_
  refine W_iconst (v := (3 : Int32)) C dc_law_707 (Eq.refl 708) rfl ?_
  refine W_iadd (v := nI (i + 3)) C dc_law_708 (Eq.refl 709) (nI_add i 3) ?_
  refine W_sld (v := xW X (i + 3)) C dc_law_709 (Eq.refl 710) (vin (by omega) (by omega)) (by rw [nI_clamp (by omega)]) ?_
  refine W_call (x := 49) (As := [.int (xW X (i + 1)), .int (xW X (i + 2)), .int (xW X (i + 3))]) C dc_law_710 (Eq.refl 713) ll_89 lm_Cp_patch rfl (by decide) rfl rfl (by decide) rfl (Nat.le_of_ble_eq_true rfl) hd hcs (CE.mono (h (xW X (i + 1)) (xW X (i + 2)) (xW X (i + 3)) σ hI) (fun r σ1 hq => ?_))
  obtain ⟨r1, rfl, hq⟩ := hq
  show JW cells slots X E σ1 713 _ [.int r1]
  refine W_aload C dc_law_713 (Eq.refl 714) 1 rfl ?_
  refine W_aload C dc_law_714 (Eq.refl 715) 3 rfl ?_
  refine W_iload (x := nI i) C dc_law_715 (Eq.refl 716) 0 rfl ?_
  refine W_iconst (v := (1 : Int32)) C dc_law_716 (Eq.refl 717) rfl ?_
  refine W_iadd (v := nI (i + 1)) C dc_law_717 (Eq.refl 718) (nI_add i 1) ?_
  refine W_sld (v := xW X (i + 1)) C dc_law_718 (Eq.refl 719) (vin (by omega) (by omega)) (by rw [nI_clamp (by omega)]) ?_
  refine W_aload C dc_law_719 (Eq.refl 720) 3 rfl ?_
  refine W_iload (x := nI i) C dc_law_720 (Eq.refl 721) 0 rfl ?_
  refine W_iconst (v := (2 : Int32)) C dc_law_721 (Eq.refl 722) rfl ?_
  refine W_iadd (v := nI (i + 2)) C dc_law_722 (Eq.refl 723) (nI_add i 2) ?_
  refine W_sld (v := xW X (i + 2)) C dc_law_723 (Eq.refl 724) (vin (by omega) (by omega)) (by rw [nI_clamp (by omega)]) ?_
  refine W_aload C dc_law_724 (Eq.refl 725) 3 rfl ?_
  refine W_iload (x := nI i) C dc_law_725 (Eq.refl 726) 0 rfl ?_
  refine W_iconst (v := (3 : Int32)) C dc_law_726 (Eq.refl 727) rfl ?_
  refine W_iadd (v := nI (i + 3)) C dc_law_727 (Eq.refl 728) (nI_add i 3) ?_
  refine W_sld (v := xW X (i + 3)) C dc_law_728 (Eq.refl 729) (vin (by omega) (by omega)) (by rw [nI_clamp (by omega)]) ?_
  refine W_call (x := 0) (As := [.int (xW X (i + 1)), .int (xW X (i + 2)), .int (xW X (i + 3))]) C dc_law_729 (Eq.refl 732) ll_92 lm_Mo_patch rfl (by decide) rfl rfl (by decide) rfl (Nat.le_of_ble_eq_true rfl) hd hcs (CE.mono hq (fun r σ2 hq => ?_))
  obtain ⟨r2, rfl, hr, hI⟩ := hq
  show JW cells slots X E σ2 732 _ [.int r2, .int r1]
  exact W_icmp_eq C dc_law_732 rfl hr (kk σ2 hI)

theorem law_case_17 {cells slots d i : Nat} {X : Lw_t} {E : En_t} {σ : S_t} {I I2 : S_t → Prop} (C : CtxW X E) (hi : i + 6 ≤ LW X) (hL : LW X ≤ 3072) (hd : d ≤ 1000) (hcs : cells ≤ 600000 ∧ slots ≤ 7302250) (h : Op_17 E d I I2) (hI : I σ) (kk : ∀ σ2, I2 σ2 → JW cells slots X E σ2 803 [(3, .int (nI i)), (2, pv E 0), (1, pv E 49), (0, .ref (bW X))] []) : JW cells slots X E σ 737 [(3, .int (nI i)), (2, pv E 0), (1, pv E 49), (0, .ref (bW X))] [] := by
  refine W_aload C dc_law_737 (Eq.refl 738) 2 rfl ?_
  refine W_aload C dc_law_738 (Eq.refl 739) 3 rfl ?_
  refine W_iload (x := nI i) C dc_law_739 (Eq.refl 740) 0 rfl ?_
  refine W_iconst (v := (1 : Int32)) C dc_law_740 (Eq.refl 741) rfl ?_
  refine W_iadd (v := nI (i + 1)) C dc_law_741 (Eq.refl 742) (nI_add i 1) ?_
  refine W_sld (v := xW X (i + 1)) C dc_law_742 (Eq.refl 743) (vin (by omega) (by omega)) (by rw [nI_clamp (by omega)]) ?_
  refine W_aload C dc_law_743 (Eq.refl 744) 3 rfl ?_
  refine W_iload (x := nI i) C dc_law_744 (Eq.refl 745) 0 rfl ?_
  refine W_iconst (v := (2 : Int32)) C dc_law_745 (Eq.refl 746) rfl ?_
  refine W_iadd (v := nI (i + 2)) C dc_law_746 (Eq.refl 747) (nI_add i 2) ?_
  refine W_sld (v := xW X (i + 2)) C dc_law_747 (Eq.refl 748) (vin (by omega) (by omega)) (by rw [nI_clamp (by omega)]) ?_
  refine W_aload C dc_law_748 (Eq.refl 749) 3 rfl ?_
  refine W_iload (x := nI i) C dc_law_749 (Eq.refl 750) 0 rfl ?_
  refine W_iconst (v := (3 : Int32)) C dc_law_750 (Eq.refl 751) rfl ?_
  refine W_iadd (v := nI (i + 3)) C dc_law_751 (Eq.refl 752) (nI_add i 3) ?_
  refine W_sld (v := xW X (i + 3)) C dc_law_752 (Eq.refl 753) (vin (by omega) (by omega)) (by rw [nI_clamp (by omega)]) ?_
  refine W_call (x := 49) (As := [.int (xW X (i + 1)), .int (xW X (i + 2)), .int (xW X (i + 3))]) C dc_law_753 (Eq.refl 756) ll_93 lm_Cp_part rfl (by decide) rfl rfl (by decide) rfl (Nat.le_of_ble_eq_true rfl) hd hcs (CE.mono (h (xW X (i + 1)) (xW X (i + 2)) (xW X (i + 3)) σ hI) (fun r σ1 hq => ?_))
  obtain ⟨r1, rfl, hq⟩ := hq
  show JW cells slots X E σ1 756 _ [.int r1]
  refine W_aload C dc_law_756 (Eq.refl 757) 1 rfl ?_
  refine W_aload C dc_law_757 (Eq.refl 758) 3 rfl ?_
  refine W_iload (x := nI i) C dc_law_758 (Eq.refl 759) 0 rfl ?_
  refine W_iconst (v := (1 : Int32)) C dc_law_759 (Eq.refl 760) rfl ?_
  refine W_iadd (v := nI (i + 1)) C dc_law_760 (Eq.refl 761) (nI_add i 1) ?_
  refine W_sld (v := xW X (i + 1)) C dc_law_761 (Eq.refl 762) (vin (by omega) (by omega)) (by rw [nI_clamp (by omega)]) ?_
  refine W_aload C dc_law_762 (Eq.refl 763) 3 rfl ?_
  refine W_iload (x := nI i) C dc_law_763 (Eq.refl 764) 0 rfl ?_
  refine W_iconst (v := (2 : Int32)) C dc_law_764 (Eq.refl 765) rfl ?_
  refine W_iadd (v := nI (i + 2)) C dc_law_765 (Eq.refl 766) (nI_add i 2) ?_
  refine W_sld (v := xW X (i + 2)) C dc_law_766 (Eq.refl 767) (vin (by omega) (by omega)) (by rw [nI_clamp (by omega)]) ?_
  refine W_aload C dc_law_767 (Eq.refl 768) 3 rfl ?_
  refine W_iload (x := nI i) C dc_law_768 (Eq.refl 769) 0 rfl ?_
  refine W_iconst (v := (3 : Int32)) C dc_law_769 (Eq.refl 770) rfl ?_
  refine W_iadd (v := nI (i + 3)) C dc_law_770 (Eq.refl 771) (nI_add i 3) ?_
  refine W_sld (v := xW X (i + 3)) C dc_law_771 (Eq.refl 772) (vin (by omega) (by omega)) (by rw [nI_clamp (by omega)]) ?_
  refine W_call (x := 0) (As := [.int (xW X (i + 1)), .int (xW X (i + 2)), .int (xW X (i + 3))]) C dc_law_772 (Eq.refl 775) ll_96 lm_Mo_part rfl (by decide) rfl rfl (by decide) rfl (Nat.le_of_ble_eq_true rfl) hd hcs (CE.mono hq (fun r σ2 hq => ?_))
  obtain ⟨r2, rfl, hr, hI⟩ := hq
  show JW cells slots X E σ2 775 _ [.int r2, .int r1]
  exact W_icmp_eq C dc_law_775 rfl hr (kk σ2 hI)

theorem law_case_18 {cells slots d i : Nat} {X : Lw_t} {E : En_t} {σ : S_t} {I I2 : S_t → Prop} (C : CtxW X E) (hi : i + 6 ≤ LW X) (hL : LW X ≤ 3072) (hd : d ≤ 1000) (hcs : cells ≤ 600000 ∧ slots ≤ 7302250) (h : Op_18 E d I I2) (hI : I σ) (kk : ∀ σ2, I2 σ2 → JW cells slots X E σ2 803 [(3, .int (nI i)), (2, pv E 0), (1, pv E 49), (0, .ref (bW X))] []) : JW cells slots X E σ 780 [(3, .int (nI i)), (2, pv E 0), (1, pv E 49), (0, .ref (bW X))] [] := by
  refine W_aload C dc_law_780 (Eq.refl 781) 2 rfl ?_
  refine W_aload C dc_law_781 (Eq.refl 782) 3 rfl ?_
  refine W_iload (x := nI i) C dc_law_782 (Eq.refl 783) 0 rfl ?_
  refine W_iconst (v := (1 : Int32)) C dc_law_783 (Eq.refl 784) rfl ?_
  refine W_iadd (v := nI (i + 1)) C dc_law_784 (Eq.refl 785) (nI_add i 1) ?_
  refine W_sld (v := xW X (i + 1)) C dc_law_785 (Eq.refl 786) (vin (by omega) (by omega)) (by rw [nI_clamp (by omega)]) ?_
  refine W_call (x := 49) (As := [.int (xW X (i + 1))]) C dc_law_786 (Eq.refl 789) ll_97 lm_Cp_about rfl (by decide) rfl rfl (by decide) rfl (Nat.le_of_ble_eq_true rfl) hd hcs (CE.mono (h (xW X (i + 1)) σ hI) (fun r σ1 hq => ?_))
  obtain ⟨r1, rfl, hq⟩ := hq
  show JW cells slots X E σ1 789 _ [.int r1]
  refine W_aload C dc_law_789 (Eq.refl 790) 1 rfl ?_
  refine W_aload C dc_law_790 (Eq.refl 791) 3 rfl ?_
  refine W_iload (x := nI i) C dc_law_791 (Eq.refl 792) 0 rfl ?_
  refine W_iconst (v := (1 : Int32)) C dc_law_792 (Eq.refl 793) rfl ?_
  refine W_iadd (v := nI (i + 1)) C dc_law_793 (Eq.refl 794) (nI_add i 1) ?_
  refine W_sld (v := xW X (i + 1)) C dc_law_794 (Eq.refl 795) (vin (by omega) (by omega)) (by rw [nI_clamp (by omega)]) ?_
  refine W_call (x := 0) (As := [.int (xW X (i + 1))]) C dc_law_795 (Eq.refl 798) ll_100 lm_Mo_about rfl (by decide) rfl rfl (by decide) rfl (Nat.le_of_ble_eq_true rfl) hd hcs (CE.mono hq (fun r σ2 hq => ?_))
  obtain ⟨r2, rfl, hr, hI⟩ := hq
  show JW cells slots X E σ2 798 _ [.int r2, .int r1]
  exact W_icmp_eq C dc_law_798 rfl hr (kk σ2 hI)
