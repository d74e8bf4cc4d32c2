/-! one call on fresh objects -/
theorem Op_0.mono {E : En_t} {d : Nat} {I I2 J J2 : S_t → Prop} (h : Op_0 E d I I2) (h1 : ∀ σ, J σ → I σ) (h2 : ∀ σ, I2 σ → J2 σ) : Op_0 E d J J2 := fun a0 a1 a2 a3 a4 σ hJ => (h a0 a1 a2 a3 a4 σ (h1 σ hJ)).mono (fun _ _ q => q.mono (fun _ σ2 z => ⟨z.1, h2 σ2 z.2⟩))
theorem Op_1.mono {E : En_t} {d : Nat} {I I2 J J2 : S_t → Prop} (h : Op_1 E d I I2) (h1 : ∀ σ, J σ → I σ) (h2 : ∀ σ, I2 σ → J2 σ) : Op_1 E d J J2 := fun a0 σ hJ => (h a0 σ (h1 σ hJ)).mono (fun _ _ q => q.mono (fun _ σ2 z => ⟨z.1, h2 σ2 z.2⟩))
theorem Op_2.mono {E : En_t} {d : Nat} {I I2 J J2 : S_t → Prop} (h : Op_2 E d I I2) (h1 : ∀ σ, J σ → I σ) (h2 : ∀ σ, I2 σ → J2 σ) : Op_2 E d J J2 := fun σ hJ => (h σ (h1 σ hJ)).mono (fun _ _ q => q.mono (fun _ σ2 z => ⟨z.1, h2 σ2 z.2⟩))
theorem Op_3.mono {E : En_t} {d : Nat} {I I2 J J2 : S_t → Prop} (h : Op_3 E d I I2) (h1 : ∀ σ, J σ → I σ) (h2 : ∀ σ, I2 σ → J2 σ) : Op_3 E d J J2 := fun σ hJ => (h σ (h1 σ hJ)).mono (fun _ _ q => q.mono (fun _ σ2 z => ⟨z.1, h2 σ2 z.2⟩))
theorem Op_4.mono {E : En_t} {d : Nat} {I I2 J J2 : S_t → Prop} (h : Op_4 E d I I2) (h1 : ∀ σ, J σ → I σ) (h2 : ∀ σ, I2 σ → J2 σ) : Op_4 E d J J2 := fun a0 σ hJ => (h a0 σ (h1 σ hJ)).mono (fun _ _ q => q.mono (fun _ σ2 z => ⟨z.1, h2 σ2 z.2⟩))
theorem Op_5.mono {E : En_t} {d : Nat} {I I2 J J2 : S_t → Prop} (h : Op_5 E d I I2) (h1 : ∀ σ, J σ → I σ) (h2 : ∀ σ, I2 σ → J2 σ) : Op_5 E d J J2 := fun a0 a1 σ hJ => (h a0 a1 σ (h1 σ hJ)).mono (fun _ _ q => q.mono (fun _ σ2 z => ⟨z.1, h2 σ2 z.2⟩))
theorem Op_6.mono {E : En_t} {d : Nat} {I I2 J J2 : S_t → Prop} (h : Op_6 E d I I2) (h1 : ∀ σ, J σ → I σ) (h2 : ∀ σ, I2 σ → J2 σ) : Op_6 E d J J2 := fun a0 σ hJ => (h a0 σ (h1 σ hJ)).mono (fun _ _ q => q.mono (fun _ σ2 z => ⟨z.1, h2 σ2 z.2⟩))
theorem Op_7.mono {E : En_t} {d : Nat} {I I2 J J2 : S_t → Prop} (h : Op_7 E d I I2) (h1 : ∀ σ, J σ → I σ) (h2 : ∀ σ, I2 σ → J2 σ) : Op_7 E d J J2 := fun a0 σ hJ => (h a0 σ (h1 σ hJ)).mono (fun _ _ q => q.mono (fun _ σ2 z => ⟨z.1, h2 σ2 z.2⟩))
theorem Op_8.mono {E : En_t} {d : Nat} {I I2 J J2 : S_t → Prop} (h : Op_8 E d I I2) (h1 : ∀ σ, J σ → I σ) (h2 : ∀ σ, I2 σ → J2 σ) : Op_8 E d J J2 := fun σ hJ => (h σ (h1 σ hJ)).mono (fun _ _ q => q.mono (fun _ σ2 z => ⟨z.1, h2 σ2 z.2⟩))
theorem Op_9.mono {E : En_t} {d : Nat} {I I2 J J2 : S_t → Prop} (h : Op_9 E d I I2) (h1 : ∀ σ, J σ → I σ) (h2 : ∀ σ, I2 σ → J2 σ) : Op_9 E d J J2 := fun a0 a1 σ hJ => (h a0 a1 σ (h1 σ hJ)).mono (fun _ _ q => q.mono (fun _ σ2 z => ⟨z.1, h2 σ2 z.2⟩))
theorem Op_10.mono {E : En_t} {d : Nat} {I I2 J J2 : S_t → Prop} (h : Op_10 E d I I2) (h1 : ∀ σ, J σ → I σ) (h2 : ∀ σ, I2 σ → J2 σ) : Op_10 E d J J2 := fun a0 a1 a2 σ hJ => (h a0 a1 a2 σ (h1 σ hJ)).mono (fun _ _ q => q.mono (fun _ σ2 z => ⟨z.1, h2 σ2 z.2⟩))
theorem Op_11.mono {E : En_t} {d : Nat} {I I2 J J2 : S_t → Prop} (h : Op_11 E d I I2) (h1 : ∀ σ, J σ → I σ) (h2 : ∀ σ, I2 σ → J2 σ) : Op_11 E d J J2 := fun a0 a1 σ hJ => (h a0 a1 σ (h1 σ hJ)).mono (fun _ _ q => q.mono (fun _ σ2 z => ⟨z.1, h2 σ2 z.2⟩))
theorem Op_12.mono {E : En_t} {d : Nat} {I I2 J J2 : S_t → Prop} (h : Op_12 E d I I2) (h1 : ∀ σ, J σ → I σ) (h2 : ∀ σ, I2 σ → J2 σ) : Op_12 E d J J2 := fun a0 a1 a2 a3 σ hJ => (h a0 a1 a2 a3 σ (h1 σ hJ)).mono (fun _ _ q => q.mono (fun _ σ2 z => ⟨z.1, h2 σ2 z.2⟩))
theorem Op_13.mono {E : En_t} {d : Nat} {I I2 J J2 : S_t → Prop} (h : Op_13 E d I I2) (h1 : ∀ σ, J σ → I σ) (h2 : ∀ σ, I2 σ → J2 σ) : Op_13 E d J J2 := fun a0 σ hJ => (h a0 σ (h1 σ hJ)).mono (fun _ _ q => q.mono (fun _ σ2 z => ⟨z.1, h2 σ2 z.2⟩))
theorem Op_14.mono {E : En_t} {d : Nat} {I I2 J J2 : S_t → Prop} (h : Op_14 E d I I2) (h1 : ∀ σ, J σ → I σ) (h2 : ∀ σ, I2 σ → J2 σ) : Op_14 E d J J2 := fun a0 a1 a2 a3 σ hJ => (h a0 a1 a2 a3 σ (h1 σ hJ)).mono (fun _ _ q => q.mono (fun _ σ2 z => ⟨z.1, h2 σ2 z.2⟩))
theorem Op_15.mono {E : En_t} {d : Nat} {I I2 J J2 : S_t → Prop} (h : Op_15 E d I I2) (h1 : ∀ σ, J σ → I σ) (h2 : ∀ σ, I2 σ → J2 σ) : Op_15 E d J J2 := fun a0 a1 a2 σ hJ => (h a0 a1 a2 σ (h1 σ hJ)).mono (fun _ _ q => q.mono (fun _ σ2 z => ⟨z.1, h2 σ2 z.2⟩))
theorem Op_16.mono {E : En_t} {d : Nat} {I I2 J J2 : S_t → Prop} (h : Op_16 E d I I2) (h1 : ∀ σ, J σ → I σ) (h2 : ∀ σ, I2 σ → J2 σ) : Op_16 E d J J2 := fun a0 a1 a2 σ hJ => (h a0 a1 a2 σ (h1 σ hJ)).mono (fun _ _ q => q.mono (fun _ σ2 z => ⟨z.1, h2 σ2 z.2⟩))
theorem Op_17.mono {E : En_t} {d : Nat} {I I2 J J2 : S_t → Prop} (h : Op_17 E d I I2) (h1 : ∀ σ, J σ → I σ) (h2 : ∀ σ, I2 σ → J2 σ) : Op_17 E d J J2 := fun a0 a1 a2 σ hJ => (h a0 a1 a2 σ (h1 σ hJ)).mono (fun _ _ q => q.mono (fun _ σ2 z => ⟨z.1, h2 σ2 z.2⟩))
theorem Op_18.mono {E : En_t} {d : Nat} {I I2 J J2 : S_t → Prop} (h : Op_18 E d I I2) (h1 : ∀ σ, J σ → I σ) (h2 : ∀ σ, I2 σ → J2 σ) : Op_18 E d J J2 := fun a0 σ hJ => (h a0 σ (h1 σ hJ)).mono (fun _ _ q => q.mono (fun _ σ2 z => ⟨z.1, h2 σ2 z.2⟩))
def Fre (σ : S_t) : Prop := Sim EmSh σ ∧ EmTp σ ∧ ∃ t, gR σ 49 9 = some t ∧ kindP t = 11
def I1 (n : Nat) (σ : S_t) : Prop := n = 0 → Fre σ
theorem ops_1 (E : En_t) : OpsE E 40 (I1 0) (I1 1) := by
  have f : ∀ σ, I1 0 σ → Fre σ := fun σ h => h rfl
  have f1 : ∀ σ, I1 0 σ → Sim EmSh σ := fun σ h => (f σ h).1
  have f2 : ∀ σ, I1 0 σ → EmSh σ := fun σ h => by
    obtain ⟨tp, o, t1, t2, t3, t4, o1, o2, o3, pl, hs⟩ := f1 σ h
    exact hs
  have g : ∀ {J : S_t → Prop} (σ : S_t), J σ → I1 1 σ := fun σ _ h => absurd h (by decide)
  have fi : ∀ σ, I1 0 σ → I1 0 σ := fun σ h => h
  exact ⟨(op_feed EmSh_fr).mono f1 g, (op_end EmSh_fr).mono f1 g, (op_take EmSh_fr).mono f1 g, (em_numeral (fun σ h => (f σ h).2.1)).mono fi g, (op_print EmSh_fr).mono f1 g, (op_round EmSh_fr).mono f1 g, op_out.mono f1 g, (em_document (fun σ h => ⟨(f σ h).2.1, (f σ h).2.2⟩)).mono fi g, op_place.mono f1 g, (em_form f2).mono fi g, (em_value f2).mono fi g, (em_bits f2).mono fi g, (em_character f2).mono fi g, (em_point (fun σ h => ⟨(f σ h).2.1, f2 σ h⟩)).mono fi g, (em_same f2).mono fi g, (em_merge f2).mono fi g, (em_patch f2).mono fi g, (em_part f2).mono fi g, (op_about (fun σ h => h.1)).mono f1 g⟩
theorem fresh_N : ShN (σMo (σCp σ0)) := by
  intro i hi
  match i, hi with
  | 0, _ => exact ⟨72, 0, rfl, rfl, by decide, rfl, Or.inl rfl, ⟨fun _ => rfl, fun _ => rfl⟩, fun z => absurd rfl z⟩
  | 1, _ => exact ⟨84, 0, rfl, rfl, by decide, rfl, Or.inl rfl, ⟨fun _ => rfl, fun _ => rfl⟩, fun z => absurd rfl z⟩
  | 2, _ => exact ⟨96, 0, rfl, rfl, by decide, rfl, Or.inl rfl, ⟨fun _ => rfl, fun _ => rfl⟩, fun z => absurd rfl z⟩
  | 3, _ => exact ⟨108, 0, rfl, rfl, by decide, rfl, Or.inl rfl, ⟨fun _ => rfl, fun _ => rfl⟩, fun z => absurd rfl z⟩
  | 4, _ => exact ⟨120, 0, rfl, rfl, by decide, rfl, Or.inl rfl, ⟨fun _ => rfl, fun _ => rfl⟩, fun z => absurd rfl z⟩
  | 5, _ => exact ⟨132, 0, rfl, rfl, by decide, rfl, Or.inl rfl, ⟨fun _ => rfl, fun _ => rfl⟩, fun z => absurd rfl z⟩
  | 6, _ => exact ⟨144, 0, rfl, rfl, by decide, rfl, Or.inl rfl, ⟨fun _ => rfl, fun _ => rfl⟩, fun z => absurd rfl z⟩
  | 7, _ => exact ⟨156, 0, rfl, rfl, by decide, rfl, Or.inl rfl, ⟨fun _ => rfl, fun _ => rfl⟩, fun z => absurd rfl z⟩
  | i + 8, h => exact absurd h (by omega)
theorem fresh_8 : ∀ i, i < 8 → gI (σMo (σCp σ0)) 8 i = 0 := by
  intro i hi
  match i, hi with
  | 0, _ => rfl
  | 1, _ => rfl
  | 2, _ => rfl
  | 3, _ => rfl
  | 4, _ => rfl
  | 5, _ => rfl
  | 6, _ => rfl
  | 7, _ => rfl
  | i + 8, h => exact absurd h (by omega)
theorem fresh : I1 0 (σMo (σCp σ0)) := by
  intro _
  have nt : ∀ {P : Nat → Prop} (k : Nat), k < ([] : List Nat).length → P k := fun k hk => absurd hk (Nat.not_lt_zero k)
  refine ⟨⟨[], [], ⟨rfl, fun k hk => nt (P := fun k => gI (σMo (σCp σ0)) 1 k = nI (gA [] k)) k hk⟩, ⟨rfl, fun k hk => nt (P := fun k => gI (σMo (σCp σ0)) 52 k = bC (gA [] k)) k hk⟩, by decide, Bt_nil, ⟨rfl, rfl, fun k hk => absurd hk (by simp)⟩, ⟨rfl, by decide, fun k hk => absurd hk (by simp)⟩, Bt_nil, rfl, fresh_N, fresh_8⟩, ⟨rfl, rfl⟩, 168, rfl, rfl⟩
theorem start_6 {p : Program} {e : Env} {s : State} {m : MethodId} {below : List Frame} {meth : Method} {c : Code} (l : Launch) {b L : Nat} {xs : Nat → Int32} (hL : L ≤ 6) (C0 : lw_At p s m meth c b L xs) : W p l e room_1 s m #[Value.ref b] below meth c s.heap [] 0 0 (lw_Z below #[Value.ref b] s) (entryFrame m ([Value.ref b] : List Value).toArray 4) := by
  refine law_start l (by omega) C0 (d := 40) (by decide) I1 fresh (fun n σ _ h => absurd h (by omega)) (fun E n hn => ?_)
  have h0 : n = 0 := by omega
  subst h0
  exact ops_1 E
