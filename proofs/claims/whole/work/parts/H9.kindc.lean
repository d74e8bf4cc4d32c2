theorem c_kindC {E : En_t} {d p : Nat} {l : List Nat} {σ : S_t} (hb : Bt l) : CI E d m_Re_kindBegunBy [.int (hr l p)] σ (fun r σ' => r = oI (kdb l p) ∧ σ' = σ) := by
  have kc : ∀ c, c < 256 → (hr l p = nI c ↔ Chr l p c) := fun c hc => hr_chr hb (by omega)
  have one : ∀ c c', c ≠ c' → Chr l p c → ¬ Chr l p c' := fun c c' h a b => h (by rw [← a.2, b.2])
  refine CE.of (L := [(0, .int (hr l p))]) rfl (Nat.le_of_ble_eq_true rfl) rfl (b_Re_kindBegunBy_0 ⟨fun q => ⟨_, rfl, ?_, rfl⟩, fun q => ⟨_, rfl, ?_, rfl⟩, fun q => ⟨_, rfl, ?_, rfl⟩, fun q => ⟨_, rfl, ?_, rfl⟩, fun q => ⟨_, rfl, ?_, rfl⟩, fun q => ⟨_, rfl, ?_, rfl⟩, fun n1 n2 n5 n4 n6 n3 => ?_⟩)
  · have y := (kc 34 (by decide)).mp q
    have e : kdb l p = some 4 := if_pos y
    rw [e]; rfl
  · have y := (kc 91 (by decide)).mp q
    have e : kdb l p = some 5 := by unfold kdb; rw [if_neg (one 91 34 (by decide) y), if_pos y]
    rw [e]; rfl
  · have y := (kc 102 (by decide)).mp q
    have e : kdb l p = some 1 := by unfold kdb; rw [if_neg (one 102 34 (by decide) y), if_neg (one 102 91 (by decide) y), if_neg (one 102 123 (by decide) y), if_neg (one 102 110 (by decide) y), if_pos y]
    rw [e]; rfl
  · have y := (kc 110 (by decide)).mp q
    have e : kdb l p = some 0 := by unfold kdb; rw [if_neg (one 110 34 (by decide) y), if_neg (one 110 91 (by decide) y), if_neg (one 110 123 (by decide) y), if_pos y]
    rw [e]; rfl
  · have y := (kc 116 (by decide)).mp q
    have e : kdb l p = some 2 := by unfold kdb; rw [if_neg (one 116 34 (by decide) y), if_neg (one 116 91 (by decide) y), if_neg (one 116 123 (by decide) y), if_neg (one 116 110 (by decide) y), if_neg (one 116 102 (by decide) y), if_pos y]
    rw [e]; rfl
  · have y := (kc 123 (by decide)).mp q
    have e : kdb l p = some 6 := by unfold kdb; rw [if_neg (one 123 34 (by decide) y), if_neg (one 123 91 (by decide) y), if_pos y]
    rw [e]; rfl
  · have e : kdb l p = if Chr l p 45 ∨ Dgt l p then some 3 else none := by unfold kdb; rw [if_neg (fun z => n1 ((kc 34 (by decide)).mpr z)), if_neg (fun z => n2 ((kc 91 (by decide)).mpr z)), if_neg (fun z => n3 ((kc 123 (by decide)).mpr z)), if_neg (fun z => n4 ((kc 110 (by decide)).mpr z)), if_neg (fun z => n5 ((kc 102 (by decide)).mpr z)), if_neg (fun z => n6 ((kc 116 (by decide)).mpr z))]
    have hd := hr_digs (a := p) hb
    refine ⟨fun q => J_sub [] rfl (b_Re_kindBegunBy_91 ⟨_, rfl, ?_, rfl⟩), fun n7 => ⟨fun q => ⟨_, rfl, ?_, rfl⟩, fun q => ⟨fun q2 => ⟨_, rfl, ?_, rfl⟩, fun q2 => J_sub [] rfl (b_Re_kindBegunBy_91 ⟨_, rfl, ?_, rfl⟩)⟩⟩⟩
    · rw [e, if_pos (Or.inl ((kc 45 (by decide)).mp q))]; rfl
    · rw [e, if_neg (fun y => y.elim (fun z => n7 ((kc 45 (by decide)).mpr z)) (fun z => (hd.mpr z).1 q))]; rfl
    · rw [e, if_neg (fun y => y.elim (fun z => n7 ((kc 45 (by decide)).mpr z)) (fun z => (hd.mpr z).2 q2))]; rfl
    · rw [e, if_pos (Or.inr (hd.mp ⟨q, q2⟩))]; rfl
