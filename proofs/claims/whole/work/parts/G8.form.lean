theorem Bt_u8 {c : Nat} (h : c < 1114112) : Bt (u8 c) := by
  intro x hx
  unfold u8 at hx
  (repeat' split at hx)
  all_goals (simp at hx; omega)
theorem Bt_esc {c : Nat} (h : c < 1114112) : Bt (esc c) := by
  unfold esc
  (repeat' split)
  · intro x hx; simp at hx; omega
  · intro x hx; simp at hx; omega
  · intro x hx; simp at hx; omega
  · intro x hx; simp at hx; omega
  · intro x hx; simp at hx; omega
  · intro x hx; simp at hx; omega
  · have h1 : hx (c / 16) < 256 := by unfold hx; split <;> omega
    have h2 : hx (c % 16) < 256 := by unfold hx; split <;> omega
    intro x hx'
    simp at hx'
    omega
  · exact Bt_u8 h
theorem Bt_escP {s : List Nat} (h : Ltrs s) : ∀ j, j ≤ s.length → Bt (escP s j)
  | 0, _ => Bt_nil
  | j + 1, hj => Bt_app (Bt_escP h j (by omega)) (Bt_esc (by have := h j (by omega); unfold Ltr at this; omega))
theorem Bt_strq {s : List Nat} (h : Ltrs s) : Bt (strq s) := Bt_app (Bt_app (Bt_one (by decide)) (Bt_escP h s.length (Nat.le_refl _))) (Bt_one (by decide))
theorem Bt_sub {g : Nat → Nat} {f : Nat} : ∀ {n : Nat}, (∀ i, i < n → g (f + i) < 256) → Bt (sub g f n)
  | 0, _ => Bt_nil
  | n + 1, h => Bt_app (Bt_sub (fun i hi => h i (by omega))) (Bt_one (h n (by omega)))
theorem Bt_brk (D : List Row) (u : Nat) : Bt (brk D u) := by
  unfold brk
  (repeat' split)
  · exact Bt_one (by decide)
  · exact Bt_one (by decide)
  · exact Bt_nil
theorem Bt_cloF (D : List Row) (top i : Nat) : ∀ f u, Bt (cloF D top i f u)
  | 0, _ => Bt_nil
  | f + 1, u => Bt_if (Bt_app (Bt_brk D u) (Bt_if Bt_nil (Bt_cloF D top i f (par (dT D) u)))) Bt_nil
theorem Bt_frm {D : List Row} {pr : Nat → List Nat} {top : Nat} (hW : WfR D) (hpr : ∀ i, i < D.length → dK D i = 3 → SpB (dB D i) (pr i) ∧ (pr i).length ≤ 26) : ∀ n, top + n ≤ D.length → Bt (frm D pr top n)
  | 0, _ => Bt_nil
  | n + 1, h => by
    have ok := hW.2.1 (top + n) (by omega)
    have w1 : ∀ i, i < 4 → gA wordL (0 + i) < 256 := by decide
    have w2 : ∀ i, i < 5 → gA wordL (4 + i) < 256 := by decide
    have w3 : ∀ i, i < 4 → gA wordL (9 + i) < 256 := by decide
    refine Bt_app (Bt_frm hW hpr n (by omega)) (Bt_app (Bt_app (Bt_if Bt_nil ?_) ?_) (Bt_cloF D top (top + n) 32 (top + n)))
    · exact Bt_app (Bt_if (Bt_one (by decide)) Bt_nil) (Bt_if Bt_nil (Bt_app (Bt_strq ok.2.2.2.2.2.2.1) (Bt_one (by decide))))
    · unfold bdl
      by_cases z : dK D (top + n) = 3
      · rw [if_neg (by omega), if_neg (by omega), if_neg (by omega), if_pos z]
        exact Bt_SpB (hpr _ (by omega) z).1
      · refine Bt_if (Bt_sub w1) (Bt_if (Bt_sub w2) (Bt_if (Bt_sub w3) ?_))
        rw [if_neg z]
        exact Bt_if (Bt_strq ok.2.2.2.2.2.2.2) (Bt_if (Bt_one (by decide)) (Bt_one (by decide)))
def MFo : Nat → Nat → Prop := fun p k => MW p k ∨ MU p k
theorem op_form {E : En_t} : Op_9 E 40 (Sim Shv) (Sim Shv) := by
  intro a0 a1 σ hI
  have hS := Sim_Shv hI
  have hN := Shv_N hS
  refine CE.of (L := [(0, pv E 49), (1, .int a0), (2, .int a1)]) rfl (Nat.le_of_ble_eq_true rfl) rfl (b_Cp_form_0 (d := 39) ((c_hasC (d := 38) hN).mono (fun r σ1 hq => ?_)))
  obtain ⟨rfl, hq⟩ := hq
  rcases hq with ⟨rfl, hn⟩ | ⟨rfl, hy⟩
  · refine ⟨fun q => absurd rfl q, fun _ => ⟨_, rfl, ?_⟩⟩
    refine CE.of (L := [(0, pv E 0), (1, .int a0), (2, .int a1)]) rfl (Nat.le_of_ble_eq_true rfl) rfl (b_Mo_form_0 (d := 39) ((c_hasM (d := 38)).mono (fun r σ2 hq => ?_)))
    obtain ⟨rfl, hq⟩ := hq
    rcases hq with ⟨rfl, z⟩ | ⟨rfl, z⟩
    · exact ⟨fun q => absurd rfl q, fun _ => ⟨_, rfl, rfl, hI⟩⟩
    · exact absurd z hn
  obtain ⟨s, k, t, D, hs, rfl, rfl, hk, hR, hkd, ⟨j, hj, rfl⟩, hW, hM, hT⟩ := Shv_val hS hy
  have h5 := hW.1.2.2.2.2
  obtain ⟨pr, hpr⟩ : ∃ pr : Nat → List Nat, ∀ i, i < D.length → dK D i = 3 → SpB (dB D i) (pr i) ∧ (pr i).length ≤ 26 := by
    have key : ∀ i : Nat, ∃ m : List Nat, i < D.length → dK D i = 3 → SpB (dB D i) m ∧ m.length ≤ 26 := by
      intro i
      rcases Classical.em (i < D.length ∧ dK D i = 3) with z | z
      · obtain ⟨_, _, _, pm, _, _, rows⟩ := id hM
        obtain ⟨a, m, h1, h2, _⟩ := (rows i z.1).2.2.2.2.2.2.2.2.2.2.2.2 z.2
        exact ⟨m, fun _ _ => ⟨h1, h2⟩⟩
      · exact ⟨[], fun z1 z2 => absurd ⟨z1, z2⟩ z⟩
    exact ⟨fun i => Classical.choose (key i), fun i => Classical.choose_spec (key i)⟩
  refine ⟨fun _ => c_clearC.mono (fun σ2 q1 => ?_), fun q => absurd q (by decide)⟩
  obtain ⟨F2, O2⟩ := q1
  have hT2 : TrD σ2 (tr j) D := TrD_w F2 (fun p k a => by unfold MO; unfold tr at a; omega) hT
  refine ⟨vin hs (by decide), tr j, ?_, hkd, ?_⟩
  · rw [nI_clamp (by omega), gR_2 (show σ2.2.2 = σ1.2.2 by rw [F2.2])]; exact hR
  refine (c_write (d := 30) (by omega) hW.1 hT2 hk hpr O2).mono (fun σ3 q2 => ⟨_, rfl, ?_⟩)
  obtain ⟨F3, O3⟩ := q2
  have F13 : Fs MW σ1 σ3 := (F2.mono (fun _ _ q => Or.inl q)).tr F3
  rw [O3.1]
  have mo : ∀ p q, 8 ≤ p → p ≤ 27 → ¬ MW p q := fun p q h1 h2 => by unfold MW MO PB PM BP; omega
  have hy3 : hasV σ3 (nI s) (nI k) := by
    obtain ⟨i', j', e1, e2, e3, e4, e5, e6⟩ := hy
    exact ⟨i', j', e1, e2, e3, e4, by rw [F13.1 8 i' (mo _ _ (by decide) (by decide))]; exact e5, by rw [F13.1 9 i' (mo _ _ (by decide) (by decide))]; exact e6⟩
  have hM3 : MoR σ3 s D := MoR_w F13 (fun p q a b => mo p q a b) hW.1 hM
  refine CE.of (L := [(0, pv E 0), (1, .int (nI s)), (2, .int (nI k))]) rfl (Nat.le_of_ble_eq_true rfl) rfl (b_Mo_form_0 (d := 39) ((c_hasM (d := 38)).mono (fun r σ4 hq => ?_)))
  obtain ⟨rfl, hq⟩ := hq
  rcases hq with ⟨rfl, z⟩ | ⟨rfl, z⟩
  · exact absurd hy3 z
  refine ⟨fun _ => c_clearM.mono (fun σ5 q3 => ?_), fun q => absurd q (by decide)⟩
  obtain ⟨F5, O5⟩ := q3
  have hM5 : MoR σ5 s D := MoR_w F5 (fun p q a b => by unfold MU; omega) hW.1 hM3
  have hw5 : Wrd σ5 := fun c hc => by rw [F5.1 40 c (by unfold MU; omega), F13.1 40 c (by unfold MW MO PB PM BP; omega)]; exact hS.1 c hc
  obtain ⟨_, _, _, pm, _, _, rows⟩ := id hM5
  rw [ix500, nI_clamp (by omega), (rows k hk).2.2.2.2.1, nI_add, show (500 : Int32) * nI s = nI (500 * s) from pk_mul 500 s]
  refine ⟨vin (by omega) (by decide), JE_imp (v_form (d := 36) hs hw5 hW.1 hM5 hk (fun i h1 h2 => (hpr i h1 h2).1) O5) (fun q σ6 hq => ?_)⟩
  obtain ⟨r, rfl, F6, O6, rfl⟩ := hq
  refine ⟨_, rfl, rfl, ?_⟩
  have F56 := F5.tr F6
  refine Sim_put Shv_fr.fr (M := MFo) (fun p q z => z.imp id (fun y => by unfold MU at y; omega)) ((F13.mono (fun _ _ z => Or.inl z)).tr (F56.mono (fun _ _ z => Or.inr z))) hI O6 (OuC_fr F56 (by unfold MU; omega) (fun q => by unfold MU; omega) O3) (Bt_frm hW.1 hpr _ (siz_spec (f := dT D) (n := D.length) hk).2.1)
