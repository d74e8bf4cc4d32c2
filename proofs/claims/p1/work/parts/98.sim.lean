/-! the two objects side by side: tape, out, place; Sh: what holds of the shelves -/
def Bt (l : List Nat) : Prop := ∀ x ∈ l, x < 256
theorem Bt_nil : Bt [] := fun x h => absurd h List.not_mem_nil
theorem Bt_app {a b : List Nat} (h : Bt a) (g : Bt b) : Bt (a ++ b) := fun x hx => (List.mem_append.mp hx).elim (h x) (g x)
theorem Bt_one {x : Nat} (h : x < 256) : Bt [x] := fun y hy => by rw [List.mem_singleton] at hy; rw [hy]; exact h
theorem Bt_if {c : Prop} [Decidable c] {a b : List Nat} (h : Bt a) (g : Bt b) : Bt (if c then a else b) := by split <;> assumption
theorem Bt_gl {F : Nat → List Nat} : ∀ {n : Nat}, (∀ i, i < n → Bt (F i)) → Bt (gl F n)
  | 0, _ => Bt_nil
  | n + 1, h => Bt_app (Bt_gl (fun i hi => h i (by omega))) (h n (by omega))
theorem Bt_gA {l : List Nat} (h : Bt l) (k : Nat) : gA l k < 256 := by
  unfold gA
  rw [List.getD_eq_getElem?_getD]
  cases hk : l[k]? with
  | none => show (0 : Nat) < 256; decide
  | some x => exact h x (List.mem_of_getElem? hk)
theorem Bt_take {l : List Nat} (h : Bt l) (n : Nat) : Bt (l.take n) := fun x hx => h x (List.mem_of_mem_take hx)
theorem Bt_num (n : Nat) (hn : n < 1000) : Bt (numL n) := by
  unfold numL
  exact Bt_app (Bt_app (Bt_if (Bt_one (by omega)) Bt_nil) (Bt_if (Bt_one (by omega)) Bt_nil)) (Bt_one (by omega))
theorem Bt_zr (n : Nat) : Bt (zrL n) := Bt_gl (fun _ _ => Bt_one (by decide))
theorem Bt_pw {p : Int} (h1 : -990 ≤ p) (h2 : p ≤ 990) : Bt (pwL p) := by
  unfold pwL
  exact Bt_app (Bt_app (Bt_one (by decide)) (Bt_one (by split <;> decide))) (Bt_num _ (by omega))
theorem Bt_dg {T : Nat → Nat} {c n : Nat} (h : ∀ i, i < c → T i < 10) : Bt (dgL T c n) := Bt_gl (fun i _ => by
  unfold dgF
  refine Bt_app (Bt_if (Bt_one (by decide)) Bt_nil) (Bt_one ?_)
  by_cases g : i < c
  · rw [if_pos g]; have := h i g; omega
  · rw [if_neg g]; decide)
theorem Bt_pl {T : Nat → Nat} {c : Nat} {p : Int} (h : ∀ i, i < c → T i < 10) : Bt (plL T c p) := by
  unfold plL
  refine Bt_app (Bt_app (Bt_if (Bt_app (Bt_app (Bt_one (by decide)) (Bt_one (by decide))) (Bt_zr _)) Bt_nil) (Bt_gl (fun i hi => ?_))) (Bt_zr _)
  unfold plF
  have := h i hi
  exact Bt_app (Bt_if (Bt_one (by decide)) Bt_nil) (Bt_one (by omega))
theorem Bt_SpB {B : Nat} {m : List Nat} (h : SpB B m) : Bt m := by
  rcases h with ⟨_, rfl⟩ | ⟨_, T, c, p, Z, up, _, _, _, hT, _, _, _, hp1, hp2, rfl⟩
  · exact Bt_one (by decide)
  · refine Bt_app (Bt_if Bt_nil (Bt_one (by decide))) ?_
    unfold spL
    exact Bt_if (Bt_app (Bt_dg hT) (Bt_pw (by omega) (by omega))) (Bt_pl hT)
theorem Rnd_lt {D R : Nat → Nat} {n dp : Nat} (hD : ∀ i, D i < 10) (h : Rnd D n R dp) : (∀ i, i < n → R i < 10) ∧ dp ≤ 1 := by
  rcases h with ⟨_, a2, a3⟩ | ⟨_, ⟨k, b1, b2, b3, b4, b5⟩ | ⟨b1, b2, b3⟩⟩
  · exact ⟨fun i hi => by rw [a3 i hi]; exact hD i, by omega⟩
  · refine ⟨fun i hi => ?_, by omega⟩
    rw [b5 i hi]
    have := hD k
    rcases Nat.lt_trichotomy i k with q | q | q
    · rw [upT_lt q]; exact hD i
    · subst q; rw [upT_eq]; omega
    · rw [upT_gt q]; decide
  · exact ⟨fun i hi => by rw [b3 i hi]; split <;> decide, by omega⟩
/-- the point of a number, for its digits -/
theorem DecB_p {b : Nat} {D : Nat → Nat} {p : Int} (hb2 : b < 9218868437227405312) (h : DecB b D p) : (∀ i, D i < 10) ∧ -400 ≤ p ∧ p ≤ 400 := by
  rcases h with ⟨_, a1, a2⟩ | ⟨a0, a1, a2, a3, a4, N, a5, a6, a7, a8⟩
  · exact ⟨fun i => by rw [a1]; decide, by omega, by omega⟩
  · refine ⟨a1, ?_⟩
    have hb : 0 < b := by
      rcases Nat.eq_zero_or_pos b with q | q
      · subst q
        have : mB 0 = 0 := rfl
        omega
      · exact q
    have hfin : b / 2 ^ 52 ≤ 2046 := by rw [show (2 : Nat) ^ 52 = 4503599627370496 from rfl]; omega
    have c1 := SVd_lo (p := p) a2 a5 (by omega)
    have c2 := SVd_hi (p := p) (fun k (_ : k < N) => a1 k) (by omega)
    rw [a8] at c1 c2
    have d1 := p10_lt (Nat.lt_trans (FV_lo hb) c2)
    have d2 := p10_lt (Nat.lt_of_le_of_lt c1 (FV_hi hfin))
    exact ⟨by omega, by omega⟩
theorem Bt_RnL {B n : Nat} {m : List Nat} (hf : B % 2 ^ 63 < 9218868437227405312) (h : RnL B n m) : Bt m := by
  obtain ⟨D, p, R, dp, h1, h2, rfl⟩ := h
  obtain ⟨d1, d2, d3⟩ := DecB_p hf h1
  obtain ⟨r1, r2⟩ := Rnd_lt d1 h2
  exact Bt_app (Bt_if Bt_nil (Bt_one (by decide))) (Bt_app (Bt_dg r1) (Bt_pw (by omega) (by omega)))
def ShD (p k : Nat) : Prop := (8 ≤ p ∧ p ≤ 27) ∨ p = 40 ∨ p = 50 ∨ 72 ≤ p
def ShFr (Sh : S_t → Prop) : Prop := ∀ (σ σ' : S_t), (∀ p k, ShD p k → gI σ' p k = gI σ p k) → σ'.2 = σ.2 → Sh σ → Sh σ'
def Sim (Sh : S_t → Prop) (σ : S_t) : Prop := ∃ tp o : List Nat, TpM σ tp ∧ TpC σ tp ∧ tp.length ≤ 2000 ∧ Bt tp ∧ OuM σ o ∧ OuC σ o ∧ Bt o ∧ gI σ 0 42 = gI σ 49 10 ∧ Sh σ
/-- σ' is σ but for the cells of M -/
theorem Sh_fr {Sh : S_t → Prop} (hSh : ShFr Sh) {M : Nat → Nat → Prop} {σ σ' : S_t} (hF : Fs M σ σ') (hM : ∀ p k, ShD p k → ¬ M p k) (h : Sh σ) : Sh σ' := hSh σ σ' (fun p k hp => hF.1 p k (hM p k hp)) hF.2 h
theorem TpM_fr {M : Nat → Nat → Prop} {σ σ' : S_t} {l : List Nat} (hF : Fs M σ σ') (h1 : ¬ M 0 1) (h2 : ∀ k, ¬ M 1 k) (h : TpM σ l) : TpM σ' l := ⟨by rw [hF.1 0 1 h1]; exact h.1, fun k hk => by rw [hF.1 1 k (h2 k)]; exact h.2 k hk⟩
theorem TpC_fr {M : Nat → Nat → Prop} {σ σ' : S_t} {l : List Nat} (hF : Fs M σ σ') (h1 : ¬ M 51 1) (h2 : ∀ k, ¬ M 52 k) (h : TpC σ l) : TpC σ' l := ⟨by rw [hF.1 51 1 h1]; exact h.1, fun k hk => by rw [hF.1 52 k (h2 k)]; exact h.2 k hk⟩
theorem OuM_fr {M : Nat → Nat → Prop} {σ σ' : S_t} {l : List Nat} (hF : Fs M σ σ') (h1 : ¬ M 0 3) (h3 : ¬ M 0 4) (h2 : ∀ k, ¬ M 2 k) (h : OuM σ l) : OuM σ' l := ⟨by rw [hF.1 0 3 h1]; exact h.1, by rw [hF.1 0 4 h3]; exact h.2.1, fun k hk => by rw [hF.1 2 k (h2 k)]; exact h.2.2 k hk⟩
theorem OuC_fr {M : Nat → Nat → Prop} {σ σ' : S_t} {l : List Nat} (hF : Fs M σ σ') (h1 : ¬ M 53 1) (h2 : ∀ k, ¬ M 54 k) (h : OuC σ l) : OuC σ' l := ⟨by rw [hF.1 53 1 h1]; exact h.1, h.2.1, fun k hk => by rw [hF.1 54 k (h2 k)]; exact h.2.2 k hk⟩
theorem n1_neg : (-1 : Int32) = -1 := rfl
def MCTp : Nat → Nat → Prop := fun p k => MTp p k ∨ CTp p k
theorem op_feed {E : En_t} {Sh : S_t → Prop} (hSh : ShFr Sh) : Op_0 E 40 (Sim Sh) (Sim Sh) := by
  intro a0 a1 a2 a3 a4 σ ⟨tp, o, t1, t2, t3, t4, o1, o2, o3, pl, hs⟩
  refine (c_feedC (d := 39) t2 t3).mono (fun r1 σ1 hq1 => ?_)
  have nC : ∀ p k, CTp p k → p = 51 ∨ p = 52 := fun p k h => by unfold CTp at h; omega
  have nM : ∀ p k, MTp p k → p = 1 ∨ (p = 0 ∧ k = 1) := fun p k h => h
  rcases hq1 with ⟨g, rfl, rfl⟩ | ⟨g, F1, T1, rfl⟩
  · refine (c_feedM (d := 39) t1 t3).mono (fun r2 σ2 hq2 => ?_)
    rcases hq2 with ⟨g2, rfl, rfl⟩ | ⟨g2, _⟩
    · exact ⟨rfl, tp, o, t1, t2, t3, t4, o1, o2, o3, pl, hs⟩
    · omega
  · have t1' : TpM σ1 tp := TpM_fr F1 (by unfold CTp; omega) (fun k => by unfold CTp; omega) t1
    refine (c_feedM (d := 39) t1' t3).mono (fun r2 σ2 hq2 => ?_)
    rcases hq2 with ⟨g2, _⟩ | ⟨g2, F2, T2, rfl⟩
    · omega
    · have F3 : Fs MCTp σ σ2 := (F1.mono (fun _ _ q => Or.inr q)).tr (F2.mono (fun _ _ q => Or.inl q))
      have b4 : ∀ x : Int32, Bt (by4 x) := fun x => Bt_app (Bt_app (Bt_app (Bt_one (Nat.mod_lt _ (by decide))) (Bt_one (Nat.mod_lt _ (by decide)))) (Bt_one (Nat.mod_lt _ (by decide)))) (Bt_one (Nat.mod_lt _ (by decide)))
      have nn : ∀ {p k : Nat}, MCTp p k → (p = 1 ∨ (p = 0 ∧ k = 1)) ∨ p = 51 ∨ p = 52 := fun {p k} h => by unfold MCTp MTp CTp at h; omega
      refine ⟨rfl, _, o, T2, TpC_fr F2 (by unfold MTp; omega) (fun k => by unfold MTp; omega) T1, ?_, Bt_app t4 (Bt_app (Bt_app (Bt_app (Bt_app (b4 _) (b4 _)) (b4 _)) (b4 _)) (b4 _)), OuM_fr F3 (fun q => by have := nn q; omega) (fun q => by have := nn q; omega) (fun k q => by have := nn q; omega) o1, OuC_fr F3 (fun q => by have := nn q; omega) (fun k q => by have := nn q; omega) o2, o3, ?_, Sh_fr hSh F3 (fun p k hp q => by have := nn q; unfold ShD at hp; omega) hs⟩
      · rw [List.length_append]
        simp only [List.length_append, by4_len]
        omega
      · rw [F3.1 0 42 (fun q => by have := nn q; omega), F3.1 49 10 (fun q => by have := nn q; omega)]; exact pl
theorem op_end {E : En_t} {Sh : S_t → Prop} (hSh : ShFr Sh) : Op_1 E 40 (Sim Sh) (Sim Sh) := by
  intro a0 σ ⟨tp, o, t1, t2, t3, t4, o1, o2, o3, pl, hs⟩
  refine (c_endC (d := 40) t2 t3).mono (fun r1 σ1 hq1 => ?_)
  rcases hq1 with ⟨g, rfl, rfl⟩ | ⟨n, rfl, hn, rfl, F1, T1⟩
  · refine (c_endM (d := 40) t1 t3).mono (fun r2 σ2 hq2 => ?_)
    rcases hq2 with ⟨g2, rfl, rfl⟩ | ⟨n, e, hn, _⟩
    · exact ⟨rfl, tp, o, t1, t2, t3, t4, o1, o2, o3, pl, hs⟩
    · exfalso
      rw [e] at g
      rcases g with g | g
      · exact nI_pos (by omega) g
      · exact g (nI_le hn (by omega))
  · have t1' : TpM σ1 tp := TpM_fr F1 (by unfold CTp; omega) (fun k => by unfold CTp; omega) t1
    refine (c_endM (d := 40) t1' t3).mono (fun r2 σ2 hq2 => ?_)
    rcases hq2 with ⟨g2, _⟩ | ⟨n2, e, hn2, rfl, F2, T2⟩
    · exfalso
      rcases g2 with g | g
      · exact nI_pos (by omega) g
      · exact g (nI_le hn (by omega))
    · have en : n = n2 := (nI_eq (by omega) (by omega)).mp e
      subst en
      have F3 : Fs MCTp σ σ2 := (F1.mono (fun _ _ q => Or.inr q)).tr (F2.mono (fun _ _ q => Or.inl q))
      have nn : ∀ {p k : Nat}, MCTp p k → (p = 1 ∨ (p = 0 ∧ k = 1)) ∨ p = 51 ∨ p = 52 := fun {p k} h => by unfold MCTp MTp CTp at h; omega
      refine ⟨rfl, _, o, T2, TpC_fr F2 (by unfold MTp; omega) (fun k => by unfold MTp; omega) T1, ?_, Bt_take t4 n, OuM_fr F3 (fun q => by have := nn q; omega) (fun q => by have := nn q; omega) (fun k q => by have := nn q; omega) o1, OuC_fr F3 (fun q => by have := nn q; omega) (fun k q => by have := nn q; omega) o2, o3, ?_, Sh_fr hSh F3 (fun p k hp q => by have := nn q; unfold ShD at hp; omega) hs⟩
      · rw [List.length_take]; omega
      · rw [F3.1 0 42 (fun q => by have := nn q; omega), F3.1 49 10 (fun q => by have := nn q; omega)]; exact pl
theorem op_out {E : En_t} {Sh : S_t → Prop} : Op_6 E 40 (Sim Sh) (Sim Sh) := by
  intro a0 σ ⟨tp, o, t1, t2, t3, t4, o1, o2, o3, pl, hs⟩
  refine (c_outC (d := 38) o2 (Bt_gA o3)).mono (fun r1 σ1 hq1 => ?_)
  obtain ⟨h1, rfl⟩ := hq1
  refine (c_outM (d := 40) o1).mono (fun r2 σ2 hq2 => ?_)
  obtain ⟨h2, rfl⟩ := hq2
  exact ⟨outA_uniq h1 h2, tp, o, t1, t2, t3, t4, o1, o2, o3, pl, hs⟩
theorem op_place {E : En_t} {Sh : S_t → Prop} : Op_8 E 40 (Sim Sh) (Sim Sh) := by
  intro σ hI
  refine CE.of (L := [(0, pv E 49)]) rfl (Nat.le_of_ble_eq_true rfl) rfl (b_Cp_place_0 ⟨_, rfl, ?_⟩)
  refine CE.of (L := [(0, pv E 0)]) rfl (Nat.le_of_ble_eq_true rfl) rfl (b_Mo_place_0 ⟨_, rfl, ?_, hI⟩)
  obtain ⟨tp, o, t1, t2, t3, t4, o1, o2, o3, pl, hs⟩ := hI
  exact pl.symm
def MPr : Nat → Nat → Prop := fun p k => MW p k ∨ MX p k
def MRd : Nat → Nat → Prop := fun p k => MW p k ∨ MY p k
theorem MW_pl {p k : Nat} (h : MW p k) : p = 53 ∧ k = 1 ∨ p = 54 ∨ p = 60 ∨ (p = 59 ∧ (k = 2 ∨ k = 3)) ∨ p = 61 ∨ p = 62 := by
  unfold MW MO PB PM BP at h; omega
theorem MX_pl {p k : Nat} (h : MX p k) : (p = 0 ∧ (k = 3 ∨ k = 4 ∨ k = 6 ∨ k = 7 ∨ (13 ≤ k ∧ k ≤ 16) ∨ k = 18)) ∨ (2 ≤ p ∧ p ≤ 7) := by
  unfold MX MV MS MK MR MT MP MN MU at h; omega
theorem MY_pl {p k : Nat} (h : MY p k) : (p = 0 ∧ (k = 3 ∨ k = 4 ∨ k = 6 ∨ k = 7 ∨ (13 ≤ k ∧ k ≤ 16) ∨ k = 18)) ∨ (2 ≤ p ∧ p ≤ 7) := by
  unfold MY MK MP MN MU at h; omega
/-- what print and round leave -/
theorem Sim_put {Sh : S_t → Prop} (hSh : ShFr Sh) {M : Nat → Nat → Prop} {σ σ2 : S_t} {m : List Nat} (hM : ∀ p k, M p k → MW p k ∨ ((p = 0 ∧ (k = 3 ∨ k = 4 ∨ k = 6 ∨ k = 7 ∨ (13 ≤ k ∧ k ≤ 16) ∨ k = 18)) ∨ (2 ≤ p ∧ p ≤ 7))) (hF : Fs M σ σ2) (hI : Sim Sh σ) (h1 : OuM σ2 m) (h2 : OuC σ2 m) (h3 : Bt m) : Sim Sh σ2 := by
  obtain ⟨tp, o, t1, t2, t3, t4, o1, o2, o3, pl, hs⟩ := hI
  have nn : ∀ {p k : Nat}, M p k → (p = 53 ∧ k = 1 ∨ p = 54 ∨ p = 60 ∨ (p = 59 ∧ (k = 2 ∨ k = 3)) ∨ p = 61 ∨ p = 62) ∨ ((p = 0 ∧ (k = 3 ∨ k = 4 ∨ k = 6 ∨ k = 7 ∨ (13 ≤ k ∧ k ≤ 16) ∨ k = 18)) ∨ (2 ≤ p ∧ p ≤ 7)) := fun {p k} h => (hM p k h).elim (fun q => Or.inl (MW_pl q)) Or.inr
  refine ⟨tp, m, TpM_fr hF (fun q => by have := nn q; omega) (fun k q => by have := nn q; omega) t1, TpC_fr hF (fun q => by have := nn q; omega) (fun k q => by have := nn q; omega) t2, t3, t4, h1, h2, h3, ?_, Sh_fr hSh hF (fun p k hp q => by have := nn q; unfold ShD at hp; omega) hs⟩
  rw [hF.1 0 42 (fun q => by have := nn q; omega), hF.1 49 10 (fun q => by have := nn q; omega)]; exact pl
theorem op_print {E : En_t} {Sh : S_t → Prop} (hSh : ShFr Sh) : Op_4 E 40 (Sim Sh) (Sim Sh) := by
  intro a0 σ hI
  obtain ⟨B, hB, rfl⟩ := wb_of a0
  refine (c_printC (d := 34) hB).mono (fun r1 σ1 hq1 => ?_)
  rcases hq1 with ⟨g, rfl, rfl⟩ | ⟨g, F1, m, hm, O1, rfl⟩
  · refine (c_printM (d := 33) hB).mono (fun r2 σ2 hq2 => ?_)
    rcases hq2 with ⟨_, rfl, rfl⟩ | ⟨g2, _⟩
    · exact ⟨rfl, hI⟩
    · exact absurd g2 g
  · refine (c_printM (d := 33) hB).mono (fun r2 σ2 hq2 => ?_)
    rcases hq2 with ⟨g2, _⟩ | ⟨_, F2, m', hm', O2, _, rfl⟩
    · exact absurd g g2
    · have e := SpB_uniq hm hm'
      subst e
      refine ⟨rfl, Sim_put hSh (M := MPr) (fun p k q => q.imp id MX_pl) ((F1.mono (fun _ _ q => Or.inl q)).tr (F2.mono (fun _ _ q => Or.inr q))) hI O2 (OuC_fr F2 (fun q => by have := MX_pl q; omega) (fun k q => by have := MX_pl q; omega) O1) (Bt_SpB hm)⟩
theorem op_round {E : En_t} {Sh : S_t → Prop} (hSh : ShFr Sh) : Op_5 E 40 (Sim Sh) (Sim Sh) := by
  intro a0 a1 σ hI
  obtain ⟨B, hB, rfl⟩ := wb_of a0
  refine (c_roundC (d := 35) hB).mono (fun r1 σ1 hq1 => ?_)
  rcases hq1 with ⟨g, rfl, rfl⟩ | ⟨g, n, n1, n2, rfl, F1, m, hm, O1, rfl⟩
  · refine (c_roundM (d := 35) hB).mono (fun r2 σ2 hq2 => ?_)
    rcases hq2 with ⟨_, rfl, rfl⟩ | ⟨g2, n, n1, n2, e, _⟩
    · exact ⟨rfl, hI⟩
    · exfalso
      rcases g with g | g | g
      · exact g g2
      · rw [e] at g; exact nI_nlt (b := 1) n1 (by omega) g
      · rw [e] at g; exact g (nI_le (b := 800) n2 (by decide))
  · refine (c_roundM (d := 35) hB).mono (fun r2 σ2 hq2 => ?_)
    rcases hq2 with ⟨g2, _⟩ | ⟨_, n', n1', n2', e, F2, m', hm', O2, _, rfl⟩
    · exfalso
      rcases g2 with g2 | g2 | g2
      · exact g2 g
      · exact nI_nlt (b := 1) n1 (by omega) g2
      · exact g2 (nI_le (b := 800) n2 (by decide))
    · have en : n = n' := (nI_eq (by omega) (by omega)).mp e
      subst en
      have em := RnL_uniq hm hm'
      subst em
      refine ⟨rfl, Sim_put hSh (M := MRd) (fun p k q => q.imp id MY_pl) ((F1.mono (fun _ _ q => Or.inl q)).tr (F2.mono (fun _ _ q => Or.inr q))) hI O2 (OuC_fr F2 (fun q => by have := MY_pl q; omega) (fun k q => by have := MY_pl q; omega) O1) (Bt_RnL g hm)⟩
