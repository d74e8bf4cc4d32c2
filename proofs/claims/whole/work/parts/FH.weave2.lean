def WvP (E : En_t) (σ : S_t) (P : Bool) (L R : List Row) (sm : Nat → Nat → Bool) (jm n : Nat) : Prop := ∀ (d : Nat) (st : Wst) (l : Option Nat) (r e : Nat) (x : Int32) (τ : S_t), 34 ≤ d + e → WeI σ jm τ st → r < R.length → dT R r = e → (∀ i, l = some i → i < L.length ∧ dT L i = e) → OwG st.1 x e (dN R r) (nam R r) → (lE L l - lA L l) + (siz (dT R) R.length r - 1) ≤ n → CV E (d + 1) m_We_weave [pv E 71, .int (oI l), .int (nI r), .int x, .int (nI e)] τ (fun σ' => WeI σ jm σ' (wvv P L R (wlk P L R sm n) st l r e))
def LpP (E : En_t) (σ : S_t) (P : Bool) (L R : List Row) (sm : Nat → Nat → Bool) (jm n : Nat) : Prop := ∀ (d : Nat) (st : Wst) (a ea b eb e c : Nat) (x : Int32) (τ : S_t), 34 ≤ d + e → e ≤ 29 → WeI σ jm τ st → Rg L a ea (e + 1) → Rg R b eb (e + 1) → OwQ st.1 x (e + 1) → (ea - a) + (eb - b) ≤ n → c + ((ea - a) + (eb - b)) ≤ 999 → JE E (d + 1) m_We_weave 205 [(0, pv E 71), (4, .int (nI e)), (6, .int x), (7, .int (nI a)), (8, .int (nI ea)), (9, .int (nI b)), (10, .int (nI eb)), (11, .int (nI c))] [] τ (fun q σ' => q = none ∧ WeI σ jm σ' (wlk P L R sm n st a ea b eb (e + 1)))
theorem Wv_of_Lp {E : En_t} {σ : S_t} {P : Bool} {L R : List Row} {sm : Nat → Nat → Bool} {jl jr jm n : Nat} (hC : WeC σ P L R jl jr jm) (lp : LpP E σ P L R sm jm n) : WvP E σ P L R sm jm n := by
  intro d st l r e x τ hd hI hr he hl hO hn
  have hCt := WeC_at hC hI.1
  obtain ⟨⟨h1, h2, h3, h4, h5⟩, ⟨r0, r1, r2⟩, hP, wL, wR, tL, tR⟩ := id hCt
  have n5 := wR.2.2.2.2.1
  have m5 := wL.2.2.2.2.1
  have ok := wR.2.1 r hr
  have k6 := ok.1
  have k30 := ok.2.1
  have k29 := ok.2.2.1
  obtain ⟨d, rfl⟩ : ∃ d', d = d' + 4 := ⟨d - 4, by omega⟩
  obtain ⟨s1, s2, s3, s4⟩ := siz_spec (f := dT R) (n := R.length) hr
  have kl := kind_tr jl (by omega)
  have kr := kind_tr jr (by omega)
  have km := kind_tr jm (by omega)
  have cr : (nI r).toNatClampNeg = r := nI_clamp (by omega)
  obtain ⟨gl, gl2⟩ := Rg_l wL hl
  have gl3 := gl.1
  have gl4 := gl.2.1
  let Q : Option Value → S_t → Prop := fun q σ' => q = none ∧ WeI σ jm σ' (wvv P L R (wlk P L R sm n) st l r e)
  have at68 : dK R r ≠ 6 ∨ (P = true ∧ obO L l = false) → JE E (d + 4 + 1) m_We_weave 68 [(0, pv E 71), (2, .int (nI r)), (3, .int x)] [] τ Q := by
    intro hc
    have eq : wvv P L R (wlk P L R sm n) st l r e = (cpS st.1 R r e (dN R r), st.2 || (P && nl R r)) := if_pos hc
    refine b_We_weave_68 ⟨_, r2, km, _, r1, kr, (w_whole (d := d) h3 h2 h5 hI wR tR hr (by omega) hO).mono (fun σ3 hq => ?_)⟩
    have hC3 := WeC_at hC hq.1
    have e4 : gI σ3 71 4 = bo st.2 := hq.2.1
    have key : ∀ b, b = (st.2 || (P && nl R r)) → Q none (sI σ3 71 4 (bo b)) := fun b hb => ⟨rfl, by
      show WeI σ jm _ (wvv P L R (wlk P L R sm n) st l r e)
      rw [eq, ← hb]
      exact WeI_set hq⟩
    rw [e4, hC3.2.2.1]
    refine ⟨fun q => b_We_weave_104 (key true ?_), fun q => ⟨fun q2 => key false ?_, fun q2 => (c_hasNullPart (d := d + 3) kr hC3.2.1.2.1 wR hC3.2.2.2.2.2.2 hr).mono (fun v σ4 hv => ?_)⟩⟩
    · cases y : st.2 with
      | false => rw [y] at q; exact absurd rfl q
      | true => rfl
    · rw [bo_0.mp q, bo_0.mp q2]; rfl
    · obtain ⟨rfl, rfl⟩ := hv
      have hP1 : P = true := by
        cases P with
        | false => exact absurd rfl q2
        | true => rfl
      refine ⟨fun z => key false ?_, fun z => b_We_weave_104 (key true ?_)⟩
      · rw [bo_0.mp q, bo_0.mp z, hP1]; rfl
      · have : nl R r = true := by
          cases y : nl R r with
          | false => rw [y] at z; exact absurd rfl z
          | true => rfl
        rw [this, hP1, bo_0.mp q]; rfl
  have at113 : ¬ (dK R r ≠ 6 ∨ (P = true ∧ obO L l = false)) → JE E (d + 4 + 1) m_We_weave 113 [(0, pv E 71), (1, .int (oI l)), (2, .int (nI r)), (3, .int x), (4, .int (nI e)), (5, .int (bo (obO L l)))] [] τ Q := by
    intro hc
    have h6 : dK R r = 6 := Classical.not_not.mp (fun z => hc (Or.inl z))
    have eq : wvv P L R (wlk P L R sm n) st l r e = wlk P L R sm n (adR st.1 (likR R r e (dN R r)), st.2) (lA L l) (lE L l) (r + 1) (r + siz (dT R) R.length r) (e + 1) := if_neg hc
    have e29 := k29 (by omega)
    refine b_We_weave_113 ⟨_, r2, km, _, r1, kr, (w_like (d := d + 1) h3 h2 h5 hI wR tR hr he.symm h6 hO).mono (fun v σ3 hq => ?_)⟩
    obtain ⟨hI3, hQ3⟩ := hq
    obtain ⟨_, ⟨q0, q1, q2⟩, qP, _, _, qL, qR⟩ := WeC_at hC hI3.1
    have at172 : JE E (d + 4 + 1) m_We_weave 172 [(0, pv E 71), (2, .int (nI r)), (4, .int (nI e)), (6, .int v), (7, .int (nI (lA L l)))] [.int (nI (lE L l))] σ3 Q := by
      refine b_We_weave_172 ⟨_, q1, kr, _, q1, kr, vin (by omega) (by decide), fun r3 e3 => ?_⟩
      rw [cr, qR.1.2.2.1, qR.2 r hr, nI_add, mn_n (by omega) (by omega), show min R.length (r + siz (dT R) R.length r) = r + siz (dT R) R.length r by omega] at e3
      rw [e3, nI_1]
      show JE E (d + 4 + 1) m_We_weave 205 _ [] σ3 (fun q σ' => q = none ∧ WeI σ jm σ' (wvv P L R (wlk P L R sm n) st l r e))
      rw [eq]
      refine lp (d + 4) _ _ _ _ _ e 0 v σ3 hd (by omega) hI3 gl (Rg_open wR hr he h6).1 hQ3 (by omega) ?_
      have : lE L l - lA L l ≤ 499 := by
        revert gl2
        cases l with
        | none => intro z; exact Nat.le_trans z (Nat.zero_le _)
        | some i =>
          intro z
          have := (siz_spec (f := dT L) (n := L.length) (hl i rfl).1).2.1
          have z' : lE L (some i) - lA L (some i) ≤ siz (dT L) L.length i - 1 := z
          omega
      omega
    cases ho : obO L l with
    | false =>
      have ea : lA L l = 0 := if_neg (by rw [ho]; decide)
      have eb : lE L l = 0 := if_neg (by rw [ho]; decide)
      rw [ea, eb] at at172
      exact ⟨fun _ => b_We_weave_140 ⟨fun _ => at172, fun q => absurd rfl q⟩, fun q => absurd rfl q⟩
    | true =>
      cases l with
      | none => cases ho
      | some i =>
        obtain ⟨hi, hie⟩ := hl i rfl
        have ea : lA L (some i) = i + 1 := if_pos ho
        have eb : lE L (some i) = i + siz (dT L) L.length i := if_pos ho
        have hz := (siz_spec (f := dT L) (n := L.length) hi).2.1
        rw [ea, eb] at at172
        refine ⟨fun q => absurd q (by decide), fun _ => b_We_weave_140 ⟨fun q => absurd q (by decide), fun _ => ⟨_, q0, kl, _, q0, kl, vin (by omega) (by decide), fun r3 e3 => ?_⟩⟩⟩
        rw [show oI (some i) = nI i from rfl, nI_clamp (by omega), qL.1.2.2.1, qL.2 i hi, nI_add, mn_n (by omega) (by omega), show min L.length (i + siz (dT L) L.length i) = i + siz (dT L) L.length i by omega] at e3
        rw [e3, show oI (some i) + (1 : Int32) = nI (i + 1) from nI_1 i]
        exact at172
  have at40 : JE E (d + 4 + 1) m_We_weave 40 [(0, pv E 71), (1, .int (oI l)), (2, .int (nI r)), (3, .int x), (4, .int (nI e))] [.int (bo (obO L l))] τ Q := by
    refine b_We_weave_40 ⟨_, r1, kr, vin (by omega) (by decide), ?_⟩
    rw [cr, (tR.1.2.2.2.2 r hr).1, hP]
    refine ⟨fun q => at68 (Or.inl (fun z => q (by rw [z]; rfl))), fun q => ?_⟩
    have h6 : dK R r = 6 := (nI_eq (b := 6) (by omega) (by decide)).mp q
    refine ⟨fun z => at113 ?_, fun z => ⟨fun y => at113 ?_, fun y => at68 (Or.inr ⟨?_, bo_0.mp y⟩)⟩⟩
    · rintro (w | w)
      · exact w h6
      · rw [bo_0.mp z] at w; exact absurd w.1 (by decide)
    · rintro (w | w)
      · exact w h6
      · rw [w.2] at y; exact y rfl
    · cases P with
      | false => exact absurd rfl z
      | true => rfl
  refine CE.of (L := [(0, pv E 71), (1, .int (oI l)), (2, .int (nI r)), (3, .int x), (4, .int (nI e))]) rfl (Nat.le_of_ble_eq_true rfl) rfl (b_We_weave_0 (d := d + 4) ⟨fun _ => ?_, fun q => absurd (nI_le (b := 30) (by omega) (by omega)) q⟩)
  cases l with
  | none => exact ⟨fun _ => b_We_weave_39 at40, fun q => absurd rfl q⟩
  | some i =>
    obtain ⟨hi, hie⟩ := hl i rfl
    refine ⟨fun q => (nI_neg1 (show i < 2 ^ 31 by omega) q.symm).elim, fun _ => ⟨_, r0, kl, vin (by omega) (by decide), ?_⟩⟩
    have kL := (wL.2.1 i hi).1
    rw [show oI (some i) = nI i from rfl, nI_clamp (by omega), (tL.1.2.2.2.2 i hi).1]
    refine ⟨fun q => b_We_weave_39 ?_, fun q => ?_⟩
    · have : obO L (some i) = false := decide_eq_false (fun z => q (by rw [z]; rfl))
      rw [this] at at40; exact at40
    · have : obO L (some i) = true := decide_eq_true ((nI_eq (b := 6) (by omega) (by decide)).mp q)
      rw [this] at at40; exact at40
