/-! blanks, words, what a byte begins -/
abbrev Blk (l : List Nat) (p : Nat) : Prop := p < l.length ∧ (gA l p = 9 ∨ gA l p = 10 ∨ gA l p = 13 ∨ gA l p = 32)
def bkF (l : List Nat) : Nat → Nat → Nat
  | 0, p => p
  | f + 1, p => if Blk l p then bkF l f (p + 1) else p
def bk (l : List Nat) (p : Nat) : Nat := bkF l (l.length - p) p
theorem bkF_fit {l : List Nat} : ∀ (f p : Nat), p ≤ l.length → p ≤ bkF l f p ∧ bkF l f p ≤ l.length
  | 0, p, h => ⟨Nat.le_refl _, h⟩
  | f + 1, p, h => by
    by_cases b : Blk l p
    · have e : bkF l (f + 1) p = bkF l f (p + 1) := if_pos b
      rw [e]
      have := bkF_fit (l := l) f (p + 1) b.1
      exact ⟨by omega, this.2⟩
    · have e : bkF l (f + 1) p = p := if_neg b
      rw [e]; exact ⟨Nat.le_refl _, h⟩
theorem c_blkC {E : En_t} {d p : Nat} {l : List Nat} {σ : S_t} (hT : TpC σ l) (hb : Bt l) (hl : l.length ≤ 2000) (hp : p ≤ l.length) (h2 : gI σ 51 2 = nI p) : CV E (d + 1) m_Te_skipBlanks [pv E 51] σ (fun σ' => Fg (fun p k => p = 51 ∧ k = 2) σ σ' ∧ gI σ' 51 2 = nI (bk l p)) := by
  have blank : ∀ (g : Nat) (τ : S_t), g < 256 → CI E d m_Te_isBlank [.int (bC g)] τ (fun r σ' => σ' = τ ∧ ((r = 0 ∧ ¬ (g = 9 ∨ g = 10 ∨ g = 13 ∨ g = 32)) ∨ (r = 1 ∧ (g = 9 ∨ g = 10 ∨ g = 13 ∨ g = 32)))) := by
    intro g τ hg
    have k0 : ∀ g, g < 256 → (bC g = nI 32 ↔ g = 32) ∧ (bC g = nI 9 ↔ g = 9) ∧ (bC g = nI 10 ↔ g = 10) ∧ (bC g = nI 13 ↔ g = 13) := by decide +kernel
    obtain ⟨k32, k9, k10, k13⟩ := k0 g hg
    have y : (g = 9 ∨ g = 10 ∨ g = 13 ∨ g = 32) → JE E d m_Te_isBlank 24 [] [] τ (fun q σ' => ∃ r, q = some (.int r) ∧ σ' = τ ∧ ((r = 0 ∧ ¬ (g = 9 ∨ g = 10 ∨ g = 13 ∨ g = 32)) ∨ (r = 1 ∧ (g = 9 ∨ g = 10 ∨ g = 13 ∨ g = 32)))) := fun z => b_Te_isBlank_24 ⟨_, rfl, rfl, Or.inr ⟨rfl, z⟩⟩
    refine CE.of (L := [(0, .int (bC g))]) rfl (Nat.le_of_ble_eq_true rfl) rfl (b_Te_isBlank_0 ⟨fun q => J_sub [] rfl (y ?_), fun n1 => ⟨fun q => J_sub [] rfl (y ?_), fun n2 => ⟨fun q => J_sub [] rfl (y ?_), fun n3 => ⟨fun n4 => ⟨_, rfl, rfl, Or.inl ⟨rfl, ?_⟩⟩, fun q => J_sub [] rfl (y ?_)⟩⟩⟩⟩)
    · have := k32.mp q; omega
    · have := k9.mp q; omega
    · have := k10.mp q; omega
    · have m1 : g ≠ 32 := fun z => n1 (k32.mpr z)
      have m2 : g ≠ 9 := fun z => n2 (k9.mpr z)
      have m3 : g ≠ 10 := fun z => n3 (k10.mpr z)
      have m4 : g ≠ 13 := fun z => n4 (k13.mpr z)
      omega
    · have := k13.mp q; omega
  have loop : ∀ (f p : Nat) (τ : S_t), l.length ≤ p + f → Fg (fun p k => p = 51 ∧ k = 2) σ τ → gI τ 51 2 = nI p → p ≤ l.length → JE E (d + 1) m_Te_skipBlanks 0 [(0, pv E 51)] [] τ (fun q σ' => q = none ∧ Fg (fun p k => p = 51 ∧ k = 2) σ σ' ∧ gI σ' 51 2 = nI (bkF l f p)) := by
    intro f
    induction f with
    | zero =>
      intro p τ hf hF h2 hp
      have hT1 : TpC τ l := TpC_fg hF (by omega) (fun k => by omega) hT
      refine b_Te_skipBlanks_0 ?_
      rw [h2, hT1.1]
      exact ⟨fun _ => ⟨rfl, hF, rfl⟩, fun _ => ⟨fun _ => ⟨rfl, hF, rfl⟩, fun q => absurd (nI_le (by omega) (by omega)) q⟩⟩
    | succ f ih =>
      intro p τ hf hF h2 hp
      have hT1 : TpC τ l := TpC_fg hF (by omega) (fun k => by omega) hT
      refine b_Te_skipBlanks_0 ?_
      rw [h2, hT1.1]
      refine ⟨fun q => absurd q (nI_nn (by omega)), fun _ => ⟨fun q => ?_, fun q => ⟨vin (Nat.lt_of_lt_of_le (Nat.not_le.mp (fun z => q (nI_le z (by omega)))) hl) (by decide), ?_⟩⟩⟩
      · have : ¬ Blk l p := fun z => absurd q (nI_ge z.1 (by omega))
        have e : bkF l (f + 1) p = p := if_neg this
        rw [e]; exact ⟨rfl, hF, rfl⟩
      · have h : p < l.length := Nat.not_le.mp (fun z => q (nI_le z (by omega)))
        have hg := Bt_gA hb p
        rw [nI_clamp (by omega), hT1.2 p h]
        refine (blank (gA l p) τ hg).mono (fun r σ1 hq => ?_)
        obtain ⟨rfl, hq⟩ := hq
        rcases hq with ⟨rfl, z⟩ | ⟨rfl, z⟩
        · have e : bkF l (f + 1) p = p := if_neg (fun y => z y.2)
          rw [e]
          exact ⟨fun _ => ⟨rfl, hF, h2⟩, fun q => absurd rfl q⟩
        · have e : bkF l (f + 1) p = bkF l f (p + 1) := if_pos ⟨h, z⟩
          rw [e, h2, nI_1]
          exact ⟨fun q => absurd q (by decide), fun _ => ih (p + 1) _ (by omega) (hF.si ⟨rfl, rfl⟩) (gI_sI_s _ _ _ _) (by omega)⟩
  exact CE.of (L := [(0, pv E 51)]) rfl (Nat.le_of_ble_eq_true rfl) rfl (loop (l.length - p) p σ (by omega) Fg.rf h2 hp)
theorem c_blkM {E : En_t} {d p : Nat} {l : List Nat} {σ : S_t} (hT : TcM σ l) (hb : Bt l) (hl : l.length ≤ 2000) (hp : p ≤ l.length) (h2 : gI σ 0 9 = nI p) : CV E (d + 1) m_Mo_blanks [pv E 0, .int (nI l.length)] σ (fun σ' => Fg (fun p k => p = 0 ∧ k = 9) σ σ' ∧ gI σ' 0 9 = nI (bk l p)) := by
  have loop : ∀ (f p : Nat) (τ : S_t), l.length ≤ p + f → Fg (fun p k => p = 0 ∧ k = 9) σ τ → gI τ 0 9 = nI p → p ≤ l.length → JE E (d + 1) m_Mo_blanks 0 [(0, pv E 0), (1, .int (nI l.length))] [] τ (fun q σ' => q = none ∧ Fg (fun p k => p = 0 ∧ k = 9) σ σ' ∧ gI σ' 0 9 = nI (bkF l f p)) := by
    intro f
    induction f with
    | zero =>
      intro p τ hf hF h2 hp
      have hT1 : TcM τ l := fun k hk => by rw [hF.1 1 k (by omega)]; exact hT k hk
      have e1 : hr l p = -1 := hr_ge (by omega)
      have hh : CI E d m_Mo_here [pv E 0, .int (nI l.length)] τ (fun r σ' => r = -1 ∧ σ' = τ) := (c_hereM hT1 hl (by omega) h2).mono (fun r σ1 hq => ⟨by rw [hq.1, e1], hq.2⟩)
      refine b_Mo_blanks_0 (hh.mono (fun r σ1 hq => ?_))
      obtain ⟨rfl, rfl⟩ := hq
      refine ⟨fun q => absurd q (by decide), fun _ => hh.mono (fun r σ2 hq => ?_)⟩
      obtain ⟨rfl, rfl⟩ := hq
      refine ⟨fun q => absurd q (by decide), fun _ => hh.mono (fun r σ2 hq => ?_)⟩
      obtain ⟨rfl, rfl⟩ := hq
      refine ⟨fun q => absurd q (by decide), fun _ => hh.mono (fun r σ2 hq => ?_)⟩
      obtain ⟨rfl, rfl⟩ := hq
      exact ⟨fun _ => ⟨rfl, hF, h2⟩, fun q => absurd q (by decide)⟩
    | succ f ih =>
      intro p τ hf hF h2 hp
      have hT1 : TcM τ l := fun k hk => by rw [hF.1 1 k (by omega)]; exact hT k hk
      have hh : CI E d m_Mo_here [pv E 0, .int (nI l.length)] τ (fun r σ' => r = hr l p ∧ σ' = τ) := c_hereM hT1 hl (by omega) h2
      have kc : ∀ c, c < 256 → (hr l p = nI c ↔ Chr l p c) := fun c hc => hr_chr hb (by omega)
      have yes : Blk l p → JE E (d + 1) m_Mo_blanks 40 [(0, pv E 0), (1, .int (nI l.length))] [] τ (fun q σ' => q = none ∧ Fg (fun p k => p = 0 ∧ k = 9) σ σ' ∧ gI σ' 0 9 = nI (bkF l (f + 1) p)) := by
        intro z
        have e : bkF l (f + 1) p = bkF l f (p + 1) := if_pos z
        rw [e]
        refine b_Mo_blanks_40 ?_
        rw [h2, nI_1]
        exact ih (p + 1) _ (by omega) (hF.si ⟨rfl, rfl⟩) (gI_sI_s _ _ _ _) z.1
      refine b_Mo_blanks_0 (hh.mono (fun r σ1 hq => ?_))
      obtain ⟨rfl, rfl⟩ := hq
      refine ⟨fun q => yes (by have := (kc 9 (by decide)).mp q; exact ⟨this.1, by have := this.2; omega⟩), fun n1 => hh.mono (fun r σ2 hq => ?_)⟩
      obtain ⟨rfl, rfl⟩ := hq
      refine ⟨fun q => yes (by have := (kc 10 (by decide)).mp q; exact ⟨this.1, by have := this.2; omega⟩), fun n2 => hh.mono (fun r σ2 hq => ?_)⟩
      obtain ⟨rfl, rfl⟩ := hq
      refine ⟨fun q => yes (by have := (kc 13 (by decide)).mp q; exact ⟨this.1, by have := this.2; omega⟩), fun n3 => hh.mono (fun r σ2 hq => ?_)⟩
      obtain ⟨rfl, rfl⟩ := hq
      refine ⟨fun n4 => ?_, fun q => yes (by have := (kc 32 (by decide)).mp q; exact ⟨this.1, by have := this.2; omega⟩)⟩
      have e : bkF l (f + 1) p = p := if_neg (fun z => by
        rcases z.2 with y | y | y | y
        · exact n1 ((kc 9 (by decide)).mpr ⟨z.1, y⟩)
        · exact n2 ((kc 10 (by decide)).mpr ⟨z.1, y⟩)
        · exact n3 ((kc 13 (by decide)).mpr ⟨z.1, y⟩)
        · exact n4 ((kc 32 (by decide)).mpr ⟨z.1, y⟩))
      rw [e]; exact ⟨rfl, hF, h2⟩
  exact CE.of (L := [(0, pv E 0), (1, .int (nI l.length))]) rfl (Nat.le_of_ble_eq_true rfl) rfl (loop (l.length - p) p σ (by omega) Fg.rf h2 hp)
/-- n letters of the words from f on stand at p -/
def wdS (l : List Nat) : Nat → Nat → Nat → Bool × Nat
  | 0, _, p => (true, p)
  | n + 1, f, p => if Chr l p (gA wordL f) then wdS l n (f + 1) (p + 1) else (false, p)
theorem wdS_fit {l : List Nat} : ∀ (n f p : Nat), p ≤ l.length → p ≤ (wdS l n f p).2 ∧ (wdS l n f p).2 ≤ l.length
  | 0, f, p, h => ⟨Nat.le_refl _, h⟩
  | n + 1, f, p, h => by
    by_cases b : Chr l p (gA wordL f)
    · have e : wdS l (n + 1) f p = wdS l n (f + 1) (p + 1) := if_pos b
      rw [e]
      have := wdS_fit (l := l) n (f + 1) (p + 1) b.1
      exact ⟨by omega, this.2⟩
    · have e : wdS l (n + 1) f p = (false, p) := if_neg b
      rw [e]; exact ⟨Nat.le_refl _, h⟩
theorem c_wordC {E : En_t} {d w p : Nat} {l : List Nat} {σ : S_t} (hw : w < 3) (hT : TpC σ l) (hb : Bt l) (hl : l.length ≤ 2000) (hp : p ≤ l.length) (h2 : gI σ 51 2 = nI p) : CI E (d + 5) m_Te_passWord [pv E 51, pv E (2000 + w)] σ (fun r σ' => Fg (fun p k => p = 51 ∧ k = 2) σ σ' ∧ r = bo (wdS l (lenS.getD w 0) (wof w) p).1 ∧ gI σ' 51 2 = nI (wdS l (lenS.getD w 0) (wof w) p).2) := by
  have key : ∀ w, w < 3 → ∀ j, j < lenS.getD w 0 → (bytS.getD w []).getD j 0 = nI (gA wordL (wof w + j)) ∧ gA wordL (wof w + j) < 128 := by decide
  have hle := lenS_le w (by omega)
  have loop : ∀ (n j p : Nat) (τ : S_t), j + n = lenS.getD w 0 → Fg (fun p k => p = 51 ∧ k = 2) σ τ → gI τ 51 2 = nI p → p ≤ l.length → JE E (d + 5) m_Te_passWord 2 [(0, pv E 51), (1, pv E (2000 + w)), (2, .int (nI j))] [] τ (fun q σ' => ∃ r, q = some (.int r) ∧ Fg (fun p k => p = 51 ∧ k = 2) σ σ' ∧ r = bo (wdS l n (wof w + j) p).1 ∧ gI σ' 51 2 = nI (wdS l n (wof w + j) p).2) := by
    intro n
    induction n with
    | zero =>
      intro j p τ hj hF h2 hp
      have : j = lenS.getD w 0 := by omega
      subst this
      refine b_Te_passWord_2 (d := d + 4) (by omega) ((c_strlen (d := d + 3) (by omega)).mono (fun r σ1 hq => ?_))
      obtain ⟨rfl, rfl⟩ := hq
      exact ⟨fun _ => ⟨_, rfl, hF, rfl, h2⟩, fun q => absurd (Int32.le_refl _) q⟩
    | succ n ih =>
      intro j p τ hj hF h2 hp
      have hT1 : TpC τ l := TpC_fg hF (by omega) (fun k => by omega) hT
      obtain ⟨k1, k2⟩ := key w hw j (by omega)
      refine b_Te_passWord_2 (d := d + 4) (by omega) ((c_strlen (d := d + 3) (by omega)).mono (fun r σ1 hq => ?_))
      obtain ⟨rfl, rfl⟩ := hq
      refine ⟨fun q => absurd q (nI_ge (by omega) (by omega)), fun _ => (c_charAt (d := d) (by omega) (show j < lenS.getD w 0 by omega)).mono (fun r σ2 hq => ?_)⟩
      obtain ⟨rfl, rfl⟩ := hq
      rw [k1, nI_1]
      refine (c_passC hT1 hb hl (by omega) h2 (by omega)).mono (fun r σ3 hq => ?_)
      rcases hq with ⟨rfl, hn, rfl⟩ | ⟨rfl, hy, rfl⟩
      · have e : wdS l (n + 1) (wof w + j) p = (false, p) := if_neg hn
        rw [e]
        exact ⟨fun q => absurd rfl q, fun _ => ⟨_, rfl, hF, rfl, h2⟩⟩
      · have e : wdS l (n + 1) (wof w + j) p = wdS l n (wof w + j + 1) (p + 1) := if_pos hy
        rw [e]
        exact ⟨fun _ => ih (j + 1) (p + 1) _ (by omega) (hF.si ⟨rfl, rfl⟩) (gI_sI_s _ _ _ _) hy.1, fun q => absurd q (by decide)⟩
  exact CE.of (L := [(0, pv E 51), (1, pv E (2000 + w))]) rfl (Nat.le_of_ble_eq_true rfl) rfl (b_Te_passWord_0 (d := d + 4) (by omega) (loop (lenS.getD w 0) 0 p σ (by omega) Fg.rf h2 hp))
