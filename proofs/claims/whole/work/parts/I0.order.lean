/-! names in a row: a total order -/
theorem rk_inj {a b : Nat} (ha : Ltr a) (hb : Ltr b) (h : rk a = rk b) : a = b := by
  rcases Nat.lt_trichotomy a b with z | z | z
  · exact absurd h (rk_ne (by unfold Ltr at ha; omega) (by unfold Ltr at hb; omega) (by omega))
  · exact z
  · exact absurd h (rk_ne (by unfold Ltr at ha; omega) (by unfold Ltr at hb; omega) (by omega))
theorem Ltrs_tail {c : Nat} {s : List Nat} (h : Ltrs (c :: s)) : Ltr c ∧ Ltrs s := ⟨h 0 (by show 0 < s.length + 1; omega), fun i hi => h (i + 1) (by show i + 1 < s.length + 1; omega)⟩
theorem cmN_anti : ∀ {s t : List Nat}, Ltrs s → Ltrs t → (cmN s t < 0 ↔ 0 < cmN t s)
  | [], [], _, _ => ⟨fun h => absurd h (by decide), fun h => absurd h (by decide)⟩
  | [], b :: t, _, _ => ⟨fun _ => by show (0 : Int) < 1; decide, fun _ => by show (-1 : Int) < 0; decide⟩
  | a :: s, [], _, _ => ⟨fun h => absurd h (by show ¬ (1 : Int) < 0; decide), fun h => absurd h (by show ¬ (0 : Int) < -1; decide)⟩
  | a :: s, b :: t, h1, h2 => by
    obtain ⟨a1, a2⟩ := Ltrs_tail h1
    obtain ⟨b1, b2⟩ := Ltrs_tail h2
    have ih := cmN_anti a2 b2
    show (if a = b then cmN s t else if rk a < rk b then -1 else 1) < 0 ↔ 0 < (if b = a then cmN t s else if rk b < rk a then -1 else 1)
    by_cases e : a = b
    · rw [if_pos e, if_pos e.symm]; exact ih
    · have hr : rk a ≠ rk b := fun z => e (rk_inj a1 b1 z)
      rw [if_neg e, if_neg (show ¬ b = a from fun z => e z.symm)]
      by_cases g : rk a < rk b
      · rw [if_pos g, if_neg (show ¬ rk b < rk a by omega)]; exact ⟨fun _ => by decide, fun _ => by decide⟩
      · rw [if_neg g, if_pos (show rk b < rk a by omega)]; exact ⟨fun h => absurd h (by decide), fun h => absurd h (by decide)⟩
theorem cmN_trans : ∀ {s t u : List Nat}, Ltrs s → Ltrs t → Ltrs u → cmN s t < 0 → cmN t u < 0 → cmN s u < 0
  | [], [], _, _, _, _, h, _ => absurd h (by decide)
  | _ :: _, [], _, _, _, _, h, _ => absurd h (by show ¬ (1 : Int) < 0; decide)
  | _, _ :: _, [], _, _, _, _, h => absurd h (by show ¬ (1 : Int) < 0; decide)
  | [], _ :: _, _ :: _, _, _, _, _, _ => by show (-1 : Int) < 0; decide
  | a :: s, b :: t, c :: u, h1, h2, h3, p, q => by
    obtain ⟨a1, a2⟩ := Ltrs_tail h1
    obtain ⟨b1, b2⟩ := Ltrs_tail h2
    obtain ⟨c1, c2⟩ := Ltrs_tail h3
    have p' : (if a = b then cmN s t else if rk a < rk b then -1 else 1) < 0 := p
    have q' : (if b = c then cmN t u else if rk b < rk c then -1 else 1) < 0 := q
    show (if a = c then cmN s u else if rk a < rk c then -1 else 1) < 0
    by_cases e1 : a = b
    · rw [if_pos e1] at p'
      by_cases e2 : b = c
      · rw [if_pos e2] at q'
        rw [if_pos (e1.trans e2)]
        exact cmN_trans a2 b2 c2 p' q'
      · rw [if_neg e2] at q'
        rw [if_neg (fun z => e2 (e1.symm.trans z)), e1]; exact q'
    · rw [if_neg e1] at p'
      have g1 : rk a < rk b := Nat.not_le.mp (fun z => by rw [if_neg (by omega)] at p'; exact absurd p' (by decide))
      by_cases e2 : b = c
      · rw [← e2, if_neg e1, if_pos g1]; decide
      · rw [if_neg e2] at q'
        have g2 : rk b < rk c := Nat.not_le.mp (fun z => by rw [if_neg (by omega)] at q'; exact absurd q' (by decide))
        rw [if_neg (fun z => by rw [z] at g1; omega), if_pos (by omega)]; decide
