theorem ci_Tr_72 {E : En_t} {S : Sb} {P : List Nat} {σ : S_t} {d a  : Nat} (h0 : 72 ∈ P) (hn : ∀ x ∈ ([73, 74, 75, 76, 77, 78, 79, 80, 81, 82, 83] : List Nat), x ∉ P) (ha0 : ro E 72 = a)  : CK E S P σ (d + 1) 11 9000 m_Tr_init [.ref a] (fun u => Ag E u.1 [73, 74, 75, 76, 77, 78, 79, 80, 81, 82, 83] ∧ u.2.1 = (72, 10) :: (72, 9) :: (72, 8) :: (72, 7) :: (72, 6) :: (72, 5) :: (72, 4) :: (72, 3) :: (72, 2) :: (72, 1) :: (72, 0) :: S ∧ u.2.2.1 = P ++ [73, 74, 75, 76, 77, 78, 79, 80, 81, 82, 83] ∧ u.2.2.2 = σ) := by
  refine CK.of (L := [(0, .ref a)]) rfl rfl (Nat.le_of_ble_eq_true rfl) rfl ?_
  have hA : Ag E E [] := Ag.rf
  refine JK_P (List.append_nil P) ?_
  refine K_aload_n (a := a) dc_Tr_init_0 (Eq.refl 1) 0 rfl ?_
  refine K_objInit dc_Tr_init_1 (Eq.refl 4) oi_Tr wOi wOc ⟨by show 1 ≤ d + 1; omega, by show 20 ≤ 64 * (d + 1); omega⟩ ?_
  refine K_aload_n (a := a) dc_Tr_init_4 (Eq.refl 5) 0 rfl ?_
  refine K_sipush (v := (500 : Int32)) dc_Tr_init_5 (Eq.refl 8) rfl ?_
  refine K_arrI (x0 := 72) (x := 73) (c := 11) (k := 0) (Ls' := [73]) hA dc_Tr_init_8 (Eq.refl 10) dc_Tr_init_10 (Eq.refl 13) wI rfl rfl (hn 73 (by decide)) (by decide) (by decide) rfl (by decide) ⟨Nat.le_of_ble_eq_true rfl, Nat.le_of_ble_eq_true rfl⟩ qk_Tr_9 (by decide) rfl (List.mem_append_left _ h0) ha0 rfl rfl rfl (fun E hA ha0 => ?_)
  refine K_aload_n (a := a) dc_Tr_init_13 (Eq.refl 14) 0 rfl ?_
  refine K_sipush (v := (500 : Int32)) dc_Tr_init_14 (Eq.refl 17) rfl ?_
  refine K_arrI (x0 := 72) (x := 74) (c := 11) (k := 1) (Ls' := [73, 74]) hA dc_Tr_init_17 (Eq.refl 19) dc_Tr_init_19 (Eq.refl 22) wI rfl rfl (hn 74 (by decide)) (by decide) (by decide) rfl (by decide) ⟨Nat.le_of_ble_eq_true rfl, Nat.le_of_ble_eq_true rfl⟩ qk_Tr_15 (by decide) rfl (List.mem_append_left _ h0) ha0 rfl rfl rfl (fun E hA ha0 => ?_)
  refine K_aload_n (a := a) dc_Tr_init_22 (Eq.refl 23) 0 rfl ?_
  refine K_sipush (v := (500 : Int32)) dc_Tr_init_23 (Eq.refl 26) rfl ?_
  refine K_arrI (x0 := 72) (x := 75) (c := 11) (k := 2) (Ls' := [73, 74, 75]) hA dc_Tr_init_26 (Eq.refl 28) dc_Tr_init_28 (Eq.refl 31) wI rfl rfl (hn 75 (by decide)) (by decide) (by decide) rfl (by decide) ⟨Nat.le_of_ble_eq_true rfl, Nat.le_of_ble_eq_true rfl⟩ qk_Tr_18 (by decide) rfl (List.mem_append_left _ h0) ha0 rfl rfl rfl (fun E hA ha0 => ?_)
  refine K_aload_n (a := a) dc_Tr_init_31 (Eq.refl 32) 0 rfl ?_
  refine K_sipush (v := (500 : Int32)) dc_Tr_init_32 (Eq.refl 35) rfl ?_
  refine K_arrI (x0 := 72) (x := 76) (c := 11) (k := 3) (Ls' := [73, 74, 75, 76]) hA dc_Tr_init_35 (Eq.refl 37) dc_Tr_init_37 (Eq.refl 40) wI rfl rfl (hn 76 (by decide)) (by decide) (by decide) rfl (by decide) ⟨Nat.le_of_ble_eq_true rfl, Nat.le_of_ble_eq_true rfl⟩ qk_Tr_21 (by decide) rfl (List.mem_append_left _ h0) ha0 rfl rfl rfl (fun E hA ha0 => ?_)
  refine K_aload_n (a := a) dc_Tr_init_40 (Eq.refl 41) 0 rfl ?_
  refine K_sipush (v := (500 : Int32)) dc_Tr_init_41 (Eq.refl 44) rfl ?_
  refine K_arrI (x0 := 72) (x := 77) (c := 11) (k := 4) (Ls' := [73, 74, 75, 76, 77]) hA dc_Tr_init_44 (Eq.refl 46) dc_Tr_init_46 (Eq.refl 49) wI rfl rfl (hn 77 (by decide)) (by decide) (by decide) rfl (by decide) ⟨Nat.le_of_ble_eq_true rfl, Nat.le_of_ble_eq_true rfl⟩ qk_Tr_24 (by decide) rfl (List.mem_append_left _ h0) ha0 rfl rfl rfl (fun E hA ha0 => ?_)
  refine K_aload_n (a := a) dc_Tr_init_49 (Eq.refl 50) 0 rfl ?_
  refine K_sipush (v := (500 : Int32)) dc_Tr_init_50 (Eq.refl 53) rfl ?_
  refine K_arrI (x0 := 72) (x := 78) (c := 11) (k := 5) (Ls' := [73, 74, 75, 76, 77, 78]) hA dc_Tr_init_53 (Eq.refl 55) dc_Tr_init_55 (Eq.refl 58) wI rfl rfl (hn 78 (by decide)) (by decide) (by decide) rfl (by decide) ⟨Nat.le_of_ble_eq_true rfl, Nat.le_of_ble_eq_true rfl⟩ qk_Tr_27 (by decide) rfl (List.mem_append_left _ h0) ha0 rfl rfl rfl (fun E hA ha0 => ?_)
  refine K_aload_n (a := a) dc_Tr_init_58 (Eq.refl 59) 0 rfl ?_
  refine K_sipush (v := (500 : Int32)) dc_Tr_init_59 (Eq.refl 62) rfl ?_
  refine K_arrJ (x0 := 72) (x := 79) (c := 11) (k := 6) (Ls' := [73, 74, 75, 76, 77, 78, 79]) hA dc_Tr_init_62 (Eq.refl 64) dc_Tr_init_64 (Eq.refl 67) wJ rfl rfl (hn 79 (by decide)) (by decide) (by decide) rfl (by decide) ⟨Nat.le_of_ble_eq_true rfl, Nat.le_of_ble_eq_true rfl⟩ qk_Tr_30 (by decide) rfl (List.mem_append_left _ h0) ha0 rfl rfl rfl (fun E hA ha0 => ?_)
  refine K_aload_n (a := a) dc_Tr_init_67 (Eq.refl 68) 0 rfl ?_
  refine K_sipush (v := (500 : Int32)) dc_Tr_init_68 (Eq.refl 71) rfl ?_
  refine K_arrI (x0 := 72) (x := 80) (c := 11) (k := 7) (Ls' := [73, 74, 75, 76, 77, 78, 79, 80]) hA dc_Tr_init_71 (Eq.refl 73) dc_Tr_init_73 (Eq.refl 76) wI rfl rfl (hn 80 (by decide)) (by decide) (by decide) rfl (by decide) ⟨Nat.le_of_ble_eq_true rfl, Nat.le_of_ble_eq_true rfl⟩ qk_Tr_34 (by decide) rfl (List.mem_append_left _ h0) ha0 rfl rfl rfl (fun E hA ha0 => ?_)
  refine K_aload_n (a := a) dc_Tr_init_76 (Eq.refl 77) 0 rfl ?_
  refine K_sipush (v := (500 : Int32)) dc_Tr_init_77 (Eq.refl 80) rfl ?_
  refine K_arrI (x0 := 72) (x := 81) (c := 11) (k := 8) (Ls' := [73, 74, 75, 76, 77, 78, 79, 80, 81]) hA dc_Tr_init_80 (Eq.refl 82) dc_Tr_init_82 (Eq.refl 85) wI rfl rfl (hn 81 (by decide)) (by decide) (by decide) rfl (by decide) ⟨Nat.le_of_ble_eq_true rfl, Nat.le_of_ble_eq_true rfl⟩ qk_Tr_37 (by decide) rfl (List.mem_append_left _ h0) ha0 rfl rfl rfl (fun E hA ha0 => ?_)
  refine K_aload_n (a := a) dc_Tr_init_85 (Eq.refl 86) 0 rfl ?_
  refine K_sipush (v := (500 : Int32)) dc_Tr_init_86 (Eq.refl 89) rfl ?_
  refine K_arrI (x0 := 72) (x := 82) (c := 11) (k := 9) (Ls' := [73, 74, 75, 76, 77, 78, 79, 80, 81, 82]) hA dc_Tr_init_89 (Eq.refl 91) dc_Tr_init_91 (Eq.refl 94) wI rfl rfl (hn 82 (by decide)) (by decide) (by decide) rfl (by decide) ⟨Nat.le_of_ble_eq_true rfl, Nat.le_of_ble_eq_true rfl⟩ qk_Tr_40 (by decide) rfl (List.mem_append_left _ h0) ha0 rfl rfl rfl (fun E hA ha0 => ?_)
  refine K_aload_n (a := a) dc_Tr_init_94 (Eq.refl 95) 0 rfl ?_
  refine K_sipush (v := (4000 : Int32)) dc_Tr_init_95 (Eq.refl 98) rfl ?_
  refine K_arrI (x0 := 72) (x := 83) (c := 11) (k := 10) (Ls' := [73, 74, 75, 76, 77, 78, 79, 80, 81, 82, 83]) hA dc_Tr_init_98 (Eq.refl 100) dc_Tr_init_100 (Eq.refl 103) wI rfl rfl (hn 83 (by decide)) (by decide) (by decide) rfl (by decide) ⟨Nat.le_of_ble_eq_true rfl, Nat.le_of_ble_eq_true rfl⟩ qk_Tr_43 (by decide) rfl (List.mem_append_left _ h0) ha0 rfl rfl rfl (fun E hA ha0 => ?_)
  exact K_ret dc_Tr_init_103 rfl rfl rfl ⟨hA, rfl, rfl, rfl⟩

theorem ci_Tr_84 {E : En_t} {S : Sb} {P : List Nat} {σ : S_t} {d a  : Nat} (h0 : 84 ∈ P) (hn : ∀ x ∈ ([85, 86, 87, 88, 89, 90, 91, 92, 93, 94, 95] : List Nat), x ∉ P) (ha0 : ro E 84 = a)  : CK E S P σ (d + 1) 11 9000 m_Tr_init [.ref a] (fun u => Ag E u.1 [85, 86, 87, 88, 89, 90, 91, 92, 93, 94, 95] ∧ u.2.1 = (84, 10) :: (84, 9) :: (84, 8) :: (84, 7) :: (84, 6) :: (84, 5) :: (84, 4) :: (84, 3) :: (84, 2) :: (84, 1) :: (84, 0) :: S ∧ u.2.2.1 = P ++ [85, 86, 87, 88, 89, 90, 91, 92, 93, 94, 95] ∧ u.2.2.2 = σ) := by
  refine CK.of (L := [(0, .ref a)]) rfl rfl (Nat.le_of_ble_eq_true rfl) rfl ?_
  have hA : Ag E E [] := Ag.rf
  refine JK_P (List.append_nil P) ?_
  refine K_aload_n (a := a) dc_Tr_init_0 (Eq.refl 1) 0 rfl ?_
  refine K_objInit dc_Tr_init_1 (Eq.refl 4) oi_Tr wOi wOc ⟨by show 1 ≤ d + 1; omega, by show 20 ≤ 64 * (d + 1); omega⟩ ?_
  refine K_aload_n (a := a) dc_Tr_init_4 (Eq.refl 5) 0 rfl ?_
  refine K_sipush (v := (500 : Int32)) dc_Tr_init_5 (Eq.refl 8) rfl ?_
  refine K_arrI (x0 := 84) (x := 85) (c := 11) (k := 0) (Ls' := [85]) hA dc_Tr_init_8 (Eq.refl 10) dc_Tr_init_10 (Eq.refl 13) wI rfl rfl (hn 85 (by decide)) (by decide) (by decide) rfl (by decide) ⟨Nat.le_of_ble_eq_true rfl, Nat.le_of_ble_eq_true rfl⟩ qk_Tr_9 (by decide) rfl (List.mem_append_left _ h0) ha0 rfl rfl rfl (fun E hA ha0 => ?_)
  refine K_aload_n (a := a) dc_Tr_init_13 (Eq.refl 14) 0 rfl ?_
  refine K_sipush (v := (500 : Int32)) dc_Tr_init_14 (Eq.refl 17) rfl ?_
  refine K_arrI (x0 := 84) (x := 86) (c := 11) (k := 1) (Ls' := [85, 86]) hA dc_Tr_init_17 (Eq.refl 19) dc_Tr_init_19 (Eq.refl 22) wI rfl rfl (hn 86 (by decide)) (by decide) (by decide) rfl (by decide) ⟨Nat.le_of_ble_eq_true rfl, Nat.le_of_ble_eq_true rfl⟩ qk_Tr_15 (by decide) rfl (List.mem_append_left _ h0) ha0 rfl rfl rfl (fun E hA ha0 => ?_)
  refine K_aload_n (a := a) dc_Tr_init_22 (Eq.refl 23) 0 rfl ?_
  refine K_sipush (v := (500 : Int32)) dc_Tr_init_23 (Eq.refl 26) rfl ?_
  refine K_arrI (x0 := 84) (x := 87) (c := 11) (k := 2) (Ls' := [85, 86, 87]) hA dc_Tr_init_26 (Eq.refl 28) dc_Tr_init_28 (Eq.refl 31) wI rfl rfl (hn 87 (by decide)) (by decide) (by decide) rfl (by decide) ⟨Nat.le_of_ble_eq_true rfl, Nat.le_of_ble_eq_true rfl⟩ qk_Tr_18 (by decide) rfl (List.mem_append_left _ h0) ha0 rfl rfl rfl (fun E hA ha0 => ?_)
  refine K_aload_n (a := a) dc_Tr_init_31 (Eq.refl 32) 0 rfl ?_
  refine K_sipush (v := (500 : Int32)) dc_Tr_init_32 (Eq.refl 35) rfl ?_
  refine K_arrI (x0 := 84) (x := 88) (c := 11) (k := 3) (Ls' := [85, 86, 87, 88]) hA dc_Tr_init_35 (Eq.refl 37) dc_Tr_init_37 (Eq.refl 40) wI rfl rfl (hn 88 (by decide)) (by decide) (by decide) rfl (by decide) ⟨Nat.le_of_ble_eq_true rfl, Nat.le_of_ble_eq_true rfl⟩ qk_Tr_21 (by decide) rfl (List.mem_append_left _ h0) ha0 rfl rfl rfl (fun E hA ha0 => ?_)
  refine K_aload_n (a := a) dc_Tr_init_40 (Eq.refl 41) 0 rfl ?_
  refine K_sipush (v := (500 : Int32)) dc_Tr_init_41 (Eq.refl 44) rfl ?_
  refine K_arrI (x0 := 84) (x := 89) (c := 11) (k := 4) (Ls' := [85, 86, 87, 88, 89]) hA dc_Tr_init_44 (Eq.refl 46) dc_Tr_init_46 (Eq.refl 49) wI rfl rfl (hn 89 (by decide)) (by decide) (by decide) rfl (by decide) ⟨Nat.le_of_ble_eq_true rfl, Nat.le_of_ble_eq_true rfl⟩ qk_Tr_24 (by decide) rfl (List.mem_append_left _ h0) ha0 rfl rfl rfl (fun E hA ha0 => ?_)
  refine K_aload_n (a := a) dc_Tr_init_49 (Eq.refl 50) 0 rfl ?_
  refine K_sipush (v := (500 : Int32)) dc_Tr_init_50 (Eq.refl 53) rfl ?_
  refine K_arrI (x0 := 84) (x := 90) (c := 11) (k := 5) (Ls' := [85, 86, 87, 88, 89, 90]) hA dc_Tr_init_53 (Eq.refl 55) dc_Tr_init_55 (Eq.refl 58) wI rfl rfl (hn 90 (by decide)) (by decide) (by decide) rfl (by decide) ⟨Nat.le_of_ble_eq_true rfl, Nat.le_of_ble_eq_true rfl⟩ qk_Tr_27 (by decide) rfl (List.mem_append_left _ h0) ha0 rfl rfl rfl (fun E hA ha0 => ?_)
  refine K_aload_n (a := a) dc_Tr_init_58 (Eq.refl 59) 0 rfl ?_
  refine K_sipush (v := (500 : Int32)) dc_Tr_init_59 (Eq.refl 62) rfl ?_
  refine K_arrJ (x0 := 84) (x := 91) (c := 11) (k := 6) (Ls' := [85, 86, 87, 88, 89, 90, 91]) hA dc_Tr_init_62 (Eq.refl 64) dc_Tr_init_64 (Eq.refl 67) wJ rfl rfl (hn 91 (by decide)) (by decide) (by decide) rfl (by decide) ⟨Nat.le_of_ble_eq_true rfl, Nat.le_of_ble_eq_true rfl⟩ qk_Tr_30 (by decide) rfl (List.mem_append_left _ h0) ha0 rfl rfl rfl (fun E hA ha0 => ?_)
  refine K_aload_n (a := a) dc_Tr_init_67 (Eq.refl 68) 0 rfl ?_
  refine K_sipush (v := (500 : Int32)) dc_Tr_init_68 (Eq.refl 71) rfl ?_
  refine K_arrI (x0 := 84) (x := 92) (c := 11) (k := 7) (Ls' := [85, 86, 87, 88, 89, 90, 91, 92]) hA dc_Tr_init_71 (Eq.refl 73) dc_Tr_init_73 (Eq.refl 76) wI rfl rfl (hn 92 (by decide)) (by decide) (by decide) rfl (by decide) ⟨Nat.le_of_ble_eq_true rfl, Nat.le_of_ble_eq_true rfl⟩ qk_Tr_34 (by decide) rfl (List.mem_append_left _ h0) ha0 rfl rfl rfl (fun E hA ha0 => ?_)
  refine K_aload_n (a := a) dc_Tr_init_76 (Eq.refl 77) 0 rfl ?_
  refine K_sipush (v := (500 : Int32)) dc_Tr_init_77 (Eq.refl 80) rfl ?_
  refine K_arrI (x0 := 84) (x := 93) (c := 11) (k := 8) (Ls' := [85, 86, 87, 88, 89, 90, 91, 92, 93]) hA dc_Tr_init_80 (Eq.refl 82) dc_Tr_init_82 (Eq.refl 85) wI rfl rfl (hn 93 (by decide)) (by decide) (by decide) rfl (by decide) ⟨Nat.le_of_ble_eq_true rfl, Nat.le_of_ble_eq_true rfl⟩ qk_Tr_37 (by decide) rfl (List.mem_append_left _ h0) ha0 rfl rfl rfl (fun E hA ha0 => ?_)
  refine K_aload_n (a := a) dc_Tr_init_85 (Eq.refl 86) 0 rfl ?_
  refine K_sipush (v := (500 : Int32)) dc_Tr_init_86 (Eq.refl 89) rfl ?_
  refine K_arrI (x0 := 84) (x := 94) (c := 11) (k := 9) (Ls' := [85, 86, 87, 88, 89, 90, 91, 92, 93, 94]) hA dc_Tr_init_89 (Eq.refl 91) dc_Tr_init_91 (Eq.refl 94) wI rfl rfl (hn 94 (by decide)) (by decide) (by decide) rfl (by decide) ⟨Nat.le_of_ble_eq_true rfl, Nat.le_of_ble_eq_true rfl⟩ qk_Tr_40 (by decide) rfl (List.mem_append_left _ h0) ha0 rfl rfl rfl (fun E hA ha0 => ?_)
  refine K_aload_n (a := a) dc_Tr_init_94 (Eq.refl 95) 0 rfl ?_
  refine K_sipush (v := (4000 : Int32)) dc_Tr_init_95 (Eq.refl 98) rfl ?_
  refine K_arrI (x0 := 84) (x := 95) (c := 11) (k := 10) (Ls' := [85, 86, 87, 88, 89, 90, 91, 92, 93, 94, 95]) hA dc_Tr_init_98 (Eq.refl 100) dc_Tr_init_100 (Eq.refl 103) wI rfl rfl (hn 95 (by decide)) (by decide) (by decide) rfl (by decide) ⟨Nat.le_of_ble_eq_true rfl, Nat.le_of_ble_eq_true rfl⟩ qk_Tr_43 (by decide) rfl (List.mem_append_left _ h0) ha0 rfl rfl rfl (fun E hA ha0 => ?_)
  exact K_ret dc_Tr_init_103 rfl rfl rfl ⟨hA, rfl, rfl, rfl⟩

theorem ci_Tr_96 {E : En_t} {S : Sb} {P : List Nat} {σ : S_t} {d a  : Nat} (h0 : 96 ∈ P) (hn : ∀ x ∈ ([97, 98, 99, 100, 101, 102, 103, 104, 105, 106, 107] : List Nat), x ∉ P) (ha0 : ro E 96 = a)  : CK E S P σ (d + 1) 11 9000 m_Tr_init [.ref a] (fun u => Ag E u.1 [97, 98, 99, 100, 101, 102, 103, 104, 105, 106, 107] ∧ u.2.1 = (96, 10) :: (96, 9) :: (96, 8) :: (96, 7) :: (96, 6) :: (96, 5) :: (96, 4) :: (96, 3) :: (96, 2) :: (96, 1) :: (96, 0) :: S ∧ u.2.2.1 = P ++ [97, 98, 99, 100, 101, 102, 103, 104, 105, 106, 107] ∧ u.2.2.2 = σ) := by
  refine CK.of (L := [(0, .ref a)]) rfl rfl (Nat.le_of_ble_eq_true rfl) rfl ?_
  have hA : Ag E E [] := Ag.rf
  refine JK_P (List.append_nil P) ?_
  refine K_aload_n (a := a) dc_Tr_init_0 (Eq.refl 1) 0 rfl ?_
  refine K_objInit dc_Tr_init_1 (Eq.refl 4) oi_Tr wOi wOc ⟨by show 1 ≤ d + 1; omega, by show 20 ≤ 64 * (d + 1); omega⟩ ?_
  refine K_aload_n (a := a) dc_Tr_init_4 (Eq.refl 5) 0 rfl ?_
  refine K_sipush (v := (500 : Int32)) dc_Tr_init_5 (Eq.refl 8) rfl ?_
  refine K_arrI (x0 := 96) (x := 97) (c := 11) (k := 0) (Ls' := [97]) hA dc_Tr_init_8 (Eq.refl 10) dc_Tr_init_10 (Eq.refl 13) wI rfl rfl (hn 97 (by decide)) (by decide) (by decide) rfl (by decide) ⟨Nat.le_of_ble_eq_true rfl, Nat.le_of_ble_eq_true rfl⟩ qk_Tr_9 (by decide) rfl (List.mem_append_left _ h0) ha0 rfl rfl rfl (fun E hA ha0 => ?_)
  refine K_aload_n (a := a) dc_Tr_init_13 (Eq.refl 14) 0 rfl ?_
  refine K_sipush (v := (500 : Int32)) dc_Tr_init_14 (Eq.refl 17) rfl ?_
  refine K_arrI (x0 := 96) (x := 98) (c := 11) (k := 1) (Ls' := [97, 98]) hA dc_Tr_init_17 (Eq.refl 19) dc_Tr_init_19 (Eq.refl 22) wI rfl rfl (hn 98 (by decide)) (by decide) (by decide) rfl (by decide) ⟨Nat.le_of_ble_eq_true rfl, Nat.le_of_ble_eq_true rfl⟩ qk_Tr_15 (by decide) rfl (List.mem_append_left _ h0) ha0 rfl rfl rfl (fun E hA ha0 => ?_)
  refine K_aload_n (a := a) dc_Tr_init_22 (Eq.refl 23) 0 rfl ?_
  refine K_sipush (v := (500 : Int32)) dc_Tr_init_23 (Eq.refl 26) rfl ?_
  refine K_arrI (x0 := 96) (x := 99) (c := 11) (k := 2) (Ls' := [97, 98, 99]) hA dc_Tr_init_26 (Eq.refl 28) dc_Tr_init_28 (Eq.refl 31) wI rfl rfl (hn 99 (by decide)) (by decide) (by decide) rfl (by decide) ⟨Nat.le_of_ble_eq_true rfl, Nat.le_of_ble_eq_true rfl⟩ qk_Tr_18 (by decide) rfl (List.mem_append_left _ h0) ha0 rfl rfl rfl (fun E hA ha0 => ?_)
  refine K_aload_n (a := a) dc_Tr_init_31 (Eq.refl 32) 0 rfl ?_
  refine K_sipush (v := (500 : Int32)) dc_Tr_init_32 (Eq.refl 35) rfl ?_
  refine K_arrI (x0 := 96) (x := 100) (c := 11) (k := 3) (Ls' := [97, 98, 99, 100]) hA dc_Tr_init_35 (Eq.refl 37) dc_Tr_init_37 (Eq.refl 40) wI rfl rfl (hn 100 (by decide)) (by decide) (by decide) rfl (by decide) ⟨Nat.le_of_ble_eq_true rfl, Nat.le_of_ble_eq_true rfl⟩ qk_Tr_21 (by decide) rfl (List.mem_append_left _ h0) ha0 rfl rfl rfl (fun E hA ha0 => ?_)
  refine K_aload_n (a := a) dc_Tr_init_40 (Eq.refl 41) 0 rfl ?_
  refine K_sipush (v := (500 : Int32)) dc_Tr_init_41 (Eq.refl 44) rfl ?_
  refine K_arrI (x0 := 96) (x := 101) (c := 11) (k := 4) (Ls' := [97, 98, 99, 100, 101]) hA dc_Tr_init_44 (Eq.refl 46) dc_Tr_init_46 (Eq.refl 49) wI rfl rfl (hn 101 (by decide)) (by decide) (by decide) rfl (by decide) ⟨Nat.le_of_ble_eq_true rfl, Nat.le_of_ble_eq_true rfl⟩ qk_Tr_24 (by decide) rfl (List.mem_append_left _ h0) ha0 rfl rfl rfl (fun E hA ha0 => ?_)
  refine K_aload_n (a := a) dc_Tr_init_49 (Eq.refl 50) 0 rfl ?_
  refine K_sipush (v := (500 : Int32)) dc_Tr_init_50 (Eq.refl 53) rfl ?_
  refine K_arrI (x0 := 96) (x := 102) (c := 11) (k := 5) (Ls' := [97, 98, 99, 100, 101, 102]) hA dc_Tr_init_53 (Eq.refl 55) dc_Tr_init_55 (Eq.refl 58) wI rfl rfl (hn 102 (by decide)) (by decide) (by decide) rfl (by decide) ⟨Nat.le_of_ble_eq_true rfl, Nat.le_of_ble_eq_true rfl⟩ qk_Tr_27 (by decide) rfl (List.mem_append_left _ h0) ha0 rfl rfl rfl (fun E hA ha0 => ?_)
  refine K_aload_n (a := a) dc_Tr_init_58 (Eq.refl 59) 0 rfl ?_
  refine K_sipush (v := (500 : Int32)) dc_Tr_init_59 (Eq.refl 62) rfl ?_
  refine K_arrJ (x0 := 96) (x := 103) (c := 11) (k := 6) (Ls' := [97, 98, 99, 100, 101, 102, 103]) hA dc_Tr_init_62 (Eq.refl 64) dc_Tr_init_64 (Eq.refl 67) wJ rfl rfl (hn 103 (by decide)) (by decide) (by decide) rfl (by decide) ⟨Nat.le_of_ble_eq_true rfl, Nat.le_of_ble_eq_true rfl⟩ qk_Tr_30 (by decide) rfl (List.mem_append_left _ h0) ha0 rfl rfl rfl (fun E hA ha0 => ?_)
  refine K_aload_n (a := a) dc_Tr_init_67 (Eq.refl 68) 0 rfl ?_
  refine K_sipush (v := (500 : Int32)) dc_Tr_init_68 (Eq.refl 71) rfl ?_
  refine K_arrI (x0 := 96) (x := 104) (c := 11) (k := 7) (Ls' := [97, 98, 99, 100, 101, 102, 103, 104]) hA dc_Tr_init_71 (Eq.refl 73) dc_Tr_init_73 (Eq.refl 76) wI rfl rfl (hn 104 (by decide)) (by decide) (by decide) rfl (by decide) ⟨Nat.le_of_ble_eq_true rfl, Nat.le_of_ble_eq_true rfl⟩ qk_Tr_34 (by decide) rfl (List.mem_append_left _ h0) ha0 rfl rfl rfl (fun E hA ha0 => ?_)
  refine K_aload_n (a := a) dc_Tr_init_76 (Eq.refl 77) 0 rfl ?_
  refine K_sipush (v := (500 : Int32)) dc_Tr_init_77 (Eq.refl 80) rfl ?_
  refine K_arrI (x0 := 96) (x := 105) (c := 11) (k := 8) (Ls' := [97, 98, 99, 100, 101, 102, 103, 104, 105]) hA dc_Tr_init_80 (Eq.refl 82) dc_Tr_init_82 (Eq.refl 85) wI rfl rfl (hn 105 (by decide)) (by decide) (by decide) rfl (by decide) ⟨Nat.le_of_ble_eq_true rfl, Nat.le_of_ble_eq_true rfl⟩ qk_Tr_37 (by decide) rfl (List.mem_append_left _ h0) ha0 rfl rfl rfl (fun E hA ha0 => ?_)
  refine K_aload_n (a := a) dc_Tr_init_85 (Eq.refl 86) 0 rfl ?_
  refine K_sipush (v := (500 : Int32)) dc_Tr_init_86 (Eq.refl 89) rfl ?_
  refine K_arrI (x0 := 96) (x := 106) (c := 11) (k := 9) (Ls' := [97, 98, 99, 100, 101, 102, 103, 104, 105, 106]) hA dc_Tr_init_89 (Eq.refl 91) dc_Tr_init_91 (Eq.refl 94) wI rfl rfl (hn 106 (by decide)) (by decide) (by decide) rfl (by decide) ⟨Nat.le_of_ble_eq_true rfl, Nat.le_of_ble_eq_true rfl⟩ qk_Tr_40 (by decide) rfl (List.mem_append_left _ h0) ha0 rfl rfl rfl (fun E hA ha0 => ?_)
  refine K_aload_n (a := a) dc_Tr_init_94 (Eq.refl 95) 0 rfl ?_
  refine K_sipush (v := (4000 : Int32)) dc_Tr_init_95 (Eq.refl 98) rfl ?_
  refine K_arrI (x0 := 96) (x := 107) (c := 11) (k := 10) (Ls' := [97, 98, 99, 100, 101, 102, 103, 104, 105, 106, 107]) hA dc_Tr_init_98 (Eq.refl 100) dc_Tr_init_100 (Eq.refl 103) wI rfl rfl (hn 107 (by decide)) (by decide) (by decide) rfl (by decide) ⟨Nat.le_of_ble_eq_true rfl, Nat.le_of_ble_eq_true rfl⟩ qk_Tr_43 (by decide) rfl (List.mem_append_left _ h0) ha0 rfl rfl rfl (fun E hA ha0 => ?_)
  exact K_ret dc_Tr_init_103 rfl rfl rfl ⟨hA, rfl, rfl, rfl⟩

theorem ci_Tr_108 {E : En_t} {S : Sb} {P : List Nat} {σ : S_t} {d a  : Nat} (h0 : 108 ∈ P) (hn : ∀ x ∈ ([109, 110, 111, 112, 113, 114, 115, 116, 117, 118, 119] : List Nat), x ∉ P) (ha0 : ro E 108 = a)  : CK E S P σ (d + 1) 11 9000 m_Tr_init [.ref a] (fun u => Ag E u.1 [109, 110, 111, 112, 113, 114, 115, 116, 117, 118, 119] ∧ u.2.1 = (108, 10) :: (108, 9) :: (108, 8) :: (108, 7) :: (108, 6) :: (108, 5) :: (108, 4) :: (108, 3) :: (108, 2) :: (108, 1) :: (108, 0) :: S ∧ u.2.2.1 = P ++ [109, 110, 111, 112, 113, 114, 115, 116, 117, 118, 119] ∧ u.2.2.2 = σ) := by
  refine CK.of (L := [(0, .ref a)]) rfl rfl (Nat.le_of_ble_eq_true rfl) rfl ?_
  have hA : Ag E E [] := Ag.rf
  refine JK_P (List.append_nil P) ?_
  refine K_aload_n (a := a) dc_Tr_init_0 (Eq.refl 1) 0 rfl ?_
  refine K_objInit dc_Tr_init_1 (Eq.refl 4) oi_Tr wOi wOc ⟨by show 1 ≤ d + 1; omega, by show 20 ≤ 64 * (d + 1); omega⟩ ?_
  refine K_aload_n (a := a) dc_Tr_init_4 (Eq.refl 5) 0 rfl ?_
  refine K_sipush (v := (500 : Int32)) dc_Tr_init_5 (Eq.refl 8) rfl ?_
  refine K_arrI (x0 := 108) (x := 109) (c := 11) (k := 0) (Ls' := [109]) hA dc_Tr_init_8 (Eq.refl 10) dc_Tr_init_10 (Eq.refl 13) wI rfl rfl (hn 109 (by decide)) (by decide) (by decide) rfl (by decide) ⟨Nat.le_of_ble_eq_true rfl, Nat.le_of_ble_eq_true rfl⟩ qk_Tr_9 (by decide) rfl (List.mem_append_left _ h0) ha0 rfl rfl rfl (fun E hA ha0 => ?_)
  refine K_aload_n (a := a) dc_Tr_init_13 (Eq.refl 14) 0 rfl ?_
  refine K_sipush (v := (500 : Int32)) dc_Tr_init_14 (Eq.refl 17) rfl ?_
  refine K_arrI (x0 := 108) (x := 110) (c := 11) (k := 1) (Ls' := [109, 110]) hA dc_Tr_init_17 (Eq.refl 19) dc_Tr_init_19 (Eq.refl 22) wI rfl rfl (hn 110 (by decide)) (by decide) (by decide) rfl (by decide) ⟨Nat.le_of_ble_eq_true rfl, Nat.le_of_ble_eq_true rfl⟩ qk_Tr_15 (by decide) rfl (List.mem_append_left _ h0) ha0 rfl rfl rfl (fun E hA ha0 => ?_)
  refine K_aload_n (a := a) dc_Tr_init_22 (Eq.refl 23) 0 rfl ?_
  refine K_sipush (v := (500 : Int32)) dc_Tr_init_23 (Eq.refl 26) rfl ?_
  refine K_arrI (x0 := 108) (x := 111) (c := 11) (k := 2) (Ls' := [109, 110, 111]) hA dc_Tr_init_26 (Eq.refl 28) dc_Tr_init_28 (Eq.refl 31) wI rfl rfl (hn 111 (by decide)) (by decide) (by decide) rfl (by decide) ⟨Nat.le_of_ble_eq_true rfl, Nat.le_of_ble_eq_true rfl⟩ qk_Tr_18 (by decide) rfl (List.mem_append_left _ h0) ha0 rfl rfl rfl (fun E hA ha0 => ?_)
  refine K_aload_n (a := a) dc_Tr_init_31 (Eq.refl 32) 0 rfl ?_
  refine K_sipush (v := (500 : Int32)) dc_Tr_init_32 (Eq.refl 35) rfl ?_
  refine K_arrI (x0 := 108) (x := 112) (c := 11) (k := 3) (Ls' := [109, 110, 111, 112]) hA dc_Tr_init_35 (Eq.refl 37) dc_Tr_init_37 (Eq.refl 40) wI rfl rfl (hn 112 (by decide)) (by decide) (by decide) rfl (by decide) ⟨Nat.le_of_ble_eq_true rfl, Nat.le_of_ble_eq_true rfl⟩ qk_Tr_21 (by decide) rfl (List.mem_append_left _ h0) ha0 rfl rfl rfl (fun E hA ha0 => ?_)
  refine K_aload_n (a := a) dc_Tr_init_40 (Eq.refl 41) 0 rfl ?_
  refine K_sipush (v := (500 : Int32)) dc_Tr_init_41 (Eq.refl 44) rfl ?_
  refine K_arrI (x0 := 108) (x := 113) (c := 11) (k := 4) (Ls' := [109, 110, 111, 112, 113]) hA dc_Tr_init_44 (Eq.refl 46) dc_Tr_init_46 (Eq.refl 49) wI rfl rfl (hn 113 (by decide)) (by decide) (by decide) rfl (by decide) ⟨Nat.le_of_ble_eq_true rfl, Nat.le_of_ble_eq_true rfl⟩ qk_Tr_24 (by decide) rfl (List.mem_append_left _ h0) ha0 rfl rfl rfl (fun E hA ha0 => ?_)
  refine K_aload_n (a := a) dc_Tr_init_49 (Eq.refl 50) 0 rfl ?_
  refine K_sipush (v := (500 : Int32)) dc_Tr_init_50 (Eq.refl 53) rfl ?_
  refine K_arrI (x0 := 108) (x := 114) (c := 11) (k := 5) (Ls' := [109, 110, 111, 112, 113, 114]) hA dc_Tr_init_53 (Eq.refl 55) dc_Tr_init_55 (Eq.refl 58) wI rfl rfl (hn 114 (by decide)) (by decide) (by decide) rfl (by decide) ⟨Nat.le_of_ble_eq_true rfl, Nat.le_of_ble_eq_true rfl⟩ qk_Tr_27 (by decide) rfl (List.mem_append_left _ h0) ha0 rfl rfl rfl (fun E hA ha0 => ?_)
  refine K_aload_n (a := a) dc_Tr_init_58 (Eq.refl 59) 0 rfl ?_
  refine K_sipush (v := (500 : Int32)) dc_Tr_init_59 (Eq.refl 62) rfl ?_
  refine K_arrJ (x0 := 108) (x := 115) (c := 11) (k := 6) (Ls' := [109, 110, 111, 112, 113, 114, 115]) hA dc_Tr_init_62 (Eq.refl 64) dc_Tr_init_64 (Eq.refl 67) wJ rfl rfl (hn 115 (by decide)) (by decide) (by decide) rfl (by decide) ⟨Nat.le_of_ble_eq_true rfl, Nat.le_of_ble_eq_true rfl⟩ qk_Tr_30 (by decide) rfl (List.mem_append_left _ h0) ha0 rfl rfl rfl (fun E hA ha0 => ?_)
  refine K_aload_n (a := a) dc_Tr_init_67 (Eq.refl 68) 0 rfl ?_
  refine K_sipush (v := (500 : Int32)) dc_Tr_init_68 (Eq.refl 71) rfl ?_
  refine K_arrI (x0 := 108) (x := 116) (c := 11) (k := 7) (Ls' := [109, 110, 111, 112, 113, 114, 115, 116]) hA dc_Tr_init_71 (Eq.refl 73) dc_Tr_init_73 (Eq.refl 76) wI rfl rfl (hn 116 (by decide)) (by decide) (by decide) rfl (by decide) ⟨Nat.le_of_ble_eq_true rfl, Nat.le_of_ble_eq_true rfl⟩ qk_Tr_34 (by decide) rfl (List.mem_append_left _ h0) ha0 rfl rfl rfl (fun E hA ha0 => ?_)
  refine K_aload_n (a := a) dc_Tr_init_76 (Eq.refl 77) 0 rfl ?_
  refine K_sipush (v := (500 : Int32)) dc_Tr_init_77 (Eq.refl 80) rfl ?_
  refine K_arrI (x0 := 108) (x := 117) (c := 11) (k := 8) (Ls' := [109, 110, 111, 112, 113, 114, 115, 116, 117]) hA dc_Tr_init_80 (Eq.refl 82) dc_Tr_init_82 (Eq.refl 85) wI rfl rfl (hn 117 (by decide)) (by decide) (by decide) rfl (by decide) ⟨Nat.le_of_ble_eq_true rfl, Nat.le_of_ble_eq_true rfl⟩ qk_Tr_37 (by decide) rfl (List.mem_append_left _ h0) ha0 rfl rfl rfl (fun E hA ha0 => ?_)
  refine K_aload_n (a := a) dc_Tr_init_85 (Eq.refl 86) 0 rfl ?_
  refine K_sipush (v := (500 : Int32)) dc_Tr_init_86 (Eq.refl 89) rfl ?_
  refine K_arrI (x0 := 108) (x := 118) (c := 11) (k := 9) (Ls' := [109, 110, 111, 112, 113, 114, 115, 116, 117, 118]) hA dc_Tr_init_89 (Eq.refl 91) dc_Tr_init_91 (Eq.refl 94) wI rfl rfl (hn 118 (by decide)) (by decide) (by decide) rfl (by decide) ⟨Nat.le_of_ble_eq_true rfl, Nat.le_of_ble_eq_true rfl⟩ qk_Tr_40 (by decide) rfl (List.mem_append_left _ h0) ha0 rfl rfl rfl (fun E hA ha0 => ?_)
  refine K_aload_n (a := a) dc_Tr_init_94 (Eq.refl 95) 0 rfl ?_
  refine K_sipush (v := (4000 : Int32)) dc_Tr_init_95 (Eq.refl 98) rfl ?_
  refine K_arrI (x0 := 108) (x := 119) (c := 11) (k := 10) (Ls' := [109, 110, 111, 112, 113, 114, 115, 116, 117, 118, 119]) hA dc_Tr_init_98 (Eq.refl 100) dc_Tr_init_100 (Eq.refl 103) wI rfl rfl (hn 119 (by decide)) (by decide) (by decide) rfl (by decide) ⟨Nat.le_of_ble_eq_true rfl, Nat.le_of_ble_eq_true rfl⟩ qk_Tr_43 (by decide) rfl (List.mem_append_left _ h0) ha0 rfl rfl rfl (fun E hA ha0 => ?_)
  exact K_ret dc_Tr_init_103 rfl rfl rfl ⟨hA, rfl, rfl, rfl⟩

theorem ci_Tr_120 {E : En_t} {S : Sb} {P : List Nat} {σ : S_t} {d a  : Nat} (h0 : 120 ∈ P) (hn : ∀ x ∈ ([121, 122, 123, 124, 125, 126, 127, 128, 129, 130, 131] : List Nat), x ∉ P) (ha0 : ro E 120 = a)  : CK E S P σ (d + 1) 11 9000 m_Tr_init [.ref a] (fun u => Ag E u.1 [121, 122, 123, 124, 125, 126, 127, 128, 129, 130, 131] ∧ u.2.1 = (120, 10) :: (120, 9) :: (120, 8) :: (120, 7) :: (120, 6) :: (120, 5) :: (120, 4) :: (120, 3) :: (120, 2) :: (120, 1) :: (120, 0) :: S ∧ u.2.2.1 = P ++ [121, 122, 123, 124, 125, 126, 127, 128, 129, 130, 131] ∧ u.2.2.2 = σ) := by
  refine CK.of (L := [(0, .ref a)]) rfl rfl (Nat.le_of_ble_eq_true rfl) rfl ?_
  have hA : Ag E E [] := Ag.rf
  refine JK_P (List.append_nil P) ?_
  refine K_aload_n (a := a) dc_Tr_init_0 (Eq.refl 1) 0 rfl ?_
  refine K_objInit dc_Tr_init_1 (Eq.refl 4) oi_Tr wOi wOc ⟨by show 1 ≤ d + 1; omega, by show 20 ≤ 64 * (d + 1); omega⟩ ?_
  refine K_aload_n (a := a) dc_Tr_init_4 (Eq.refl 5) 0 rfl ?_
  refine K_sipush (v := (500 : Int32)) dc_Tr_init_5 (Eq.refl 8) rfl ?_
  refine K_arrI (x0 := 120) (x := 121) (c := 11) (k := 0) (Ls' := [121]) hA dc_Tr_init_8 (Eq.refl 10) dc_Tr_init_10 (Eq.refl 13) wI rfl rfl (hn 121 (by decide)) (by decide) (by decide) rfl (by decide) ⟨Nat.le_of_ble_eq_true rfl, Nat.le_of_ble_eq_true rfl⟩ qk_Tr_9 (by decide) rfl (List.mem_append_left _ h0) ha0 rfl rfl rfl (fun E hA ha0 => ?_)
  refine K_aload_n (a := a) dc_Tr_init_13 (Eq.refl 14) 0 rfl ?_
  refine K_sipush (v := (500 : Int32)) dc_Tr_init_14 (Eq.refl 17) rfl ?_
  refine K_arrI (x0 := 120) (x := 122) (c := 11) (k := 1) (Ls' := [121, 122]) hA dc_Tr_init_17 (Eq.refl 19) dc_Tr_init_19 (Eq.refl 22) wI rfl rfl (hn 122 (by decide)) (by decide) (by decide) rfl (by decide) ⟨Nat.le_of_ble_eq_true rfl, Nat.le_of_ble_eq_true rfl⟩ qk_Tr_15 (by decide) rfl (List.mem_append_left _ h0) ha0 rfl rfl rfl (fun E hA ha0 => ?_)
  refine K_aload_n (a := a) dc_Tr_init_22 (Eq.refl 23) 0 rfl ?_
  refine K_sipush (v := (500 : Int32)) dc_Tr_init_23 (Eq.refl 26) rfl ?_
  refine K_arrI (x0 := 120) (x := 123) (c := 11) (k := 2) (Ls' := [121, 122, 123]) hA dc_Tr_init_26 (Eq.refl 28) dc_Tr_init_28 (Eq.refl 31) wI rfl rfl (hn 123 (by decide)) (by decide) (by decide) rfl (by decide) ⟨Nat.le_of_ble_eq_true rfl, Nat.le_of_ble_eq_true rfl⟩ qk_Tr_18 (by decide) rfl (List.mem_append_left _ h0) ha0 rfl rfl rfl (fun E hA ha0 => ?_)
  refine K_aload_n (a := a) dc_Tr_init_31 (Eq.refl 32) 0 rfl ?_
  refine K_sipush (v := (500 : Int32)) dc_Tr_init_32 (Eq.refl 35) rfl ?_
  refine K_arrI (x0 := 120) (x := 124) (c := 11) (k := 3) (Ls' := [121, 122, 123, 124]) hA dc_Tr_init_35 (Eq.refl 37) dc_Tr_init_37 (Eq.refl 40) wI rfl rfl (hn 124 (by decide)) (by decide) (by decide) rfl (by decide) ⟨Nat.le_of_ble_eq_true rfl, Nat.le_of_ble_eq_true rfl⟩ qk_Tr_21 (by decide) rfl (List.mem_append_left _ h0) ha0 rfl rfl rfl (fun E hA ha0 => ?_)
  refine K_aload_n (a := a) dc_Tr_init_40 (Eq.refl 41) 0 rfl ?_
  refine K_sipush (v := (500 : Int32)) dc_Tr_init_41 (Eq.refl 44) rfl ?_
  refine K_arrI (x0 := 120) (x := 125) (c := 11) (k := 4) (Ls' := [121, 122, 123, 124, 125]) hA dc_Tr_init_44 (Eq.refl 46) dc_Tr_init_46 (Eq.refl 49) wI rfl rfl (hn 125 (by decide)) (by decide) (by decide) rfl (by decide) ⟨Nat.le_of_ble_eq_true rfl, Nat.le_of_ble_eq_true rfl⟩ qk_Tr_24 (by decide) rfl (List.mem_append_left _ h0) ha0 rfl rfl rfl (fun E hA ha0 => ?_)
  refine K_aload_n (a := a) dc_Tr_init_49 (Eq.refl 50) 0 rfl ?_
  refine K_sipush (v := (500 : Int32)) dc_Tr_init_50 (Eq.refl 53) rfl ?_
  refine K_arrI (x0 := 120) (x := 126) (c := 11) (k := 5) (Ls' := [121, 122, 123, 124, 125, 126]) hA dc_Tr_init_53 (Eq.refl 55) dc_Tr_init_55 (Eq.refl 58) wI rfl rfl (hn 126 (by decide)) (by decide) (by decide) rfl (by decide) ⟨Nat.le_of_ble_eq_true rfl, Nat.le_of_ble_eq_true rfl⟩ qk_Tr_27 (by decide) rfl (List.mem_append_left _ h0) ha0 rfl rfl rfl (fun E hA ha0 => ?_)
  refine K_aload_n (a := a) dc_Tr_init_58 (Eq.refl 59) 0 rfl ?_
  refine K_sipush (v := (500 : Int32)) dc_Tr_init_59 (Eq.refl 62) rfl ?_
  refine K_arrJ (x0 := 120) (x := 127) (c := 11) (k := 6) (Ls' := [121, 122, 123, 124, 125, 126, 127]) hA dc_Tr_init_62 (Eq.refl 64) dc_Tr_init_64 (Eq.refl 67) wJ rfl rfl (hn 127 (by decide)) (by decide) (by decide) rfl (by decide) ⟨Nat.le_of_ble_eq_true rfl, Nat.le_of_ble_eq_true rfl⟩ qk_Tr_30 (by decide) rfl (List.mem_append_left _ h0) ha0 rfl rfl rfl (fun E hA ha0 => ?_)
  refine K_aload_n (a := a) dc_Tr_init_67 (Eq.refl 68) 0 rfl ?_
  refine K_sipush (v := (500 : Int32)) dc_Tr_init_68 (Eq.refl 71) rfl ?_
  refine K_arrI (x0 := 120) (x := 128) (c := 11) (k := 7) (Ls' := [121, 122, 123, 124, 125, 126, 127, 128]) hA dc_Tr_init_71 (Eq.refl 73) dc_Tr_init_73 (Eq.refl 76) wI rfl rfl (hn 128 (by decide)) (by decide) (by decide) rfl (by decide) ⟨Nat.le_of_ble_eq_true rfl, Nat.le_of_ble_eq_true rfl⟩ qk_Tr_34 (by decide) rfl (List.mem_append_left _ h0) ha0 rfl rfl rfl (fun E hA ha0 => ?_)
  refine K_aload_n (a := a) dc_Tr_init_76 (Eq.refl 77) 0 rfl ?_
  refine K_sipush (v := (500 : Int32)) dc_Tr_init_77 (Eq.refl 80) rfl ?_
  refine K_arrI (x0 := 120) (x := 129) (c := 11) (k := 8) (Ls' := [121, 122, 123, 124, 125, 126, 127, 128, 129]) hA dc_Tr_init_80 (Eq.refl 82) dc_Tr_init_82 (Eq.refl 85) wI rfl rfl (hn 129 (by decide)) (by decide) (by decide) rfl (by decide) ⟨Nat.le_of_ble_eq_true rfl, Nat.le_of_ble_eq_true rfl⟩ qk_Tr_37 (by decide) rfl (List.mem_append_left _ h0) ha0 rfl rfl rfl (fun E hA ha0 => ?_)
  refine K_aload_n (a := a) dc_Tr_init_85 (Eq.refl 86) 0 rfl ?_
  refine K_sipush (v := (500 : Int32)) dc_Tr_init_86 (Eq.refl 89) rfl ?_
  refine K_arrI (x0 := 120) (x := 130) (c := 11) (k := 9) (Ls' := [121, 122, 123, 124, 125, 126, 127, 128, 129, 130]) hA dc_Tr_init_89 (Eq.refl 91) dc_Tr_init_91 (Eq.refl 94) wI rfl rfl (hn 130 (by decide)) (by decide) (by decide) rfl (by decide) ⟨Nat.le_of_ble_eq_true rfl, Nat.le_of_ble_eq_true rfl⟩ qk_Tr_40 (by decide) rfl (List.mem_append_left _ h0) ha0 rfl rfl rfl (fun E hA ha0 => ?_)
  refine K_aload_n (a := a) dc_Tr_init_94 (Eq.refl 95) 0 rfl ?_
  refine K_sipush (v := (4000 : Int32)) dc_Tr_init_95 (Eq.refl 98) rfl ?_
  refine K_arrI (x0 := 120) (x := 131) (c := 11) (k := 10) (Ls' := [121, 122, 123, 124, 125, 126, 127, 128, 129, 130, 131]) hA dc_Tr_init_98 (Eq.refl 100) dc_Tr_init_100 (Eq.refl 103) wI rfl rfl (hn 131 (by decide)) (by decide) (by decide) rfl (by decide) ⟨Nat.le_of_ble_eq_true rfl, Nat.le_of_ble_eq_true rfl⟩ qk_Tr_43 (by decide) rfl (List.mem_append_left _ h0) ha0 rfl rfl rfl (fun E hA ha0 => ?_)
  exact K_ret dc_Tr_init_103 rfl rfl rfl ⟨hA, rfl, rfl, rfl⟩

theorem ci_Tr_132 {E : En_t} {S : Sb} {P : List Nat} {σ : S_t} {d a  : Nat} (h0 : 132 ∈ P) (hn : ∀ x ∈ ([133, 134, 135, 136, 137, 138, 139, 140, 141, 142, 143] : List Nat), x ∉ P) (ha0 : ro E 132 = a)  : CK E S P σ (d + 1) 11 9000 m_Tr_init [.ref a] (fun u => Ag E u.1 [133, 134, 135, 136, 137, 138, 139, 140, 141, 142, 143] ∧ u.2.1 = (132, 10) :: (132, 9) :: (132, 8) :: (132, 7) :: (132, 6) :: (132, 5) :: (132, 4) :: (132, 3) :: (132, 2) :: (132, 1) :: (132, 0) :: S ∧ u.2.2.1 = P ++ [133, 134, 135, 136, 137, 138, 139, 140, 141, 142, 143] ∧ u.2.2.2 = σ) := by
  refine CK.of (L := [(0, .ref a)]) rfl rfl (Nat.le_of_ble_eq_true rfl) rfl ?_
  have hA : Ag E E [] := Ag.rf
  refine JK_P (List.append_nil P) ?_
  refine K_aload_n (a := a) dc_Tr_init_0 (Eq.refl 1) 0 rfl ?_
  refine K_objInit dc_Tr_init_1 (Eq.refl 4) oi_Tr wOi wOc ⟨by show 1 ≤ d + 1; omega, by show 20 ≤ 64 * (d + 1); omega⟩ ?_
  refine K_aload_n (a := a) dc_Tr_init_4 (Eq.refl 5) 0 rfl ?_
  refine K_sipush (v := (500 : Int32)) dc_Tr_init_5 (Eq.refl 8) rfl ?_
  refine K_arrI (x0 := 132) (x := 133) (c := 11) (k := 0) (Ls' := [133]) hA dc_Tr_init_8 (Eq.refl 10) dc_Tr_init_10 (Eq.refl 13) wI rfl rfl (hn 133 (by decide)) (by decide) (by decide) rfl (by decide) ⟨Nat.le_of_ble_eq_true rfl, Nat.le_of_ble_eq_true rfl⟩ qk_Tr_9 (by decide) rfl (List.mem_append_left _ h0) ha0 rfl rfl rfl (fun E hA ha0 => ?_)
  refine K_aload_n (a := a) dc_Tr_init_13 (Eq.refl 14) 0 rfl ?_
  refine K_sipush (v := (500 : Int32)) dc_Tr_init_14 (Eq.refl 17) rfl ?_
  refine K_arrI (x0 := 132) (x := 134) (c := 11) (k := 1) (Ls' := [133, 134]) hA dc_Tr_init_17 (Eq.refl 19) dc_Tr_init_19 (Eq.refl 22) wI rfl rfl (hn 134 (by decide)) (by decide) (by decide) rfl (by decide) ⟨Nat.le_of_ble_eq_true rfl, Nat.le_of_ble_eq_true rfl⟩ qk_Tr_15 (by decide) rfl (List.mem_append_left _ h0) ha0 rfl rfl rfl (fun E hA ha0 => ?_)
  refine K_aload_n (a := a) dc_Tr_init_22 (Eq.refl 23) 0 rfl ?_
  refine K_sipush (v := (500 : Int32)) dc_Tr_init_23 (Eq.refl 26) rfl ?_
  refine K_arrI (x0 := 132) (x := 135) (c := 11) (k := 2) (Ls' := [133, 134, 135]) hA dc_Tr_init_26 (Eq.refl 28) dc_Tr_init_28 (Eq.refl 31) wI rfl rfl (hn 135 (by decide)) (by decide) (by decide) rfl (by decide) ⟨Nat.le_of_ble_eq_true rfl, Nat.le_of_ble_eq_true rfl⟩ qk_Tr_18 (by decide) rfl (List.mem_append_left _ h0) ha0 rfl rfl rfl (fun E hA ha0 => ?_)
  refine K_aload_n (a := a) dc_Tr_init_31 (Eq.refl 32) 0 rfl ?_
  refine K_sipush (v := (500 : Int32)) dc_Tr_init_32 (Eq.refl 35) rfl ?_
  refine K_arrI (x0 := 132) (x := 136) (c := 11) (k := 3) (Ls' := [133, 134, 135, 136]) hA dc_Tr_init_35 (Eq.refl 37) dc_Tr_init_37 (Eq.refl 40) wI rfl rfl (hn 136 (by decide)) (by decide) (by decide) rfl (by decide) ⟨Nat.le_of_ble_eq_true rfl, Nat.le_of_ble_eq_true rfl⟩ qk_Tr_21 (by decide) rfl (List.mem_append_left _ h0) ha0 rfl rfl rfl (fun E hA ha0 => ?_)
  refine K_aload_n (a := a) dc_Tr_init_40 (Eq.refl 41) 0 rfl ?_
  refine K_sipush (v := (500 : Int32)) dc_Tr_init_41 (Eq.refl 44) rfl ?_
  refine K_arrI (x0 := 132) (x := 137) (c := 11) (k := 4) (Ls' := [133, 134, 135, 136, 137]) hA dc_Tr_init_44 (Eq.refl 46) dc_Tr_init_46 (Eq.refl 49) wI rfl rfl (hn 137 (by decide)) (by decide) (by decide) rfl (by decide) ⟨Nat.le_of_ble_eq_true rfl, Nat.le_of_ble_eq_true rfl⟩ qk_Tr_24 (by decide) rfl (List.mem_append_left _ h0) ha0 rfl rfl rfl (fun E hA ha0 => ?_)
  refine K_aload_n (a := a) dc_Tr_init_49 (Eq.refl 50) 0 rfl ?_
  refine K_sipush (v := (500 : Int32)) dc_Tr_init_50 (Eq.refl 53) rfl ?_
  refine K_arrI (x0 := 132) (x := 138) (c := 11) (k := 5) (Ls' := [133, 134, 135, 136, 137, 138]) hA dc_Tr_init_53 (Eq.refl 55) dc_Tr_init_55 (Eq.refl 58) wI rfl rfl (hn 138 (by decide)) (by decide) (by decide) rfl (by decide) ⟨Nat.le_of_ble_eq_true rfl, Nat.le_of_ble_eq_true rfl⟩ qk_Tr_27 (by decide) rfl (List.mem_append_left _ h0) ha0 rfl rfl rfl (fun E hA ha0 => ?_)
  refine K_aload_n (a := a) dc_Tr_init_58 (Eq.refl 59) 0 rfl ?_
  refine K_sipush (v := (500 : Int32)) dc_Tr_init_59 (Eq.refl 62) rfl ?_
  refine K_arrJ (x0 := 132) (x := 139) (c := 11) (k := 6) (Ls' := [133, 134, 135, 136, 137, 138, 139]) hA dc_Tr_init_62 (Eq.refl 64) dc_Tr_init_64 (Eq.refl 67) wJ rfl rfl (hn 139 (by decide)) (by decide) (by decide) rfl (by decide) ⟨Nat.le_of_ble_eq_true rfl, Nat.le_of_ble_eq_true rfl⟩ qk_Tr_30 (by decide) rfl (List.mem_append_left _ h0) ha0 rfl rfl rfl (fun E hA ha0 => ?_)
  refine K_aload_n (a := a) dc_Tr_init_67 (Eq.refl 68) 0 rfl ?_
  refine K_sipush (v := (500 : Int32)) dc_Tr_init_68 (Eq.refl 71) rfl ?_
  refine K_arrI (x0 := 132) (x := 140) (c := 11) (k := 7) (Ls' := [133, 134, 135, 136, 137, 138, 139, 140]) hA dc_Tr_init_71 (Eq.refl 73) dc_Tr_init_73 (Eq.refl 76) wI rfl rfl (hn 140 (by decide)) (by decide) (by decide) rfl (by decide) ⟨Nat.le_of_ble_eq_true rfl, Nat.le_of_ble_eq_true rfl⟩ qk_Tr_34 (by decide) rfl (List.mem_append_left _ h0) ha0 rfl rfl rfl (fun E hA ha0 => ?_)
  refine K_aload_n (a := a) dc_Tr_init_76 (Eq.refl 77) 0 rfl ?_
  refine K_sipush (v := (500 : Int32)) dc_Tr_init_77 (Eq.refl 80) rfl ?_
  refine K_arrI (x0 := 132) (x := 141) (c := 11) (k := 8) (Ls' := [133, 134, 135, 136, 137, 138, 139, 140, 141]) hA dc_Tr_init_80 (Eq.refl 82) dc_Tr_init_82 (Eq.refl 85) wI rfl rfl (hn 141 (by decide)) (by decide) (by decide) rfl (by decide) ⟨Nat.le_of_ble_eq_true rfl, Nat.le_of_ble_eq_true rfl⟩ qk_Tr_37 (by decide) rfl (List.mem_append_left _ h0) ha0 rfl rfl rfl (fun E hA ha0 => ?_)
  refine K_aload_n (a := a) dc_Tr_init_85 (Eq.refl 86) 0 rfl ?_
  refine K_sipush (v := (500 : Int32)) dc_Tr_init_86 (Eq.refl 89) rfl ?_
  refine K_arrI (x0 := 132) (x := 142) (c := 11) (k := 9) (Ls' := [133, 134, 135, 136, 137, 138, 139, 140, 141, 142]) hA dc_Tr_init_89 (Eq.refl 91) dc_Tr_init_91 (Eq.refl 94) wI rfl rfl (hn 142 (by decide)) (by decide) (by decide) rfl (by decide) ⟨Nat.le_of_ble_eq_true rfl, Nat.le_of_ble_eq_true rfl⟩ qk_Tr_40 (by decide) rfl (List.mem_append_left _ h0) ha0 rfl rfl rfl (fun E hA ha0 => ?_)
  refine K_aload_n (a := a) dc_Tr_init_94 (Eq.refl 95) 0 rfl ?_
  refine K_sipush (v := (4000 : Int32)) dc_Tr_init_95 (Eq.refl 98) rfl ?_
  refine K_arrI (x0 := 132) (x := 143) (c := 11) (k := 10) (Ls' := [133, 134, 135, 136, 137, 138, 139, 140, 141, 142, 143]) hA dc_Tr_init_98 (Eq.refl 100) dc_Tr_init_100 (Eq.refl 103) wI rfl rfl (hn 143 (by decide)) (by decide) (by decide) rfl (by decide) ⟨Nat.le_of_ble_eq_true rfl, Nat.le_of_ble_eq_true rfl⟩ qk_Tr_43 (by decide) rfl (List.mem_append_left _ h0) ha0 rfl rfl rfl (fun E hA ha0 => ?_)
  exact K_ret dc_Tr_init_103 rfl rfl rfl ⟨hA, rfl, rfl, rfl⟩

theorem ci_Tr_144 {E : En_t} {S : Sb} {P : List Nat} {σ : S_t} {d a  : Nat} (h0 : 144 ∈ P) (hn : ∀ x ∈ ([145, 146, 147, 148, 149, 150, 151, 152, 153, 154, 155] : List Nat), x ∉ P) (ha0 : ro E 144 = a)  : CK E S P σ (d + 1) 11 9000 m_Tr_init [.ref a] (fun u => Ag E u.1 [145, 146, 147, 148, 149, 150, 151, 152, 153, 154, 155] ∧ u.2.1 = (144, 10) :: (144, 9) :: (144, 8) :: (144, 7) :: (144, 6) :: (144, 5) :: (144, 4) :: (144, 3) :: (144, 2) :: (144, 1) :: (144, 0) :: S ∧ u.2.2.1 = P ++ [145, 146, 147, 148, 149, 150, 151, 152, 153, 154, 155] ∧ u.2.2.2 = σ) := by
  refine CK.of (L := [(0, .ref a)]) rfl rfl (Nat.le_of_ble_eq_true rfl) rfl ?_
  have hA : Ag E E [] := Ag.rf
  refine JK_P (List.append_nil P) ?_
  refine K_aload_n (a := a) dc_Tr_init_0 (Eq.refl 1) 0 rfl ?_
  refine K_objInit dc_Tr_init_1 (Eq.refl 4) oi_Tr wOi wOc ⟨by show 1 ≤ d + 1; omega, by show 20 ≤ 64 * (d + 1); omega⟩ ?_
  refine K_aload_n (a := a) dc_Tr_init_4 (Eq.refl 5) 0 rfl ?_
  refine K_sipush (v := (500 : Int32)) dc_Tr_init_5 (Eq.refl 8) rfl ?_
  refine K_arrI (x0 := 144) (x := 145) (c := 11) (k := 0) (Ls' := [145]) hA dc_Tr_init_8 (Eq.refl 10) dc_Tr_init_10 (Eq.refl 13) wI rfl rfl (hn 145 (by decide)) (by decide) (by decide) rfl (by decide) ⟨Nat.le_of_ble_eq_true rfl, Nat.le_of_ble_eq_true rfl⟩ qk_Tr_9 (by decide) rfl (List.mem_append_left _ h0) ha0 rfl rfl rfl (fun E hA ha0 => ?_)
  refine K_aload_n (a := a) dc_Tr_init_13 (Eq.refl 14) 0 rfl ?_
  refine K_sipush (v := (500 : Int32)) dc_Tr_init_14 (Eq.refl 17) rfl ?_
  refine K_arrI (x0 := 144) (x := 146) (c := 11) (k := 1) (Ls' := [145, 146]) hA dc_Tr_init_17 (Eq.refl 19) dc_Tr_init_19 (Eq.refl 22) wI rfl rfl (hn 146 (by decide)) (by decide) (by decide) rfl (by decide) ⟨Nat.le_of_ble_eq_true rfl, Nat.le_of_ble_eq_true rfl⟩ qk_Tr_15 (by decide) rfl (List.mem_append_left _ h0) ha0 rfl rfl rfl (fun E hA ha0 => ?_)
  refine K_aload_n (a := a) dc_Tr_init_22 (Eq.refl 23) 0 rfl ?_
  refine K_sipush (v := (500 : Int32)) dc_Tr_init_23 (Eq.refl 26) rfl ?_
  refine K_arrI (x0 := 144) (x := 147) (c := 11) (k := 2) (Ls' := [145, 146, 147]) hA dc_Tr_init_26 (Eq.refl 28) dc_Tr_init_28 (Eq.refl 31) wI rfl rfl (hn 147 (by decide)) (by decide) (by decide) rfl (by decide) ⟨Nat.le_of_ble_eq_true rfl, Nat.le_of_ble_eq_true rfl⟩ qk_Tr_18 (by decide) rfl (List.mem_append_left _ h0) ha0 rfl rfl rfl (fun E hA ha0 => ?_)
  refine K_aload_n (a := a) dc_Tr_init_31 (Eq.refl 32) 0 rfl ?_
  refine K_sipush (v := (500 : Int32)) dc_Tr_init_32 (Eq.refl 35) rfl ?_
  refine K_arrI (x0 := 144) (x := 148) (c := 11) (k := 3) (Ls' := [145, 146, 147, 148]) hA dc_Tr_init_35 (Eq.refl 37) dc_Tr_init_37 (Eq.refl 40) wI rfl rfl (hn 148 (by decide)) (by decide) (by decide) rfl (by decide) ⟨Nat.le_of_ble_eq_true rfl, Nat.le_of_ble_eq_true rfl⟩ qk_Tr_21 (by decide) rfl (List.mem_append_left _ h0) ha0 rfl rfl rfl (fun E hA ha0 => ?_)
  refine K_aload_n (a := a) dc_Tr_init_40 (Eq.refl 41) 0 rfl ?_
  refine K_sipush (v := (500 : Int32)) dc_Tr_init_41 (Eq.refl 44) rfl ?_
  refine K_arrI (x0 := 144) (x := 149) (c := 11) (k := 4) (Ls' := [145, 146, 147, 148, 149]) hA dc_Tr_init_44 (Eq.refl 46) dc_Tr_init_46 (Eq.refl 49) wI rfl rfl (hn 149 (by decide)) (by decide) (by decide) rfl (by decide) ⟨Nat.le_of_ble_eq_true rfl, Nat.le_of_ble_eq_true rfl⟩ qk_Tr_24 (by decide) rfl (List.mem_append_left _ h0) ha0 rfl rfl rfl (fun E hA ha0 => ?_)
  refine K_aload_n (a := a) dc_Tr_init_49 (Eq.refl 50) 0 rfl ?_
  refine K_sipush (v := (500 : Int32)) dc_Tr_init_50 (Eq.refl 53) rfl ?_
  refine K_arrI (x0 := 144) (x := 150) (c := 11) (k := 5) (Ls' := [145, 146, 147, 148, 149, 150]) hA dc_Tr_init_53 (Eq.refl 55) dc_Tr_init_55 (Eq.refl 58) wI rfl rfl (hn 150 (by decide)) (by decide) (by decide) rfl (by decide) ⟨Nat.le_of_ble_eq_true rfl, Nat.le_of_ble_eq_true rfl⟩ qk_Tr_27 (by decide) rfl (List.mem_append_left _ h0) ha0 rfl rfl rfl (fun E hA ha0 => ?_)
  refine K_aload_n (a := a) dc_Tr_init_58 (Eq.refl 59) 0 rfl ?_
  refine K_sipush (v := (500 : Int32)) dc_Tr_init_59 (Eq.refl 62) rfl ?_
  refine K_arrJ (x0 := 144) (x := 151) (c := 11) (k := 6) (Ls' := [145, 146, 147, 148, 149, 150, 151]) hA dc_Tr_init_62 (Eq.refl 64) dc_Tr_init_64 (Eq.refl 67) wJ rfl rfl (hn 151 (by decide)) (by decide) (by decide) rfl (by decide) ⟨Nat.le_of_ble_eq_true rfl, Nat.le_of_ble_eq_true rfl⟩ qk_Tr_30 (by decide) rfl (List.mem_append_left _ h0) ha0 rfl rfl rfl (fun E hA ha0 => ?_)
  refine K_aload_n (a := a) dc_Tr_init_67 (Eq.refl 68) 0 rfl ?_
  refine K_sipush (v := (500 : Int32)) dc_Tr_init_68 (Eq.refl 71) rfl ?_
  refine K_arrI (x0 := 144) (x := 152) (c := 11) (k := 7) (Ls' := [145, 146, 147, 148, 149, 150, 151, 152]) hA dc_Tr_init_71 (Eq.refl 73) dc_Tr_init_73 (Eq.refl 76) wI rfl rfl (hn 152 (by decide)) (by decide) (by decide) rfl (by decide) ⟨Nat.le_of_ble_eq_true rfl, Nat.le_of_ble_eq_true rfl⟩ qk_Tr_34 (by decide) rfl (List.mem_append_left _ h0) ha0 rfl rfl rfl (fun E hA ha0 => ?_)
  refine K_aload_n (a := a) dc_Tr_init_76 (Eq.refl 77) 0 rfl ?_
  refine K_sipush (v := (500 : Int32)) dc_Tr_init_77 (Eq.refl 80) rfl ?_
  refine K_arrI (x0 := 144) (x := 153) (c := 11) (k := 8) (Ls' := [145, 146, 147, 148, 149, 150, 151, 152, 153]) hA dc_Tr_init_80 (Eq.refl 82) dc_Tr_init_82 (Eq.refl 85) wI rfl rfl (hn 153 (by decide)) (by decide) (by decide) rfl (by decide) ⟨Nat.le_of_ble_eq_true rfl, Nat.le_of_ble_eq_true rfl⟩ qk_Tr_37 (by decide) rfl (List.mem_append_left _ h0) ha0 rfl rfl rfl (fun E hA ha0 => ?_)
  refine K_aload_n (a := a) dc_Tr_init_85 (Eq.refl 86) 0 rfl ?_
  refine K_sipush (v := (500 : Int32)) dc_Tr_init_86 (Eq.refl 89) rfl ?_
  refine K_arrI (x0 := 144) (x := 154) (c := 11) (k := 9) (Ls' := [145, 146, 147, 148, 149, 150, 151, 152, 153, 154]) hA dc_Tr_init_89 (Eq.refl 91) dc_Tr_init_91 (Eq.refl 94) wI rfl rfl (hn 154 (by decide)) (by decide) (by decide) rfl (by decide) ⟨Nat.le_of_ble_eq_true rfl, Nat.le_of_ble_eq_true rfl⟩ qk_Tr_40 (by decide) rfl (List.mem_append_left _ h0) ha0 rfl rfl rfl (fun E hA ha0 => ?_)
  refine K_aload_n (a := a) dc_Tr_init_94 (Eq.refl 95) 0 rfl ?_
  refine K_sipush (v := (4000 : Int32)) dc_Tr_init_95 (Eq.refl 98) rfl ?_
  refine K_arrI (x0 := 144) (x := 155) (c := 11) (k := 10) (Ls' := [145, 146, 147, 148, 149, 150, 151, 152, 153, 154, 155]) hA dc_Tr_init_98 (Eq.refl 100) dc_Tr_init_100 (Eq.refl 103) wI rfl rfl (hn 155 (by decide)) (by decide) (by decide) rfl (by decide) ⟨Nat.le_of_ble_eq_true rfl, Nat.le_of_ble_eq_true rfl⟩ qk_Tr_43 (by decide) rfl (List.mem_append_left _ h0) ha0 rfl rfl rfl (fun E hA ha0 => ?_)
  exact K_ret dc_Tr_init_103 rfl rfl rfl ⟨hA, rfl, rfl, rfl⟩

theorem ci_Tr_156 {E : En_t} {S : Sb} {P : List Nat} {σ : S_t} {d a  : Nat} (h0 : 156 ∈ P) (hn : ∀ x ∈ ([157, 158, 159, 160, 161, 162, 163, 164, 165, 166, 167] : List Nat), x ∉ P) (ha0 : ro E 156 = a)  : CK E S P σ (d + 1) 11 9000 m_Tr_init [.ref a] (fun u => Ag E u.1 [157, 158, 159, 160, 161, 162, 163, 164, 165, 166, 167] ∧ u.2.1 = (156, 10) :: (156, 9) :: (156, 8) :: (156, 7) :: (156, 6) :: (156, 5) :: (156, 4) :: (156, 3) :: (156, 2) :: (156, 1) :: (156, 0) :: S ∧ u.2.2.1 = P ++ [157, 158, 159, 160, 161, 162, 163, 164, 165, 166, 167] ∧ u.2.2.2 = σ) := by
  refine CK.of (L := [(0, .ref a)]) rfl rfl (Nat.le_of_ble_eq_true rfl) rfl ?_
  have hA : Ag E E [] := Ag.rf
  refine JK_P (List.append_nil P) ?_
  refine K_aload_n (a := a) dc_Tr_init_0 (Eq.refl 1) 0 rfl ?_
  refine K_objInit dc_Tr_init_1 (Eq.refl 4) oi_Tr wOi wOc ⟨by show 1 ≤ d + 1; omega, by show 20 ≤ 64 * (d + 1); omega⟩ ?_
  refine K_aload_n (a := a) dc_Tr_init_4 (Eq.refl 5) 0 rfl ?_
  refine K_sipush (v := (500 : Int32)) dc_Tr_init_5 (Eq.refl 8) rfl ?_
  refine K_arrI (x0 := 156) (x := 157) (c := 11) (k := 0) (Ls' := [157]) hA dc_Tr_init_8 (Eq.refl 10) dc_Tr_init_10 (Eq.refl 13) wI rfl rfl (hn 157 (by decide)) (by decide) (by decide) rfl (by decide) ⟨Nat.le_of_ble_eq_true rfl, Nat.le_of_ble_eq_true rfl⟩ qk_Tr_9 (by decide) rfl (List.mem_append_left _ h0) ha0 rfl rfl rfl (fun E hA ha0 => ?_)
  refine K_aload_n (a := a) dc_Tr_init_13 (Eq.refl 14) 0 rfl ?_
  refine K_sipush (v := (500 : Int32)) dc_Tr_init_14 (Eq.refl 17) rfl ?_
  refine K_arrI (x0 := 156) (x := 158) (c := 11) (k := 1) (Ls' := [157, 158]) hA dc_Tr_init_17 (Eq.refl 19) dc_Tr_init_19 (Eq.refl 22) wI rfl rfl (hn 158 (by decide)) (by decide) (by decide) rfl (by decide) ⟨Nat.le_of_ble_eq_true rfl, Nat.le_of_ble_eq_true rfl⟩ qk_Tr_15 (by decide) rfl (List.mem_append_left _ h0) ha0 rfl rfl rfl (fun E hA ha0 => ?_)
  refine K_aload_n (a := a) dc_Tr_init_22 (Eq.refl 23) 0 rfl ?_
  refine K_sipush (v := (500 : Int32)) dc_Tr_init_23 (Eq.refl 26) rfl ?_
  refine K_arrI (x0 := 156) (x := 159) (c := 11) (k := 2) (Ls' := [157, 158, 159]) hA dc_Tr_init_26 (Eq.refl 28) dc_Tr_init_28 (Eq.refl 31) wI rfl rfl (hn 159 (by decide)) (by decide) (by decide) rfl (by decide) ⟨Nat.le_of_ble_eq_true rfl, Nat.le_of_ble_eq_true rfl⟩ qk_Tr_18 (by decide) rfl (List.mem_append_left _ h0) ha0 rfl rfl rfl (fun E hA ha0 => ?_)
  refine K_aload_n (a := a) dc_Tr_init_31 (Eq.refl 32) 0 rfl ?_
  refine K_sipush (v := (500 : Int32)) dc_Tr_init_32 (Eq.refl 35) rfl ?_
  refine K_arrI (x0 := 156) (x := 160) (c := 11) (k := 3) (Ls' := [157, 158, 159, 160]) hA dc_Tr_init_35 (Eq.refl 37) dc_Tr_init_37 (Eq.refl 40) wI rfl rfl (hn 160 (by decide)) (by decide) (by decide) rfl (by decide) ⟨Nat.le_of_ble_eq_true rfl, Nat.le_of_ble_eq_true rfl⟩ qk_Tr_21 (by decide) rfl (List.mem_append_left _ h0) ha0 rfl rfl rfl (fun E hA ha0 => ?_)
  refine K_aload_n (a := a) dc_Tr_init_40 (Eq.refl 41) 0 rfl ?_
  refine K_sipush (v := (500 : Int32)) dc_Tr_init_41 (Eq.refl 44) rfl ?_
  refine K_arrI (x0 := 156) (x := 161) (c := 11) (k := 4) (Ls' := [157, 158, 159, 160, 161]) hA dc_Tr_init_44 (Eq.refl 46) dc_Tr_init_46 (Eq.refl 49) wI rfl rfl (hn 161 (by decide)) (by decide) (by decide) rfl (by decide) ⟨Nat.le_of_ble_eq_true rfl, Nat.le_of_ble_eq_true rfl⟩ qk_Tr_24 (by decide) rfl (List.mem_append_left _ h0) ha0 rfl rfl rfl (fun E hA ha0 => ?_)
  refine K_aload_n (a := a) dc_Tr_init_49 (Eq.refl 50) 0 rfl ?_
  refine K_sipush (v := (500 : Int32)) dc_Tr_init_50 (Eq.refl 53) rfl ?_
  refine K_arrI (x0 := 156) (x := 162) (c := 11) (k := 5) (Ls' := [157, 158, 159, 160, 161, 162]) hA dc_Tr_init_53 (Eq.refl 55) dc_Tr_init_55 (Eq.refl 58) wI rfl rfl (hn 162 (by decide)) (by decide) (by decide) rfl (by decide) ⟨Nat.le_of_ble_eq_true rfl, Nat.le_of_ble_eq_true rfl⟩ qk_Tr_27 (by decide) rfl (List.mem_append_left _ h0) ha0 rfl rfl rfl (fun E hA ha0 => ?_)
  refine K_aload_n (a := a) dc_Tr_init_58 (Eq.refl 59) 0 rfl ?_
  refine K_sipush (v := (500 : Int32)) dc_Tr_init_59 (Eq.refl 62) rfl ?_
  refine K_arrJ (x0 := 156) (x := 163) (c := 11) (k := 6) (Ls' := [157, 158, 159, 160, 161, 162, 163]) hA dc_Tr_init_62 (Eq.refl 64) dc_Tr_init_64 (Eq.refl 67) wJ rfl rfl (hn 163 (by decide)) (by decide) (by decide) rfl (by decide) ⟨Nat.le_of_ble_eq_true rfl, Nat.le_of_ble_eq_true rfl⟩ qk_Tr_30 (by decide) rfl (List.mem_append_left _ h0) ha0 rfl rfl rfl (fun E hA ha0 => ?_)
  refine K_aload_n (a := a) dc_Tr_init_67 (Eq.refl 68) 0 rfl ?_
  refine K_sipush (v := (500 : Int32)) dc_Tr_init_68 (Eq.refl 71) rfl ?_
  refine K_arrI (x0 := 156) (x := 164) (c := 11) (k := 7) (Ls' := [157, 158, 159, 160, 161, 162, 163, 164]) hA dc_Tr_init_71 (Eq.refl 73) dc_Tr_init_73 (Eq.refl 76) wI rfl rfl (hn 164 (by decide)) (by decide) (by decide) rfl (by decide) ⟨Nat.le_of_ble_eq_true rfl, Nat.le_of_ble_eq_true rfl⟩ qk_Tr_34 (by decide) rfl (List.mem_append_left _ h0) ha0 rfl rfl rfl (fun E hA ha0 => ?_)
  refine K_aload_n (a := a) dc_Tr_init_76 (Eq.refl 77) 0 rfl ?_
  refine K_sipush (v := (500 : Int32)) dc_Tr_init_77 (Eq.refl 80) rfl ?_
  refine K_arrI (x0 := 156) (x := 165) (c := 11) (k := 8) (Ls' := [157, 158, 159, 160, 161, 162, 163, 164, 165]) hA dc_Tr_init_80 (Eq.refl 82) dc_Tr_init_82 (Eq.refl 85) wI rfl rfl (hn 165 (by decide)) (by decide) (by decide) rfl (by decide) ⟨Nat.le_of_ble_eq_true rfl, Nat.le_of_ble_eq_true rfl⟩ qk_Tr_37 (by decide) rfl (List.mem_append_left _ h0) ha0 rfl rfl rfl (fun E hA ha0 => ?_)
  refine K_aload_n (a := a) dc_Tr_init_85 (Eq.refl 86) 0 rfl ?_
  refine K_sipush (v := (500 : Int32)) dc_Tr_init_86 (Eq.refl 89) rfl ?_
  refine K_arrI (x0 := 156) (x := 166) (c := 11) (k := 9) (Ls' := [157, 158, 159, 160, 161, 162, 163, 164, 165, 166]) hA dc_Tr_init_89 (Eq.refl 91) dc_Tr_init_91 (Eq.refl 94) wI rfl rfl (hn 166 (by decide)) (by decide) (by decide) rfl (by decide) ⟨Nat.le_of_ble_eq_true rfl, Nat.le_of_ble_eq_true rfl⟩ qk_Tr_40 (by decide) rfl (List.mem_append_left _ h0) ha0 rfl rfl rfl (fun E hA ha0 => ?_)
  refine K_aload_n (a := a) dc_Tr_init_94 (Eq.refl 95) 0 rfl ?_
  refine K_sipush (v := (4000 : Int32)) dc_Tr_init_95 (Eq.refl 98) rfl ?_
  refine K_arrI (x0 := 156) (x := 167) (c := 11) (k := 10) (Ls' := [157, 158, 159, 160, 161, 162, 163, 164, 165, 166, 167]) hA dc_Tr_init_98 (Eq.refl 100) dc_Tr_init_100 (Eq.refl 103) wI rfl rfl (hn 167 (by decide)) (by decide) (by decide) rfl (by decide) ⟨Nat.le_of_ble_eq_true rfl, Nat.le_of_ble_eq_true rfl⟩ qk_Tr_43 (by decide) rfl (List.mem_append_left _ h0) ha0 rfl rfl rfl (fun E hA ha0 => ?_)
  exact K_ret dc_Tr_init_103 rfl rfl rfl ⟨hA, rfl, rfl, rfl⟩

theorem ci_Tr_168 {E : En_t} {S : Sb} {P : List Nat} {σ : S_t} {d a  : Nat} (h0 : 168 ∈ P) (hn : ∀ x ∈ ([169, 170, 171, 172, 173, 174, 175, 176, 177, 178, 179] : List Nat), x ∉ P) (ha0 : ro E 168 = a)  : CK E S P σ (d + 1) 11 9000 m_Tr_init [.ref a] (fun u => Ag E u.1 [169, 170, 171, 172, 173, 174, 175, 176, 177, 178, 179] ∧ u.2.1 = (168, 10) :: (168, 9) :: (168, 8) :: (168, 7) :: (168, 6) :: (168, 5) :: (168, 4) :: (168, 3) :: (168, 2) :: (168, 1) :: (168, 0) :: S ∧ u.2.2.1 = P ++ [169, 170, 171, 172, 173, 174, 175, 176, 177, 178, 179] ∧ u.2.2.2 = σ) := by
  refine CK.of (L := [(0, .ref a)]) rfl rfl (Nat.le_of_ble_eq_true rfl) rfl ?_
  have hA : Ag E E [] := Ag.rf
  refine JK_P (List.append_nil P) ?_
  refine K_aload_n (a := a) dc_Tr_init_0 (Eq.refl 1) 0 rfl ?_
  refine K_objInit dc_Tr_init_1 (Eq.refl 4) oi_Tr wOi wOc ⟨by show 1 ≤ d + 1; omega, by show 20 ≤ 64 * (d + 1); omega⟩ ?_
  refine K_aload_n (a := a) dc_Tr_init_4 (Eq.refl 5) 0 rfl ?_
  refine K_sipush (v := (500 : Int32)) dc_Tr_init_5 (Eq.refl 8) rfl ?_
  refine K_arrI (x0 := 168) (x := 169) (c := 11) (k := 0) (Ls' := [169]) hA dc_Tr_init_8 (Eq.refl 10) dc_Tr_init_10 (Eq.refl 13) wI rfl rfl (hn 169 (by decide)) (by decide) (by decide) rfl (by decide) ⟨Nat.le_of_ble_eq_true rfl, Nat.le_of_ble_eq_true rfl⟩ qk_Tr_9 (by decide) rfl (List.mem_append_left _ h0) ha0 rfl rfl rfl (fun E hA ha0 => ?_)
  refine K_aload_n (a := a) dc_Tr_init_13 (Eq.refl 14) 0 rfl ?_
  refine K_sipush (v := (500 : Int32)) dc_Tr_init_14 (Eq.refl 17) rfl ?_
  refine K_arrI (x0 := 168) (x := 170) (c := 11) (k := 1) (Ls' := [169, 170]) hA dc_Tr_init_17 (Eq.refl 19) dc_Tr_init_19 (Eq.refl 22) wI rfl rfl (hn 170 (by decide)) (by decide) (by decide) rfl (by decide) ⟨Nat.le_of_ble_eq_true rfl, Nat.le_of_ble_eq_true rfl⟩ qk_Tr_15 (by decide) rfl (List.mem_append_left _ h0) ha0 rfl rfl rfl (fun E hA ha0 => ?_)
  refine K_aload_n (a := a) dc_Tr_init_22 (Eq.refl 23) 0 rfl ?_
  refine K_sipush (v := (500 : Int32)) dc_Tr_init_23 (Eq.refl 26) rfl ?_
  refine K_arrI (x0 := 168) (x := 171) (c := 11) (k := 2) (Ls' := [169, 170, 171]) hA dc_Tr_init_26 (Eq.refl 28) dc_Tr_init_28 (Eq.refl 31) wI rfl rfl (hn 171 (by decide)) (by decide) (by decide) rfl (by decide) ⟨Nat.le_of_ble_eq_true rfl, Nat.le_of_ble_eq_true rfl⟩ qk_Tr_18 (by decide) rfl (List.mem_append_left _ h0) ha0 rfl rfl rfl (fun E hA ha0 => ?_)
  refine K_aload_n (a := a) dc_Tr_init_31 (Eq.refl 32) 0 rfl ?_
  refine K_sipush (v := (500 : Int32)) dc_Tr_init_32 (Eq.refl 35) rfl ?_
  refine K_arrI (x0 := 168) (x := 172) (c := 11) (k := 3) (Ls' := [169, 170, 171, 172]) hA dc_Tr_init_35 (Eq.refl 37) dc_Tr_init_37 (Eq.refl 40) wI rfl rfl (hn 172 (by decide)) (by decide) (by decide) rfl (by decide) ⟨Nat.le_of_ble_eq_true rfl, Nat.le_of_ble_eq_true rfl⟩ qk_Tr_21 (by decide) rfl (List.mem_append_left _ h0) ha0 rfl rfl rfl (fun E hA ha0 => ?_)
  refine K_aload_n (a := a) dc_Tr_init_40 (Eq.refl 41) 0 rfl ?_
  refine K_sipush (v := (500 : Int32)) dc_Tr_init_41 (Eq.refl 44) rfl ?_
  refine K_arrI (x0 := 168) (x := 173) (c := 11) (k := 4) (Ls' := [169, 170, 171, 172, 173]) hA dc_Tr_init_44 (Eq.refl 46) dc_Tr_init_46 (Eq.refl 49) wI rfl rfl (hn 173 (by decide)) (by decide) (by decide) rfl (by decide) ⟨Nat.le_of_ble_eq_true rfl, Nat.le_of_ble_eq_true rfl⟩ qk_Tr_24 (by decide) rfl (List.mem_append_left _ h0) ha0 rfl rfl rfl (fun E hA ha0 => ?_)
  refine K_aload_n (a := a) dc_Tr_init_49 (Eq.refl 50) 0 rfl ?_
  refine K_sipush (v := (500 : Int32)) dc_Tr_init_50 (Eq.refl 53) rfl ?_
  refine K_arrI (x0 := 168) (x := 174) (c := 11) (k := 5) (Ls' := [169, 170, 171, 172, 173, 174]) hA dc_Tr_init_53 (Eq.refl 55) dc_Tr_init_55 (Eq.refl 58) wI rfl rfl (hn 174 (by decide)) (by decide) (by decide) rfl (by decide) ⟨Nat.le_of_ble_eq_true rfl, Nat.le_of_ble_eq_true rfl⟩ qk_Tr_27 (by decide) rfl (List.mem_append_left _ h0) ha0 rfl rfl rfl (fun E hA ha0 => ?_)
  refine K_aload_n (a := a) dc_Tr_init_58 (Eq.refl 59) 0 rfl ?_
  refine K_sipush (v := (500 : Int32)) dc_Tr_init_59 (Eq.refl 62) rfl ?_
  refine K_arrJ (x0 := 168) (x := 175) (c := 11) (k := 6) (Ls' := [169, 170, 171, 172, 173, 174, 175]) hA dc_Tr_init_62 (Eq.refl 64) dc_Tr_init_64 (Eq.refl 67) wJ rfl rfl (hn 175 (by decide)) (by decide) (by decide) rfl (by decide) ⟨Nat.le_of_ble_eq_true rfl, Nat.le_of_ble_eq_true rfl⟩ qk_Tr_30 (by decide) rfl (List.mem_append_left _ h0) ha0 rfl rfl rfl (fun E hA ha0 => ?_)
  refine K_aload_n (a := a) dc_Tr_init_67 (Eq.refl 68) 0 rfl ?_
  refine K_sipush (v := (500 : Int32)) dc_Tr_init_68 (Eq.refl 71) rfl ?_
  refine K_arrI (x0 := 168) (x := 176) (c := 11) (k := 7) (Ls' := [169, 170, 171, 172, 173, 174, 175, 176]) hA dc_Tr_init_71 (Eq.refl 73) dc_Tr_init_73 (Eq.refl 76) wI rfl rfl (hn 176 (by decide)) (by decide) (by decide) rfl (by decide) ⟨Nat.le_of_ble_eq_true rfl, Nat.le_of_ble_eq_true rfl⟩ qk_Tr_34 (by decide) rfl (List.mem_append_left _ h0) ha0 rfl rfl rfl (fun E hA ha0 => ?_)
  refine K_aload_n (a := a) dc_Tr_init_76 (Eq.refl 77) 0 rfl ?_
  refine K_sipush (v := (500 : Int32)) dc_Tr_init_77 (Eq.refl 80) rfl ?_
  refine K_arrI (x0 := 168) (x := 177) (c := 11) (k := 8) (Ls' := [169, 170, 171, 172, 173, 174, 175, 176, 177]) hA dc_Tr_init_80 (Eq.refl 82) dc_Tr_init_82 (Eq.refl 85) wI rfl rfl (hn 177 (by decide)) (by decide) (by decide) rfl (by decide) ⟨Nat.le_of_ble_eq_true rfl, Nat.le_of_ble_eq_true rfl⟩ qk_Tr_37 (by decide) rfl (List.mem_append_left _ h0) ha0 rfl rfl rfl (fun E hA ha0 => ?_)
  refine K_aload_n (a := a) dc_Tr_init_85 (Eq.refl 86) 0 rfl ?_
  refine K_sipush (v := (500 : Int32)) dc_Tr_init_86 (Eq.refl 89) rfl ?_
  refine K_arrI (x0 := 168) (x := 178) (c := 11) (k := 9) (Ls' := [169, 170, 171, 172, 173, 174, 175, 176, 177, 178]) hA dc_Tr_init_89 (Eq.refl 91) dc_Tr_init_91 (Eq.refl 94) wI rfl rfl (hn 178 (by decide)) (by decide) (by decide) rfl (by decide) ⟨Nat.le_of_ble_eq_true rfl, Nat.le_of_ble_eq_true rfl⟩ qk_Tr_40 (by decide) rfl (List.mem_append_left _ h0) ha0 rfl rfl rfl (fun E hA ha0 => ?_)
  refine K_aload_n (a := a) dc_Tr_init_94 (Eq.refl 95) 0 rfl ?_
  refine K_sipush (v := (4000 : Int32)) dc_Tr_init_95 (Eq.refl 98) rfl ?_
  refine K_arrI (x0 := 168) (x := 179) (c := 11) (k := 10) (Ls' := [169, 170, 171, 172, 173, 174, 175, 176, 177, 178, 179]) hA dc_Tr_init_98 (Eq.refl 100) dc_Tr_init_100 (Eq.refl 103) wI rfl rfl (hn 179 (by decide)) (by decide) (by decide) rfl (by decide) ⟨Nat.le_of_ble_eq_true rfl, Nat.le_of_ble_eq_true rfl⟩ qk_Tr_43 (by decide) rfl (List.mem_append_left _ h0) ha0 rfl rfl rfl (fun E hA ha0 => ?_)
  exact K_ret dc_Tr_init_103 rfl rfl rfl ⟨hA, rfl, rfl, rfl⟩

theorem ci_Tr_180 {E : En_t} {S : Sb} {P : List Nat} {σ : S_t} {d a  : Nat} (h0 : 180 ∈ P) (hn : ∀ x ∈ ([181, 182, 183, 184, 185, 186, 187, 188, 189, 190, 191] : List Nat), x ∉ P) (ha0 : ro E 180 = a)  : CK E S P σ (d + 1) 11 9000 m_Tr_init [.ref a] (fun u => Ag E u.1 [181, 182, 183, 184, 185, 186, 187, 188, 189, 190, 191] ∧ u.2.1 = (180, 10) :: (180, 9) :: (180, 8) :: (180, 7) :: (180, 6) :: (180, 5) :: (180, 4) :: (180, 3) :: (180, 2) :: (180, 1) :: (180, 0) :: S ∧ u.2.2.1 = P ++ [181, 182, 183, 184, 185, 186, 187, 188, 189, 190, 191] ∧ u.2.2.2 = σ) := by
  refine CK.of (L := [(0, .ref a)]) rfl rfl (Nat.le_of_ble_eq_true rfl) rfl ?_
  have hA : Ag E E [] := Ag.rf
  refine JK_P (List.append_nil P) ?_
  refine K_aload_n (a := a) dc_Tr_init_0 (Eq.refl 1) 0 rfl ?_
  refine K_objInit dc_Tr_init_1 (Eq.refl 4) oi_Tr wOi wOc ⟨by show 1 ≤ d + 1; omega, by show 20 ≤ 64 * (d + 1); omega⟩ ?_
  refine K_aload_n (a := a) dc_Tr_init_4 (Eq.refl 5) 0 rfl ?_
  refine K_sipush (v := (500 : Int32)) dc_Tr_init_5 (Eq.refl 8) rfl ?_
  refine K_arrI (x0 := 180) (x := 181) (c := 11) (k := 0) (Ls' := [181]) hA dc_Tr_init_8 (Eq.refl 10) dc_Tr_init_10 (Eq.refl 13) wI rfl rfl (hn 181 (by decide)) (by decide) (by decide) rfl (by decide) ⟨Nat.le_of_ble_eq_true rfl, Nat.le_of_ble_eq_true rfl⟩ qk_Tr_9 (by decide) rfl (List.mem_append_left _ h0) ha0 rfl rfl rfl (fun E hA ha0 => ?_)
  refine K_aload_n (a := a) dc_Tr_init_13 (Eq.refl 14) 0 rfl ?_
  refine K_sipush (v := (500 : Int32)) dc_Tr_init_14 (Eq.refl 17) rfl ?_
  refine K_arrI (x0 := 180) (x := 182) (c := 11) (k := 1) (Ls' := [181, 182]) hA dc_Tr_init_17 (Eq.refl 19) dc_Tr_init_19 (Eq.refl 22) wI rfl rfl (hn 182 (by decide)) (by decide) (by decide) rfl (by decide) ⟨Nat.le_of_ble_eq_true rfl, Nat.le_of_ble_eq_true rfl⟩ qk_Tr_15 (by decide) rfl (List.mem_append_left _ h0) ha0 rfl rfl rfl (fun E hA ha0 => ?_)
  refine K_aload_n (a := a) dc_Tr_init_22 (Eq.refl 23) 0 rfl ?_
  refine K_sipush (v := (500 : Int32)) dc_Tr_init_23 (Eq.refl 26) rfl ?_
  refine K_arrI (x0 := 180) (x := 183) (c := 11) (k := 2) (Ls' := [181, 182, 183]) hA dc_Tr_init_26 (Eq.refl 28) dc_Tr_init_28 (Eq.refl 31) wI rfl rfl (hn 183 (by decide)) (by decide) (by decide) rfl (by decide) ⟨Nat.le_of_ble_eq_true rfl, Nat.le_of_ble_eq_true rfl⟩ qk_Tr_18 (by decide) rfl (List.mem_append_left _ h0) ha0 rfl rfl rfl (fun E hA ha0 => ?_)
  refine K_aload_n (a := a) dc_Tr_init_31 (Eq.refl 32) 0 rfl ?_
  refine K_sipush (v := (500 : Int32)) dc_Tr_init_32 (Eq.refl 35) rfl ?_
  refine K_arrI (x0 := 180) (x := 184) (c := 11) (k := 3) (Ls' := [181, 182, 183, 184]) hA dc_Tr_init_35 (Eq.refl 37) dc_Tr_init_37 (Eq.refl 40) wI rfl rfl (hn 184 (by decide)) (by decide) (by decide) rfl (by decide) ⟨Nat.le_of_ble_eq_true rfl, Nat.le_of_ble_eq_true rfl⟩ qk_Tr_21 (by decide) rfl (List.mem_append_left _ h0) ha0 rfl rfl rfl (fun E hA ha0 => ?_)
  refine K_aload_n (a := a) dc_Tr_init_40 (Eq.refl 41) 0 rfl ?_
  refine K_sipush (v := (500 : Int32)) dc_Tr_init_41 (Eq.refl 44) rfl ?_
  refine K_arrI (x0 := 180) (x := 185) (c := 11) (k := 4) (Ls' := [181, 182, 183, 184, 185]) hA dc_Tr_init_44 (Eq.refl 46) dc_Tr_init_46 (Eq.refl 49) wI rfl rfl (hn 185 (by decide)) (by decide) (by decide) rfl (by decide) ⟨Nat.le_of_ble_eq_true rfl, Nat.le_of_ble_eq_true rfl⟩ qk_Tr_24 (by decide) rfl (List.mem_append_left _ h0) ha0 rfl rfl rfl (fun E hA ha0 => ?_)
  refine K_aload_n (a := a) dc_Tr_init_49 (Eq.refl 50) 0 rfl ?_
  refine K_sipush (v := (500 : Int32)) dc_Tr_init_50 (Eq.refl 53) rfl ?_
  refine K_arrI (x0 := 180) (x := 186) (c := 11) (k := 5) (Ls' := [181, 182, 183, 184, 185, 186]) hA dc_Tr_init_53 (Eq.refl 55) dc_Tr_init_55 (Eq.refl 58) wI rfl rfl (hn 186 (by decide)) (by decide) (by decide) rfl (by decide) ⟨Nat.le_of_ble_eq_true rfl, Nat.le_of_ble_eq_true rfl⟩ qk_Tr_27 (by decide) rfl (List.mem_append_left _ h0) ha0 rfl rfl rfl (fun E hA ha0 => ?_)
  refine K_aload_n (a := a) dc_Tr_init_58 (Eq.refl 59) 0 rfl ?_
  refine K_sipush (v := (500 : Int32)) dc_Tr_init_59 (Eq.refl 62) rfl ?_
  refine K_arrJ (x0 := 180) (x := 187) (c := 11) (k := 6) (Ls' := [181, 182, 183, 184, 185, 186, 187]) hA dc_Tr_init_62 (Eq.refl 64) dc_Tr_init_64 (Eq.refl 67) wJ rfl rfl (hn 187 (by decide)) (by decide) (by decide) rfl (by decide) ⟨Nat.le_of_ble_eq_true rfl, Nat.le_of_ble_eq_true rfl⟩ qk_Tr_30 (by decide) rfl (List.mem_append_left _ h0) ha0 rfl rfl rfl (fun E hA ha0 => ?_)
  refine K_aload_n (a := a) dc_Tr_init_67 (Eq.refl 68) 0 rfl ?_
  refine K_sipush (v := (500 : Int32)) dc_Tr_init_68 (Eq.refl 71) rfl ?_
  refine K_arrI (x0 := 180) (x := 188) (c := 11) (k := 7) (Ls' := [181, 182, 183, 184, 185, 186, 187, 188]) hA dc_Tr_init_71 (Eq.refl 73) dc_Tr_init_73 (Eq.refl 76) wI rfl rfl (hn 188 (by decide)) (by decide) (by decide) rfl (by decide) ⟨Nat.le_of_ble_eq_true rfl, Nat.le_of_ble_eq_true rfl⟩ qk_Tr_34 (by decide) rfl (List.mem_append_left _ h0) ha0 rfl rfl rfl (fun E hA ha0 => ?_)
  refine K_aload_n (a := a) dc_Tr_init_76 (Eq.refl 77) 0 rfl ?_
  refine K_sipush (v := (500 : Int32)) dc_Tr_init_77 (Eq.refl 80) rfl ?_
  refine K_arrI (x0 := 180) (x := 189) (c := 11) (k := 8) (Ls' := [181, 182, 183, 184, 185, 186, 187, 188, 189]) hA dc_Tr_init_80 (Eq.refl 82) dc_Tr_init_82 (Eq.refl 85) wI rfl rfl (hn 189 (by decide)) (by decide) (by decide) rfl (by decide) ⟨Nat.le_of_ble_eq_true rfl, Nat.le_of_ble_eq_true rfl⟩ qk_Tr_37 (by decide) rfl (List.mem_append_left _ h0) ha0 rfl rfl rfl (fun E hA ha0 => ?_)
  refine K_aload_n (a := a) dc_Tr_init_85 (Eq.refl 86) 0 rfl ?_
  refine K_sipush (v := (500 : Int32)) dc_Tr_init_86 (Eq.refl 89) rfl ?_
  refine K_arrI (x0 := 180) (x := 190) (c := 11) (k := 9) (Ls' := [181, 182, 183, 184, 185, 186, 187, 188, 189, 190]) hA dc_Tr_init_89 (Eq.refl 91) dc_Tr_init_91 (Eq.refl 94) wI rfl rfl (hn 190 (by decide)) (by decide) (by decide) rfl (by decide) ⟨Nat.le_of_ble_eq_true rfl, Nat.le_of_ble_eq_true rfl⟩ qk_Tr_40 (by decide) rfl (List.mem_append_left _ h0) ha0 rfl rfl rfl (fun E hA ha0 => ?_)
  refine K_aload_n (a := a) dc_Tr_init_94 (Eq.refl 95) 0 rfl ?_
  refine K_sipush (v := (4000 : Int32)) dc_Tr_init_95 (Eq.refl 98) rfl ?_
  refine K_arrI (x0 := 180) (x := 191) (c := 11) (k := 10) (Ls' := [181, 182, 183, 184, 185, 186, 187, 188, 189, 190, 191]) hA dc_Tr_init_98 (Eq.refl 100) dc_Tr_init_100 (Eq.refl 103) wI rfl rfl (hn 191 (by decide)) (by decide) (by decide) rfl (by decide) ⟨Nat.le_of_ble_eq_true rfl, Nat.le_of_ble_eq_true rfl⟩ qk_Tr_43 (by decide) rfl (List.mem_append_left _ h0) ha0 rfl rfl rfl (fun E hA ha0 => ?_)
  exact K_ret dc_Tr_init_103 rfl rfl rfl ⟨hA, rfl, rfl, rfl⟩

theorem ci_Bi_57 {E : En_t} {S : Sb} {P : List Nat} {σ : S_t} {d a  : Nat} (h0 : 57 ∈ P) (hn : ∀ x ∈ ([58] : List Nat), x ∉ P) (ha0 : ro E 57 = a)  : CK E S P σ (d + 1) 1 96 m_Bi_init [.ref a] (fun u => Ag E u.1 [58] ∧ u.2.1 = (57, 0) :: S ∧ u.2.2.1 = P ++ [58] ∧ u.2.2.2 = σ) := by
  refine CK.of (L := [(0, .ref a)]) rfl rfl (Nat.le_of_ble_eq_true rfl) rfl ?_
  have hA : Ag E E [] := Ag.rf
  refine JK_P (List.append_nil P) ?_
  refine K_aload_n (a := a) dc_Bi_init_0 (Eq.refl 1) 0 rfl ?_
  refine K_objInit dc_Bi_init_1 (Eq.refl 4) oi_Bi wOi wOc ⟨by show 1 ≤ d + 1; omega, by show 20 ≤ 64 * (d + 1); omega⟩ ?_
  refine K_aload_n (a := a) dc_Bi_init_4 (Eq.refl 5) 0 rfl ?_
  refine K_bipush (v := (96 : Int32)) dc_Bi_init_5 (Eq.refl 7) rfl ?_
  refine K_arrI (x0 := 57) (x := 58) (c := 5) (k := 0) (Ls' := [58]) hA dc_Bi_init_7 (Eq.refl 9) dc_Bi_init_9 (Eq.refl 12) wI rfl rfl (hn 58 (by decide)) (by decide) (by decide) rfl (by decide) ⟨Nat.le_of_ble_eq_true rfl, Nat.le_of_ble_eq_true rfl⟩ qk_Bi_9 (by decide) rfl (List.mem_append_left _ h0) ha0 rfl rfl rfl (fun E hA ha0 => ?_)
  exact K_ret dc_Bi_init_12 rfl rfl rfl ⟨hA, rfl, rfl, rfl⟩

theorem ci_Bi_61 {E : En_t} {S : Sb} {P : List Nat} {σ : S_t} {d a  : Nat} (h0 : 61 ∈ P) (hn : ∀ x ∈ ([62] : List Nat), x ∉ P) (ha0 : ro E 61 = a)  : CK E S P σ (d + 1) 1 96 m_Bi_init [.ref a] (fun u => Ag E u.1 [62] ∧ u.2.1 = (61, 0) :: S ∧ u.2.2.1 = P ++ [62] ∧ u.2.2.2 = σ) := by
  refine CK.of (L := [(0, .ref a)]) rfl rfl (Nat.le_of_ble_eq_true rfl) rfl ?_
  have hA : Ag E E [] := Ag.rf
  refine JK_P (List.append_nil P) ?_
  refine K_aload_n (a := a) dc_Bi_init_0 (Eq.refl 1) 0 rfl ?_
  refine K_objInit dc_Bi_init_1 (Eq.refl 4) oi_Bi wOi wOc ⟨by show 1 ≤ d + 1; omega, by show 20 ≤ 64 * (d + 1); omega⟩ ?_
  refine K_aload_n (a := a) dc_Bi_init_4 (Eq.refl 5) 0 rfl ?_
  refine K_bipush (v := (96 : Int32)) dc_Bi_init_5 (Eq.refl 7) rfl ?_
  refine K_arrI (x0 := 61) (x := 62) (c := 5) (k := 0) (Ls' := [62]) hA dc_Bi_init_7 (Eq.refl 9) dc_Bi_init_9 (Eq.refl 12) wI rfl rfl (hn 62 (by decide)) (by decide) (by decide) rfl (by decide) ⟨Nat.le_of_ble_eq_true rfl, Nat.le_of_ble_eq_true rfl⟩ qk_Bi_9 (by decide) rfl (List.mem_append_left _ h0) ha0 rfl rfl rfl (fun E hA ha0 => ?_)
  exact K_ret dc_Bi_init_12 rfl rfl rfl ⟨hA, rfl, rfl, rfl⟩

theorem ci_Te_51 {E : En_t} {S : Sb} {P : List Nat} {σ : S_t} {d a  : Nat} (h0 : 51 ∈ P) (hn : ∀ x ∈ ([52] : List Nat), x ∉ P) (ha0 : ro E 51 = a)  : CK E S P σ (d + 1) 1 2000 m_Te_init [.ref a] (fun u => Ag E u.1 [52] ∧ u.2.1 = (51, 0) :: S ∧ u.2.2.1 = P ++ [52] ∧ u.2.2.2 = σ) := by
  refine CK.of (L := [(0, .ref a)]) rfl rfl (Nat.le_of_ble_eq_true rfl) rfl ?_
  have hA : Ag E E [] := Ag.rf
  refine JK_P (List.append_nil P) ?_
  refine K_aload_n (a := a) dc_Te_init_0 (Eq.refl 1) 0 rfl ?_
  refine K_objInit dc_Te_init_1 (Eq.refl 4) oi_Te wOi wOc ⟨by show 1 ≤ d + 1; omega, by show 20 ≤ 64 * (d + 1); omega⟩ ?_
  refine K_aload_n (a := a) dc_Te_init_4 (Eq.refl 5) 0 rfl ?_
  refine K_sipush (v := (2000 : Int32)) dc_Te_init_5 (Eq.refl 8) rfl ?_
  refine K_arrB (x0 := 51) (x := 52) (c := 2) (k := 0) (Ls' := [52]) hA dc_Te_init_8 (Eq.refl 10) dc_Te_init_10 (Eq.refl 13) wB rfl rfl (hn 52 (by decide)) (by decide) (by decide) rfl (by decide) ⟨Nat.le_of_ble_eq_true rfl, Nat.le_of_ble_eq_true rfl⟩ qk_Te_9 (by decide) rfl (List.mem_append_left _ h0) ha0 rfl rfl rfl (fun E hA ha0 => ?_)
  exact K_ret dc_Te_init_13 rfl rfl rfl ⟨hA, rfl, rfl, rfl⟩

theorem ci_Ou_53 {E : En_t} {S : Sb} {P : List Nat} {σ : S_t} {d a  : Nat} (h0 : 53 ∈ P) (hn : ∀ x ∈ ([54] : List Nat), x ∉ P) (ha0 : ro E 53 = a)  : CK E S P σ (d + 1) 1 12000 m_Ou_init [.ref a] (fun u => Ag E u.1 [54] ∧ u.2.1 = (53, 0) :: S ∧ u.2.2.1 = P ++ [54] ∧ u.2.2.2 = σ) := by
  refine CK.of (L := [(0, .ref a)]) rfl rfl (Nat.le_of_ble_eq_true rfl) rfl ?_
  have hA : Ag E E [] := Ag.rf
  refine JK_P (List.append_nil P) ?_
  refine K_aload_n (a := a) dc_Ou_init_0 (Eq.refl 1) 0 rfl ?_
  refine K_objInit dc_Ou_init_1 (Eq.refl 4) oi_Ou wOi wOc ⟨by show 1 ≤ d + 1; omega, by show 20 ≤ 64 * (d + 1); omega⟩ ?_
  refine K_aload_n (a := a) dc_Ou_init_4 (Eq.refl 5) 0 rfl ?_
  refine K_sipush (v := (12000 : Int32)) dc_Ou_init_5 (Eq.refl 8) rfl ?_
  refine K_arrB (x0 := 53) (x := 54) (c := 3) (k := 0) (Ls' := [54]) hA dc_Ou_init_8 (Eq.refl 10) dc_Ou_init_10 (Eq.refl 13) wB rfl rfl (hn 54 (by decide)) (by decide) (by decide) rfl (by decide) ⟨Nat.le_of_ble_eq_true rfl, Nat.le_of_ble_eq_true rfl⟩ qk_Ou_9 (by decide) rfl (List.mem_append_left _ h0) ha0 rfl rfl rfl (fun E hA ha0 => ?_)
  exact K_ret dc_Ou_init_13 rfl rfl rfl ⟨hA, rfl, rfl, rfl⟩

theorem ci_Po_69 {E : En_t} {S : Sb} {P : List Nat} {σ : S_t} {d a  : Nat} (h0 : 69 ∈ P) (hn : ∀ x ∈ ([70] : List Nat), x ∉ P) (ha0 : ro E 69 = a)  : CK E S P σ (d + 1) 1 2000 m_Po_init [.ref a] (fun u => Ag E u.1 [70] ∧ u.2.1 = (69, 0) :: S ∧ u.2.2.1 = P ++ [70] ∧ u.2.2.2 = σ) := by
  refine CK.of (L := [(0, .ref a)]) rfl rfl (Nat.le_of_ble_eq_true rfl) rfl ?_
  have hA : Ag E E [] := Ag.rf
  refine JK_P (List.append_nil P) ?_
  refine K_aload_n (a := a) dc_Po_init_0 (Eq.refl 1) 0 rfl ?_
  refine K_objInit dc_Po_init_1 (Eq.refl 4) oi_Po wOi wOc ⟨by show 1 ≤ d + 1; omega, by show 20 ≤ 64 * (d + 1); omega⟩ ?_
  refine K_aload_n (a := a) dc_Po_init_4 (Eq.refl 5) 0 rfl ?_
  refine K_sipush (v := (2000 : Int32)) dc_Po_init_5 (Eq.refl 8) rfl ?_
  refine K_arrI (x0 := 69) (x := 70) (c := 9) (k := 0) (Ls' := [70]) hA dc_Po_init_8 (Eq.refl 10) dc_Po_init_10 (Eq.refl 13) wI rfl rfl (hn 70 (by decide)) (by decide) (by decide) rfl (by decide) ⟨Nat.le_of_ble_eq_true rfl, Nat.le_of_ble_eq_true rfl⟩ qk_Po_9 (by decide) rfl (List.mem_append_left _ h0) ha0 rfl rfl rfl (fun E hA ha0 => ?_)
  exact K_ret dc_Po_init_13 rfl rfl rfl ⟨hA, rfl, rfl, rfl⟩

theorem ci_We_71 {E : En_t} {S : Sb} {P : List Nat} {σ : S_t} {d a  : Nat} (h0 : 71 ∈ P) (hn : ∀ x ∈ ([] : List Nat), x ∉ P) (ha0 : ro E 71 = a)  : CK E S P σ (d + 1) 0 0 m_We_init [.ref a] (fun u => Ag E u.1 [] ∧ u.2.1 = S ∧ u.2.2.1 = P ++ [] ∧ u.2.2.2 = σ) := by
  refine CK.of (L := [(0, .ref a)]) rfl rfl (Nat.le_of_ble_eq_true rfl) rfl ?_
  have hA : Ag E E [] := Ag.rf
  refine JK_P (List.append_nil P) ?_
  refine K_aload_n (a := a) dc_We_init_0 (Eq.refl 1) 0 rfl ?_
  refine K_objInit dc_We_init_1 (Eq.refl 4) oi_We wOi wOc ⟨by show 1 ≤ d + 1; omega, by show 20 ≤ 64 * (d + 1); omega⟩ ?_
  exact K_ret dc_We_init_4 rfl rfl rfl ⟨hA, rfl, rfl, rfl⟩

theorem ci_Nu_55 {E : En_t} {S : Sb} {P : List Nat} {σ : S_t} {d a  : Nat} (h0 : 55 ∈ P) (hn : ∀ x ∈ ([56, 57, 58] : List Nat), x ∉ P) (ha0 : ro E 55 = a)  : CK E S P σ (d + 2) 3 899 m_Nu_init [.ref a] (fun u => Ag E u.1 [56, 57, 58] ∧ u.2.1 = (55, 1) :: (57, 0) :: (55, 0) :: S ∧ u.2.2.1 = P ++ [56, 57, 58] ∧ u.2.2.2 = σ) := by
  refine CK.of (L := [(0, .ref a)]) rfl rfl (Nat.le_of_ble_eq_true rfl) rfl ?_
  have hA : Ag E E [] := Ag.rf
  refine JK_P (List.append_nil P) ?_
  refine K_aload_n (a := a) dc_Nu_init_0 (Eq.refl 1) 0 rfl ?_
  refine K_objInit dc_Nu_init_1 (Eq.refl 4) oi_Nu wOi wOc ⟨by show 1 ≤ d + 2; omega, by show 20 ≤ 64 * (d + 2); omega⟩ ?_
  refine K_aload_n (a := a) dc_Nu_init_4 (Eq.refl 5) 0 rfl ?_
  refine K_sipush (v := (800 : Int32)) dc_Nu_init_5 (Eq.refl 8) rfl ?_
  refine K_arrB (x0 := 55) (x := 56) (c := 4) (k := 0) (Ls' := [56]) hA dc_Nu_init_8 (Eq.refl 10) dc_Nu_init_10 (Eq.refl 13) wB rfl rfl (hn 56 (by decide)) (by decide) (by decide) rfl (by decide) ⟨Nat.le_of_ble_eq_true rfl, Nat.le_of_ble_eq_true rfl⟩ qk_Nu_11 (by decide) rfl (List.mem_append_left _ h0) ha0 rfl rfl rfl (fun E hA ha0 => ?_)
  refine K_aload_n (a := a) dc_Nu_init_13 (Eq.refl 14) 0 rfl ?_
  refine K_new3 (x := 57) (Ls' := [56, 57]) hA dc_Nu_init_14 (Eq.refl 17) nk_Nu_15 df_Bi rfl (hn 57 (by decide)) (by decide) ⟨Nat.le_of_ble_eq_true rfl, Nat.le_of_ble_eq_true rfl⟩ rfl (fun E q hA hq hag => ?_)
  have ha0 := (hag 55 (by decide)).trans ha0
  refine K_dup dc_Nu_init_17 (Eq.refl 18) rfl ?_
  refine K_callN3 (As := []) (Ms := [58]) (Ls' := [56, 57, 58]) hA dc_Nu_init_18 (Eq.refl 21) (List.mem_of_getElem? (i := 7) rfl) mk_Bi rfl (Nat.le_of_ble_eq_true rfl) ⟨Nat.le_of_ble_eq_true rfl, Nat.le_of_ble_eq_true rfl⟩ (ci_Bi_57 (List.mem_append_right _ (by decide)) (fun x hx => nin2 (hn x ((by decide : ∀ x ∈ [58], x ∈ ([56, 57, 58] : List Nat)) x hx)) ((by decide : ∀ x ∈ [58], x ∉ [56, 57]) x hx)) hq) rfl (fun E hA hag => ?_)
  have ha0 := (hag.2 55 (by decide)).trans ha0
  have hq := (hag.2 57 (by decide)).trans hq
  refine K_putF (x := 55) (y := 57) (c := 4) (k := 1) dc_Nu_init_21 (Eq.refl 24) qk_Nu_18 (by decide) rfl (List.mem_append_left _ h0) (List.mem_append_right _ (by decide)) ha0 hq (Or.inr rfl) rfl ⟨rfl, fun _ => rfl⟩ (fun _ => rfl) ?_
  exact K_ret dc_Nu_init_24 rfl rfl rfl ⟨hA, rfl, rfl, rfl⟩

theorem ci_Pr_59 {E : En_t} {S : Sb} {P : List Nat} {σ : S_t} {d a  : Nat} (h0 : 59 ∈ P) (hn : ∀ x ∈ ([61, 62, 60] : List Nat), x ∉ P) (ha0 : ro E 59 = a)  : CK E S P σ (d + 2) 3 909 m_Pr_init [.ref a] (fun u => Ag E u.1 [61, 62, 60] ∧ u.2.1 = (59, 1) :: (59, 0) :: (61, 0) :: S ∧ u.2.2.1 = P ++ [61, 62, 60] ∧ u.2.2.2 = σ) := by
  refine CK.of (L := [(0, .ref a)]) rfl rfl (Nat.le_of_ble_eq_true rfl) rfl ?_
  have hA : Ag E E [] := Ag.rf
  refine JK_P (List.append_nil P) ?_
  refine K_aload_n (a := a) dc_Pr_init_0 (Eq.refl 1) 0 rfl ?_
  refine K_objInit dc_Pr_init_1 (Eq.refl 4) oi_Pr wOi wOc ⟨by show 1 ≤ d + 2; omega, by show 20 ≤ 64 * (d + 2); omega⟩ ?_
  refine K_aload_n (a := a) dc_Pr_init_4 (Eq.refl 5) 0 rfl ?_
  refine K_new3 (x := 61) (Ls' := [61]) hA dc_Pr_init_5 (Eq.refl 8) nk_Pr_9 df_Bi rfl (hn 61 (by decide)) (by decide) ⟨Nat.le_of_ble_eq_true rfl, Nat.le_of_ble_eq_true rfl⟩ rfl (fun E q hA hq hag => ?_)
  have ha0 := (hag 59 (by decide)).trans ha0
  refine K_dup dc_Pr_init_8 (Eq.refl 9) rfl ?_
  refine K_callN3 (As := []) (Ms := [62]) (Ls' := [61, 62]) hA dc_Pr_init_9 (Eq.refl 12) (List.mem_of_getElem? (i := 8) rfl) mk_Bi rfl (Nat.le_of_ble_eq_true rfl) ⟨Nat.le_of_ble_eq_true rfl, Nat.le_of_ble_eq_true rfl⟩ (ci_Bi_61 (List.mem_append_right _ (by decide)) (fun x hx => nin2 (hn x ((by decide : ∀ x ∈ [62], x ∈ ([61, 62, 60] : List Nat)) x hx)) ((by decide : ∀ x ∈ [62], x ∉ [61]) x hx)) hq) rfl (fun E hA hag => ?_)
  have ha0 := (hag.2 59 (by decide)).trans ha0
  have hq := (hag.2 61 (by decide)).trans hq
  refine K_putF (x := 59) (y := 61) (c := 6) (k := 0) dc_Pr_init_12 (Eq.refl 15) qk_Pr_12 (by decide) rfl (List.mem_append_left _ h0) (List.mem_append_right _ (by decide)) ha0 hq (Or.inr rfl) rfl ⟨rfl, fun _ => rfl⟩ (fun _ => rfl) ?_
  refine K_aload_n (a := a) dc_Pr_init_15 (Eq.refl 16) 0 rfl ?_
  refine K_sipush (v := (810 : Int32)) dc_Pr_init_16 (Eq.refl 19) rfl ?_
  refine K_arrB (x0 := 59) (x := 60) (c := 6) (k := 1) (Ls' := [61, 62, 60]) hA dc_Pr_init_19 (Eq.refl 21) dc_Pr_init_21 (Eq.refl 24) wB rfl rfl (hn 60 (by decide)) (by decide) (by decide) rfl (by decide) ⟨Nat.le_of_ble_eq_true rfl, Nat.le_of_ble_eq_true rfl⟩ qk_Pr_18 (by decide) rfl (List.mem_append_left _ h0) ha0 rfl rfl rfl (fun E hA ha0 => ?_)
  exact K_ret dc_Pr_init_24 rfl rfl rfl ⟨hA, rfl, rfl, rfl⟩

theorem ci_Re_63 {E : En_t} {S : Sb} {P : List Nat} {σ : S_t} {d a t0 t1 : Nat} (h0 : 63 ∈ P) (hn : ∀ x ∈ ([180, 181, 182, 183, 184, 185, 186, 187, 188, 189, 190, 191, 64, 65, 66, 67] : List Nat), x ∉ P) (ha0 : ro E 63 = a) (hp51 : 51 ∈ P) (ht0 : ro E 51 = t0) (hp55 : 55 ∈ P) (ht1 : ro E 55 = t1) : CK E S P σ (d + 2) 16 11015 m_Re_init [.ref a, .ref t0, .ref t1] (fun u => Ag E u.1 [180, 181, 182, 183, 184, 185, 186, 187, 188, 189, 190, 191, 64, 65, 66, 67] ∧ u.2.1 = (63, 1) :: (63, 0) :: (63, 6) :: (63, 5) :: (63, 4) :: (63, 3) :: (63, 2) :: (180, 10) :: (180, 9) :: (180, 8) :: (180, 7) :: (180, 6) :: (180, 5) :: (180, 4) :: (180, 3) :: (180, 2) :: (180, 1) :: (180, 0) :: S ∧ u.2.2.1 = P ++ [180, 181, 182, 183, 184, 185, 186, 187, 188, 189, 190, 191, 64, 65, 66, 67] ∧ u.2.2.2 = σ) := by
  refine CK.of (L := [(0, .ref a), (1, .ref t0), (2, .ref t1)]) rfl rfl (Nat.le_of_ble_eq_true rfl) rfl ?_
  have hA : Ag E E [] := Ag.rf
  refine JK_P (List.append_nil P) ?_
  refine K_aload_n (a := a) dc_Re_init_0 (Eq.refl 1) 0 rfl ?_
  refine K_objInit dc_Re_init_1 (Eq.refl 4) oi_Re wOi wOc ⟨by show 1 ≤ d + 2; omega, by show 20 ≤ 64 * (d + 2); omega⟩ ?_
  refine K_aload_n (a := a) dc_Re_init_4 (Eq.refl 5) 0 rfl ?_
  refine K_new3 (x := 180) (Ls' := [180]) hA dc_Re_init_5 (Eq.refl 8) nk_Re_9 df_Tr rfl (hn 180 (by decide)) (by decide) ⟨Nat.le_of_ble_eq_true rfl, Nat.le_of_ble_eq_true rfl⟩ rfl (fun E q hA hq hag => ?_)
  have ha0 := (hag 63 (by decide)).trans ha0
  refine K_dup dc_Re_init_8 (Eq.refl 9) rfl ?_
  refine K_callN3 (As := []) (Ms := [181, 182, 183, 184, 185, 186, 187, 188, 189, 190, 191]) (Ls' := [180, 181, 182, 183, 184, 185, 186, 187, 188, 189, 190, 191]) hA dc_Re_init_9 (Eq.refl 12) (List.mem_of_getElem? (i := 9) rfl) mk_Tr rfl (Nat.le_of_ble_eq_true rfl) ⟨Nat.le_of_ble_eq_true rfl, Nat.le_of_ble_eq_true rfl⟩ (ci_Tr_180 (List.mem_append_right _ (by decide)) (fun x hx => nin2 (hn x ((by decide : ∀ x ∈ [181, 182, 183, 184, 185, 186, 187, 188, 189, 190, 191], x ∈ ([180, 181, 182, 183, 184, 185, 186, 187, 188, 189, 190, 191, 64, 65, 66, 67] : List Nat)) x hx)) ((by decide : ∀ x ∈ [181, 182, 183, 184, 185, 186, 187, 188, 189, 190, 191], x ∉ [180]) x hx)) hq) rfl (fun E hA hag => ?_)
  have ha0 := (hag.2 63 (by decide)).trans ha0
  have hq := (hag.2 180 (by decide)).trans hq
  refine K_putF (x := 63) (y := 180) (c := 7) (k := 2) dc_Re_init_12 (Eq.refl 15) qk_Re_12 (by decide) rfl (List.mem_append_left _ h0) (List.mem_append_right _ (by decide)) ha0 hq (Or.inr rfl) rfl ⟨rfl, fun _ => rfl⟩ (fun _ => rfl) ?_
  refine K_aload_n (a := a) dc_Re_init_15 (Eq.refl 16) 0 rfl ?_
  refine K_sipush (v := (500 : Int32)) dc_Re_init_16 (Eq.refl 19) rfl ?_
  refine K_arrI (x0 := 63) (x := 64) (c := 7) (k := 3) (Ls' := [180, 181, 182, 183, 184, 185, 186, 187, 188, 189, 190, 191, 64]) hA dc_Re_init_19 (Eq.refl 21) dc_Re_init_21 (Eq.refl 24) wI rfl rfl (hn 64 (by decide)) (by decide) (by decide) rfl (by decide) ⟨Nat.le_of_ble_eq_true rfl, Nat.le_of_ble_eq_true rfl⟩ qk_Re_18 (by decide) rfl (List.mem_append_left _ h0) ha0 rfl rfl rfl (fun E hA ha0 => ?_)
  refine K_aload_n (a := a) dc_Re_init_24 (Eq.refl 25) 0 rfl ?_
  refine K_sipush (v := (500 : Int32)) dc_Re_init_25 (Eq.refl 28) rfl ?_
  refine K_arrI (x0 := 63) (x := 65) (c := 7) (k := 4) (Ls' := [180, 181, 182, 183, 184, 185, 186, 187, 188, 189, 190, 191, 64, 65]) hA dc_Re_init_28 (Eq.refl 30) dc_Re_init_30 (Eq.refl 33) wI rfl rfl (hn 65 (by decide)) (by decide) (by decide) rfl (by decide) ⟨Nat.le_of_ble_eq_true rfl, Nat.le_of_ble_eq_true rfl⟩ qk_Re_22 (by decide) rfl (List.mem_append_left _ h0) ha0 rfl rfl rfl (fun E hA ha0 => ?_)
  refine K_aload_n (a := a) dc_Re_init_33 (Eq.refl 34) 0 rfl ?_
  refine K_sipush (v := (500 : Int32)) dc_Re_init_34 (Eq.refl 37) rfl ?_
  refine K_arrI (x0 := 63) (x := 66) (c := 7) (k := 5) (Ls' := [180, 181, 182, 183, 184, 185, 186, 187, 188, 189, 190, 191, 64, 65, 66]) hA dc_Re_init_37 (Eq.refl 39) dc_Re_init_39 (Eq.refl 42) wI rfl rfl (hn 66 (by decide)) (by decide) (by decide) rfl (by decide) ⟨Nat.le_of_ble_eq_true rfl, Nat.le_of_ble_eq_true rfl⟩ qk_Re_25 (by decide) rfl (List.mem_append_left _ h0) ha0 rfl rfl rfl (fun E hA ha0 => ?_)
  refine K_aload_n (a := a) dc_Re_init_42 (Eq.refl 43) 0 rfl ?_
  refine K_sipush (v := (500 : Int32)) dc_Re_init_43 (Eq.refl 46) rfl ?_
  refine K_arrI (x0 := 63) (x := 67) (c := 7) (k := 6) (Ls' := [180, 181, 182, 183, 184, 185, 186, 187, 188, 189, 190, 191, 64, 65, 66, 67]) hA dc_Re_init_46 (Eq.refl 48) dc_Re_init_48 (Eq.refl 51) wI rfl rfl (hn 67 (by decide)) (by decide) (by decide) rfl (by decide) ⟨Nat.le_of_ble_eq_true rfl, Nat.le_of_ble_eq_true rfl⟩ qk_Re_28 (by decide) rfl (List.mem_append_left _ h0) ha0 rfl rfl rfl (fun E hA ha0 => ?_)
  refine K_aload_n (a := a) dc_Re_init_51 (Eq.refl 52) 0 rfl ?_
  refine K_aload_n (a := t0) dc_Re_init_52 (Eq.refl 53) 1 rfl ?_
  refine K_putF (x := 63) (y := 51) (c := 7) (k := 0) dc_Re_init_53 (Eq.refl 56) qk_Re_31 (by decide) rfl (List.mem_append_left _ h0) (List.mem_append_left _ hp51) ha0 ((hA.2 51 (by decide)).trans ht0) (Or.inr rfl) rfl ⟨rfl, fun _ => rfl⟩ (fun _ => rfl) ?_
  refine K_aload_n (a := a) dc_Re_init_56 (Eq.refl 57) 0 rfl ?_
  refine K_aload_n (a := t1) dc_Re_init_57 (Eq.refl 58) 2 rfl ?_
  refine K_putF (x := 63) (y := 55) (c := 7) (k := 1) dc_Re_init_58 (Eq.refl 61) qk_Re_35 (by decide) rfl (List.mem_append_left _ h0) (List.mem_append_left _ hp55) ha0 ((hA.2 55 (by decide)).trans ht1) (Or.inr rfl) rfl ⟨rfl, fun _ => rfl⟩ (fun _ => rfl) ?_
  exact K_ret dc_Re_init_61 rfl rfl rfl ⟨hA, rfl, rfl, rfl⟩

theorem ci_Fo_68 {E : En_t} {S : Sb} {P : List Nat} {σ : S_t} {d a t0 : Nat} (h0 : 68 ∈ P) (hn : ∀ x ∈ ([] : List Nat), x ∉ P) (ha0 : ro E 68 = a) (hp59 : 59 ∈ P) (ht0 : ro E 59 = t0) : CK E S P σ (d + 1) 0 0 m_Fo_init [.ref a, .ref t0] (fun u => Ag E u.1 [] ∧ u.2.1 = (68, 0) :: S ∧ u.2.2.1 = P ++ [] ∧ u.2.2.2 = σ) := by
  refine CK.of (L := [(0, .ref a), (1, .ref t0)]) rfl rfl (Nat.le_of_ble_eq_true rfl) rfl ?_
  have hA : Ag E E [] := Ag.rf
  refine JK_P (List.append_nil P) ?_
  refine K_aload_n (a := a) dc_Fo_init_0 (Eq.refl 1) 0 rfl ?_
  refine K_objInit dc_Fo_init_1 (Eq.refl 4) oi_Fo wOi wOc ⟨by show 1 ≤ d + 1; omega, by show 20 ≤ 64 * (d + 1); omega⟩ ?_
  refine K_aload_n (a := a) dc_Fo_init_4 (Eq.refl 5) 0 rfl ?_
  refine K_aload_n (a := t0) dc_Fo_init_5 (Eq.refl 6) 1 rfl ?_
  refine K_putF (x := 68) (y := 59) (c := 8) (k := 0) dc_Fo_init_6 (Eq.refl 9) qk_Fo_9 (by decide) rfl (List.mem_append_left _ h0) (List.mem_append_left _ hp59) ha0 ((hA.2 59 (by decide)).trans ht0) (Or.inr rfl) rfl ⟨rfl, fun _ => rfl⟩ (fun _ => rfl) ?_
  exact K_ret dc_Fo_init_9 rfl rfl rfl ⟨hA, rfl, rfl, rfl⟩
