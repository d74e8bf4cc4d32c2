theorem ci_Cp_49 {E : En_t} {S : Sb} {P : List Nat} {σ : S_t} {d a  : Nat} (h0 : 49 ∈ P) (hn : ∀ x ∈ ([51, 52, 53, 54, 55, 56, 57, 58, 59, 61, 62, 60, 63, 180, 181, 182, 183, 184, 185, 186, 187, 188, 189, 190, 191, 64, 65, 66, 67, 68, 69, 70, 71, 50, 168, 169, 170, 171, 172, 173, 174, 175, 176, 177, 178, 179, 72, 73, 74, 75, 76, 77, 78, 79, 80, 81, 82, 83, 84, 85, 86, 87, 88, 89, 90, 91, 92, 93, 94, 95, 96, 97, 98, 99, 100, 101, 102, 103, 104, 105, 106, 107, 108, 109, 110, 111, 112, 113, 114, 115, 116, 117, 118, 119, 120, 121, 122, 123, 124, 125, 126, 127, 128, 129, 130, 131, 132, 133, 134, 135, 136, 137, 138, 139, 140, 141, 142, 143, 144, 145, 146, 147, 148, 149, 150, 151, 152, 153, 154, 155, 156, 157, 158, 159, 160, 161, 162, 163, 164, 165, 166, 167] : List Nat), x ∉ P) (ha0 : ro E 49 = a)  : CK E S P σ (d + 3) 142 110004 m_Cp_init [.ref a] (fun u => Ag E u.1 [51, 52, 53, 54, 55, 56, 57, 58, 59, 61, 62, 60, 63, 180, 181, 182, 183, 184, 185, 186, 187, 188, 189, 190, 191, 64, 65, 66, 67, 68, 69, 70, 71, 50, 168, 169, 170, 171, 172, 173, 174, 175, 176, 177, 178, 179, 72, 73, 74, 75, 76, 77, 78, 79, 80, 81, 82, 83, 84, 85, 86, 87, 88, 89, 90, 91, 92, 93, 94, 95, 96, 97, 98, 99, 100, 101, 102, 103, 104, 105, 106, 107, 108, 109, 110, 111, 112, 113, 114, 115, 116, 117, 118, 119, 120, 121, 122, 123, 124, 125, 126, 127, 128, 129, 130, 131, 132, 133, 134, 135, 136, 137, 138, 139, 140, 141, 142, 143, 144, 145, 146, 147, 148, 149, 150, 151, 152, 153, 154, 155, 156, 157, 158, 159, 160, 161, 162, 163, 164, 165, 166, 167] ∧ u.2.1 = (156, 10) :: (156, 9) :: (156, 8) :: (156, 7) :: (156, 6) :: (156, 5) :: (156, 4) :: (156, 3) :: (156, 2) :: (156, 1) :: (156, 0) :: (144, 10) :: (144, 9) :: (144, 8) :: (144, 7) :: (144, 6) :: (144, 5) :: (144, 4) :: (144, 3) :: (144, 2) :: (144, 1) :: (144, 0) :: (132, 10) :: (132, 9) :: (132, 8) :: (132, 7) :: (132, 6) :: (132, 5) :: (132, 4) :: (132, 3) :: (132, 2) :: (132, 1) :: (132, 0) :: (120, 10) :: (120, 9) :: (120, 8) :: (120, 7) :: (120, 6) :: (120, 5) :: (120, 4) :: (120, 3) :: (120, 2) :: (120, 1) :: (120, 0) :: (108, 10) :: (108, 9) :: (108, 8) :: (108, 7) :: (108, 6) :: (108, 5) :: (108, 4) :: (108, 3) :: (108, 2) :: (108, 1) :: (108, 0) :: (96, 10) :: (96, 9) :: (96, 8) :: (96, 7) :: (96, 6) :: (96, 5) :: (96, 4) :: (96, 3) :: (96, 2) :: (96, 1) :: (96, 0) :: (84, 10) :: (84, 9) :: (84, 8) :: (84, 7) :: (84, 6) :: (84, 5) :: (84, 4) :: (84, 3) :: (84, 2) :: (84, 1) :: (84, 0) :: (72, 10) :: (72, 9) :: (72, 8) :: (72, 7) :: (72, 6) :: (72, 5) :: (72, 4) :: (72, 3) :: (72, 2) :: (72, 1) :: (72, 0) :: (168, 10) :: (168, 9) :: (168, 8) :: (168, 7) :: (168, 6) :: (168, 5) :: (168, 4) :: (168, 3) :: (168, 2) :: (168, 1) :: (168, 0) :: (49, 8) :: (49, 7) :: (49, 6) :: (69, 0) :: (49, 5) :: (68, 0) :: (49, 4) :: (63, 1) :: (63, 0) :: (63, 6) :: (63, 5) :: (63, 4) :: (63, 3) :: (63, 2) :: (180, 10) :: (180, 9) :: (180, 8) :: (180, 7) :: (180, 6) :: (180, 5) :: (180, 4) :: (180, 3) :: (180, 2) :: (180, 1) :: (180, 0) :: (49, 3) :: (59, 1) :: (59, 0) :: (61, 0) :: (49, 2) :: (55, 1) :: (57, 0) :: (55, 0) :: (49, 1) :: (53, 0) :: (49, 0) :: (51, 0) :: S ∧ u.2.2.1 = P ++ [51, 52, 53, 54, 55, 56, 57, 58, 59, 61, 62, 60, 63, 180, 181, 182, 183, 184, 185, 186, 187, 188, 189, 190, 191, 64, 65, 66, 67, 68, 69, 70, 71, 50, 168, 169, 170, 171, 172, 173, 174, 175, 176, 177, 178, 179, 72, 73, 74, 75, 76, 77, 78, 79, 80, 81, 82, 83, 84, 85, 86, 87, 88, 89, 90, 91, 92, 93, 94, 95, 96, 97, 98, 99, 100, 101, 102, 103, 104, 105, 106, 107, 108, 109, 110, 111, 112, 113, 114, 115, 116, 117, 118, 119, 120, 121, 122, 123, 124, 125, 126, 127, 128, 129, 130, 131, 132, 133, 134, 135, 136, 137, 138, 139, 140, 141, 142, 143, 144, 145, 146, 147, 148, 149, 150, 151, 152, 153, 154, 155, 156, 157, 158, 159, 160, 161, 162, 163, 164, 165, 166, 167] ∧ u.2.2.2 = sR (sR (sR (sR (sR (sR (sR (sR (sI (sR σ 49 9 (some 168)) 49 10 (-1 : Int32)) 50 0 (some 72)) 50 1 (some 84)) 50 2 (some 96)) 50 3 (some 108)) 50 4 (some 120)) 50 5 (some 132)) 50 6 (some 144)) 50 7 (some 156)) := by
  refine CK.of (L := [(0, .ref a)]) rfl rfl (Nat.le_of_ble_eq_true rfl) rfl ?_
  have hA : Ag E E [] := Ag.rf
  refine JK_P (List.append_nil P) ?_
  refine K_aload_n (a := a) dc_Cp_init_0 (Eq.refl 1) 0 rfl ?_
  refine K_objInit dc_Cp_init_1 (Eq.refl 4) oi_Cp wOi wOc ⟨by show 1 ≤ d + 3; omega, by show 20 ≤ 64 * (d + 3); omega⟩ ?_
  refine K_aload_n (a := a) dc_Cp_init_4 (Eq.refl 5) 0 rfl ?_
  refine K_new3 (x := 51) (Ls' := [51]) hA dc_Cp_init_5 (Eq.refl 8) nk_Cp_7 df_Te rfl (hn 51 (by decide)) (by decide) ⟨Nat.le_of_ble_eq_true rfl, Nat.le_of_ble_eq_true rfl⟩ rfl (fun E q hA hq hag => ?_)
  have ha0 := (hag 49 (by decide)).trans ha0
  refine K_dup dc_Cp_init_8 (Eq.refl 9) rfl ?_
  refine K_callN3 (As := []) (Ms := [52]) (Ls' := [51, 52]) hA dc_Cp_init_9 (Eq.refl 12) (List.mem_of_getElem? (i := 0) rfl) mk_Te rfl (Nat.le_of_ble_eq_true rfl) ⟨Nat.le_of_ble_eq_true rfl, Nat.le_of_ble_eq_true rfl⟩ (ci_Te_51 (List.mem_append_right _ (by decide)) (fun x hx => nin2 (hn x ((by decide : ∀ x ∈ [52], x ∈ ([51, 52, 53, 54, 55, 56, 57, 58, 59, 61, 62, 60, 63, 180, 181, 182, 183, 184, 185, 186, 187, 188, 189, 190, 191, 64, 65, 66, 67, 68, 69, 70, 71, 50, 168, 169, 170, 171, 172, 173, 174, 175, 176, 177, 178, 179, 72, 73, 74, 75, 76, 77, 78, 79, 80, 81, 82, 83, 84, 85, 86, 87, 88, 89, 90, 91, 92, 93, 94, 95, 96, 97, 98, 99, 100, 101, 102, 103, 104, 105, 106, 107, 108, 109, 110, 111, 112, 113, 114, 115, 116, 117, 118, 119, 120, 121, 122, 123, 124, 125, 126, 127, 128, 129, 130, 131, 132, 133, 134, 135, 136, 137, 138, 139, 140, 141, 142, 143, 144, 145, 146, 147, 148, 149, 150, 151, 152, 153, 154, 155, 156, 157, 158, 159, 160, 161, 162, 163, 164, 165, 166, 167] : List Nat)) x hx)) ((by decide : ∀ x ∈ [52], x ∉ [51]) x hx)) hq) rfl (fun E hA hag => ?_)
  have ha0 := (hag.2 49 (by decide)).trans ha0
  have hq := (hag.2 51 (by decide)).trans hq
  refine K_putF (x := 49) (y := 51) (c := 1) (k := 0) dc_Cp_init_12 (Eq.refl 15) qk_Cp_10 (by decide) rfl (List.mem_append_left _ h0) (List.mem_append_right _ (by decide)) ha0 hq (Or.inr rfl) rfl ⟨rfl, fun _ => rfl⟩ (fun _ => rfl) ?_
  refine K_aload_n (a := a) dc_Cp_init_15 (Eq.refl 16) 0 rfl ?_
  refine K_new3 (x := 53) (Ls' := [51, 52, 53]) hA dc_Cp_init_16 (Eq.refl 19) nk_Cp_16 df_Ou rfl (hn 53 (by decide)) (by decide) ⟨Nat.le_of_ble_eq_true rfl, Nat.le_of_ble_eq_true rfl⟩ rfl (fun E q hA hq hag => ?_)
  have ha0 := (hag 49 (by decide)).trans ha0
  refine K_dup dc_Cp_init_19 (Eq.refl 20) rfl ?_
  refine K_callN3 (As := []) (Ms := [54]) (Ls' := [51, 52, 53, 54]) hA dc_Cp_init_20 (Eq.refl 23) (List.mem_of_getElem? (i := 1) rfl) mk_Ou rfl (Nat.le_of_ble_eq_true rfl) ⟨Nat.le_of_ble_eq_true rfl, Nat.le_of_ble_eq_true rfl⟩ (ci_Ou_53 (List.mem_append_right _ (by decide)) (fun x hx => nin2 (hn x ((by decide : ∀ x ∈ [54], x ∈ ([51, 52, 53, 54, 55, 56, 57, 58, 59, 61, 62, 60, 63, 180, 181, 182, 183, 184, 185, 186, 187, 188, 189, 190, 191, 64, 65, 66, 67, 68, 69, 70, 71, 50, 168, 169, 170, 171, 172, 173, 174, 175, 176, 177, 178, 179, 72, 73, 74, 75, 76, 77, 78, 79, 80, 81, 82, 83, 84, 85, 86, 87, 88, 89, 90, 91, 92, 93, 94, 95, 96, 97, 98, 99, 100, 101, 102, 103, 104, 105, 106, 107, 108, 109, 110, 111, 112, 113, 114, 115, 116, 117, 118, 119, 120, 121, 122, 123, 124, 125, 126, 127, 128, 129, 130, 131, 132, 133, 134, 135, 136, 137, 138, 139, 140, 141, 142, 143, 144, 145, 146, 147, 148, 149, 150, 151, 152, 153, 154, 155, 156, 157, 158, 159, 160, 161, 162, 163, 164, 165, 166, 167] : List Nat)) x hx)) ((by decide : ∀ x ∈ [54], x ∉ [51, 52, 53]) x hx)) hq) rfl (fun E hA hag => ?_)
  have ha0 := (hag.2 49 (by decide)).trans ha0
  have hq := (hag.2 53 (by decide)).trans hq
  refine K_putF (x := 49) (y := 53) (c := 1) (k := 1) dc_Cp_init_23 (Eq.refl 26) qk_Cp_19 (by decide) rfl (List.mem_append_left _ h0) (List.mem_append_right _ (by decide)) ha0 hq (Or.inr rfl) rfl ⟨rfl, fun _ => rfl⟩ (fun _ => rfl) ?_
  refine K_aload_n (a := a) dc_Cp_init_26 (Eq.refl 27) 0 rfl ?_
  refine K_new3 (x := 55) (Ls' := [51, 52, 53, 54, 55]) hA dc_Cp_init_27 (Eq.refl 30) nk_Cp_23 df_Nu rfl (hn 55 (by decide)) (by decide) ⟨Nat.le_of_ble_eq_true rfl, Nat.le_of_ble_eq_true rfl⟩ rfl (fun E q hA hq hag => ?_)
  have ha0 := (hag 49 (by decide)).trans ha0
  refine K_dup dc_Cp_init_30 (Eq.refl 31) rfl ?_
  refine K_callN3 (As := []) (Ms := [56, 57, 58]) (Ls' := [51, 52, 53, 54, 55, 56, 57, 58]) hA dc_Cp_init_31 (Eq.refl 34) (List.mem_of_getElem? (i := 2) rfl) mk_Nu rfl (Nat.le_of_ble_eq_true rfl) ⟨Nat.le_of_ble_eq_true rfl, Nat.le_of_ble_eq_true rfl⟩ (ci_Nu_55 (List.mem_append_right _ (by decide)) (fun x hx => nin2 (hn x ((by decide : ∀ x ∈ [56, 57, 58], x ∈ ([51, 52, 53, 54, 55, 56, 57, 58, 59, 61, 62, 60, 63, 180, 181, 182, 183, 184, 185, 186, 187, 188, 189, 190, 191, 64, 65, 66, 67, 68, 69, 70, 71, 50, 168, 169, 170, 171, 172, 173, 174, 175, 176, 177, 178, 179, 72, 73, 74, 75, 76, 77, 78, 79, 80, 81, 82, 83, 84, 85, 86, 87, 88, 89, 90, 91, 92, 93, 94, 95, 96, 97, 98, 99, 100, 101, 102, 103, 104, 105, 106, 107, 108, 109, 110, 111, 112, 113, 114, 115, 116, 117, 118, 119, 120, 121, 122, 123, 124, 125, 126, 127, 128, 129, 130, 131, 132, 133, 134, 135, 136, 137, 138, 139, 140, 141, 142, 143, 144, 145, 146, 147, 148, 149, 150, 151, 152, 153, 154, 155, 156, 157, 158, 159, 160, 161, 162, 163, 164, 165, 166, 167] : List Nat)) x hx)) ((by decide : ∀ x ∈ [56, 57, 58], x ∉ [51, 52, 53, 54, 55]) x hx)) hq) rfl (fun E hA hag => ?_)
  have ha0 := (hag.2 49 (by decide)).trans ha0
  have hq := (hag.2 55 (by decide)).trans hq
  refine K_putF (x := 49) (y := 55) (c := 1) (k := 2) dc_Cp_init_34 (Eq.refl 37) qk_Cp_26 (by decide) rfl (List.mem_append_left _ h0) (List.mem_append_right _ (by decide)) ha0 hq (Or.inr rfl) rfl ⟨rfl, fun _ => rfl⟩ (fun _ => rfl) ?_
  refine K_aload_n (a := a) dc_Cp_init_37 (Eq.refl 38) 0 rfl ?_
  refine K_new3 (x := 59) (Ls' := [51, 52, 53, 54, 55, 56, 57, 58, 59]) hA dc_Cp_init_38 (Eq.refl 41) nk_Cp_30 df_Pr rfl (hn 59 (by decide)) (by decide) ⟨Nat.le_of_ble_eq_true rfl, Nat.le_of_ble_eq_true rfl⟩ rfl (fun E q hA hq hag => ?_)
  have ha0 := (hag 49 (by decide)).trans ha0
  refine K_dup dc_Cp_init_41 (Eq.refl 42) rfl ?_
  refine K_callN3 (As := []) (Ms := [61, 62, 60]) (Ls' := [51, 52, 53, 54, 55, 56, 57, 58, 59, 61, 62, 60]) hA dc_Cp_init_42 (Eq.refl 45) (List.mem_of_getElem? (i := 3) rfl) mk_Pr rfl (Nat.le_of_ble_eq_true rfl) ⟨Nat.le_of_ble_eq_true rfl, Nat.le_of_ble_eq_true rfl⟩ (ci_Pr_59 (List.mem_append_right _ (by decide)) (fun x hx => nin2 (hn x ((by decide : ∀ x ∈ [61, 62, 60], x ∈ ([51, 52, 53, 54, 55, 56, 57, 58, 59, 61, 62, 60, 63, 180, 181, 182, 183, 184, 185, 186, 187, 188, 189, 190, 191, 64, 65, 66, 67, 68, 69, 70, 71, 50, 168, 169, 170, 171, 172, 173, 174, 175, 176, 177, 178, 179, 72, 73, 74, 75, 76, 77, 78, 79, 80, 81, 82, 83, 84, 85, 86, 87, 88, 89, 90, 91, 92, 93, 94, 95, 96, 97, 98, 99, 100, 101, 102, 103, 104, 105, 106, 107, 108, 109, 110, 111, 112, 113, 114, 115, 116, 117, 118, 119, 120, 121, 122, 123, 124, 125, 126, 127, 128, 129, 130, 131, 132, 133, 134, 135, 136, 137, 138, 139, 140, 141, 142, 143, 144, 145, 146, 147, 148, 149, 150, 151, 152, 153, 154, 155, 156, 157, 158, 159, 160, 161, 162, 163, 164, 165, 166, 167] : List Nat)) x hx)) ((by decide : ∀ x ∈ [61, 62, 60], x ∉ [51, 52, 53, 54, 55, 56, 57, 58, 59]) x hx)) hq) rfl (fun E hA hag => ?_)
  have ha0 := (hag.2 49 (by decide)).trans ha0
  have hq := (hag.2 59 (by decide)).trans hq
  refine K_putF (x := 49) (y := 59) (c := 1) (k := 3) dc_Cp_init_45 (Eq.refl 48) qk_Cp_33 (by decide) rfl (List.mem_append_left _ h0) (List.mem_append_right _ (by decide)) ha0 hq (Or.inr rfl) rfl ⟨rfl, fun _ => rfl⟩ (fun _ => rfl) ?_
  refine K_aload_n (a := a) dc_Cp_init_48 (Eq.refl 49) 0 rfl ?_
  refine K_new3 (x := 63) (Ls' := [51, 52, 53, 54, 55, 56, 57, 58, 59, 61, 62, 60, 63]) hA dc_Cp_init_49 (Eq.refl 52) nk_Cp_37 df_Re rfl (hn 63 (by decide)) (by decide) ⟨Nat.le_of_ble_eq_true rfl, Nat.le_of_ble_eq_true rfl⟩ rfl (fun E q hA hq hag => ?_)
  have ha0 := (hag 49 (by decide)).trans ha0
  refine K_dup dc_Cp_init_52 (Eq.refl 53) rfl ?_
  refine K_aload_n (a := a) dc_Cp_init_53 (Eq.refl 54) 0 rfl ?_
  refine K_getF (x := 49) (y := 51) (c := 1) (k := 0) dc_Cp_init_54 (Eq.refl 57) gk_Cp_10 (by decide) rfl (List.mem_append_left _ h0) (by simp) ha0 rfl (Or.inr rfl) rfl ?_
  refine K_aload_n (a := a) dc_Cp_init_57 (Eq.refl 58) 0 rfl ?_
  refine K_getF (x := 49) (y := 55) (c := 1) (k := 2) dc_Cp_init_58 (Eq.refl 61) gk_Cp_26 (by decide) rfl (List.mem_append_left _ h0) (by simp) ha0 rfl (Or.inr rfl) rfl ?_
  refine K_callI3 (As := [.ref (ro E 51), .ref (ro E 55)]) (Ms := [180, 181, 182, 183, 184, 185, 186, 187, 188, 189, 190, 191, 64, 65, 66, 67]) (Ls' := [51, 52, 53, 54, 55, 56, 57, 58, 59, 61, 62, 60, 63, 180, 181, 182, 183, 184, 185, 186, 187, 188, 189, 190, 191, 64, 65, 66, 67]) hA dc_Cp_init_61 (Eq.refl 64) ml_Cp_39 mk_Re rfl (Nat.le_of_ble_eq_true rfl) ⟨Nat.le_of_ble_eq_true rfl, Nat.le_of_ble_eq_true rfl⟩ (ci_Re_63 (List.mem_append_right _ (by decide)) (fun x hx => nin2 (hn x ((by decide : ∀ x ∈ [180, 181, 182, 183, 184, 185, 186, 187, 188, 189, 190, 191, 64, 65, 66, 67], x ∈ ([51, 52, 53, 54, 55, 56, 57, 58, 59, 61, 62, 60, 63, 180, 181, 182, 183, 184, 185, 186, 187, 188, 189, 190, 191, 64, 65, 66, 67, 68, 69, 70, 71, 50, 168, 169, 170, 171, 172, 173, 174, 175, 176, 177, 178, 179, 72, 73, 74, 75, 76, 77, 78, 79, 80, 81, 82, 83, 84, 85, 86, 87, 88, 89, 90, 91, 92, 93, 94, 95, 96, 97, 98, 99, 100, 101, 102, 103, 104, 105, 106, 107, 108, 109, 110, 111, 112, 113, 114, 115, 116, 117, 118, 119, 120, 121, 122, 123, 124, 125, 126, 127, 128, 129, 130, 131, 132, 133, 134, 135, 136, 137, 138, 139, 140, 141, 142, 143, 144, 145, 146, 147, 148, 149, 150, 151, 152, 153, 154, 155, 156, 157, 158, 159, 160, 161, 162, 163, 164, 165, 166, 167] : List Nat)) x hx)) ((by decide : ∀ x ∈ [180, 181, 182, 183, 184, 185, 186, 187, 188, 189, 190, 191, 64, 65, 66, 67], x ∉ [51, 52, 53, 54, 55, 56, 57, 58, 59, 61, 62, 60, 63]) x hx)) hq (List.mem_append_right _ (by decide)) rfl (List.mem_append_right _ (by decide)) rfl) rfl (fun E hA hag => ?_)
  have ha0 := (hag.2 49 (by decide)).trans ha0
  have hq := (hag.2 63 (by decide)).trans hq
  refine K_putF (x := 49) (y := 63) (c := 1) (k := 4) dc_Cp_init_64 (Eq.refl 67) qk_Cp_42 (by decide) rfl (List.mem_append_left _ h0) (List.mem_append_right _ (by decide)) ha0 hq (Or.inr rfl) rfl ⟨rfl, fun _ => rfl⟩ (fun _ => rfl) ?_
  refine K_aload_n (a := a) dc_Cp_init_67 (Eq.refl 68) 0 rfl ?_
  refine K_new3 (x := 68) (Ls' := [51, 52, 53, 54, 55, 56, 57, 58, 59, 61, 62, 60, 63, 180, 181, 182, 183, 184, 185, 186, 187, 188, 189, 190, 191, 64, 65, 66, 67, 68]) hA dc_Cp_init_68 (Eq.refl 71) nk_Cp_46 df_Fo rfl (hn 68 (by decide)) (by decide) ⟨Nat.le_of_ble_eq_true rfl, Nat.le_of_ble_eq_true rfl⟩ rfl (fun E q hA hq hag => ?_)
  have ha0 := (hag 49 (by decide)).trans ha0
  refine K_dup dc_Cp_init_71 (Eq.refl 72) rfl ?_
  refine K_aload_n (a := a) dc_Cp_init_72 (Eq.refl 73) 0 rfl ?_
  refine K_getF (x := 49) (y := 59) (c := 1) (k := 3) dc_Cp_init_73 (Eq.refl 76) gk_Cp_33 (by decide) rfl (List.mem_append_left _ h0) (by simp) ha0 rfl (Or.inr rfl) rfl ?_
  refine K_callI3 (As := [.ref (ro E 59)]) (Ms := []) (Ls' := [51, 52, 53, 54, 55, 56, 57, 58, 59, 61, 62, 60, 63, 180, 181, 182, 183, 184, 185, 186, 187, 188, 189, 190, 191, 64, 65, 66, 67, 68]) hA dc_Cp_init_76 (Eq.refl 79) ml_Cp_48 mk_Fo rfl (Nat.le_of_ble_eq_true rfl) ⟨Nat.le_of_ble_eq_true rfl, Nat.le_of_ble_eq_true rfl⟩ (ci_Fo_68 (List.mem_append_right _ (by decide)) (fun x hx => absurd hx (List.not_mem_nil)) hq (List.mem_append_right _ (by decide)) rfl) rfl (fun E hA hag => ?_)
  have ha0 := (hag.2 49 (by decide)).trans ha0
  have hq := (hag.2 68 (by decide)).trans hq
  refine K_putF (x := 49) (y := 68) (c := 1) (k := 5) dc_Cp_init_79 (Eq.refl 82) qk_Cp_51 (by decide) rfl (List.mem_append_left _ h0) (List.mem_append_right _ (by decide)) ha0 hq (Or.inr rfl) rfl ⟨rfl, fun _ => rfl⟩ (fun _ => rfl) ?_
  refine K_aload_n (a := a) dc_Cp_init_82 (Eq.refl 83) 0 rfl ?_
  refine K_new3 (x := 69) (Ls' := [51, 52, 53, 54, 55, 56, 57, 58, 59, 61, 62, 60, 63, 180, 181, 182, 183, 184, 185, 186, 187, 188, 189, 190, 191, 64, 65, 66, 67, 68, 69]) hA dc_Cp_init_83 (Eq.refl 86) nk_Cp_55 df_Po rfl (hn 69 (by decide)) (by decide) ⟨Nat.le_of_ble_eq_true rfl, Nat.le_of_ble_eq_true rfl⟩ rfl (fun E q hA hq hag => ?_)
  have ha0 := (hag 49 (by decide)).trans ha0
  refine K_dup dc_Cp_init_86 (Eq.refl 87) rfl ?_
  refine K_callN3 (As := []) (Ms := [70]) (Ls' := [51, 52, 53, 54, 55, 56, 57, 58, 59, 61, 62, 60, 63, 180, 181, 182, 183, 184, 185, 186, 187, 188, 189, 190, 191, 64, 65, 66, 67, 68, 69, 70]) hA dc_Cp_init_87 (Eq.refl 90) (List.mem_of_getElem? (i := 4) rfl) mk_Po rfl (Nat.le_of_ble_eq_true rfl) ⟨Nat.le_of_ble_eq_true rfl, Nat.le_of_ble_eq_true rfl⟩ (ci_Po_69 (List.mem_append_right _ (by decide)) (fun x hx => nin2 (hn x ((by decide : ∀ x ∈ [70], x ∈ ([51, 52, 53, 54, 55, 56, 57, 58, 59, 61, 62, 60, 63, 180, 181, 182, 183, 184, 185, 186, 187, 188, 189, 190, 191, 64, 65, 66, 67, 68, 69, 70, 71, 50, 168, 169, 170, 171, 172, 173, 174, 175, 176, 177, 178, 179, 72, 73, 74, 75, 76, 77, 78, 79, 80, 81, 82, 83, 84, 85, 86, 87, 88, 89, 90, 91, 92, 93, 94, 95, 96, 97, 98, 99, 100, 101, 102, 103, 104, 105, 106, 107, 108, 109, 110, 111, 112, 113, 114, 115, 116, 117, 118, 119, 120, 121, 122, 123, 124, 125, 126, 127, 128, 129, 130, 131, 132, 133, 134, 135, 136, 137, 138, 139, 140, 141, 142, 143, 144, 145, 146, 147, 148, 149, 150, 151, 152, 153, 154, 155, 156, 157, 158, 159, 160, 161, 162, 163, 164, 165, 166, 167] : List Nat)) x hx)) ((by decide : ∀ x ∈ [70], x ∉ [51, 52, 53, 54, 55, 56, 57, 58, 59, 61, 62, 60, 63, 180, 181, 182, 183, 184, 185, 186, 187, 188, 189, 190, 191, 64, 65, 66, 67, 68, 69]) x hx)) hq) rfl (fun E hA hag => ?_)
  have ha0 := (hag.2 49 (by decide)).trans ha0
  have hq := (hag.2 69 (by decide)).trans hq
  refine K_putF (x := 49) (y := 69) (c := 1) (k := 6) dc_Cp_init_90 (Eq.refl 93) qk_Cp_58 (by decide) rfl (List.mem_append_left _ h0) (List.mem_append_right _ (by decide)) ha0 hq (Or.inr rfl) rfl ⟨rfl, fun _ => rfl⟩ (fun _ => rfl) ?_
  refine K_aload_n (a := a) dc_Cp_init_93 (Eq.refl 94) 0 rfl ?_
  refine K_new3 (x := 71) (Ls' := [51, 52, 53, 54, 55, 56, 57, 58, 59, 61, 62, 60, 63, 180, 181, 182, 183, 184, 185, 186, 187, 188, 189, 190, 191, 64, 65, 66, 67, 68, 69, 70, 71]) hA dc_Cp_init_94 (Eq.refl 97) nk_Cp_62 df_We rfl (hn 71 (by decide)) (by decide) ⟨Nat.le_of_ble_eq_true rfl, Nat.le_of_ble_eq_true rfl⟩ rfl (fun E q hA hq hag => ?_)
  have ha0 := (hag 49 (by decide)).trans ha0
  refine K_dup dc_Cp_init_97 (Eq.refl 98) rfl ?_
  refine K_callN3 (As := []) (Ms := []) (Ls' := [51, 52, 53, 54, 55, 56, 57, 58, 59, 61, 62, 60, 63, 180, 181, 182, 183, 184, 185, 186, 187, 188, 189, 190, 191, 64, 65, 66, 67, 68, 69, 70, 71]) hA dc_Cp_init_98 (Eq.refl 101) (List.mem_of_getElem? (i := 5) rfl) mk_We rfl (Nat.le_of_ble_eq_true rfl) ⟨Nat.le_of_ble_eq_true rfl, Nat.le_of_ble_eq_true rfl⟩ (ci_We_71 (List.mem_append_right _ (by decide)) (fun x hx => absurd hx (List.not_mem_nil)) hq) rfl (fun E hA hag => ?_)
  have ha0 := (hag.2 49 (by decide)).trans ha0
  have hq := (hag.2 71 (by decide)).trans hq
  refine K_putF (x := 49) (y := 71) (c := 1) (k := 7) dc_Cp_init_101 (Eq.refl 104) qk_Cp_65 (by decide) rfl (List.mem_append_left _ h0) (List.mem_append_right _ (by decide)) ha0 hq (Or.inr rfl) rfl ⟨rfl, fun _ => rfl⟩ (fun _ => rfl) ?_
  refine K_aload_n (a := a) dc_Cp_init_104 (Eq.refl 105) 0 rfl ?_
  refine K_bipush (v := (8 : Int32)) dc_Cp_init_105 (Eq.refl 107) rfl ?_
  refine K_newT3 (x := 50) (Ls' := [51, 52, 53, 54, 55, 56, 57, 58, 59, 61, 62, 60, 63, 180, 181, 182, 183, 184, 185, 186, 187, 188, 189, 190, 191, 64, 65, 66, 67, 68, 69, 70, 71, 50]) hA dc_Cp_init_107 (Eq.refl 110) ck_Cp_69 rfl rfl (hn 50 (by decide)) (by decide) (by decide) rfl (by decide) ⟨Nat.le_of_ble_eq_true rfl, Nat.le_of_ble_eq_true rfl⟩ rfl (fun E q hA hq hag => ?_)
  have ha0 := (hag 49 (by decide)).trans ha0
  refine K_putF (x := 49) (y := 50) (c := 1) (k := 8) dc_Cp_init_110 (Eq.refl 113) qk_Cp_71 (by decide) rfl (List.mem_append_left _ h0) (List.mem_append_right _ (by decide)) ha0 hq (Or.inl rfl) rfl ⟨rfl, fun _ => rfl⟩ (fun _ => rfl) ?_
  refine K_aload_n (a := a) dc_Cp_init_113 (Eq.refl 114) 0 rfl ?_
  refine K_new3 (x := 168) (Ls' := [51, 52, 53, 54, 55, 56, 57, 58, 59, 61, 62, 60, 63, 180, 181, 182, 183, 184, 185, 186, 187, 188, 189, 190, 191, 64, 65, 66, 67, 68, 69, 70, 71, 50, 168]) hA dc_Cp_init_114 (Eq.refl 117) nk_Cp_69 df_Tr rfl (hn 168 (by decide)) (by decide) ⟨Nat.le_of_ble_eq_true rfl, Nat.le_of_ble_eq_true rfl⟩ rfl (fun E q hA hq hag => ?_)
  have ha0 := (hag 49 (by decide)).trans ha0
  refine K_dup dc_Cp_init_117 (Eq.refl 118) rfl ?_
  refine K_callN3 (As := []) (Ms := [169, 170, 171, 172, 173, 174, 175, 176, 177, 178, 179]) (Ls' := [51, 52, 53, 54, 55, 56, 57, 58, 59, 61, 62, 60, 63, 180, 181, 182, 183, 184, 185, 186, 187, 188, 189, 190, 191, 64, 65, 66, 67, 68, 69, 70, 71, 50, 168, 169, 170, 171, 172, 173, 174, 175, 176, 177, 178, 179]) hA dc_Cp_init_118 (Eq.refl 121) (List.mem_of_getElem? (i := 6) rfl) mk_Tr rfl (Nat.le_of_ble_eq_true rfl) ⟨Nat.le_of_ble_eq_true rfl, Nat.le_of_ble_eq_true rfl⟩ (ci_Tr_168 (List.mem_append_right _ (by decide)) (fun x hx => nin2 (hn x ((by decide : ∀ x ∈ [169, 170, 171, 172, 173, 174, 175, 176, 177, 178, 179], x ∈ ([51, 52, 53, 54, 55, 56, 57, 58, 59, 61, 62, 60, 63, 180, 181, 182, 183, 184, 185, 186, 187, 188, 189, 190, 191, 64, 65, 66, 67, 68, 69, 70, 71, 50, 168, 169, 170, 171, 172, 173, 174, 175, 176, 177, 178, 179, 72, 73, 74, 75, 76, 77, 78, 79, 80, 81, 82, 83, 84, 85, 86, 87, 88, 89, 90, 91, 92, 93, 94, 95, 96, 97, 98, 99, 100, 101, 102, 103, 104, 105, 106, 107, 108, 109, 110, 111, 112, 113, 114, 115, 116, 117, 118, 119, 120, 121, 122, 123, 124, 125, 126, 127, 128, 129, 130, 131, 132, 133, 134, 135, 136, 137, 138, 139, 140, 141, 142, 143, 144, 145, 146, 147, 148, 149, 150, 151, 152, 153, 154, 155, 156, 157, 158, 159, 160, 161, 162, 163, 164, 165, 166, 167] : List Nat)) x hx)) ((by decide : ∀ x ∈ [169, 170, 171, 172, 173, 174, 175, 176, 177, 178, 179], x ∉ [51, 52, 53, 54, 55, 56, 57, 58, 59, 61, 62, 60, 63, 180, 181, 182, 183, 184, 185, 186, 187, 188, 189, 190, 191, 64, 65, 66, 67, 68, 69, 70, 71, 50, 168]) x hx)) hq) rfl (fun E hA hag => ?_)
  have ha0 := (hag.2 49 (by decide)).trans ha0
  have hq := (hag.2 168 (by decide)).trans hq
  refine K_putR (x := 49) (y := 168) (c := 1) (k := 9) dc_Cp_init_121 (Eq.refl 124) pk_Cp_76 (by decide) rfl (List.mem_append_left _ h0) (List.mem_append_right _ (by decide)) ha0 hq rfl ?_
  refine K_aload_n (a := a) dc_Cp_init_124 (Eq.refl 125) 0 rfl ?_
  refine K_iconst (v := (-1 : Int32)) dc_Cp_init_125 (Eq.refl 126) rfl ?_
  refine K_putI (x := 49) (c := 1) (k := 10) dc_Cp_init_126 (Eq.refl 129) pk_Cp_80 (by decide) rfl (List.mem_append_left _ h0) ha0 rfl ?_
  refine K_iconst (v := (0 : Int32)) dc_Cp_init_129 (Eq.refl 130) rfl ?_
  refine K_istore_n (L' := [(1, .int (0 : Int32)), (0, .ref a)]) dc_Cp_init_130 (Eq.refl 131) (by decide) rfl ?_
  have hsh : ro E 50 = ro E 50 := rfl
  refine K_iload_n (x := (0 : Int32)) dc_Cp_init_131 (Eq.refl 132) 0 rfl ?_
  refine K_bipush (v := (8 : Int32)) dc_Cp_init_132 (Eq.refl 134) rfl ?_
  refine K_icge_n dc_Cp_init_134 (Eq.refl 137) 156 rfl (by decide) ?_
  refine K_aload_n (a := a) dc_Cp_init_137 (Eq.refl 138) 1 rfl ?_
  refine K_getF (x := 49) (y := 50) (c := 1) (k := 8) dc_Cp_init_138 (Eq.refl 141) gk_Cp_71 (by decide) rfl (List.mem_append_left _ h0) (by simp) ha0 hsh (Or.inl rfl) rfl ?_
  refine K_iload_n (x := (0 : Int32)) dc_Cp_init_141 (Eq.refl 142) 0 rfl ?_
  refine K_new3 (x := 72) (Ls' := [51, 52, 53, 54, 55, 56, 57, 58, 59, 61, 62, 60, 63, 180, 181, 182, 183, 184, 185, 186, 187, 188, 189, 190, 191, 64, 65, 66, 67, 68, 69, 70, 71, 50, 168, 169, 170, 171, 172, 173, 174, 175, 176, 177, 178, 179, 72]) hA dc_Cp_init_142 (Eq.refl 145) nk_Cp_69 df_Tr rfl (hn 72 (by decide)) (by decide) ⟨Nat.le_of_ble_eq_true rfl, Nat.le_of_ble_eq_true rfl⟩ rfl (fun E q hA hq hag => ?_)
  have ha0 := (hag 49 (by decide)).trans ha0
  have hsh := (hag 50 (by decide)).trans hsh
  refine K_dup dc_Cp_init_145 (Eq.refl 146) rfl ?_
  refine K_callN3 (As := []) (Ms := [73, 74, 75, 76, 77, 78, 79, 80, 81, 82, 83]) (Ls' := [51, 52, 53, 54, 55, 56, 57, 58, 59, 61, 62, 60, 63, 180, 181, 182, 183, 184, 185, 186, 187, 188, 189, 190, 191, 64, 65, 66, 67, 68, 69, 70, 71, 50, 168, 169, 170, 171, 172, 173, 174, 175, 176, 177, 178, 179, 72, 73, 74, 75, 76, 77, 78, 79, 80, 81, 82, 83]) hA dc_Cp_init_146 (Eq.refl 149) (List.mem_of_getElem? (i := 6) rfl) mk_Tr rfl (Nat.le_of_ble_eq_true rfl) ⟨Nat.le_of_ble_eq_true rfl, Nat.le_of_ble_eq_true rfl⟩ (ci_Tr_72 (List.mem_append_right _ (by decide)) (fun x hx => nin2 (hn x ((by decide : ∀ x ∈ [73, 74, 75, 76, 77, 78, 79, 80, 81, 82, 83], x ∈ ([51, 52, 53, 54, 55, 56, 57, 58, 59, 61, 62, 60, 63, 180, 181, 182, 183, 184, 185, 186, 187, 188, 189, 190, 191, 64, 65, 66, 67, 68, 69, 70, 71, 50, 168, 169, 170, 171, 172, 173, 174, 175, 176, 177, 178, 179, 72, 73, 74, 75, 76, 77, 78, 79, 80, 81, 82, 83, 84, 85, 86, 87, 88, 89, 90, 91, 92, 93, 94, 95, 96, 97, 98, 99, 100, 101, 102, 103, 104, 105, 106, 107, 108, 109, 110, 111, 112, 113, 114, 115, 116, 117, 118, 119, 120, 121, 122, 123, 124, 125, 126, 127, 128, 129, 130, 131, 132, 133, 134, 135, 136, 137, 138, 139, 140, 141, 142, 143, 144, 145, 146, 147, 148, 149, 150, 151, 152, 153, 154, 155, 156, 157, 158, 159, 160, 161, 162, 163, 164, 165, 166, 167] : List Nat)) x hx)) ((by decide : ∀ x ∈ [73, 74, 75, 76, 77, 78, 79, 80, 81, 82, 83], x ∉ [51, 52, 53, 54, 55, 56, 57, 58, 59, 61, 62, 60, 63, 180, 181, 182, 183, 184, 185, 186, 187, 188, 189, 190, 191, 64, 65, 66, 67, 68, 69, 70, 71, 50, 168, 169, 170, 171, 172, 173, 174, 175, 176, 177, 178, 179, 72]) x hx)) hq) rfl (fun E hA hag => ?_)
  have ha0 := (hag.2 49 (by decide)).trans ha0
  have hq := (hag.2 72 (by decide)).trans hq
  have hsh := (hag.2 50 (by decide)).trans hsh
  refine K_astT (x := 50) (y := 72) dc_Cp_init_149 (Eq.refl 150) rfl rfl (List.mem_append_right _ (by decide)) rfl (List.mem_append_right _ (by decide)) hsh hq (vin (n := 0) (by decide) (by decide)) ?_
  refine K_iinc (v := (1 : Int32)) (L' := [(1, .int (1 : Int32)), (0, .ref a)]) dc_Cp_init_150 (Eq.refl 153) 0 rfl rfl (by decide) rfl ?_
  refine K_goto (tgt := 131) dc_Cp_init_153 rfl ?_
  refine K_iload_n (x := (1 : Int32)) dc_Cp_init_131 (Eq.refl 132) 0 rfl ?_
  refine K_bipush (v := (8 : Int32)) dc_Cp_init_132 (Eq.refl 134) rfl ?_
  refine K_icge_n dc_Cp_init_134 (Eq.refl 137) 156 rfl (by decide) ?_
  refine K_aload_n (a := a) dc_Cp_init_137 (Eq.refl 138) 1 rfl ?_
  refine K_getF (x := 49) (y := 50) (c := 1) (k := 8) dc_Cp_init_138 (Eq.refl 141) gk_Cp_71 (by decide) rfl (List.mem_append_left _ h0) (by simp) ha0 hsh (Or.inl rfl) rfl ?_
  refine K_iload_n (x := (1 : Int32)) dc_Cp_init_141 (Eq.refl 142) 0 rfl ?_
  refine K_new3 (x := 84) (Ls' := [51, 52, 53, 54, 55, 56, 57, 58, 59, 61, 62, 60, 63, 180, 181, 182, 183, 184, 185, 186, 187, 188, 189, 190, 191, 64, 65, 66, 67, 68, 69, 70, 71, 50, 168, 169, 170, 171, 172, 173, 174, 175, 176, 177, 178, 179, 72, 73, 74, 75, 76, 77, 78, 79, 80, 81, 82, 83, 84]) hA dc_Cp_init_142 (Eq.refl 145) nk_Cp_69 df_Tr rfl (hn 84 (by decide)) (by decide) ⟨Nat.le_of_ble_eq_true rfl, Nat.le_of_ble_eq_true rfl⟩ rfl (fun E q hA hq hag => ?_)
  have ha0 := (hag 49 (by decide)).trans ha0
  have hsh := (hag 50 (by decide)).trans hsh
  refine K_dup dc_Cp_init_145 (Eq.refl 146) rfl ?_
  refine K_callN3 (As := []) (Ms := [85, 86, 87, 88, 89, 90, 91, 92, 93, 94, 95]) (Ls' := [51, 52, 53, 54, 55, 56, 57, 58, 59, 61, 62, 60, 63, 180, 181, 182, 183, 184, 185, 186, 187, 188, 189, 190, 191, 64, 65, 66, 67, 68, 69, 70, 71, 50, 168, 169, 170, 171, 172, 173, 174, 175, 176, 177, 178, 179, 72, 73, 74, 75, 76, 77, 78, 79, 80, 81, 82, 83, 84, 85, 86, 87, 88, 89, 90, 91, 92, 93, 94, 95]) hA dc_Cp_init_146 (Eq.refl 149) (List.mem_of_getElem? (i := 6) rfl) mk_Tr rfl (Nat.le_of_ble_eq_true rfl) ⟨Nat.le_of_ble_eq_true rfl, Nat.le_of_ble_eq_true rfl⟩ (ci_Tr_84 (List.mem_append_right _ (by decide)) (fun x hx => nin2 (hn x ((by decide : ∀ x ∈ [85, 86, 87, 88, 89, 90, 91, 92, 93, 94, 95], x ∈ ([51, 52, 53, 54, 55, 56, 57, 58, 59, 61, 62, 60, 63, 180, 181, 182, 183, 184, 185, 186, 187, 188, 189, 190, 191, 64, 65, 66, 67, 68, 69, 70, 71, 50, 168, 169, 170, 171, 172, 173, 174, 175, 176, 177, 178, 179, 72, 73, 74, 75, 76, 77, 78, 79, 80, 81, 82, 83, 84, 85, 86, 87, 88, 89, 90, 91, 92, 93, 94, 95, 96, 97, 98, 99, 100, 101, 102, 103, 104, 105, 106, 107, 108, 109, 110, 111, 112, 113, 114, 115, 116, 117, 118, 119, 120, 121, 122, 123, 124, 125, 126, 127, 128, 129, 130, 131, 132, 133, 134, 135, 136, 137, 138, 139, 140, 141, 142, 143, 144, 145, 146, 147, 148, 149, 150, 151, 152, 153, 154, 155, 156, 157, 158, 159, 160, 161, 162, 163, 164, 165, 166, 167] : List Nat)) x hx)) ((by decide : ∀ x ∈ [85, 86, 87, 88, 89, 90, 91, 92, 93, 94, 95], x ∉ [51, 52, 53, 54, 55, 56, 57, 58, 59, 61, 62, 60, 63, 180, 181, 182, 183, 184, 185, 186, 187, 188, 189, 190, 191, 64, 65, 66, 67, 68, 69, 70, 71, 50, 168, 169, 170, 171, 172, 173, 174, 175, 176, 177, 178, 179, 72, 73, 74, 75, 76, 77, 78, 79, 80, 81, 82, 83, 84]) x hx)) hq) rfl (fun E hA hag => ?_)
  have ha0 := (hag.2 49 (by decide)).trans ha0
  have hq := (hag.2 84 (by decide)).trans hq
  have hsh := (hag.2 50 (by decide)).trans hsh
  refine K_astT (x := 50) (y := 84) dc_Cp_init_149 (Eq.refl 150) rfl rfl (List.mem_append_right _ (by decide)) rfl (List.mem_append_right _ (by decide)) hsh hq (vin (n := 1) (by decide) (by decide)) ?_
  refine K_iinc (v := (2 : Int32)) (L' := [(1, .int (2 : Int32)), (0, .ref a)]) dc_Cp_init_150 (Eq.refl 153) 0 rfl rfl (by decide) rfl ?_
  refine K_goto (tgt := 131) dc_Cp_init_153 rfl ?_
  refine K_iload_n (x := (2 : Int32)) dc_Cp_init_131 (Eq.refl 132) 0 rfl ?_
  refine K_bipush (v := (8 : Int32)) dc_Cp_init_132 (Eq.refl 134) rfl ?_
  refine K_icge_n dc_Cp_init_134 (Eq.refl 137) 156 rfl (by decide) ?_
  refine K_aload_n (a := a) dc_Cp_init_137 (Eq.refl 138) 1 rfl ?_
  refine K_getF (x := 49) (y := 50) (c := 1) (k := 8) dc_Cp_init_138 (Eq.refl 141) gk_Cp_71 (by decide) rfl (List.mem_append_left _ h0) (by simp) ha0 hsh (Or.inl rfl) rfl ?_
  refine K_iload_n (x := (2 : Int32)) dc_Cp_init_141 (Eq.refl 142) 0 rfl ?_
  refine K_new3 (x := 96) (Ls' := [51, 52, 53, 54, 55, 56, 57, 58, 59, 61, 62, 60, 63, 180, 181, 182, 183, 184, 185, 186, 187, 188, 189, 190, 191, 64, 65, 66, 67, 68, 69, 70, 71, 50, 168, 169, 170, 171, 172, 173, 174, 175, 176, 177, 178, 179, 72, 73, 74, 75, 76, 77, 78, 79, 80, 81, 82, 83, 84, 85, 86, 87, 88, 89, 90, 91, 92, 93, 94, 95, 96]) hA dc_Cp_init_142 (Eq.refl 145) nk_Cp_69 df_Tr rfl (hn 96 (by decide)) (by decide) ⟨Nat.le_of_ble_eq_true rfl, Nat.le_of_ble_eq_true rfl⟩ rfl (fun E q hA hq hag => ?_)
  have ha0 := (hag 49 (by decide)).trans ha0
  have hsh := (hag 50 (by decide)).trans hsh
  refine K_dup dc_Cp_init_145 (Eq.refl 146) rfl ?_
  refine K_callN3 (As := []) (Ms := [97, 98, 99, 100, 101, 102, 103, 104, 105, 106, 107]) (Ls' := [51, 52, 53, 54, 55, 56, 57, 58, 59, 61, 62, 60, 63, 180, 181, 182, 183, 184, 185, 186, 187, 188, 189, 190, 191, 64, 65, 66, 67, 68, 69, 70, 71, 50, 168, 169, 170, 171, 172, 173, 174, 175, 176, 177, 178, 179, 72, 73, 74, 75, 76, 77, 78, 79, 80, 81, 82, 83, 84, 85, 86, 87, 88, 89, 90, 91, 92, 93, 94, 95, 96, 97, 98, 99, 100, 101, 102, 103, 104, 105, 106, 107]) hA dc_Cp_init_146 (Eq.refl 149) (List.mem_of_getElem? (i := 6) rfl) mk_Tr rfl (Nat.le_of_ble_eq_true rfl) ⟨Nat.le_of_ble_eq_true rfl, Nat.le_of_ble_eq_true rfl⟩ (ci_Tr_96 (List.mem_append_right _ (by decide)) (fun x hx => nin2 (hn x ((by decide : ∀ x ∈ [97, 98, 99, 100, 101, 102, 103, 104, 105, 106, 107], x ∈ ([51, 52, 53, 54, 55, 56, 57, 58, 59, 61, 62, 60, 63, 180, 181, 182, 183, 184, 185, 186, 187, 188, 189, 190, 191, 64, 65, 66, 67, 68, 69, 70, 71, 50, 168, 169, 170, 171, 172, 173, 174, 175, 176, 177, 178, 179, 72, 73, 74, 75, 76, 77, 78, 79, 80, 81, 82, 83, 84, 85, 86, 87, 88, 89, 90, 91, 92, 93, 94, 95, 96, 97, 98, 99, 100, 101, 102, 103, 104, 105, 106, 107, 108, 109, 110, 111, 112, 113, 114, 115, 116, 117, 118, 119, 120, 121, 122, 123, 124, 125, 126, 127, 128, 129, 130, 131, 132, 133, 134, 135, 136, 137, 138, 139, 140, 141, 142, 143, 144, 145, 146, 147, 148, 149, 150, 151, 152, 153, 154, 155, 156, 157, 158, 159, 160, 161, 162, 163, 164, 165, 166, 167] : List Nat)) x hx)) ((by decide : ∀ x ∈ [97, 98, 99, 100, 101, 102, 103, 104, 105, 106, 107], x ∉ [51, 52, 53, 54, 55, 56, 57, 58, 59, 61, 62, 60, 63, 180, 181, 182, 183, 184, 185, 186, 187, 188, 189, 190, 191, 64, 65, 66, 67, 68, 69, 70, 71, 50, 168, 169, 170, 171, 172, 173, 174, 175, 176, 177, 178, 179, 72, 73, 74, 75, 76, 77, 78, 79, 80, 81, 82, 83, 84, 85, 86, 87, 88, 89, 90, 91, 92, 93, 94, 95, 96]) x hx)) hq) rfl (fun E hA hag => ?_)
  have ha0 := (hag.2 49 (by decide)).trans ha0
  have hq := (hag.2 96 (by decide)).trans hq
  have hsh := (hag.2 50 (by decide)).trans hsh
  refine K_astT (x := 50) (y := 96) dc_Cp_init_149 (Eq.refl 150) rfl rfl (List.mem_append_right _ (by decide)) rfl (List.mem_append_right _ (by decide)) hsh hq (vin (n := 2) (by decide) (by decide)) ?_
  refine K_iinc (v := (3 : Int32)) (L' := [(1, .int (3 : Int32)), (0, .ref a)]) dc_Cp_init_150 (Eq.refl 153) 0 rfl rfl (by decide) rfl ?_
  refine K_goto (tgt := 131) dc_Cp_init_153 rfl ?_
  refine K_iload_n (x := (3 : Int32)) dc_Cp_init_131 (Eq.refl 132) 0 rfl ?_
  refine K_bipush (v := (8 : Int32)) dc_Cp_init_132 (Eq.refl 134) rfl ?_
  refine K_icge_n dc_Cp_init_134 (Eq.refl 137) 156 rfl (by decide) ?_
  refine K_aload_n (a := a) dc_Cp_init_137 (Eq.refl 138) 1 rfl ?_
  refine K_getF (x := 49) (y := 50) (c := 1) (k := 8) dc_Cp_init_138 (Eq.refl 141) gk_Cp_71 (by decide) rfl (List.mem_append_left _ h0) (by simp) ha0 hsh (Or.inl rfl) rfl ?_
  refine K_iload_n (x := (3 : Int32)) dc_Cp_init_141 (Eq.refl 142) 0 rfl ?_
  refine K_new3 (x := 108) (Ls' := [51, 52, 53, 54, 55, 56, 57, 58, 59, 61, 62, 60, 63, 180, 181, 182, 183, 184, 185, 186, 187, 188, 189, 190, 191, 64, 65, 66, 67, 68, 69, 70, 71, 50, 168, 169, 170, 171, 172, 173, 174, 175, 176, 177, 178, 179, 72, 73, 74, 75, 76, 77, 78, 79, 80, 81, 82, 83, 84, 85, 86, 87, 88, 89, 90, 91, 92, 93, 94, 95, 96, 97, 98, 99, 100, 101, 102, 103, 104, 105, 106, 107, 108]) hA dc_Cp_init_142 (Eq.refl 145) nk_Cp_69 df_Tr rfl (hn 108 (by decide)) (by decide) ⟨Nat.le_of_ble_eq_true rfl, Nat.le_of_ble_eq_true rfl⟩ rfl (fun E q hA hq hag => ?_)
  have ha0 := (hag 49 (by decide)).trans ha0
  have hsh := (hag 50 (by decide)).trans hsh
  refine K_dup dc_Cp_init_145 (Eq.refl 146) rfl ?_
  refine K_callN3 (As := []) (Ms := [109, 110, 111, 112, 113, 114, 115, 116, 117, 118, 119]) (Ls' := [51, 52, 53, 54, 55, 56, 57, 58, 59, 61, 62, 60, 63, 180, 181, 182, 183, 184, 185, 186, 187, 188, 189, 190, 191, 64, 65, 66, 67, 68, 69, 70, 71, 50, 168, 169, 170, 171, 172, 173, 174, 175, 176, 177, 178, 179, 72, 73, 74, 75, 76, 77, 78, 79, 80, 81, 82, 83, 84, 85, 86, 87, 88, 89, 90, 91, 92, 93, 94, 95, 96, 97, 98, 99, 100, 101, 102, 103, 104, 105, 106, 107, 108, 109, 110, 111, 112, 113, 114, 115, 116, 117, 118, 119]) hA dc_Cp_init_146 (Eq.refl 149) (List.mem_of_getElem? (i := 6) rfl) mk_Tr rfl (Nat.le_of_ble_eq_true rfl) ⟨Nat.le_of_ble_eq_true rfl, Nat.le_of_ble_eq_true rfl⟩ (ci_Tr_108 (List.mem_append_right _ (by decide)) (fun x hx => nin2 (hn x ((by decide : ∀ x ∈ [109, 110, 111, 112, 113, 114, 115, 116, 117, 118, 119], x ∈ ([51, 52, 53, 54, 55, 56, 57, 58, 59, 61, 62, 60, 63, 180, 181, 182, 183, 184, 185, 186, 187, 188, 189, 190, 191, 64, 65, 66, 67, 68, 69, 70, 71, 50, 168, 169, 170, 171, 172, 173, 174, 175, 176, 177, 178, 179, 72, 73, 74, 75, 76, 77, 78, 79, 80, 81, 82, 83, 84, 85, 86, 87, 88, 89, 90, 91, 92, 93, 94, 95, 96, 97, 98, 99, 100, 101, 102, 103, 104, 105, 106, 107, 108, 109, 110, 111, 112, 113, 114, 115, 116, 117, 118, 119, 120, 121, 122, 123, 124, 125, 126, 127, 128, 129, 130, 131, 132, 133, 134, 135, 136, 137, 138, 139, 140, 141, 142, 143, 144, 145, 146, 147, 148, 149, 150, 151, 152, 153, 154, 155, 156, 157, 158, 159, 160, 161, 162, 163, 164, 165, 166, 167] : List Nat)) x hx)) ((by decide : ∀ x ∈ [109, 110, 111, 112, 113, 114, 115, 116, 117, 118, 119], x ∉ [51, 52, 53, 54, 55, 56, 57, 58, 59, 61, 62, 60, 63, 180, 181, 182, 183, 184, 185, 186, 187, 188, 189, 190, 191, 64, 65, 66, 67, 68, 69, 70, 71, 50, 168, 169, 170, 171, 172, 173, 174, 175, 176, 177, 178, 179, 72, 73, 74, 75, 76, 77, 78, 79, 80, 81, 82, 83, 84, 85, 86, 87, 88, 89, 90, 91, 92, 93, 94, 95, 96, 97, 98, 99, 100, 101, 102, 103, 104, 105, 106, 107, 108]) x hx)) hq) rfl (fun E hA hag => ?_)
  have ha0 := (hag.2 49 (by decide)).trans ha0
  have hq := (hag.2 108 (by decide)).trans hq
  have hsh := (hag.2 50 (by decide)).trans hsh
  refine K_astT (x := 50) (y := 108) dc_Cp_init_149 (Eq.refl 150) rfl rfl (List.mem_append_right _ (by decide)) rfl (List.mem_append_right _ (by decide)) hsh hq (vin (n := 3) (by decide) (by decide)) ?_
  refine K_iinc (v := (4 : Int32)) (L' := [(1, .int (4 : Int32)), (0, .ref a)]) dc_Cp_init_150 (Eq.refl 153) 0 rfl rfl (by decide) rfl ?_
  refine K_goto (tgt := 131) dc_Cp_init_153 rfl ?_
  refine K_iload_n (x := (4 : Int32)) dc_Cp_init_131 (Eq.refl 132) 0 rfl ?_
  refine K_bipush (v := (8 : Int32)) dc_Cp_init_132 (Eq.refl 134) rfl ?_
  refine K_icge_n dc_Cp_init_134 (Eq.refl 137) 156 rfl (by decide) ?_
  refine K_aload_n (a := a) dc_Cp_init_137 (Eq.refl 138) 1 rfl ?_
  refine K_getF (x := 49) (y := 50) (c := 1) (k := 8) dc_Cp_init_138 (Eq.refl 141) gk_Cp_71 (by decide) rfl (List.mem_append_left _ h0) (by simp) ha0 hsh (Or.inl rfl) rfl ?_
  refine K_iload_n (x := (4 : Int32)) dc_Cp_init_141 (Eq.refl 142) 0 rfl ?_
  refine K_new3 (x := 120) (Ls' := [51, 52, 53, 54, 55, 56, 57, 58, 59, 61, 62, 60, 63, 180, 181, 182, 183, 184, 185, 186, 187, 188, 189, 190, 191, 64, 65, 66, 67, 68, 69, 70, 71, 50, 168, 169, 170, 171, 172, 173, 174, 175, 176, 177, 178, 179, 72, 73, 74, 75, 76, 77, 78, 79, 80, 81, 82, 83, 84, 85, 86, 87, 88, 89, 90, 91, 92, 93, 94, 95, 96, 97, 98, 99, 100, 101, 102, 103, 104, 105, 106, 107, 108, 109, 110, 111, 112, 113, 114, 115, 116, 117, 118, 119, 120]) hA dc_Cp_init_142 (Eq.refl 145) nk_Cp_69 df_Tr rfl (hn 120 (by decide)) (by decide) ⟨Nat.le_of_ble_eq_true rfl, Nat.le_of_ble_eq_true rfl⟩ rfl (fun E q hA hq hag => ?_)
  have ha0 := (hag 49 (by decide)).trans ha0
  have hsh := (hag 50 (by decide)).trans hsh
  refine K_dup dc_Cp_init_145 (Eq.refl 146) rfl ?_
  refine K_callN3 (As := []) (Ms := [121, 122, 123, 124, 125, 126, 127, 128, 129, 130, 131]) (Ls' := [51, 52, 53, 54, 55, 56, 57, 58, 59, 61, 62, 60, 63, 180, 181, 182, 183, 184, 185, 186, 187, 188, 189, 190, 191, 64, 65, 66, 67, 68, 69, 70, 71, 50, 168, 169, 170, 171, 172, 173, 174, 175, 176, 177, 178, 179, 72, 73, 74, 75, 76, 77, 78, 79, 80, 81, 82, 83, 84, 85, 86, 87, 88, 89, 90, 91, 92, 93, 94, 95, 96, 97, 98, 99, 100, 101, 102, 103, 104, 105, 106, 107, 108, 109, 110, 111, 112, 113, 114, 115, 116, 117, 118, 119, 120, 121, 122, 123, 124, 125, 126, 127, 128, 129, 130, 131]) hA dc_Cp_init_146 (Eq.refl 149) (List.mem_of_getElem? (i := 6) rfl) mk_Tr rfl (Nat.le_of_ble_eq_true rfl) ⟨Nat.le_of_ble_eq_true rfl, Nat.le_of_ble_eq_true rfl⟩ (ci_Tr_120 (List.mem_append_right _ (by decide)) (fun x hx => nin2 (hn x ((by decide : ∀ x ∈ [121, 122, 123, 124, 125, 126, 127, 128, 129, 130, 131], x ∈ ([51, 52, 53, 54, 55, 56, 57, 58, 59, 61, 62, 60, 63, 180, 181, 182, 183, 184, 185, 186, 187, 188, 189, 190, 191, 64, 65, 66, 67, 68, 69, 70, 71, 50, 168, 169, 170, 171, 172, 173, 174, 175, 176, 177, 178, 179, 72, 73, 74, 75, 76, 77, 78, 79, 80, 81, 82, 83, 84, 85, 86, 87, 88, 89, 90, 91, 92, 93, 94, 95, 96, 97, 98, 99, 100, 101, 102, 103, 104, 105, 106, 107, 108, 109, 110, 111, 112, 113, 114, 115, 116, 117, 118, 119, 120, 121, 122, 123, 124, 125, 126, 127, 128, 129, 130, 131, 132, 133, 134, 135, 136, 137, 138, 139, 140, 141, 142, 143, 144, 145, 146, 147, 148, 149, 150, 151, 152, 153, 154, 155, 156, 157, 158, 159, 160, 161, 162, 163, 164, 165, 166, 167] : List Nat)) x hx)) ((by decide : ∀ x ∈ [121, 122, 123, 124, 125, 126, 127, 128, 129, 130, 131], x ∉ [51, 52, 53, 54, 55, 56, 57, 58, 59, 61, 62, 60, 63, 180, 181, 182, 183, 184, 185, 186, 187, 188, 189, 190, 191, 64, 65, 66, 67, 68, 69, 70, 71, 50, 168, 169, 170, 171, 172, 173, 174, 175, 176, 177, 178, 179, 72, 73, 74, 75, 76, 77, 78, 79, 80, 81, 82, 83, 84, 85, 86, 87, 88, 89, 90, 91, 92, 93, 94, 95, 96, 97, 98, 99, 100, 101, 102, 103, 104, 105, 106, 107, 108, 109, 110, 111, 112, 113, 114, 115, 116, 117, 118, 119, 120]) x hx)) hq) rfl (fun E hA hag => ?_)
  have ha0 := (hag.2 49 (by decide)).trans ha0
  have hq := (hag.2 120 (by decide)).trans hq
  have hsh := (hag.2 50 (by decide)).trans hsh
  refine K_astT (x := 50) (y := 120) dc_Cp_init_149 (Eq.refl 150) rfl rfl (List.mem_append_right _ (by decide)) rfl (List.mem_append_right _ (by decide)) hsh hq (vin (n := 4) (by decide) (by decide)) ?_
  refine K_iinc (v := (5 : Int32)) (L' := [(1, .int (5 : Int32)), (0, .ref a)]) dc_Cp_init_150 (Eq.refl 153) 0 rfl rfl (by decide) rfl ?_
  refine K_goto (tgt := 131) dc_Cp_init_153 rfl ?_
  refine K_iload_n (x := (5 : Int32)) dc_Cp_init_131 (Eq.refl 132) 0 rfl ?_
  refine K_bipush (v := (8 : Int32)) dc_Cp_init_132 (Eq.refl 134) rfl ?_
  refine K_icge_n dc_Cp_init_134 (Eq.refl 137) 156 rfl (by decide) ?_
  refine K_aload_n (a := a) dc_Cp_init_137 (Eq.refl 138) 1 rfl ?_
  refine K_getF (x := 49) (y := 50) (c := 1) (k := 8) dc_Cp_init_138 (Eq.refl 141) gk_Cp_71 (by decide) rfl (List.mem_append_left _ h0) (by simp) ha0 hsh (Or.inl rfl) rfl ?_
  refine K_iload_n (x := (5 : Int32)) dc_Cp_init_141 (Eq.refl 142) 0 rfl ?_
  refine K_new3 (x := 132) (Ls' := [51, 52, 53, 54, 55, 56, 57, 58, 59, 61, 62, 60, 63, 180, 181, 182, 183, 184, 185, 186, 187, 188, 189, 190, 191, 64, 65, 66, 67, 68, 69, 70, 71, 50, 168, 169, 170, 171, 172, 173, 174, 175, 176, 177, 178, 179, 72, 73, 74, 75, 76, 77, 78, 79, 80, 81, 82, 83, 84, 85, 86, 87, 88, 89, 90, 91, 92, 93, 94, 95, 96, 97, 98, 99, 100, 101, 102, 103, 104, 105, 106, 107, 108, 109, 110, 111, 112, 113, 114, 115, 116, 117, 118, 119, 120, 121, 122, 123, 124, 125, 126, 127, 128, 129, 130, 131, 132]) hA dc_Cp_init_142 (Eq.refl 145) nk_Cp_69 df_Tr rfl (hn 132 (by decide)) (by decide) ⟨Nat.le_of_ble_eq_true rfl, Nat.le_of_ble_eq_true rfl⟩ rfl (fun E q hA hq hag => ?_)
  have ha0 := (hag 49 (by decide)).trans ha0
  have hsh := (hag 50 (by decide)).trans hsh
  refine K_dup dc_Cp_init_145 (Eq.refl 146) rfl ?_
  refine K_callN3 (As := []) (Ms := [133, 134, 135, 136, 137, 138, 139, 140, 141, 142, 143]) (Ls' := [51, 52, 53, 54, 55, 56, 57, 58, 59, 61, 62, 60, 63, 180, 181, 182, 183, 184, 185, 186, 187, 188, 189, 190, 191, 64, 65, 66, 67, 68, 69, 70, 71, 50, 168, 169, 170, 171, 172, 173, 174, 175, 176, 177, 178, 179, 72, 73, 74, 75, 76, 77, 78, 79, 80, 81, 82, 83, 84, 85, 86, 87, 88, 89, 90, 91, 92, 93, 94, 95, 96, 97, 98, 99, 100, 101, 102, 103, 104, 105, 106, 107, 108, 109, 110, 111, 112, 113, 114, 115, 116, 117, 118, 119, 120, 121, 122, 123, 124, 125, 126, 127, 128, 129, 130, 131, 132, 133, 134, 135, 136, 137, 138, 139, 140, 141, 142, 143]) hA dc_Cp_init_146 (Eq.refl 149) (List.mem_of_getElem? (i := 6) rfl) mk_Tr rfl (Nat.le_of_ble_eq_true rfl) ⟨Nat.le_of_ble_eq_true rfl, Nat.le_of_ble_eq_true rfl⟩ (ci_Tr_132 (List.mem_append_right _ (by decide)) (fun x hx => nin2 (hn x ((by decide : ∀ x ∈ [133, 134, 135, 136, 137, 138, 139, 140, 141, 142, 143], x ∈ ([51, 52, 53, 54, 55, 56, 57, 58, 59, 61, 62, 60, 63, 180, 181, 182, 183, 184, 185, 186, 187, 188, 189, 190, 191, 64, 65, 66, 67, 68, 69, 70, 71, 50, 168, 169, 170, 171, 172, 173, 174, 175, 176, 177, 178, 179, 72, 73, 74, 75, 76, 77, 78, 79, 80, 81, 82, 83, 84, 85, 86, 87, 88, 89, 90, 91, 92, 93, 94, 95, 96, 97, 98, 99, 100, 101, 102, 103, 104, 105, 106, 107, 108, 109, 110, 111, 112, 113, 114, 115, 116, 117, 118, 119, 120, 121, 122, 123, 124, 125, 126, 127, 128, 129, 130, 131, 132, 133, 134, 135, 136, 137, 138, 139, 140, 141, 142, 143, 144, 145, 146, 147, 148, 149, 150, 151, 152, 153, 154, 155, 156, 157, 158, 159, 160, 161, 162, 163, 164, 165, 166, 167] : List Nat)) x hx)) ((by decide : ∀ x ∈ [133, 134, 135, 136, 137, 138, 139, 140, 141, 142, 143], x ∉ [51, 52, 53, 54, 55, 56, 57, 58, 59, 61, 62, 60, 63, 180, 181, 182, 183, 184, 185, 186, 187, 188, 189, 190, 191, 64, 65, 66, 67, 68, 69, 70, 71, 50, 168, 169, 170, 171, 172, 173, 174, 175, 176, 177, 178, 179, 72, 73, 74, 75, 76, 77, 78, 79, 80, 81, 82, 83, 84, 85, 86, 87, 88, 89, 90, 91, 92, 93, 94, 95, 96, 97, 98, 99, 100, 101, 102, 103, 104, 105, 106, 107, 108, 109, 110, 111, 112, 113, 114, 115, 116, 117, 118, 119, 120, 121, 122, 123, 124, 125, 126, 127, 128, 129, 130, 131, 132]) x hx)) hq) rfl (fun E hA hag => ?_)
  have ha0 := (hag.2 49 (by decide)).trans ha0
  have hq := (hag.2 132 (by decide)).trans hq
  have hsh := (hag.2 50 (by decide)).trans hsh
  refine K_astT (x := 50) (y := 132) dc_Cp_init_149 (Eq.refl 150) rfl rfl (List.mem_append_right _ (by decide)) rfl (List.mem_append_right _ (by decide)) hsh hq (vin (n := 5) (by decide) (by decide)) ?_
  refine K_iinc (v := (6 : Int32)) (L' := [(1, .int (6 : Int32)), (0, .ref a)]) dc_Cp_init_150 (Eq.refl 153) 0 rfl rfl (by decide) rfl ?_
  refine K_goto (tgt := 131) dc_Cp_init_153 rfl ?_
  refine K_iload_n (x := (6 : Int32)) dc_Cp_init_131 (Eq.refl 132) 0 rfl ?_
  refine K_bipush (v := (8 : Int32)) dc_Cp_init_132 (Eq.refl 134) rfl ?_
  refine K_icge_n dc_Cp_init_134 (Eq.refl 137) 156 rfl (by decide) ?_
  refine K_aload_n (a := a) dc_Cp_init_137 (Eq.refl 138) 1 rfl ?_
  refine K_getF (x := 49) (y := 50) (c := 1) (k := 8) dc_Cp_init_138 (Eq.refl 141) gk_Cp_71 (by decide) rfl (List.mem_append_left _ h0) (by simp) ha0 hsh (Or.inl rfl) rfl ?_
  refine K_iload_n (x := (6 : Int32)) dc_Cp_init_141 (Eq.refl 142) 0 rfl ?_
  refine K_new3 (x := 144) (Ls' := [51, 52, 53, 54, 55, 56, 57, 58, 59, 61, 62, 60, 63, 180, 181, 182, 183, 184, 185, 186, 187, 188, 189, 190, 191, 64, 65, 66, 67, 68, 69, 70, 71, 50, 168, 169, 170, 171, 172, 173, 174, 175, 176, 177, 178, 179, 72, 73, 74, 75, 76, 77, 78, 79, 80, 81, 82, 83, 84, 85, 86, 87, 88, 89, 90, 91, 92, 93, 94, 95, 96, 97, 98, 99, 100, 101, 102, 103, 104, 105, 106, 107, 108, 109, 110, 111, 112, 113, 114, 115, 116, 117, 118, 119, 120, 121, 122, 123, 124, 125, 126, 127, 128, 129, 130, 131, 132, 133, 134, 135, 136, 137, 138, 139, 140, 141, 142, 143, 144]) hA dc_Cp_init_142 (Eq.refl 145) nk_Cp_69 df_Tr rfl (hn 144 (by decide)) (by decide) ⟨Nat.le_of_ble_eq_true rfl, Nat.le_of_ble_eq_true rfl⟩ rfl (fun E q hA hq hag => ?_)
  have ha0 := (hag 49 (by decide)).trans ha0
  have hsh := (hag 50 (by decide)).trans hsh
  refine K_dup dc_Cp_init_145 (Eq.refl 146) rfl ?_
  refine K_callN3 (As := []) (Ms := [145, 146, 147, 148, 149, 150, 151, 152, 153, 154, 155]) (Ls' := [51, 52, 53, 54, 55, 56, 57, 58, 59, 61, 62, 60, 63, 180, 181, 182, 183, 184, 185, 186, 187, 188, 189, 190, 191, 64, 65, 66, 67, 68, 69, 70, 71, 50, 168, 169, 170, 171, 172, 173, 174, 175, 176, 177, 178, 179, 72, 73, 74, 75, 76, 77, 78, 79, 80, 81, 82, 83, 84, 85, 86, 87, 88, 89, 90, 91, 92, 93, 94, 95, 96, 97, 98, 99, 100, 101, 102, 103, 104, 105, 106, 107, 108, 109, 110, 111, 112, 113, 114, 115, 116, 117, 118, 119, 120, 121, 122, 123, 124, 125, 126, 127, 128, 129, 130, 131, 132, 133, 134, 135, 136, 137, 138, 139, 140, 141, 142, 143, 144, 145, 146, 147, 148, 149, 150, 151, 152, 153, 154, 155]) hA dc_Cp_init_146 (Eq.refl 149) (List.mem_of_getElem? (i := 6) rfl) mk_Tr rfl (Nat.le_of_ble_eq_true rfl) ⟨Nat.le_of_ble_eq_true rfl, Nat.le_of_ble_eq_true rfl⟩ (ci_Tr_144 (List.mem_append_right _ (by decide)) (fun x hx => nin2 (hn x ((by decide : ∀ x ∈ [145, 146, 147, 148, 149, 150, 151, 152, 153, 154, 155], x ∈ ([51, 52, 53, 54, 55, 56, 57, 58, 59, 61, 62, 60, 63, 180, 181, 182, 183, 184, 185, 186, 187, 188, 189, 190, 191, 64, 65, 66, 67, 68, 69, 70, 71, 50, 168, 169, 170, 171, 172, 173, 174, 175, 176, 177, 178, 179, 72, 73, 74, 75, 76, 77, 78, 79, 80, 81, 82, 83, 84, 85, 86, 87, 88, 89, 90, 91, 92, 93, 94, 95, 96, 97, 98, 99, 100, 101, 102, 103, 104, 105, 106, 107, 108, 109, 110, 111, 112, 113, 114, 115, 116, 117, 118, 119, 120, 121, 122, 123, 124, 125, 126, 127, 128, 129, 130, 131, 132, 133, 134, 135, 136, 137, 138, 139, 140, 141, 142, 143, 144, 145, 146, 147, 148, 149, 150, 151, 152, 153, 154, 155, 156, 157, 158, 159, 160, 161, 162, 163, 164, 165, 166, 167] : List Nat)) x hx)) ((by decide : ∀ x ∈ [145, 146, 147, 148, 149, 150, 151, 152, 153, 154, 155], x ∉ [51, 52, 53, 54, 55, 56, 57, 58, 59, 61, 62, 60, 63, 180, 181, 182, 183, 184, 185, 186, 187, 188, 189, 190, 191, 64, 65, 66, 67, 68, 69, 70, 71, 50, 168, 169, 170, 171, 172, 173, 174, 175, 176, 177, 178, 179, 72, 73, 74, 75, 76, 77, 78, 79, 80, 81, 82, 83, 84, 85, 86, 87, 88, 89, 90, 91, 92, 93, 94, 95, 96, 97, 98, 99, 100, 101, 102, 103, 104, 105, 106, 107, 108, 109, 110, 111, 112, 113, 114, 115, 116, 117, 118, 119, 120, 121, 122, 123, 124, 125, 126, 127, 128, 129, 130, 131, 132, 133, 134, 135, 136, 137, 138, 139, 140, 141, 142, 143, 144]) x hx)) hq) rfl (fun E hA hag => ?_)
  have ha0 := (hag.2 49 (by decide)).trans ha0
  have hq := (hag.2 144 (by decide)).trans hq
  have hsh := (hag.2 50 (by decide)).trans hsh
  refine K_astT (x := 50) (y := 144) dc_Cp_init_149 (Eq.refl 150) rfl rfl (List.mem_append_right _ (by decide)) rfl (List.mem_append_right _ (by decide)) hsh hq (vin (n := 6) (by decide) (by decide)) ?_
  refine K_iinc (v := (7 : Int32)) (L' := [(1, .int (7 : Int32)), (0, .ref a)]) dc_Cp_init_150 (Eq.refl 153) 0 rfl rfl (by decide) rfl ?_
  refine K_goto (tgt := 131) dc_Cp_init_153 rfl ?_
  refine K_iload_n (x := (7 : Int32)) dc_Cp_init_131 (Eq.refl 132) 0 rfl ?_
  refine K_bipush (v := (8 : Int32)) dc_Cp_init_132 (Eq.refl 134) rfl ?_
  refine K_icge_n dc_Cp_init_134 (Eq.refl 137) 156 rfl (by decide) ?_
  refine K_aload_n (a := a) dc_Cp_init_137 (Eq.refl 138) 1 rfl ?_
  refine K_getF (x := 49) (y := 50) (c := 1) (k := 8) dc_Cp_init_138 (Eq.refl 141) gk_Cp_71 (by decide) rfl (List.mem_append_left _ h0) (by simp) ha0 hsh (Or.inl rfl) rfl ?_
  refine K_iload_n (x := (7 : Int32)) dc_Cp_init_141 (Eq.refl 142) 0 rfl ?_
  refine K_new3 (x := 156) (Ls' := [51, 52, 53, 54, 55, 56, 57, 58, 59, 61, 62, 60, 63, 180, 181, 182, 183, 184, 185, 186, 187, 188, 189, 190, 191, 64, 65, 66, 67, 68, 69, 70, 71, 50, 168, 169, 170, 171, 172, 173, 174, 175, 176, 177, 178, 179, 72, 73, 74, 75, 76, 77, 78, 79, 80, 81, 82, 83, 84, 85, 86, 87, 88, 89, 90, 91, 92, 93, 94, 95, 96, 97, 98, 99, 100, 101, 102, 103, 104, 105, 106, 107, 108, 109, 110, 111, 112, 113, 114, 115, 116, 117, 118, 119, 120, 121, 122, 123, 124, 125, 126, 127, 128, 129, 130, 131, 132, 133, 134, 135, 136, 137, 138, 139, 140, 141, 142, 143, 144, 145, 146, 147, 148, 149, 150, 151, 152, 153, 154, 155, 156]) hA dc_Cp_init_142 (Eq.refl 145) nk_Cp_69 df_Tr rfl (hn 156 (by decide)) (by decide) ⟨Nat.le_of_ble_eq_true rfl, Nat.le_of_ble_eq_true rfl⟩ rfl (fun E q hA hq hag => ?_)
  have ha0 := (hag 49 (by decide)).trans ha0
  have hsh := (hag 50 (by decide)).trans hsh
  refine K_dup dc_Cp_init_145 (Eq.refl 146) rfl ?_
  refine K_callN3 (As := []) (Ms := [157, 158, 159, 160, 161, 162, 163, 164, 165, 166, 167]) (Ls' := [51, 52, 53, 54, 55, 56, 57, 58, 59, 61, 62, 60, 63, 180, 181, 182, 183, 184, 185, 186, 187, 188, 189, 190, 191, 64, 65, 66, 67, 68, 69, 70, 71, 50, 168, 169, 170, 171, 172, 173, 174, 175, 176, 177, 178, 179, 72, 73, 74, 75, 76, 77, 78, 79, 80, 81, 82, 83, 84, 85, 86, 87, 88, 89, 90, 91, 92, 93, 94, 95, 96, 97, 98, 99, 100, 101, 102, 103, 104, 105, 106, 107, 108, 109, 110, 111, 112, 113, 114, 115, 116, 117, 118, 119, 120, 121, 122, 123, 124, 125, 126, 127, 128, 129, 130, 131, 132, 133, 134, 135, 136, 137, 138, 139, 140, 141, 142, 143, 144, 145, 146, 147, 148, 149, 150, 151, 152, 153, 154, 155, 156, 157, 158, 159, 160, 161, 162, 163, 164, 165, 166, 167]) hA dc_Cp_init_146 (Eq.refl 149) (List.mem_of_getElem? (i := 6) rfl) mk_Tr rfl (Nat.le_of_ble_eq_true rfl) ⟨Nat.le_of_ble_eq_true rfl, Nat.le_of_ble_eq_true rfl⟩ (ci_Tr_156 (List.mem_append_right _ (by decide)) (fun x hx => nin2 (hn x ((by decide : ∀ x ∈ [157, 158, 159, 160, 161, 162, 163, 164, 165, 166, 167], x ∈ ([51, 52, 53, 54, 55, 56, 57, 58, 59, 61, 62, 60, 63, 180, 181, 182, 183, 184, 185, 186, 187, 188, 189, 190, 191, 64, 65, 66, 67, 68, 69, 70, 71, 50, 168, 169, 170, 171, 172, 173, 174, 175, 176, 177, 178, 179, 72, 73, 74, 75, 76, 77, 78, 79, 80, 81, 82, 83, 84, 85, 86, 87, 88, 89, 90, 91, 92, 93, 94, 95, 96, 97, 98, 99, 100, 101, 102, 103, 104, 105, 106, 107, 108, 109, 110, 111, 112, 113, 114, 115, 116, 117, 118, 119, 120, 121, 122, 123, 124, 125, 126, 127, 128, 129, 130, 131, 132, 133, 134, 135, 136, 137, 138, 139, 140, 141, 142, 143, 144, 145, 146, 147, 148, 149, 150, 151, 152, 153, 154, 155, 156, 157, 158, 159, 160, 161, 162, 163, 164, 165, 166, 167] : List Nat)) x hx)) ((by decide : ∀ x ∈ [157, 158, 159, 160, 161, 162, 163, 164, 165, 166, 167], x ∉ [51, 52, 53, 54, 55, 56, 57, 58, 59, 61, 62, 60, 63, 180, 181, 182, 183, 184, 185, 186, 187, 188, 189, 190, 191, 64, 65, 66, 67, 68, 69, 70, 71, 50, 168, 169, 170, 171, 172, 173, 174, 175, 176, 177, 178, 179, 72, 73, 74, 75, 76, 77, 78, 79, 80, 81, 82, 83, 84, 85, 86, 87, 88, 89, 90, 91, 92, 93, 94, 95, 96, 97, 98, 99, 100, 101, 102, 103, 104, 105, 106, 107, 108, 109, 110, 111, 112, 113, 114, 115, 116, 117, 118, 119, 120, 121, 122, 123, 124, 125, 126, 127, 128, 129, 130, 131, 132, 133, 134, 135, 136, 137, 138, 139, 140, 141, 142, 143, 144, 145, 146, 147, 148, 149, 150, 151, 152, 153, 154, 155, 156]) x hx)) hq) rfl (fun E hA hag => ?_)
  have ha0 := (hag.2 49 (by decide)).trans ha0
  have hq := (hag.2 156 (by decide)).trans hq
  have hsh := (hag.2 50 (by decide)).trans hsh
  refine K_astT (x := 50) (y := 156) dc_Cp_init_149 (Eq.refl 150) rfl rfl (List.mem_append_right _ (by decide)) rfl (List.mem_append_right _ (by decide)) hsh hq (vin (n := 7) (by decide) (by decide)) ?_
  refine K_iinc (v := (8 : Int32)) (L' := [(1, .int (8 : Int32)), (0, .ref a)]) dc_Cp_init_150 (Eq.refl 153) 0 rfl rfl (by decide) rfl ?_
  refine K_goto (tgt := 131) dc_Cp_init_153 rfl ?_
  refine K_iload_n (x := (8 : Int32)) dc_Cp_init_131 (Eq.refl 132) 0 rfl ?_
  refine K_bipush (v := (8 : Int32)) dc_Cp_init_132 (Eq.refl 134) rfl ?_
  refine K_icge_y (tgt := 156) dc_Cp_init_134 rfl (by decide) ?_
  exact K_ret dc_Cp_init_156 rfl rfl rfl ⟨hA, rfl, rfl, rfl⟩

theorem ci_Mo_0 {E : En_t} {S : Sb} {P : List Nat} {σ : S_t} {d a  : Nat} (h0 : 0 ∈ P) (hn : ∀ x ∈ ([1, 2, 3, 4, 5, 6, 7, 8, 9, 10, 11, 12, 13, 14, 15, 16, 17, 18, 19, 20, 21, 22, 23, 24, 25, 26, 27, 28, 29, 30, 31, 32, 33, 34, 35, 36, 37, 38, 39, 40, 41, 42, 43, 44, 45, 46, 47, 48] : List Nat), x ∉ P) (ha0 : ro E 0 = a)  : CK E S P σ (d + 1) 48 246732 m_Mo_init [.ref a] (fun u => Ag E u.1 [1, 2, 3, 4, 5, 6, 7, 8, 9, 10, 11, 12, 13, 14, 15, 16, 17, 18, 19, 20, 21, 22, 23, 24, 25, 26, 27, 28, 29, 30, 31, 32, 33, 34, 35, 36, 37, 38, 39, 40, 41, 42, 43, 44, 45, 46, 47, 48] ∧ u.2.1 = (0, 66) :: (0, 65) :: (0, 64) :: (0, 63) :: (0, 61) :: (0, 60) :: (0, 59) :: (0, 58) :: (0, 57) :: (0, 55) :: (0, 54) :: (0, 53) :: (0, 52) :: (0, 51) :: (0, 50) :: (0, 49) :: (0, 48) :: (0, 47) :: (0, 46) :: (0, 45) :: (0, 40) :: (0, 38) :: (0, 37) :: (0, 36) :: (0, 35) :: (0, 34) :: (0, 33) :: (0, 32) :: (0, 31) :: (0, 30) :: (0, 29) :: (0, 28) :: (0, 27) :: (0, 26) :: (0, 25) :: (0, 24) :: (0, 23) :: (0, 22) :: (0, 21) :: (0, 20) :: (0, 19) :: (0, 17) :: (0, 12) :: (0, 11) :: (0, 8) :: (0, 5) :: (0, 2) :: (0, 0) :: S ∧ u.2.2.1 = P ++ [1, 2, 3, 4, 5, 6, 7, 8, 9, 10, 11, 12, 13, 14, 15, 16, 17, 18, 19, 20, 21, 22, 23, 24, 25, 26, 27, 28, 29, 30, 31, 32, 33, 34, 35, 36, 37, 38, 39, 40, 41, 42, 43, 44, 45, 46, 47, 48] ∧ u.2.2.2 = sI (sI (sI (sI (sI (sI (sI (sI (sI (sI (sI (sI (sI (sI σ 0 42 (-1 : Int32)) 40 0 (110 : Int32)) 40 1 (117 : Int32)) 40 2 (108 : Int32)) 40 3 (108 : Int32)) 40 4 (102 : Int32)) 40 5 (97 : Int32)) 40 6 (108 : Int32)) 40 7 (115 : Int32)) 40 8 (101 : Int32)) 40 9 (116 : Int32)) 40 10 (114 : Int32)) 40 11 (117 : Int32)) 40 12 (101 : Int32)) := by
  refine CK.of (L := [(0, .ref a)]) rfl rfl (Nat.le_of_ble_eq_true rfl) rfl ?_
  have hA : Ag E E [] := Ag.rf
  refine JK_P (List.append_nil P) ?_
  refine K_aload_n (a := a) dc_Mo_init_0 (Eq.refl 1) 0 rfl ?_
  refine K_objInit dc_Mo_init_1 (Eq.refl 4) oi_Mo wOi wOc ⟨by show 1 ≤ d + 1; omega, by show 20 ≤ 64 * (d + 1); omega⟩ ?_
  refine K_aload_n (a := a) dc_Mo_init_4 (Eq.refl 5) 0 rfl ?_
  refine K_sipush (v := (2000 : Int32)) dc_Mo_init_5 (Eq.refl 8) rfl ?_
  refine K_arrI (x0 := 0) (x := 1) (c := 0) (k := 0) (Ls' := [1]) hA dc_Mo_init_8 (Eq.refl 10) dc_Mo_init_10 (Eq.refl 13) wI rfl rfl (hn 1 (by decide)) (by decide) (by decide) rfl (by decide) ⟨Nat.le_of_ble_eq_true rfl, Nat.le_of_ble_eq_true rfl⟩ qk_Mo_7 (by decide) rfl (List.mem_append_left _ h0) ha0 rfl rfl rfl (fun E hA ha0 => ?_)
  refine K_aload_n (a := a) dc_Mo_init_13 (Eq.refl 14) 0 rfl ?_
  refine K_sipush (v := (12000 : Int32)) dc_Mo_init_14 (Eq.refl 17) rfl ?_
  refine K_arrI (x0 := 0) (x := 2) (c := 0) (k := 2) (Ls' := [1, 2]) hA dc_Mo_init_17 (Eq.refl 19) dc_Mo_init_19 (Eq.refl 22) wI rfl rfl (hn 2 (by decide)) (by decide) (by decide) rfl (by decide) ⟨Nat.le_of_ble_eq_true rfl, Nat.le_of_ble_eq_true rfl⟩ qk_Mo_13 (by decide) rfl (List.mem_append_left _ h0) ha0 rfl rfl rfl (fun E hA ha0 => ?_)
  refine K_aload_n (a := a) dc_Mo_init_22 (Eq.refl 23) 0 rfl ?_
  refine K_sipush (v := (6000 : Int32)) dc_Mo_init_23 (Eq.refl 26) rfl ?_
  refine K_arrI (x0 := 0) (x := 3) (c := 0) (k := 5) (Ls' := [1, 2, 3]) hA dc_Mo_init_26 (Eq.refl 28) dc_Mo_init_28 (Eq.refl 31) wI rfl rfl (hn 3 (by decide)) (by decide) (by decide) rfl (by decide) ⟨Nat.le_of_ble_eq_true rfl, Nat.le_of_ble_eq_true rfl⟩ qk_Mo_16 (by decide) rfl (List.mem_append_left _ h0) ha0 rfl rfl rfl (fun E hA ha0 => ?_)
  refine K_aload_n (a := a) dc_Mo_init_31 (Eq.refl 32) 0 rfl ?_
  refine K_bipush (v := (12 : Int32)) dc_Mo_init_32 (Eq.refl 34) rfl ?_
  refine K_arrI (x0 := 0) (x := 4) (c := 0) (k := 8) (Ls' := [1, 2, 3, 4]) hA dc_Mo_init_34 (Eq.refl 36) dc_Mo_init_36 (Eq.refl 39) wI rfl rfl (hn 4 (by decide)) (by decide) (by decide) rfl (by decide) ⟨Nat.le_of_ble_eq_true rfl, Nat.le_of_ble_eq_true rfl⟩ qk_Mo_19 (by decide) rfl (List.mem_append_left _ h0) ha0 rfl rfl rfl (fun E hA ha0 => ?_)
  refine K_aload_n (a := a) dc_Mo_init_39 (Eq.refl 40) 0 rfl ?_
  refine K_sipush (v := (1200 : Int32)) dc_Mo_init_40 (Eq.refl 43) rfl ?_
  refine K_arrI (x0 := 0) (x := 5) (c := 0) (k := 11) (Ls' := [1, 2, 3, 4, 5]) hA dc_Mo_init_43 (Eq.refl 45) dc_Mo_init_45 (Eq.refl 48) wI rfl rfl (hn 5 (by decide)) (by decide) (by decide) rfl (by decide) ⟨Nat.le_of_ble_eq_true rfl, Nat.le_of_ble_eq_true rfl⟩ qk_Mo_22 (by decide) rfl (List.mem_append_left _ h0) ha0 rfl rfl rfl (fun E hA ha0 => ?_)
  refine K_aload_n (a := a) dc_Mo_init_48 (Eq.refl 49) 0 rfl ?_
  refine K_bipush (v := (20 : Int32)) dc_Mo_init_49 (Eq.refl 51) rfl ?_
  refine K_arrI (x0 := 0) (x := 6) (c := 0) (k := 12) (Ls' := [1, 2, 3, 4, 5, 6]) hA dc_Mo_init_51 (Eq.refl 53) dc_Mo_init_53 (Eq.refl 56) wI rfl rfl (hn 6 (by decide)) (by decide) (by decide) rfl (by decide) ⟨Nat.le_of_ble_eq_true rfl, Nat.le_of_ble_eq_true rfl⟩ qk_Mo_25 (by decide) rfl (List.mem_append_left _ h0) ha0 rfl rfl rfl (fun E hA ha0 => ?_)
  refine K_aload_n (a := a) dc_Mo_init_56 (Eq.refl 57) 0 rfl ?_
  refine K_bipush (v := (40 : Int32)) dc_Mo_init_57 (Eq.refl 59) rfl ?_
  refine K_arrI (x0 := 0) (x := 7) (c := 0) (k := 17) (Ls' := [1, 2, 3, 4, 5, 6, 7]) hA dc_Mo_init_59 (Eq.refl 61) dc_Mo_init_61 (Eq.refl 64) wI rfl rfl (hn 7 (by decide)) (by decide) (by decide) rfl (by decide) ⟨Nat.le_of_ble_eq_true rfl, Nat.le_of_ble_eq_true rfl⟩ qk_Mo_28 (by decide) rfl (List.mem_append_left _ h0) ha0 rfl rfl rfl (fun E hA ha0 => ?_)
  refine K_aload_n (a := a) dc_Mo_init_64 (Eq.refl 65) 0 rfl ?_
  refine K_bipush (v := (9 : Int32)) dc_Mo_init_65 (Eq.refl 67) rfl ?_
  refine K_arrZ (x0 := 0) (x := 8) (c := 0) (k := 19) (Ls' := [1, 2, 3, 4, 5, 6, 7, 8]) hA dc_Mo_init_67 (Eq.refl 69) dc_Mo_init_69 (Eq.refl 72) wZ rfl rfl (hn 8 (by decide)) (by decide) (by decide) rfl (by decide) ⟨Nat.le_of_ble_eq_true rfl, Nat.le_of_ble_eq_true rfl⟩ qk_Mo_31 (by decide) rfl (List.mem_append_left _ h0) ha0 rfl rfl rfl (fun E hA ha0 => ?_)
  refine K_aload_n (a := a) dc_Mo_init_72 (Eq.refl 73) 0 rfl ?_
  refine K_bipush (v := (9 : Int32)) dc_Mo_init_73 (Eq.refl 75) rfl ?_
  refine K_arrI (x0 := 0) (x := 9) (c := 0) (k := 20) (Ls' := [1, 2, 3, 4, 5, 6, 7, 8, 9]) hA dc_Mo_init_75 (Eq.refl 77) dc_Mo_init_77 (Eq.refl 80) wI rfl rfl (hn 9 (by decide)) (by decide) (by decide) rfl (by decide) ⟨Nat.le_of_ble_eq_true rfl, Nat.le_of_ble_eq_true rfl⟩ qk_Mo_35 (by decide) rfl (List.mem_append_left _ h0) ha0 rfl rfl rfl (fun E hA ha0 => ?_)
  refine K_aload_n (a := a) dc_Mo_init_80 (Eq.refl 81) 0 rfl ?_
  refine K_bipush (v := (9 : Int32)) dc_Mo_init_81 (Eq.refl 83) rfl ?_
  refine K_arrI (x0 := 0) (x := 10) (c := 0) (k := 21) (Ls' := [1, 2, 3, 4, 5, 6, 7, 8, 9, 10]) hA dc_Mo_init_83 (Eq.refl 85) dc_Mo_init_85 (Eq.refl 88) wI rfl rfl (hn 10 (by decide)) (by decide) (by decide) rfl (by decide) ⟨Nat.le_of_ble_eq_true rfl, Nat.le_of_ble_eq_true rfl⟩ qk_Mo_38 (by decide) rfl (List.mem_append_left _ h0) ha0 rfl rfl rfl (fun E hA ha0 => ?_)
  refine K_aload_n (a := a) dc_Mo_init_88 (Eq.refl 89) 0 rfl ?_
  refine K_bipush (v := (9 : Int32)) dc_Mo_init_89 (Eq.refl 91) rfl ?_
  refine K_arrI (x0 := 0) (x := 11) (c := 0) (k := 22) (Ls' := [1, 2, 3, 4, 5, 6, 7, 8, 9, 10, 11]) hA dc_Mo_init_91 (Eq.refl 93) dc_Mo_init_93 (Eq.refl 96) wI rfl rfl (hn 11 (by decide)) (by decide) (by decide) rfl (by decide) ⟨Nat.le_of_ble_eq_true rfl, Nat.le_of_ble_eq_true rfl⟩ qk_Mo_41 (by decide) rfl (List.mem_append_left _ h0) ha0 rfl rfl rfl (fun E hA ha0 => ?_)
  refine K_aload_n (a := a) dc_Mo_init_96 (Eq.refl 97) 0 rfl ?_
  refine K_bipush (v := (9 : Int32)) dc_Mo_init_97 (Eq.refl 99) rfl ?_
  refine K_arrI (x0 := 0) (x := 12) (c := 0) (k := 23) (Ls' := [1, 2, 3, 4, 5, 6, 7, 8, 9, 10, 11, 12]) hA dc_Mo_init_99 (Eq.refl 101) dc_Mo_init_101 (Eq.refl 104) wI rfl rfl (hn 12 (by decide)) (by decide) (by decide) rfl (by decide) ⟨Nat.le_of_ble_eq_true rfl, Nat.le_of_ble_eq_true rfl⟩ qk_Mo_44 (by decide) rfl (List.mem_append_left _ h0) ha0 rfl rfl rfl (fun E hA ha0 => ?_)
  refine K_aload_n (a := a) dc_Mo_init_104 (Eq.refl 105) 0 rfl ?_
  refine K_sipush (v := (4500 : Int32)) dc_Mo_init_105 (Eq.refl 108) rfl ?_
  refine K_arrI (x0 := 0) (x := 13) (c := 0) (k := 24) (Ls' := [1, 2, 3, 4, 5, 6, 7, 8, 9, 10, 11, 12, 13]) hA dc_Mo_init_108 (Eq.refl 110) dc_Mo_init_110 (Eq.refl 113) wI rfl rfl (hn 13 (by decide)) (by decide) (by decide) rfl (by decide) ⟨Nat.le_of_ble_eq_true rfl, Nat.le_of_ble_eq_true rfl⟩ qk_Mo_47 (by decide) rfl (List.mem_append_left _ h0) ha0 rfl rfl rfl (fun E hA ha0 => ?_)
  refine K_aload_n (a := a) dc_Mo_init_113 (Eq.refl 114) 0 rfl ?_
  refine K_sipush (v := (4500 : Int32)) dc_Mo_init_114 (Eq.refl 117) rfl ?_
  refine K_arrI (x0 := 0) (x := 14) (c := 0) (k := 25) (Ls' := [1, 2, 3, 4, 5, 6, 7, 8, 9, 10, 11, 12, 13, 14]) hA dc_Mo_init_117 (Eq.refl 119) dc_Mo_init_119 (Eq.refl 122) wI rfl rfl (hn 14 (by decide)) (by decide) (by decide) rfl (by decide) ⟨Nat.le_of_ble_eq_true rfl, Nat.le_of_ble_eq_true rfl⟩ qk_Mo_50 (by decide) rfl (List.mem_append_left _ h0) ha0 rfl rfl rfl (fun E hA ha0 => ?_)
  refine K_aload_n (a := a) dc_Mo_init_122 (Eq.refl 123) 0 rfl ?_
  refine K_sipush (v := (4500 : Int32)) dc_Mo_init_123 (Eq.refl 126) rfl ?_
  refine K_arrI (x0 := 0) (x := 15) (c := 0) (k := 26) (Ls' := [1, 2, 3, 4, 5, 6, 7, 8, 9, 10, 11, 12, 13, 14, 15]) hA dc_Mo_init_126 (Eq.refl 128) dc_Mo_init_128 (Eq.refl 131) wI rfl rfl (hn 15 (by decide)) (by decide) (by decide) rfl (by decide) ⟨Nat.le_of_ble_eq_true rfl, Nat.le_of_ble_eq_true rfl⟩ qk_Mo_53 (by decide) rfl (List.mem_append_left _ h0) ha0 rfl rfl rfl (fun E hA ha0 => ?_)
  refine K_aload_n (a := a) dc_Mo_init_131 (Eq.refl 132) 0 rfl ?_
  refine K_sipush (v := (4500 : Int32)) dc_Mo_init_132 (Eq.refl 135) rfl ?_
  refine K_arrI (x0 := 0) (x := 16) (c := 0) (k := 27) (Ls' := [1, 2, 3, 4, 5, 6, 7, 8, 9, 10, 11, 12, 13, 14, 15, 16]) hA dc_Mo_init_135 (Eq.refl 137) dc_Mo_init_137 (Eq.refl 140) wI rfl rfl (hn 16 (by decide)) (by decide) (by decide) rfl (by decide) ⟨Nat.le_of_ble_eq_true rfl, Nat.le_of_ble_eq_true rfl⟩ qk_Mo_56 (by decide) rfl (List.mem_append_left _ h0) ha0 rfl rfl rfl (fun E hA ha0 => ?_)
  refine K_aload_n (a := a) dc_Mo_init_140 (Eq.refl 141) 0 rfl ?_
  refine K_sipush (v := (4500 : Int32)) dc_Mo_init_141 (Eq.refl 144) rfl ?_
  refine K_arrI (x0 := 0) (x := 17) (c := 0) (k := 28) (Ls' := [1, 2, 3, 4, 5, 6, 7, 8, 9, 10, 11, 12, 13, 14, 15, 16, 17]) hA dc_Mo_init_144 (Eq.refl 146) dc_Mo_init_146 (Eq.refl 149) wI rfl rfl (hn 17 (by decide)) (by decide) (by decide) rfl (by decide) ⟨Nat.le_of_ble_eq_true rfl, Nat.le_of_ble_eq_true rfl⟩ qk_Mo_59 (by decide) rfl (List.mem_append_left _ h0) ha0 rfl rfl rfl (fun E hA ha0 => ?_)
  refine K_aload_n (a := a) dc_Mo_init_149 (Eq.refl 150) 0 rfl ?_
  refine K_sipush (v := (4500 : Int32)) dc_Mo_init_150 (Eq.refl 153) rfl ?_
  refine K_arrI (x0 := 0) (x := 18) (c := 0) (k := 29) (Ls' := [1, 2, 3, 4, 5, 6, 7, 8, 9, 10, 11, 12, 13, 14, 15, 16, 17, 18]) hA dc_Mo_init_153 (Eq.refl 155) dc_Mo_init_155 (Eq.refl 158) wI rfl rfl (hn 18 (by decide)) (by decide) (by decide) rfl (by decide) ⟨Nat.le_of_ble_eq_true rfl, Nat.le_of_ble_eq_true rfl⟩ qk_Mo_62 (by decide) rfl (List.mem_append_left _ h0) ha0 rfl rfl rfl (fun E hA ha0 => ?_)
  refine K_aload_n (a := a) dc_Mo_init_158 (Eq.refl 159) 0 rfl ?_
  refine K_sipush (v := (4500 : Int32)) dc_Mo_init_159 (Eq.refl 162) rfl ?_
  refine K_arrI (x0 := 0) (x := 19) (c := 0) (k := 30) (Ls' := [1, 2, 3, 4, 5, 6, 7, 8, 9, 10, 11, 12, 13, 14, 15, 16, 17, 18, 19]) hA dc_Mo_init_162 (Eq.refl 164) dc_Mo_init_164 (Eq.refl 167) wI rfl rfl (hn 19 (by decide)) (by decide) (by decide) rfl (by decide) ⟨Nat.le_of_ble_eq_true rfl, Nat.le_of_ble_eq_true rfl⟩ qk_Mo_65 (by decide) rfl (List.mem_append_left _ h0) ha0 rfl rfl rfl (fun E hA ha0 => ?_)
  refine K_aload_n (a := a) dc_Mo_init_167 (Eq.refl 168) 0 rfl ?_
  refine K_sipush (v := (4500 : Int32)) dc_Mo_init_168 (Eq.refl 171) rfl ?_
  refine K_arrI (x0 := 0) (x := 20) (c := 0) (k := 31) (Ls' := [1, 2, 3, 4, 5, 6, 7, 8, 9, 10, 11, 12, 13, 14, 15, 16, 17, 18, 19, 20]) hA dc_Mo_init_171 (Eq.refl 173) dc_Mo_init_173 (Eq.refl 176) wI rfl rfl (hn 20 (by decide)) (by decide) (by decide) rfl (by decide) ⟨Nat.le_of_ble_eq_true rfl, Nat.le_of_ble_eq_true rfl⟩ qk_Mo_68 (by decide) rfl (List.mem_append_left _ h0) ha0 rfl rfl rfl (fun E hA ha0 => ?_)
  refine K_aload_n (a := a) dc_Mo_init_176 (Eq.refl 177) 0 rfl ?_
  refine K_sipush (v := (4500 : Int32)) dc_Mo_init_177 (Eq.refl 180) rfl ?_
  refine K_arrI (x0 := 0) (x := 21) (c := 0) (k := 32) (Ls' := [1, 2, 3, 4, 5, 6, 7, 8, 9, 10, 11, 12, 13, 14, 15, 16, 17, 18, 19, 20, 21]) hA dc_Mo_init_180 (Eq.refl 182) dc_Mo_init_182 (Eq.refl 185) wI rfl rfl (hn 21 (by decide)) (by decide) (by decide) rfl (by decide) ⟨Nat.le_of_ble_eq_true rfl, Nat.le_of_ble_eq_true rfl⟩ qk_Mo_71 (by decide) rfl (List.mem_append_left _ h0) ha0 rfl rfl rfl (fun E hA ha0 => ?_)
  refine K_aload_n (a := a) dc_Mo_init_185 (Eq.refl 186) 0 rfl ?_
  refine K_sipush (v := (4500 : Int32)) dc_Mo_init_186 (Eq.refl 189) rfl ?_
  refine K_arrI (x0 := 0) (x := 22) (c := 0) (k := 33) (Ls' := [1, 2, 3, 4, 5, 6, 7, 8, 9, 10, 11, 12, 13, 14, 15, 16, 17, 18, 19, 20, 21, 22]) hA dc_Mo_init_189 (Eq.refl 191) dc_Mo_init_191 (Eq.refl 194) wI rfl rfl (hn 22 (by decide)) (by decide) (by decide) rfl (by decide) ⟨Nat.le_of_ble_eq_true rfl, Nat.le_of_ble_eq_true rfl⟩ qk_Mo_74 (by decide) rfl (List.mem_append_left _ h0) ha0 rfl rfl rfl (fun E hA ha0 => ?_)
  refine K_aload_n (a := a) dc_Mo_init_194 (Eq.refl 195) 0 rfl ?_
  refine K_sipush (v := (4500 : Int32)) dc_Mo_init_195 (Eq.refl 198) rfl ?_
  refine K_arrI (x0 := 0) (x := 23) (c := 0) (k := 34) (Ls' := [1, 2, 3, 4, 5, 6, 7, 8, 9, 10, 11, 12, 13, 14, 15, 16, 17, 18, 19, 20, 21, 22, 23]) hA dc_Mo_init_198 (Eq.refl 200) dc_Mo_init_200 (Eq.refl 203) wI rfl rfl (hn 23 (by decide)) (by decide) (by decide) rfl (by decide) ⟨Nat.le_of_ble_eq_true rfl, Nat.le_of_ble_eq_true rfl⟩ qk_Mo_77 (by decide) rfl (List.mem_append_left _ h0) ha0 rfl rfl rfl (fun E hA ha0 => ?_)
  refine K_aload_n (a := a) dc_Mo_init_203 (Eq.refl 204) 0 rfl ?_
  refine K_sipush (v := (4500 : Int32)) dc_Mo_init_204 (Eq.refl 207) rfl ?_
  refine K_arrI (x0 := 0) (x := 24) (c := 0) (k := 35) (Ls' := [1, 2, 3, 4, 5, 6, 7, 8, 9, 10, 11, 12, 13, 14, 15, 16, 17, 18, 19, 20, 21, 22, 23, 24]) hA dc_Mo_init_207 (Eq.refl 209) dc_Mo_init_209 (Eq.refl 212) wI rfl rfl (hn 24 (by decide)) (by decide) (by decide) rfl (by decide) ⟨Nat.le_of_ble_eq_true rfl, Nat.le_of_ble_eq_true rfl⟩ qk_Mo_80 (by decide) rfl (List.mem_append_left _ h0) ha0 rfl rfl rfl (fun E hA ha0 => ?_)
  refine K_aload_n (a := a) dc_Mo_init_212 (Eq.refl 213) 0 rfl ?_
  refine K_sipush (v := (4500 : Int32)) dc_Mo_init_213 (Eq.refl 216) rfl ?_
  refine K_arrJ (x0 := 0) (x := 25) (c := 0) (k := 36) (Ls' := [1, 2, 3, 4, 5, 6, 7, 8, 9, 10, 11, 12, 13, 14, 15, 16, 17, 18, 19, 20, 21, 22, 23, 24, 25]) hA dc_Mo_init_216 (Eq.refl 218) dc_Mo_init_218 (Eq.refl 221) wJ rfl rfl (hn 25 (by decide)) (by decide) (by decide) rfl (by decide) ⟨Nat.le_of_ble_eq_true rfl, Nat.le_of_ble_eq_true rfl⟩ qk_Mo_83 (by decide) rfl (List.mem_append_left _ h0) ha0 rfl rfl rfl (fun E hA ha0 => ?_)
  refine K_aload_n (a := a) dc_Mo_init_221 (Eq.refl 222) 0 rfl ?_
  refine K_ldc dc_Mo_init_222 (Eq.refl 224) kk_Mo_87 ?_
  refine K_arrI (x0 := 0) (x := 26) (c := 0) (k := 37) (Ls' := [1, 2, 3, 4, 5, 6, 7, 8, 9, 10, 11, 12, 13, 14, 15, 16, 17, 18, 19, 20, 21, 22, 23, 24, 25, 26]) hA dc_Mo_init_224 (Eq.refl 226) dc_Mo_init_226 (Eq.refl 229) wI rfl rfl (hn 26 (by decide)) (by decide) (by decide) rfl (by decide) ⟨Nat.le_of_ble_eq_true rfl, Nat.le_of_ble_eq_true rfl⟩ qk_Mo_88 (by decide) rfl (List.mem_append_left _ h0) ha0 rfl rfl rfl (fun E hA ha0 => ?_)
  refine K_aload_n (a := a) dc_Mo_init_229 (Eq.refl 230) 0 rfl ?_
  refine K_ldc dc_Mo_init_230 (Eq.refl 232) kk_Mo_91 ?_
  refine K_arrI (x0 := 0) (x := 27) (c := 0) (k := 38) (Ls' := [1, 2, 3, 4, 5, 6, 7, 8, 9, 10, 11, 12, 13, 14, 15, 16, 17, 18, 19, 20, 21, 22, 23, 24, 25, 26, 27]) hA dc_Mo_init_232 (Eq.refl 234) dc_Mo_init_234 (Eq.refl 237) wI rfl rfl (hn 27 (by decide)) (by decide) (by decide) rfl (by decide) ⟨Nat.le_of_ble_eq_true rfl, Nat.le_of_ble_eq_true rfl⟩ qk_Mo_92 (by decide) rfl (List.mem_append_left _ h0) ha0 rfl rfl rfl (fun E hA ha0 => ?_)
  refine K_aload_n (a := a) dc_Mo_init_237 (Eq.refl 238) 0 rfl ?_
  refine K_bipush (v := (40 : Int32)) dc_Mo_init_238 (Eq.refl 240) rfl ?_
  refine K_arrI (x0 := 0) (x := 28) (c := 0) (k := 40) (Ls' := [1, 2, 3, 4, 5, 6, 7, 8, 9, 10, 11, 12, 13, 14, 15, 16, 17, 18, 19, 20, 21, 22, 23, 24, 25, 26, 27, 28]) hA dc_Mo_init_240 (Eq.refl 242) dc_Mo_init_242 (Eq.refl 245) wI rfl rfl (hn 28 (by decide)) (by decide) (by decide) rfl (by decide) ⟨Nat.le_of_ble_eq_true rfl, Nat.le_of_ble_eq_true rfl⟩ qk_Mo_95 (by decide) rfl (List.mem_append_left _ h0) ha0 rfl rfl rfl (fun E hA ha0 => ?_)
  refine K_aload_n (a := a) dc_Mo_init_245 (Eq.refl 246) 0 rfl ?_
  refine K_iconst (v := (-1 : Int32)) dc_Mo_init_246 (Eq.refl 247) rfl ?_
  refine K_putI (x := 0) (c := 0) (k := 42) dc_Mo_init_247 (Eq.refl 250) pk_Mo_98 (by decide) rfl (List.mem_append_left _ h0) ha0 rfl ?_
  refine K_aload_n (a := a) dc_Mo_init_250 (Eq.refl 251) 0 rfl ?_
  refine K_sipush (v := (500 : Int32)) dc_Mo_init_251 (Eq.refl 254) rfl ?_
  refine K_arrI (x0 := 0) (x := 29) (c := 0) (k := 45) (Ls' := [1, 2, 3, 4, 5, 6, 7, 8, 9, 10, 11, 12, 13, 14, 15, 16, 17, 18, 19, 20, 21, 22, 23, 24, 25, 26, 27, 28, 29]) hA dc_Mo_init_254 (Eq.refl 256) dc_Mo_init_256 (Eq.refl 259) wI rfl rfl (hn 29 (by decide)) (by decide) (by decide) rfl (by decide) ⟨Nat.le_of_ble_eq_true rfl, Nat.le_of_ble_eq_true rfl⟩ qk_Mo_102 (by decide) rfl (List.mem_append_left _ h0) ha0 rfl rfl rfl (fun E hA ha0 => ?_)
  refine K_aload_n (a := a) dc_Mo_init_259 (Eq.refl 260) 0 rfl ?_
  refine K_sipush (v := (500 : Int32)) dc_Mo_init_260 (Eq.refl 263) rfl ?_
  refine K_arrI (x0 := 0) (x := 30) (c := 0) (k := 46) (Ls' := [1, 2, 3, 4, 5, 6, 7, 8, 9, 10, 11, 12, 13, 14, 15, 16, 17, 18, 19, 20, 21, 22, 23, 24, 25, 26, 27, 28, 29, 30]) hA dc_Mo_init_263 (Eq.refl 265) dc_Mo_init_265 (Eq.refl 268) wI rfl rfl (hn 30 (by decide)) (by decide) (by decide) rfl (by decide) ⟨Nat.le_of_ble_eq_true rfl, Nat.le_of_ble_eq_true rfl⟩ qk_Mo_105 (by decide) rfl (List.mem_append_left _ h0) ha0 rfl rfl rfl (fun E hA ha0 => ?_)
  refine K_aload_n (a := a) dc_Mo_init_268 (Eq.refl 269) 0 rfl ?_
  refine K_sipush (v := (500 : Int32)) dc_Mo_init_269 (Eq.refl 272) rfl ?_
  refine K_arrI (x0 := 0) (x := 31) (c := 0) (k := 47) (Ls' := [1, 2, 3, 4, 5, 6, 7, 8, 9, 10, 11, 12, 13, 14, 15, 16, 17, 18, 19, 20, 21, 22, 23, 24, 25, 26, 27, 28, 29, 30, 31]) hA dc_Mo_init_272 (Eq.refl 274) dc_Mo_init_274 (Eq.refl 277) wI rfl rfl (hn 31 (by decide)) (by decide) (by decide) rfl (by decide) ⟨Nat.le_of_ble_eq_true rfl, Nat.le_of_ble_eq_true rfl⟩ qk_Mo_108 (by decide) rfl (List.mem_append_left _ h0) ha0 rfl rfl rfl (fun E hA ha0 => ?_)
  refine K_aload_n (a := a) dc_Mo_init_277 (Eq.refl 278) 0 rfl ?_
  refine K_sipush (v := (500 : Int32)) dc_Mo_init_278 (Eq.refl 281) rfl ?_
  refine K_arrI (x0 := 0) (x := 32) (c := 0) (k := 48) (Ls' := [1, 2, 3, 4, 5, 6, 7, 8, 9, 10, 11, 12, 13, 14, 15, 16, 17, 18, 19, 20, 21, 22, 23, 24, 25, 26, 27, 28, 29, 30, 31, 32]) hA dc_Mo_init_281 (Eq.refl 283) dc_Mo_init_283 (Eq.refl 286) wI rfl rfl (hn 32 (by decide)) (by decide) (by decide) rfl (by decide) ⟨Nat.le_of_ble_eq_true rfl, Nat.le_of_ble_eq_true rfl⟩ qk_Mo_111 (by decide) rfl (List.mem_append_left _ h0) ha0 rfl rfl rfl (fun E hA ha0 => ?_)
  refine K_aload_n (a := a) dc_Mo_init_286 (Eq.refl 287) 0 rfl ?_
  refine K_sipush (v := (500 : Int32)) dc_Mo_init_287 (Eq.refl 290) rfl ?_
  refine K_arrI (x0 := 0) (x := 33) (c := 0) (k := 49) (Ls' := [1, 2, 3, 4, 5, 6, 7, 8, 9, 10, 11, 12, 13, 14, 15, 16, 17, 18, 19, 20, 21, 22, 23, 24, 25, 26, 27, 28, 29, 30, 31, 32, 33]) hA dc_Mo_init_290 (Eq.refl 292) dc_Mo_init_292 (Eq.refl 295) wI rfl rfl (hn 33 (by decide)) (by decide) (by decide) rfl (by decide) ⟨Nat.le_of_ble_eq_true rfl, Nat.le_of_ble_eq_true rfl⟩ qk_Mo_114 (by decide) rfl (List.mem_append_left _ h0) ha0 rfl rfl rfl (fun E hA ha0 => ?_)
  refine K_aload_n (a := a) dc_Mo_init_295 (Eq.refl 296) 0 rfl ?_
  refine K_sipush (v := (500 : Int32)) dc_Mo_init_296 (Eq.refl 299) rfl ?_
  refine K_arrI (x0 := 0) (x := 34) (c := 0) (k := 50) (Ls' := [1, 2, 3, 4, 5, 6, 7, 8, 9, 10, 11, 12, 13, 14, 15, 16, 17, 18, 19, 20, 21, 22, 23, 24, 25, 26, 27, 28, 29, 30, 31, 32, 33, 34]) hA dc_Mo_init_299 (Eq.refl 301) dc_Mo_init_301 (Eq.refl 304) wI rfl rfl (hn 34 (by decide)) (by decide) (by decide) rfl (by decide) ⟨Nat.le_of_ble_eq_true rfl, Nat.le_of_ble_eq_true rfl⟩ qk_Mo_117 (by decide) rfl (List.mem_append_left _ h0) ha0 rfl rfl rfl (fun E hA ha0 => ?_)
  refine K_aload_n (a := a) dc_Mo_init_304 (Eq.refl 305) 0 rfl ?_
  refine K_sipush (v := (500 : Int32)) dc_Mo_init_305 (Eq.refl 308) rfl ?_
  refine K_arrI (x0 := 0) (x := 35) (c := 0) (k := 51) (Ls' := [1, 2, 3, 4, 5, 6, 7, 8, 9, 10, 11, 12, 13, 14, 15, 16, 17, 18, 19, 20, 21, 22, 23, 24, 25, 26, 27, 28, 29, 30, 31, 32, 33, 34, 35]) hA dc_Mo_init_308 (Eq.refl 310) dc_Mo_init_310 (Eq.refl 313) wI rfl rfl (hn 35 (by decide)) (by decide) (by decide) rfl (by decide) ⟨Nat.le_of_ble_eq_true rfl, Nat.le_of_ble_eq_true rfl⟩ qk_Mo_120 (by decide) rfl (List.mem_append_left _ h0) ha0 rfl rfl rfl (fun E hA ha0 => ?_)
  refine K_aload_n (a := a) dc_Mo_init_313 (Eq.refl 314) 0 rfl ?_
  refine K_sipush (v := (500 : Int32)) dc_Mo_init_314 (Eq.refl 317) rfl ?_
  refine K_arrI (x0 := 0) (x := 36) (c := 0) (k := 52) (Ls' := [1, 2, 3, 4, 5, 6, 7, 8, 9, 10, 11, 12, 13, 14, 15, 16, 17, 18, 19, 20, 21, 22, 23, 24, 25, 26, 27, 28, 29, 30, 31, 32, 33, 34, 35, 36]) hA dc_Mo_init_317 (Eq.refl 319) dc_Mo_init_319 (Eq.refl 322) wI rfl rfl (hn 36 (by decide)) (by decide) (by decide) rfl (by decide) ⟨Nat.le_of_ble_eq_true rfl, Nat.le_of_ble_eq_true rfl⟩ qk_Mo_123 (by decide) rfl (List.mem_append_left _ h0) ha0 rfl rfl rfl (fun E hA ha0 => ?_)
  refine K_aload_n (a := a) dc_Mo_init_322 (Eq.refl 323) 0 rfl ?_
  refine K_sipush (v := (500 : Int32)) dc_Mo_init_323 (Eq.refl 326) rfl ?_
  refine K_arrI (x0 := 0) (x := 37) (c := 0) (k := 53) (Ls' := [1, 2, 3, 4, 5, 6, 7, 8, 9, 10, 11, 12, 13, 14, 15, 16, 17, 18, 19, 20, 21, 22, 23, 24, 25, 26, 27, 28, 29, 30, 31, 32, 33, 34, 35, 36, 37]) hA dc_Mo_init_326 (Eq.refl 328) dc_Mo_init_328 (Eq.refl 331) wI rfl rfl (hn 37 (by decide)) (by decide) (by decide) rfl (by decide) ⟨Nat.le_of_ble_eq_true rfl, Nat.le_of_ble_eq_true rfl⟩ qk_Mo_126 (by decide) rfl (List.mem_append_left _ h0) ha0 rfl rfl rfl (fun E hA ha0 => ?_)
  refine K_aload_n (a := a) dc_Mo_init_331 (Eq.refl 332) 0 rfl ?_
  refine K_sipush (v := (500 : Int32)) dc_Mo_init_332 (Eq.refl 335) rfl ?_
  refine K_arrJ (x0 := 0) (x := 38) (c := 0) (k := 54) (Ls' := [1, 2, 3, 4, 5, 6, 7, 8, 9, 10, 11, 12, 13, 14, 15, 16, 17, 18, 19, 20, 21, 22, 23, 24, 25, 26, 27, 28, 29, 30, 31, 32, 33, 34, 35, 36, 37, 38]) hA dc_Mo_init_335 (Eq.refl 337) dc_Mo_init_337 (Eq.refl 340) wJ rfl rfl (hn 38 (by decide)) (by decide) (by decide) rfl (by decide) ⟨Nat.le_of_ble_eq_true rfl, Nat.le_of_ble_eq_true rfl⟩ qk_Mo_129 (by decide) rfl (List.mem_append_left _ h0) ha0 rfl rfl rfl (fun E hA ha0 => ?_)
  refine K_aload_n (a := a) dc_Mo_init_340 (Eq.refl 341) 0 rfl ?_
  refine K_sipush (v := (2100 : Int32)) dc_Mo_init_341 (Eq.refl 344) rfl ?_
  refine K_arrI (x0 := 0) (x := 39) (c := 0) (k := 55) (Ls' := [1, 2, 3, 4, 5, 6, 7, 8, 9, 10, 11, 12, 13, 14, 15, 16, 17, 18, 19, 20, 21, 22, 23, 24, 25, 26, 27, 28, 29, 30, 31, 32, 33, 34, 35, 36, 37, 38, 39]) hA dc_Mo_init_344 (Eq.refl 346) dc_Mo_init_346 (Eq.refl 349) wI rfl rfl (hn 39 (by decide)) (by decide) (by decide) rfl (by decide) ⟨Nat.le_of_ble_eq_true rfl, Nat.le_of_ble_eq_true rfl⟩ qk_Mo_132 (by decide) rfl (List.mem_append_left _ h0) ha0 rfl rfl rfl (fun E hA ha0 => ?_)
  refine K_aload_n (a := a) dc_Mo_init_349 (Eq.refl 350) 0 rfl ?_
  refine K_bipush (v := (13 : Int32)) dc_Mo_init_350 (Eq.refl 352) rfl ?_
  refine K_newI3 (x := 40) (Ls' := [1, 2, 3, 4, 5, 6, 7, 8, 9, 10, 11, 12, 13, 14, 15, 16, 17, 18, 19, 20, 21, 22, 23, 24, 25, 26, 27, 28, 29, 30, 31, 32, 33, 34, 35, 36, 37, 38, 39, 40]) hA dc_Mo_init_352 (Eq.refl 354) wI rfl rfl (hn 40 (by decide)) (by decide) (by decide) rfl (by decide) ⟨Nat.le_of_ble_eq_true rfl, Nat.le_of_ble_eq_true rfl⟩ rfl (fun E q hA hq hag => ?_)
  have ha0 := (hag 0 (by decide)).trans ha0
  refine K_dup dc_Mo_init_354 (Eq.refl 355) rfl ?_
  refine K_iconst (v := (0 : Int32)) dc_Mo_init_355 (Eq.refl 356) rfl ?_
  refine K_bipush (v := (110 : Int32)) dc_Mo_init_356 (Eq.refl 358) rfl ?_
  refine K_iast dc_Mo_init_358 (Eq.refl 359) rfl rfl (List.mem_append_right _ (by decide)) hq (vin (n := 0) (by decide) (by decide)) ?_
  refine K_dup dc_Mo_init_359 (Eq.refl 360) rfl ?_
  refine K_iconst (v := (1 : Int32)) dc_Mo_init_360 (Eq.refl 361) rfl ?_
  refine K_bipush (v := (117 : Int32)) dc_Mo_init_361 (Eq.refl 363) rfl ?_
  refine K_iast dc_Mo_init_363 (Eq.refl 364) rfl rfl (List.mem_append_right _ (by decide)) hq (vin (n := 1) (by decide) (by decide)) ?_
  refine K_dup dc_Mo_init_364 (Eq.refl 365) rfl ?_
  refine K_iconst (v := (2 : Int32)) dc_Mo_init_365 (Eq.refl 366) rfl ?_
  refine K_bipush (v := (108 : Int32)) dc_Mo_init_366 (Eq.refl 368) rfl ?_
  refine K_iast dc_Mo_init_368 (Eq.refl 369) rfl rfl (List.mem_append_right _ (by decide)) hq (vin (n := 2) (by decide) (by decide)) ?_
  refine K_dup dc_Mo_init_369 (Eq.refl 370) rfl ?_
  refine K_iconst (v := (3 : Int32)) dc_Mo_init_370 (Eq.refl 371) rfl ?_
  refine K_bipush (v := (108 : Int32)) dc_Mo_init_371 (Eq.refl 373) rfl ?_
  refine K_iast dc_Mo_init_373 (Eq.refl 374) rfl rfl (List.mem_append_right _ (by decide)) hq (vin (n := 3) (by decide) (by decide)) ?_
  refine K_dup dc_Mo_init_374 (Eq.refl 375) rfl ?_
  refine K_iconst (v := (4 : Int32)) dc_Mo_init_375 (Eq.refl 376) rfl ?_
  refine K_bipush (v := (102 : Int32)) dc_Mo_init_376 (Eq.refl 378) rfl ?_
  refine K_iast dc_Mo_init_378 (Eq.refl 379) rfl rfl (List.mem_append_right _ (by decide)) hq (vin (n := 4) (by decide) (by decide)) ?_
  refine K_dup dc_Mo_init_379 (Eq.refl 380) rfl ?_
  refine K_iconst (v := (5 : Int32)) dc_Mo_init_380 (Eq.refl 381) rfl ?_
  refine K_bipush (v := (97 : Int32)) dc_Mo_init_381 (Eq.refl 383) rfl ?_
  refine K_iast dc_Mo_init_383 (Eq.refl 384) rfl rfl (List.mem_append_right _ (by decide)) hq (vin (n := 5) (by decide) (by decide)) ?_
  refine K_dup dc_Mo_init_384 (Eq.refl 385) rfl ?_
  refine K_bipush (v := (6 : Int32)) dc_Mo_init_385 (Eq.refl 387) rfl ?_
  refine K_bipush (v := (108 : Int32)) dc_Mo_init_387 (Eq.refl 389) rfl ?_
  refine K_iast dc_Mo_init_389 (Eq.refl 390) rfl rfl (List.mem_append_right _ (by decide)) hq (vin (n := 6) (by decide) (by decide)) ?_
  refine K_dup dc_Mo_init_390 (Eq.refl 391) rfl ?_
  refine K_bipush (v := (7 : Int32)) dc_Mo_init_391 (Eq.refl 393) rfl ?_
  refine K_bipush (v := (115 : Int32)) dc_Mo_init_393 (Eq.refl 395) rfl ?_
  refine K_iast dc_Mo_init_395 (Eq.refl 396) rfl rfl (List.mem_append_right _ (by decide)) hq (vin (n := 7) (by decide) (by decide)) ?_
  refine K_dup dc_Mo_init_396 (Eq.refl 397) rfl ?_
  refine K_bipush (v := (8 : Int32)) dc_Mo_init_397 (Eq.refl 399) rfl ?_
  refine K_bipush (v := (101 : Int32)) dc_Mo_init_399 (Eq.refl 401) rfl ?_
  refine K_iast dc_Mo_init_401 (Eq.refl 402) rfl rfl (List.mem_append_right _ (by decide)) hq (vin (n := 8) (by decide) (by decide)) ?_
  refine K_dup dc_Mo_init_402 (Eq.refl 403) rfl ?_
  refine K_bipush (v := (9 : Int32)) dc_Mo_init_403 (Eq.refl 405) rfl ?_
  refine K_bipush (v := (116 : Int32)) dc_Mo_init_405 (Eq.refl 407) rfl ?_
  refine K_iast dc_Mo_init_407 (Eq.refl 408) rfl rfl (List.mem_append_right _ (by decide)) hq (vin (n := 9) (by decide) (by decide)) ?_
  refine K_dup dc_Mo_init_408 (Eq.refl 409) rfl ?_
  refine K_bipush (v := (10 : Int32)) dc_Mo_init_409 (Eq.refl 411) rfl ?_
  refine K_bipush (v := (114 : Int32)) dc_Mo_init_411 (Eq.refl 413) rfl ?_
  refine K_iast dc_Mo_init_413 (Eq.refl 414) rfl rfl (List.mem_append_right _ (by decide)) hq (vin (n := 10) (by decide) (by decide)) ?_
  refine K_dup dc_Mo_init_414 (Eq.refl 415) rfl ?_
  refine K_bipush (v := (11 : Int32)) dc_Mo_init_415 (Eq.refl 417) rfl ?_
  refine K_bipush (v := (117 : Int32)) dc_Mo_init_417 (Eq.refl 419) rfl ?_
  refine K_iast dc_Mo_init_419 (Eq.refl 420) rfl rfl (List.mem_append_right _ (by decide)) hq (vin (n := 11) (by decide) (by decide)) ?_
  refine K_dup dc_Mo_init_420 (Eq.refl 421) rfl ?_
  refine K_bipush (v := (12 : Int32)) dc_Mo_init_421 (Eq.refl 423) rfl ?_
  refine K_bipush (v := (101 : Int32)) dc_Mo_init_423 (Eq.refl 425) rfl ?_
  refine K_iast dc_Mo_init_425 (Eq.refl 426) rfl rfl (List.mem_append_right _ (by decide)) hq (vin (n := 12) (by decide) (by decide)) ?_
  refine K_putF (x := 0) (y := 40) (c := 0) (k := 57) dc_Mo_init_426 (Eq.refl 429) qk_Mo_135 (by decide) rfl (List.mem_append_left _ h0) (List.mem_append_right _ (by decide)) ha0 hq (Or.inl rfl) rfl ⟨rfl, fun _ => rfl⟩ (fun _ => rfl) ?_
  refine K_aload_n (a := a) dc_Mo_init_429 (Eq.refl 430) 0 rfl ?_
  refine K_sipush (v := (500 : Int32)) dc_Mo_init_430 (Eq.refl 433) rfl ?_
  refine K_arrI (x0 := 0) (x := 41) (c := 0) (k := 58) (Ls' := [1, 2, 3, 4, 5, 6, 7, 8, 9, 10, 11, 12, 13, 14, 15, 16, 17, 18, 19, 20, 21, 22, 23, 24, 25, 26, 27, 28, 29, 30, 31, 32, 33, 34, 35, 36, 37, 38, 39, 40, 41]) hA dc_Mo_init_433 (Eq.refl 435) dc_Mo_init_435 (Eq.refl 438) wI rfl rfl (hn 41 (by decide)) (by decide) (by decide) rfl (by decide) ⟨Nat.le_of_ble_eq_true rfl, Nat.le_of_ble_eq_true rfl⟩ qk_Mo_138 (by decide) rfl (List.mem_append_left _ h0) ha0 rfl rfl rfl (fun E hA ha0 => ?_)
  refine K_aload_n (a := a) dc_Mo_init_438 (Eq.refl 439) 0 rfl ?_
  refine K_sipush (v := (2100 : Int32)) dc_Mo_init_439 (Eq.refl 442) rfl ?_
  refine K_arrI (x0 := 0) (x := 42) (c := 0) (k := 59) (Ls' := [1, 2, 3, 4, 5, 6, 7, 8, 9, 10, 11, 12, 13, 14, 15, 16, 17, 18, 19, 20, 21, 22, 23, 24, 25, 26, 27, 28, 29, 30, 31, 32, 33, 34, 35, 36, 37, 38, 39, 40, 41, 42]) hA dc_Mo_init_442 (Eq.refl 444) dc_Mo_init_444 (Eq.refl 447) wI rfl rfl (hn 42 (by decide)) (by decide) (by decide) rfl (by decide) ⟨Nat.le_of_ble_eq_true rfl, Nat.le_of_ble_eq_true rfl⟩ qk_Mo_141 (by decide) rfl (List.mem_append_left _ h0) ha0 rfl rfl rfl (fun E hA ha0 => ?_)
  refine K_aload_n (a := a) dc_Mo_init_447 (Eq.refl 448) 0 rfl ?_
  refine K_sipush (v := (2001 : Int32)) dc_Mo_init_448 (Eq.refl 451) rfl ?_
  refine K_arrI (x0 := 0) (x := 43) (c := 0) (k := 60) (Ls' := [1, 2, 3, 4, 5, 6, 7, 8, 9, 10, 11, 12, 13, 14, 15, 16, 17, 18, 19, 20, 21, 22, 23, 24, 25, 26, 27, 28, 29, 30, 31, 32, 33, 34, 35, 36, 37, 38, 39, 40, 41, 42, 43]) hA dc_Mo_init_451 (Eq.refl 453) dc_Mo_init_453 (Eq.refl 456) wI rfl rfl (hn 43 (by decide)) (by decide) (by decide) rfl (by decide) ⟨Nat.le_of_ble_eq_true rfl, Nat.le_of_ble_eq_true rfl⟩ qk_Mo_144 (by decide) rfl (List.mem_append_left _ h0) ha0 rfl rfl rfl (fun E hA ha0 => ?_)
  refine K_aload_n (a := a) dc_Mo_init_456 (Eq.refl 457) 0 rfl ?_
  refine K_sipush (v := (2001 : Int32)) dc_Mo_init_457 (Eq.refl 460) rfl ?_
  refine K_arrI (x0 := 0) (x := 44) (c := 0) (k := 61) (Ls' := [1, 2, 3, 4, 5, 6, 7, 8, 9, 10, 11, 12, 13, 14, 15, 16, 17, 18, 19, 20, 21, 22, 23, 24, 25, 26, 27, 28, 29, 30, 31, 32, 33, 34, 35, 36, 37, 38, 39, 40, 41, 42, 43, 44]) hA dc_Mo_init_460 (Eq.refl 462) dc_Mo_init_462 (Eq.refl 465) wI rfl rfl (hn 44 (by decide)) (by decide) (by decide) rfl (by decide) ⟨Nat.le_of_ble_eq_true rfl, Nat.le_of_ble_eq_true rfl⟩ qk_Mo_147 (by decide) rfl (List.mem_append_left _ h0) ha0 rfl rfl rfl (fun E hA ha0 => ?_)
  refine K_aload_n (a := a) dc_Mo_init_465 (Eq.refl 466) 0 rfl ?_
  refine K_bipush (v := (40 : Int32)) dc_Mo_init_466 (Eq.refl 468) rfl ?_
  refine K_arrI (x0 := 0) (x := 45) (c := 0) (k := 63) (Ls' := [1, 2, 3, 4, 5, 6, 7, 8, 9, 10, 11, 12, 13, 14, 15, 16, 17, 18, 19, 20, 21, 22, 23, 24, 25, 26, 27, 28, 29, 30, 31, 32, 33, 34, 35, 36, 37, 38, 39, 40, 41, 42, 43, 44, 45]) hA dc_Mo_init_468 (Eq.refl 470) dc_Mo_init_470 (Eq.refl 473) wI rfl rfl (hn 45 (by decide)) (by decide) (by decide) rfl (by decide) ⟨Nat.le_of_ble_eq_true rfl, Nat.le_of_ble_eq_true rfl⟩ qk_Mo_150 (by decide) rfl (List.mem_append_left _ h0) ha0 rfl rfl rfl (fun E hA ha0 => ?_)
  refine K_aload_n (a := a) dc_Mo_init_473 (Eq.refl 474) 0 rfl ?_
  refine K_bipush (v := (40 : Int32)) dc_Mo_init_474 (Eq.refl 476) rfl ?_
  refine K_arrI (x0 := 0) (x := 46) (c := 0) (k := 64) (Ls' := [1, 2, 3, 4, 5, 6, 7, 8, 9, 10, 11, 12, 13, 14, 15, 16, 17, 18, 19, 20, 21, 22, 23, 24, 25, 26, 27, 28, 29, 30, 31, 32, 33, 34, 35, 36, 37, 38, 39, 40, 41, 42, 43, 44, 45, 46]) hA dc_Mo_init_476 (Eq.refl 478) dc_Mo_init_478 (Eq.refl 481) wI rfl rfl (hn 46 (by decide)) (by decide) (by decide) rfl (by decide) ⟨Nat.le_of_ble_eq_true rfl, Nat.le_of_ble_eq_true rfl⟩ qk_Mo_153 (by decide) rfl (List.mem_append_left _ h0) ha0 rfl rfl rfl (fun E hA ha0 => ?_)
  refine K_aload_n (a := a) dc_Mo_init_481 (Eq.refl 482) 0 rfl ?_
  refine K_bipush (v := (40 : Int32)) dc_Mo_init_482 (Eq.refl 484) rfl ?_
  refine K_arrI (x0 := 0) (x := 47) (c := 0) (k := 65) (Ls' := [1, 2, 3, 4, 5, 6, 7, 8, 9, 10, 11, 12, 13, 14, 15, 16, 17, 18, 19, 20, 21, 22, 23, 24, 25, 26, 27, 28, 29, 30, 31, 32, 33, 34, 35, 36, 37, 38, 39, 40, 41, 42, 43, 44, 45, 46, 47]) hA dc_Mo_init_484 (Eq.refl 486) dc_Mo_init_486 (Eq.refl 489) wI rfl rfl (hn 47 (by decide)) (by decide) (by decide) rfl (by decide) ⟨Nat.le_of_ble_eq_true rfl, Nat.le_of_ble_eq_true rfl⟩ qk_Mo_156 (by decide) rfl (List.mem_append_left _ h0) ha0 rfl rfl rfl (fun E hA ha0 => ?_)
  refine K_aload_n (a := a) dc_Mo_init_489 (Eq.refl 490) 0 rfl ?_
  refine K_bipush (v := (40 : Int32)) dc_Mo_init_490 (Eq.refl 492) rfl ?_
  refine K_arrI (x0 := 0) (x := 48) (c := 0) (k := 66) (Ls' := [1, 2, 3, 4, 5, 6, 7, 8, 9, 10, 11, 12, 13, 14, 15, 16, 17, 18, 19, 20, 21, 22, 23, 24, 25, 26, 27, 28, 29, 30, 31, 32, 33, 34, 35, 36, 37, 38, 39, 40, 41, 42, 43, 44, 45, 46, 47, 48]) hA dc_Mo_init_492 (Eq.refl 494) dc_Mo_init_494 (Eq.refl 497) wI rfl rfl (hn 48 (by decide)) (by decide) (by decide) rfl (by decide) ⟨Nat.le_of_ble_eq_true rfl, Nat.le_of_ble_eq_true rfl⟩ qk_Mo_159 (by decide) rfl (List.mem_append_left _ h0) ha0 rfl rfl rfl (fun E hA ha0 => ?_)
  exact K_ret dc_Mo_init_497 rfl rfl rfl ⟨hA, rfl, rfl, rfl⟩
