/-! the start, for every script: what is left is the reading of a document -/
theorem fresh_Shv : Shv (σMo (σCp σ0)) := by
  refine ⟨fun k hk => ?_, fun i => i, ⟨fun i hi => hi, fun i j _ _ h => h, fun i hi => ?_, rfl⟩, fun i hi => Or.inl ⟨fresh_8 i hi, ?_⟩⟩
  · match k, hk with
    | 0, _ => rfl
    | 1, _ => rfl
    | 2, _ => rfl
    | 3, _ => rfl
    | 4, _ => rfl
    | 5, _ => rfl
    | 6, _ => rfl
    | 7, _ => rfl
    | 8, _ => rfl
    | 9, _ => rfl
    | 10, _ => rfl
    | 11, _ => rfl
    | 12, _ => rfl
    | k + 13, h => exact absurd h (by omega)
  · match i, hi with
    | 0, _ => rfl
    | 1, _ => rfl
    | 2, _ => rfl
    | 3, _ => rfl
    | 4, _ => rfl
    | 5, _ => rfl
    | 6, _ => rfl
    | 7, _ => rfl
    | i + 8, h => exact absurd h (by omega)
  · match i, hi with
    | 0, _ => rfl
    | 1, _ => rfl
    | 2, _ => rfl
    | 3, _ => rfl
    | 4, _ => rfl
    | 5, _ => rfl
    | 6, _ => rfl
    | 7, _ => rfl
    | i + 8, h => exact absurd h (by omega)
theorem fresh_Sim : Sim Shv (σMo (σCp σ0)) := by
  obtain ⟨⟨tp, o, t1, t2, t3, t4, o1, o2, o3, pl, _⟩, _⟩ := fresh rfl
  exact ⟨tp, o, t1, t2, t3, t4, o1, o2, o3, pl, fresh_Shv⟩
theorem ops_all (E : En_t) (hdoc : Op_7 E 40 (Sim Shv) (Sim Shv)) : OpsE E 40 (Sim Shv) (Sim Shv) :=
  ⟨op_feed Shv_fr.fr, op_end Shv_fr.fr, op_take Shv_fr.fr, op_numeral Shv_fr, op_print Shv_fr.fr, op_round Shv_fr.fr, op_out, hdoc, op_place, op_form, op_value, op_bits, op_character, op_point, op_same, op_merge, op_patch, op_part, op_about (fun _ h => Shv_N h)⟩
theorem start_all (hdoc : ∀ E, Op_7 E 40 (Sim Shv) (Sim Shv)) {p : Program} {e : Env} {s : State} {m : MethodId} {below : List Frame} {meth : Method} {c : Code} (l : Launch) {b L : Nat} {xs : Nat → Int32} (hL : L ≤ 3072) (C0 : lw_At p s m meth c b L xs) : W p l e room_1 s m #[Value.ref b] below meth c s.heap [] 0 0 (lw_Z below #[Value.ref b] s) (entryFrame m ([Value.ref b] : List Value).toArray 4) :=
  law_start l hL C0 (d := 40) (by decide) (fun _ => Sim Shv) fresh_Sim (fun _ _ h => h) (fun E _ _ => ops_all E (hdoc E))
