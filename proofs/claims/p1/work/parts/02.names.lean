def tb : List Cond := lw_tbl.filter goodWord
theorem tb_mem {w : Cond} (i : Nat) (h : lw_tbl[i]? = some w) (g : goodWord w = true) : w ∈ tb := List.mem_filter.mpr ⟨List.mem_of_getElem? h, g⟩
theorem tb_of {w : Cond} (h : w ∈ lw_tbl) (g : goodWord w = true) : w ∈ tb := List.mem_filter.mpr ⟨h, g⟩
theorem tb_good {w : Cond} (h : w ∈ tb) : (w.onTables && w.keeps) = true ∨ ∃ ty, w = .arrayClass ty := good_of_word (List.mem_filter.mp h).2
theorem tb_sub {w : Cond} (h : w ∈ tb) : w ∈ lw_tbl := (List.mem_filter.mp h).1
/-- a method: its name, its bytes, its locals, its answer's type -/
abbrev M_t : Type := MethodName × ByteArray × Nat × Option FieldType
def F_Mo : u_T := fun k => match k with
  | 0 => ("CanonPressModel", "tape", "[I", true)
  | 1 => ("CanonPressModel", "taped", "I", false)
  | 2 => ("CanonPressModel", "out", "[I", true)
  | 3 => ("CanonPressModel", "outs", "I", false)
  | 4 => ("CanonPressModel", "outAll", "I", false)
  | 5 => ("CanonPressModel", "digit", "[I", true)
  | 6 => ("CanonPressModel", "digits", "I", false)
  | 7 => ("CanonPressModel", "point", "I", false)
  | 8 => ("CanonPressModel", "more", "[I", true)
  | 9 => ("CanonPressModel", "at", "I", false)
  | 10 => ("CanonPressModel", "value", "J", false)
  | 11 => ("CanonPressModel", "exact", "[I", true)
  | 12 => ("CanonPressModel", "tried", "[I", true)
  | 13 => ("CanonPressModel", "exacts", "I", false)
  | 14 => ("CanonPressModel", "exactPoint", "I", false)
  | 15 => ("CanonPressModel", "triedMany", "I", false)
  | 16 => ("CanonPressModel", "triedPoint", "I", false)
  | 17 => ("CanonPressModel", "print", "[I", true)
  | 18 => ("CanonPressModel", "prints", "I", false)
  | 19 => ("CanonPressModel", "isThere", "[Z", true)
  | 20 => ("CanonPressModel", "many", "[I", true)
  | 21 => ("CanonPressModel", "letterMany", "[I", true)
  | 22 => ("CanonPressModel", "byteMany", "[I", true)
  | 23 => ("CanonPressModel", "printMany", "[I", true)
  | 24 => ("CanonPressModel", "kind", "[I", true)
  | 25 => ("CanonPressModel", "parent", "[I", true)
  | 26 => ("CanonPressModel", "which", "[I", true)
  | 27 => ("CanonPressModel", "parts", "[I", true)
  | 28 => ("CanonPressModel", "size", "[I", true)
  | 29 => ("CanonPressModel", "deep", "[I", true)
  | 30 => ("CanonPressModel", "nameAt", "[I", true)
  | 31 => ("CanonPressModel", "nameMany", "[I", true)
  | 32 => ("CanonPressModel", "textAt", "[I", true)
  | 33 => ("CanonPressModel", "textMany", "[I", true)
  | 34 => ("CanonPressModel", "printAt", "[I", true)
  | 35 => ("CanonPressModel", "printSize", "[I", true)
  | 36 => ("CanonPressModel", "bitsOf", "[J", true)
  | 37 => ("CanonPressModel", "letter", "[I", true)
  | 38 => ("CanonPressModel", "printed", "[I", true)
  | 39 => ("CanonPressModel", "tooMuch", "Z", false)
  | 40 => ("CanonPressModel", "openAt", "[I", true)
  | 41 => ("CanonPressModel", "fault", "I", false)
  | 42 => ("CanonPressModel", "faultPlace", "I", false)
  | 43 => ("CanonPressModel", "reads", "I", false)
  | 44 => ("CanonPressModel", "readLetters", "I", false)
  | 45 => ("CanonPressModel", "readKind", "[I", true)
  | 46 => ("CanonPressModel", "readUp", "[I", true)
  | 47 => ("CanonPressModel", "readFirst", "[I", true)
  | 48 => ("CanonPressModel", "readLast", "[I", true)
  | 49 => ("CanonPressModel", "readNext", "[I", true)
  | 50 => ("CanonPressModel", "readNameAt", "[I", true)
  | 51 => ("CanonPressModel", "readNames", "[I", true)
  | 52 => ("CanonPressModel", "readTextAt", "[I", true)
  | 53 => ("CanonPressModel", "readTexts", "[I", true)
  | 54 => ("CanonPressModel", "readBits", "[J", true)
  | 55 => ("CanonPressModel", "readLetter", "[I", true)
  | 56 => ("CanonPressModel", "four", "I", false)
  | 57 => ("CanonPressModel", "word", "[I", true)
  | 58 => ("CanonPressModel", "sorted", "[I", true)
  | 59 => ("CanonPressModel", "readRow", "[I", true)
  | 60 => ("CanonPressModel", "tokenAt", "[I", true)
  | 61 => ("CanonPressModel", "tokens", "[I", true)
  | 62 => ("CanonPressModel", "tokenMany", "I", false)
  | 63 => ("CanonPressModel", "pileA", "[I", true)
  | 64 => ("CanonPressModel", "pileB", "[I", true)
  | 65 => ("CanonPressModel", "leftA", "[I", true)
  | _ => ("CanonPressModel", "leftB", "[I", true)
def t_Mo : Nat → FieldType := fun k => match k with
  | 0 => .array .int
  | 1 => .int
  | 2 => .array .int
  | 3 => .int
  | 4 => .int
  | 5 => .array .int
  | 6 => .int
  | 7 => .int
  | 8 => .array .int
  | 9 => .int
  | 10 => .long
  | 11 => .array .int
  | 12 => .array .int
  | 13 => .int
  | 14 => .int
  | 15 => .int
  | 16 => .int
  | 17 => .array .int
  | 18 => .int
  | 19 => .array .boolean
  | 20 => .array .int
  | 21 => .array .int
  | 22 => .array .int
  | 23 => .array .int
  | 24 => .array .int
  | 25 => .array .int
  | 26 => .array .int
  | 27 => .array .int
  | 28 => .array .int
  | 29 => .array .int
  | 30 => .array .int
  | 31 => .array .int
  | 32 => .array .int
  | 33 => .array .int
  | 34 => .array .int
  | 35 => .array .int
  | 36 => .array .long
  | 37 => .array .int
  | 38 => .array .int
  | 39 => .boolean
  | 40 => .array .int
  | 41 => .int
  | 42 => .int
  | 43 => .int
  | 44 => .int
  | 45 => .array .int
  | 46 => .array .int
  | 47 => .array .int
  | 48 => .array .int
  | 49 => .array .int
  | 50 => .array .int
  | 51 => .array .int
  | 52 => .array .int
  | 53 => .array .int
  | 54 => .array .long
  | 55 => .array .int
  | 56 => .int
  | 57 => .array .int
  | 58 => .array .int
  | 59 => .array .int
  | 60 => .array .int
  | 61 => .array .int
  | 62 => .int
  | 63 => .array .int
  | 64 => .array .int
  | 65 => .array .int
  | _ => .array .int
def F_Cp : u_T := fun k => match k with
  | 0 => ("CanonPress", "tape", "LCanonPress$Text;", true)
  | 1 => ("CanonPress", "written", "LCanonPress$Out;", true)
  | 2 => ("CanonPress", "scanner", "LCanonPress$Numeral;", true)
  | 3 => ("CanonPress", "printer", "LCanonPress$Printer;", true)
  | 4 => ("CanonPress", "reader", "LCanonPress$Reader;", true)
  | 5 => ("CanonPress", "former", "LCanonPress$Former;", true)
  | 6 => ("CanonPress", "pointer", "LCanonPress$Pointer;", true)
  | 7 => ("CanonPress", "weaver", "LCanonPress$Weaver;", true)
  | 8 => ("CanonPress", "shelves", "[LCanonPress$Tree;", true)
  | 9 => ("CanonPress", "spare", "LCanonPress$Tree;", false)
  | _ => ("CanonPress", "faultAt", "I", false)
def t_Cp : Nat → FieldType := fun k => match k with
  | 0 => .object "CanonPress$Text"
  | 1 => .object "CanonPress$Out"
  | 2 => .object "CanonPress$Numeral"
  | 3 => .object "CanonPress$Printer"
  | 4 => .object "CanonPress$Reader"
  | 5 => .object "CanonPress$Former"
  | 6 => .object "CanonPress$Pointer"
  | 7 => .object "CanonPress$Weaver"
  | 8 => .array (.object "CanonPress$Tree")
  | 9 => .object "CanonPress$Tree"
  | _ => .int
def F_Te : u_T := fun k => match k with
  | 0 => ("CanonPress$Text", "bytes", "[B", true)
  | 1 => ("CanonPress$Text", "length", "I", false)
  | _ => ("CanonPress$Text", "at", "I", false)
def t_Te : Nat → FieldType := fun k => match k with
  | 0 => .array .byte
  | 1 => .int
  | _ => .int
def F_Ou : u_T := fun k => match k with
  | 0 => ("CanonPress$Out", "kept", "[B", true)
  | _ => ("CanonPress$Out", "total", "I", false)
def t_Ou : Nat → FieldType := fun k => match k with
  | 0 => .array .byte
  | _ => .int
def F_Nu : u_T := fun k => match k with
  | 0 => ("CanonPress$Numeral", "digits", "[B", true)
  | 1 => ("CanonPress$Numeral", "big", "LCanonPress$Big;", true)
  | 2 => ("CanonPress$Numeral", "count", "I", false)
  | 3 => ("CanonPress$Numeral", "power", "I", false)
  | 4 => ("CanonPress$Numeral", "cut", "Z", false)
  | _ => ("CanonPress$Numeral", "negative", "Z", false)
def t_Nu : Nat → FieldType := fun k => match k with
  | 0 => .array .byte
  | 1 => .object "CanonPress$Big"
  | 2 => .int
  | 3 => .int
  | 4 => .boolean
  | _ => .boolean
def F_Bi : u_T := fun k => match k with
  | 0 => ("CanonPress$Big", "limbs", "[I", true)
  | 1 => ("CanonPress$Big", "count", "I", false)
  | _ => ("CanonPress$Big", "rest", "Z", false)
def t_Bi : Nat → FieldType := fun k => match k with
  | 0 => .array .int
  | 1 => .int
  | _ => .boolean
def F_Pr : u_T := fun k => match k with
  | 0 => ("CanonPress$Printer", "big", "LCanonPress$Big;", true)
  | 1 => ("CanonPress$Printer", "digits", "[B", true)
  | 2 => ("CanonPress$Printer", "count", "I", false)
  | _ => ("CanonPress$Printer", "point", "I", false)
def t_Pr : Nat → FieldType := fun k => match k with
  | 0 => .object "CanonPress$Big"
  | 1 => .array .byte
  | 2 => .int
  | _ => .int
def F_Re : u_T := fun k => match k with
  | 0 => ("CanonPress$Reader", "text", "LCanonPress$Text;", true)
  | 1 => ("CanonPress$Reader", "scanner", "LCanonPress$Numeral;", true)
  | 2 => ("CanonPress$Reader", "draft", "LCanonPress$Tree;", true)
  | 3 => ("CanonPress$Reader", "first", "[I", true)
  | 4 => ("CanonPress$Reader", "last", "[I", true)
  | 5 => ("CanonPress$Reader", "next", "[I", true)
  | 6 => ("CanonPress$Reader", "newPlace", "[I", true)
  | 7 => ("CanonPress$Reader", "wants", "I", false)
  | 8 => ("CanonPress$Reader", "inside", "I", false)
  | 9 => ("CanonPress$Reader", "open", "I", false)
  | 10 => ("CanonPress$Reader", "newNameAt", "I", false)
  | 11 => ("CanonPress$Reader", "newNameLength", "I", false)
  | 12 => ("CanonPress$Reader", "partAhead", "I", false)
  | 13 => ("CanonPress$Reader", "fault", "I", false)
  | _ => ("CanonPress$Reader", "faultAt", "I", false)
def t_Re : Nat → FieldType := fun k => match k with
  | 0 => .object "CanonPress$Text"
  | 1 => .object "CanonPress$Numeral"
  | 2 => .object "CanonPress$Tree"
  | 3 => .array .int
  | 4 => .array .int
  | 5 => .array .int
  | 6 => .array .int
  | 7 => .int
  | 8 => .int
  | 9 => .int
  | 10 => .int
  | 11 => .int
  | 12 => .int
  | 13 => .int
  | _ => .int
def F_Fo : u_T := fun k => match k with
  | _ => ("CanonPress$Former", "printer", "LCanonPress$Printer;", true)
def t_Fo : Nat → FieldType := fun k => match k with
  | _ => .object "CanonPress$Printer"
def F_Po : u_T := fun k => match k with
  | 0 => ("CanonPress$Pointer", "marks", "[I", true)
  | _ => ("CanonPress$Pointer", "count", "I", false)
def t_Po : Nat → FieldType := fun k => match k with
  | 0 => .array .int
  | _ => .int
def F_We : u_T := fun k => match k with
  | 0 => ("CanonPress$Weaver", "left", "LCanonPress$Tree;", false)
  | 1 => ("CanonPress$Weaver", "right", "LCanonPress$Tree;", false)
  | 2 => ("CanonPress$Weaver", "made", "LCanonPress$Tree;", false)
  | 3 => ("CanonPress$Weaver", "patching", "Z", false)
  | _ => ("CanonPress$Weaver", "noPatch", "Z", false)
def t_We : Nat → FieldType := fun k => match k with
  | 0 => .object "CanonPress$Tree"
  | 1 => .object "CanonPress$Tree"
  | 2 => .object "CanonPress$Tree"
  | 3 => .boolean
  | _ => .boolean
def F_Tr : u_T := fun k => match k with
  | 0 => ("CanonPress$Tree", "kind", "[I", true)
  | 1 => ("CanonPress$Tree", "many", "[I", true)
  | 2 => ("CanonPress$Tree", "owner", "[I", true)
  | 3 => ("CanonPress$Tree", "order", "[I", true)
  | 4 => ("CanonPress$Tree", "size", "[I", true)
  | 5 => ("CanonPress$Tree", "depth", "[I", true)
  | 6 => ("CanonPress$Tree", "number", "[J", true)
  | 7 => ("CanonPress$Tree", "nameAt", "[I", true)
  | 8 => ("CanonPress$Tree", "nameLength", "[I", true)
  | 9 => ("CanonPress$Tree", "textAt", "[I", true)
  | 10 => ("CanonPress$Tree", "characters", "[I", true)
  | 11 => ("CanonPress$Tree", "characterCount", "I", false)
  | 12 => ("CanonPress$Tree", "bytes", "I", false)
  | 13 => ("CanonPress$Tree", "count", "I", false)
  | _ => ("CanonPress$Tree", "tooMuch", "Z", false)
def t_Tr : Nat → FieldType := fun k => match k with
  | 0 => .array .int
  | 1 => .array .int
  | 2 => .array .int
  | 3 => .array .int
  | 4 => .array .int
  | 5 => .array .int
  | 6 => .array .long
  | 7 => .array .int
  | 8 => .array .int
  | 9 => .array .int
  | 10 => .array .int
  | 11 => .int
  | 12 => .int
  | 13 => .int
  | _ => .boolean
abbrev classes : List vw_C := [("CanonPressModel", F_Mo, 67), ("CanonPress", F_Cp, 11), ("CanonPress$Text", F_Te, 3), ("CanonPress$Out", F_Ou, 2), ("CanonPress$Numeral", F_Nu, 6), ("CanonPress$Big", F_Bi, 3), ("CanonPress$Printer", F_Pr, 4), ("CanonPress$Reader", F_Re, 15), ("CanonPress$Former", F_Fo, 1), ("CanonPress$Pointer", F_Po, 2), ("CanonPress$Weaver", F_We, 5), ("CanonPress$Tree", F_Tr, 15)]
/-- which words a class needs -/
def CWt (r : vw_C) : Prop := (∀ w ∈ u_ws r.1 r.2.1 r.2.2, w ∈ tb) ∧ (∃ ty0 : Nat → FieldType, ∀ k, k < r.2.2 → parseFieldDescriptor (r.2.1 k).2.2.1 = some (ty0 k)) ∧ (∀ a, a < r.2.2 → ∀ b, b < r.2.2 → a ≠ b → (r.2.1 a).2.1 ≠ (r.2.1 b).2.1) ∧ (∀ k, k < r.2.2 → (r.2.1 k).1 = r.1)
set_option maxRecDepth 20000 in
theorem cw_Mo_w : ∀ w ∈ u_ws "CanonPressModel" F_Mo 67, w ∈ lw_tbl := by decide +kernel
theorem cw_Mo_g : (u_ws "CanonPressModel" F_Mo 67).all goodWord = true := by decide +kernel
theorem cw_Mo_n : ∀ a, a < 67 → ∀ b, b < 67 → a ≠ b → (F_Mo a).2.1 ≠ (F_Mo b).2.1 := by decide +kernel
theorem cw_Mo_t : ∀ k, k < 67 → parseFieldDescriptor (F_Mo k).2.2.1 = some (t_Mo k) := by decide +kernel
theorem cw_Mo_o : ∀ k, k < 67 → (F_Mo k).1 = "CanonPressModel" := by decide +kernel
theorem cw_Mo : CWt ("CanonPressModel", F_Mo, 67) := ⟨fun w h => tb_of (cw_Mo_w w h) (List.all_eq_true.mp cw_Mo_g w h), ⟨t_Mo, cw_Mo_t⟩, cw_Mo_n, cw_Mo_o⟩
set_option maxRecDepth 20000 in
theorem cw_Cp_w : ∀ w ∈ u_ws "CanonPress" F_Cp 11, w ∈ lw_tbl := by decide +kernel
theorem cw_Cp_g : (u_ws "CanonPress" F_Cp 11).all goodWord = true := by decide +kernel
theorem cw_Cp_n : ∀ a, a < 11 → ∀ b, b < 11 → a ≠ b → (F_Cp a).2.1 ≠ (F_Cp b).2.1 := by decide +kernel
theorem cw_Cp_t : ∀ k, k < 11 → parseFieldDescriptor (F_Cp k).2.2.1 = some (t_Cp k) := by decide +kernel
theorem cw_Cp_o : ∀ k, k < 11 → (F_Cp k).1 = "CanonPress" := by decide +kernel
theorem cw_Cp : CWt ("CanonPress", F_Cp, 11) := ⟨fun w h => tb_of (cw_Cp_w w h) (List.all_eq_true.mp cw_Cp_g w h), ⟨t_Cp, cw_Cp_t⟩, cw_Cp_n, cw_Cp_o⟩
set_option maxRecDepth 20000 in
theorem cw_Te_w : ∀ w ∈ u_ws "CanonPress$Text" F_Te 3, w ∈ lw_tbl := by decide +kernel
theorem cw_Te_g : (u_ws "CanonPress$Text" F_Te 3).all goodWord = true := by decide +kernel
theorem cw_Te_n : ∀ a, a < 3 → ∀ b, b < 3 → a ≠ b → (F_Te a).2.1 ≠ (F_Te b).2.1 := by decide +kernel
theorem cw_Te_t : ∀ k, k < 3 → parseFieldDescriptor (F_Te k).2.2.1 = some (t_Te k) := by decide +kernel
theorem cw_Te_o : ∀ k, k < 3 → (F_Te k).1 = "CanonPress$Text" := by decide +kernel
theorem cw_Te : CWt ("CanonPress$Text", F_Te, 3) := ⟨fun w h => tb_of (cw_Te_w w h) (List.all_eq_true.mp cw_Te_g w h), ⟨t_Te, cw_Te_t⟩, cw_Te_n, cw_Te_o⟩
set_option maxRecDepth 20000 in
theorem cw_Ou_w : ∀ w ∈ u_ws "CanonPress$Out" F_Ou 2, w ∈ lw_tbl := by decide +kernel
theorem cw_Ou_g : (u_ws "CanonPress$Out" F_Ou 2).all goodWord = true := by decide +kernel
theorem cw_Ou_n : ∀ a, a < 2 → ∀ b, b < 2 → a ≠ b → (F_Ou a).2.1 ≠ (F_Ou b).2.1 := by decide +kernel
theorem cw_Ou_t : ∀ k, k < 2 → parseFieldDescriptor (F_Ou k).2.2.1 = some (t_Ou k) := by decide +kernel
theorem cw_Ou_o : ∀ k, k < 2 → (F_Ou k).1 = "CanonPress$Out" := by decide +kernel
theorem cw_Ou : CWt ("CanonPress$Out", F_Ou, 2) := ⟨fun w h => tb_of (cw_Ou_w w h) (List.all_eq_true.mp cw_Ou_g w h), ⟨t_Ou, cw_Ou_t⟩, cw_Ou_n, cw_Ou_o⟩
set_option maxRecDepth 20000 in
theorem cw_Nu_w : ∀ w ∈ u_ws "CanonPress$Numeral" F_Nu 6, w ∈ lw_tbl := by decide +kernel
theorem cw_Nu_g : (u_ws "CanonPress$Numeral" F_Nu 6).all goodWord = true := by decide +kernel
theorem cw_Nu_n : ∀ a, a < 6 → ∀ b, b < 6 → a ≠ b → (F_Nu a).2.1 ≠ (F_Nu b).2.1 := by decide +kernel
theorem cw_Nu_t : ∀ k, k < 6 → parseFieldDescriptor (F_Nu k).2.2.1 = some (t_Nu k) := by decide +kernel
theorem cw_Nu_o : ∀ k, k < 6 → (F_Nu k).1 = "CanonPress$Numeral" := by decide +kernel
theorem cw_Nu : CWt ("CanonPress$Numeral", F_Nu, 6) := ⟨fun w h => tb_of (cw_Nu_w w h) (List.all_eq_true.mp cw_Nu_g w h), ⟨t_Nu, cw_Nu_t⟩, cw_Nu_n, cw_Nu_o⟩
set_option maxRecDepth 20000 in
theorem cw_Bi_w : ∀ w ∈ u_ws "CanonPress$Big" F_Bi 3, w ∈ lw_tbl := by decide +kernel
theorem cw_Bi_g : (u_ws "CanonPress$Big" F_Bi 3).all goodWord = true := by decide +kernel
theorem cw_Bi_n : ∀ a, a < 3 → ∀ b, b < 3 → a ≠ b → (F_Bi a).2.1 ≠ (F_Bi b).2.1 := by decide +kernel
theorem cw_Bi_t : ∀ k, k < 3 → parseFieldDescriptor (F_Bi k).2.2.1 = some (t_Bi k) := by decide +kernel
theorem cw_Bi_o : ∀ k, k < 3 → (F_Bi k).1 = "CanonPress$Big" := by decide +kernel
theorem cw_Bi : CWt ("CanonPress$Big", F_Bi, 3) := ⟨fun w h => tb_of (cw_Bi_w w h) (List.all_eq_true.mp cw_Bi_g w h), ⟨t_Bi, cw_Bi_t⟩, cw_Bi_n, cw_Bi_o⟩
set_option maxRecDepth 20000 in
theorem cw_Pr_w : ∀ w ∈ u_ws "CanonPress$Printer" F_Pr 4, w ∈ lw_tbl := by decide +kernel
theorem cw_Pr_g : (u_ws "CanonPress$Printer" F_Pr 4).all goodWord = true := by decide +kernel
theorem cw_Pr_n : ∀ a, a < 4 → ∀ b, b < 4 → a ≠ b → (F_Pr a).2.1 ≠ (F_Pr b).2.1 := by decide +kernel
theorem cw_Pr_t : ∀ k, k < 4 → parseFieldDescriptor (F_Pr k).2.2.1 = some (t_Pr k) := by decide +kernel
theorem cw_Pr_o : ∀ k, k < 4 → (F_Pr k).1 = "CanonPress$Printer" := by decide +kernel
theorem cw_Pr : CWt ("CanonPress$Printer", F_Pr, 4) := ⟨fun w h => tb_of (cw_Pr_w w h) (List.all_eq_true.mp cw_Pr_g w h), ⟨t_Pr, cw_Pr_t⟩, cw_Pr_n, cw_Pr_o⟩
set_option maxRecDepth 20000 in
theorem cw_Re_w : ∀ w ∈ u_ws "CanonPress$Reader" F_Re 15, w ∈ lw_tbl := by decide +kernel
theorem cw_Re_g : (u_ws "CanonPress$Reader" F_Re 15).all goodWord = true := by decide +kernel
theorem cw_Re_n : ∀ a, a < 15 → ∀ b, b < 15 → a ≠ b → (F_Re a).2.1 ≠ (F_Re b).2.1 := by decide +kernel
theorem cw_Re_t : ∀ k, k < 15 → parseFieldDescriptor (F_Re k).2.2.1 = some (t_Re k) := by decide +kernel
theorem cw_Re_o : ∀ k, k < 15 → (F_Re k).1 = "CanonPress$Reader" := by decide +kernel
theorem cw_Re : CWt ("CanonPress$Reader", F_Re, 15) := ⟨fun w h => tb_of (cw_Re_w w h) (List.all_eq_true.mp cw_Re_g w h), ⟨t_Re, cw_Re_t⟩, cw_Re_n, cw_Re_o⟩
set_option maxRecDepth 20000 in
theorem cw_Fo_w : ∀ w ∈ u_ws "CanonPress$Former" F_Fo 1, w ∈ lw_tbl := by decide +kernel
theorem cw_Fo_g : (u_ws "CanonPress$Former" F_Fo 1).all goodWord = true := by decide +kernel
theorem cw_Fo_n : ∀ a, a < 1 → ∀ b, b < 1 → a ≠ b → (F_Fo a).2.1 ≠ (F_Fo b).2.1 := by decide +kernel
theorem cw_Fo_t : ∀ k, k < 1 → parseFieldDescriptor (F_Fo k).2.2.1 = some (t_Fo k) := by decide +kernel
theorem cw_Fo_o : ∀ k, k < 1 → (F_Fo k).1 = "CanonPress$Former" := by decide +kernel
theorem cw_Fo : CWt ("CanonPress$Former", F_Fo, 1) := ⟨fun w h => tb_of (cw_Fo_w w h) (List.all_eq_true.mp cw_Fo_g w h), ⟨t_Fo, cw_Fo_t⟩, cw_Fo_n, cw_Fo_o⟩
set_option maxRecDepth 20000 in
theorem cw_Po_w : ∀ w ∈ u_ws "CanonPress$Pointer" F_Po 2, w ∈ lw_tbl := by decide +kernel
theorem cw_Po_g : (u_ws "CanonPress$Pointer" F_Po 2).all goodWord = true := by decide +kernel
theorem cw_Po_n : ∀ a, a < 2 → ∀ b, b < 2 → a ≠ b → (F_Po a).2.1 ≠ (F_Po b).2.1 := by decide +kernel
theorem cw_Po_t : ∀ k, k < 2 → parseFieldDescriptor (F_Po k).2.2.1 = some (t_Po k) := by decide +kernel
theorem cw_Po_o : ∀ k, k < 2 → (F_Po k).1 = "CanonPress$Pointer" := by decide +kernel
theorem cw_Po : CWt ("CanonPress$Pointer", F_Po, 2) := ⟨fun w h => tb_of (cw_Po_w w h) (List.all_eq_true.mp cw_Po_g w h), ⟨t_Po, cw_Po_t⟩, cw_Po_n, cw_Po_o⟩
set_option maxRecDepth 20000 in
theorem cw_We_w : ∀ w ∈ u_ws "CanonPress$Weaver" F_We 5, w ∈ lw_tbl := by decide +kernel
theorem cw_We_g : (u_ws "CanonPress$Weaver" F_We 5).all goodWord = true := by decide +kernel
theorem cw_We_n : ∀ a, a < 5 → ∀ b, b < 5 → a ≠ b → (F_We a).2.1 ≠ (F_We b).2.1 := by decide +kernel
theorem cw_We_t : ∀ k, k < 5 → parseFieldDescriptor (F_We k).2.2.1 = some (t_We k) := by decide +kernel
theorem cw_We_o : ∀ k, k < 5 → (F_We k).1 = "CanonPress$Weaver" := by decide +kernel
theorem cw_We : CWt ("CanonPress$Weaver", F_We, 5) := ⟨fun w h => tb_of (cw_We_w w h) (List.all_eq_true.mp cw_We_g w h), ⟨t_We, cw_We_t⟩, cw_We_n, cw_We_o⟩
set_option maxRecDepth 20000 in
theorem cw_Tr_w : ∀ w ∈ u_ws "CanonPress$Tree" F_Tr 15, w ∈ lw_tbl := by decide +kernel
theorem cw_Tr_g : (u_ws "CanonPress$Tree" F_Tr 15).all goodWord = true := by decide +kernel
theorem cw_Tr_n : ∀ a, a < 15 → ∀ b, b < 15 → a ≠ b → (F_Tr a).2.1 ≠ (F_Tr b).2.1 := by decide +kernel
theorem cw_Tr_t : ∀ k, k < 15 → parseFieldDescriptor (F_Tr k).2.2.1 = some (t_Tr k) := by decide +kernel
theorem cw_Tr_o : ∀ k, k < 15 → (F_Tr k).1 = "CanonPress$Tree" := by decide +kernel
theorem cw_Tr : CWt ("CanonPress$Tree", F_Tr, 15) := ⟨fun w h => tb_of (cw_Tr_w w h) (List.all_eq_true.mp cw_Tr_g w h), ⟨t_Tr, cw_Tr_t⟩, cw_Tr_n, cw_Tr_o⟩
theorem cw_all : ∀ r ∈ classes, CWt r := List.forall_mem_cons.mpr ⟨cw_Mo, List.forall_mem_cons.mpr ⟨cw_Cp, List.forall_mem_cons.mpr ⟨cw_Te, List.forall_mem_cons.mpr ⟨cw_Ou, List.forall_mem_cons.mpr ⟨cw_Nu, List.forall_mem_cons.mpr ⟨cw_Bi, List.forall_mem_cons.mpr ⟨cw_Pr, List.forall_mem_cons.mpr ⟨cw_Re, List.forall_mem_cons.mpr ⟨cw_Fo, List.forall_mem_cons.mpr ⟨cw_Po, List.forall_mem_cons.mpr ⟨cw_We, List.forall_mem_cons.mpr ⟨cw_Tr, fun _ h => absurd h List.not_mem_nil⟩⟩⟩⟩⟩⟩⟩⟩⟩⟩⟩⟩
def NP : Nat := 192
def kindL : List Nat := [0, 20, 20, 20, 20, 20, 20, 20, 22, 20, 20, 20, 20, 20, 20, 20, 20, 20, 20, 20, 20, 20, 20, 20, 20, 23, 20, 20, 20, 20, 20, 20, 20, 20, 20, 20, 20, 20, 23, 20, 20, 20, 20, 20, 20, 20, 20, 20, 20, 1, 24, 2, 21, 3, 21, 4, 21, 5, 20, 6, 21, 5, 20, 7, 20, 20, 20, 20, 8, 9, 20, 10, 11, 20, 20, 20, 20, 20, 20, 23, 20, 20, 20, 20, 11, 20, 20, 20, 20, 20, 20, 23, 20, 20, 20, 20, 11, 20, 20, 20, 20, 20, 20, 23, 20, 20, 20, 20, 11, 20, 20, 20, 20, 20, 20, 23, 20, 20, 20, 20, 11, 20, 20, 20, 20, 20, 20, 23, 20, 20, 20, 20, 11, 20, 20, 20, 20, 20, 20, 23, 20, 20, 20, 20, 11, 20, 20, 20, 20, 20, 20, 23, 20, 20, 20, 20, 11, 20, 20, 20, 20, 20, 20, 23, 20, 20, 20, 20, 11, 20, 20, 20, 20, 20, 20, 23, 20, 20, 20, 20, 11, 20, 20, 20, 20, 20, 20, 23, 20, 20, 20, 20]
def lenL : List Nat := [0, 2000, 12000, 6000, 12, 1200, 20, 40, 9, 9, 9, 9, 9, 4500, 4500, 4500, 4500, 4500, 4500, 4500, 4500, 4500, 4500, 4500, 4500, 4500, 36000, 117000, 40, 500, 500, 500, 500, 500, 500, 500, 500, 500, 500, 2100, 13, 500, 2100, 2001, 2001, 40, 40, 40, 40, 0, 8, 0, 2000, 0, 12000, 0, 800, 0, 96, 0, 810, 0, 96, 0, 500, 500, 500, 500, 0, 0, 2000, 0, 0, 500, 500, 500, 500, 500, 500, 500, 500, 500, 500, 4000, 0, 500, 500, 500, 500, 500, 500, 500, 500, 500, 500, 4000, 0, 500, 500, 500, 500, 500, 500, 500, 500, 500, 500, 4000, 0, 500, 500, 500, 500, 500, 500, 500, 500, 500, 500, 4000, 0, 500, 500, 500, 500, 500, 500, 500, 500, 500, 500, 4000, 0, 500, 500, 500, 500, 500, 500, 500, 500, 500, 500, 4000, 0, 500, 500, 500, 500, 500, 500, 500, 500, 500, 500, 4000, 0, 500, 500, 500, 500, 500, 500, 500, 500, 500, 500, 4000, 0, 500, 500, 500, 500, 500, 500, 500, 500, 500, 500, 4000, 0, 500, 500, 500, 500, 500, 500, 500, 500, 500, 500, 4000]
def kindP (p : Nat) : Nat := kindL.getD p 99
def lenP (p : Nat) : Nat := lenL.getD p 0
def fkL : List (List Nat) := [[3, 0, 3, 0, 0, 3, 0, 0, 3, 0, 1, 3, 3, 0, 0, 0, 0, 3, 0, 3, 3, 3, 3, 3, 3, 3, 3, 3, 3, 3, 3, 3, 3, 3, 3, 3, 3, 3, 3, 5, 3, 0, 0, 0, 0, 3, 3, 3, 3, 3, 3, 3, 3, 3, 3, 3, 0, 3, 3, 3, 3, 3, 0, 3, 3, 3, 3], [4, 4, 4, 4, 4, 4, 4, 4, 3, 2, 0], [3, 0, 0], [3, 0], [3, 4, 0, 0, 5, 5], [3, 0, 5], [4, 3, 0, 0], [4, 4, 4, 3, 3, 3, 3, 0, 0, 0, 0, 0, 0, 0, 0], [4], [3, 0], [2, 2, 2, 5, 5], [3, 3, 3, 3, 3, 3, 3, 3, 3, 3, 3, 0, 0, 0, 5]]
def fxL : List (List Nat) := [[0, 0, 1, 0, 0, 2, 0, 0, 3, 0, 0, 4, 5, 0, 0, 0, 0, 6, 0, 7, 8, 9, 10, 11, 12, 13, 14, 15, 16, 17, 18, 19, 20, 21, 22, 23, 24, 25, 26, 0, 27, 0, 0, 0, 0, 28, 29, 30, 31, 32, 33, 34, 35, 36, 37, 38, 0, 39, 40, 41, 42, 43, 0, 44, 45, 46, 47], [51, 53, 55, 59, 63, 68, 69, 71, 0, 0, 0], [0, 0, 0], [0, 0], [0, 57, 0, 0, 0, 0], [0, 0, 0], [61, 0, 0, 0], [51, 55, 180, 0, 1, 2, 3, 0, 0, 0, 0, 0, 0, 0, 0], [59], [0, 0], [0, 0, 0, 0, 0], [0, 1, 2, 3, 4, 5, 6, 7, 8, 9, 10, 0, 0, 0, 0]]
def fkind (c k : Nat) : Nat := (fkL.getD c []).getD k 0
def finp (c k p : Nat) : Nat := if fkind c k = 3 then p + 1 + (fxL.getD c []).getD k 0 else (fxL.getD c []).getD k 0
def nfOf (c : Nat) : Nat := (fkL.getD c []).length
def stL : List (String × String × List Int32) := [("CanonPress", "TENS", [1, 10, 100, 1000, 10000, 100000, 1000000, 10000000, 100000000, 1000000000]), ("CanonPress$Big", "FIVES", [1, 5, 25, 125, 625, 3125, 15625, 78125, 390625, 1953125, 9765625, 48828125, 244140625, 1220703125]), ("CanonPress$Reader", "SHORT_ESCAPED", [34, 92, 47, 8, 12, 10, 13, 9])]
def MIt (M : M_t) (n : Nat) : Prop := Cond.instanceMethod M.1 ∈ tb ∧ Cond.selects M.1.cls M.1 M.1 ∈ tb ∧ Cond.initialized M.1.cls ∈ tb ∧ Cond.code M.1 M.2.1 M.2.2.1 M.2.2.2 ∈ tb ∧ M.1.cls ≠ "java/lang/invoke/MethodHandle" ∧ M.1.cls ≠ "java/lang/invoke/VarHandle" ∧ (parseMethodDescriptor M.1.desc).map (fun d => d.parameters.length) = some n
def MSt (M : M_t) (n : Nat) : Prop := Cond.static M.1 ∈ tb ∧ Cond.initialized M.1.cls ∈ tb ∧ Cond.code M.1 M.2.1 M.2.2.1 M.2.2.2 ∈ tb ∧ M.1.cls ≠ "java/lang/invoke/MethodHandle" ∧ M.1.cls ≠ "java/lang/invoke/VarHandle" ∧ (parseMethodDescriptor M.1.desc).map (fun d => d.parameters.length) = some n
def m_Cp_init : M_t := (⟨"CanonPress", "<init>", "()V"⟩, prog_1_method_1_code, 2, none)
def m_Te_init : M_t := (⟨"CanonPress$Text", "<init>", "()V"⟩, prog_9_method_1_code, 1, none)
def m_Ou_init : M_t := (⟨"CanonPress$Out", "<init>", "()V"⟩, prog_5_method_1_code, 1, none)
def m_Nu_init : M_t := (⟨"CanonPress$Numeral", "<init>", "()V"⟩, prog_4_method_1_code, 1, none)
def m_Bi_init : M_t := (⟨"CanonPress$Big", "<init>", "()V"⟩, prog_2_method_1_code, 1, none)
def m_Pr_init : M_t := (⟨"CanonPress$Printer", "<init>", "()V"⟩, prog_7_method_1_code, 1, none)
def m_Re_init : M_t := (⟨"CanonPress$Reader", "<init>", "(LCanonPress$Text;LCanonPress$Numeral;)V"⟩, prog_8_method_1_code, 3, none)
def m_Tr_init : M_t := (⟨"CanonPress$Tree", "<init>", "()V"⟩, prog_10_method_1_code, 1, none)
def m_Fo_init : M_t := (⟨"CanonPress$Former", "<init>", "(LCanonPress$Printer;)V"⟩, prog_3_method_1_code, 2, none)
def m_Po_init : M_t := (⟨"CanonPress$Pointer", "<init>", "()V"⟩, prog_6_method_1_code, 1, none)
def m_We_init : M_t := (⟨"CanonPress$Weaver", "<init>", "()V"⟩, prog_11_method_1_code, 1, none)
def m_Cp_feed : M_t := (⟨"CanonPress", "feed", "(IIIII)I"⟩, prog_1_method_2_code, 6, some .int)
def m_Te_push : M_t := (⟨"CanonPress$Text", "push", "(I)V"⟩, prog_9_method_3_code, 3, none)
def m_Cp_end : M_t := (⟨"CanonPress", "end", "(I)I"⟩, prog_1_method_3_code, 2, some .int)
def m_Cp_take : M_t := (⟨"CanonPress", "take", "()I"⟩, prog_1_method_4_code, 2, some .int)
def m_Ou_keptBytes : M_t := (⟨"CanonPress$Out", "keptBytes", "()I"⟩, prog_5_method_3_code, 1, some .int)
def m_JMa_min : M_t := (⟨"java/lang/Math", "min", "(II)I"⟩, prog_17_method_69_code, 2, some .int)
def m_Cp_numeral : M_t := (⟨"CanonPress", "numeral", "()J"⟩, prog_1_method_5_code, 2, some .long)
def m_Nu_scan : M_t := (⟨"CanonPress$Numeral", "scan", "(LCanonPress$Text;)Z"⟩, prog_4_method_2_code, 2, some .boolean)
def m_Te_pass : M_t := (⟨"CanonPress$Text", "pass", "(I)Z"⟩, prog_9_method_5_code, 3, some .boolean)
def m_Nu_scanDigits : M_t := (⟨"CanonPress$Numeral", "scanDigits", "(LCanonPress$Text;I)Z"⟩, prog_4_method_3_code, 5, some .boolean)
def m_Te_here : M_t := (⟨"CanonPress$Text", "here", "()I"⟩, prog_9_method_4_code, 1, some .int)
def m_Nu_isDigit : M_t := (⟨"CanonPress$Numeral", "isDigit", "(I)Z"⟩, prog_4_method_6_code, 1, some .boolean)
def m_Nu_keep : M_t := (⟨"CanonPress$Numeral", "keep", "(II)V"⟩, prog_4_method_4_code, 3, none)
def m_Nu_scanPower : M_t := (⟨"CanonPress$Numeral", "scanPower", "(LCanonPress$Text;)Z"⟩, prog_4_method_5_code, 6, some .boolean)
def m_Nu_stripZeros : M_t := (⟨"CanonPress$Numeral", "stripZeros", "()V"⟩, prog_4_method_7_code, 1, none)
def m_Te_clear : M_t := (⟨"CanonPress$Text", "clear", "()V"⟩, prog_9_method_2_code, 1, none)
def m_Nu_toBits : M_t := (⟨"CanonPress$Numeral", "toBits", "()J"⟩, prog_4_method_8_code, 6, some .long)
def m_Nu_loadDigits : M_t := (⟨"CanonPress$Numeral", "loadDigits", "()V"⟩, prog_4_method_9_code, 5, none)
def m_Bi_set : M_t := (⟨"CanonPress$Big", "set", "(J)V"⟩, prog_2_method_2_code, 3, none)
def m_Bi_multiply : M_t := (⟨"CanonPress$Big", "multiply", "(II)V"⟩, prog_2_method_6_code, 6, none)
def m_Bi_timesFive : M_t := (⟨"CanonPress$Big", "timesFive", "(I)V"⟩, prog_2_method_8_code, 3, none)
def m_Nu_bitsOfFives : M_t := (⟨"CanonPress$Numeral", "bitsOfFives", "(I)I"⟩, prog_4_method_10_code, 1, some .int)
def m_Bi_bitLength : M_t := (⟨"CanonPress$Big", "bitLength", "()I"⟩, prog_2_method_4_code, 1, some .int)
def m_JIn_numberOfLeadingZeros : M_t := (⟨"java/lang/Integer", "numberOfLeadingZeros", "(I)I"⟩, prog_15_method_47_code, 2, some .int)
def m_JMa_max : M_t := (⟨"java/lang/Math", "max", "(II)I"⟩, prog_17_method_65_code, 2, some .int)
def m_Bi_shiftLeft : M_t := (⟨"CanonPress$Big", "shiftLeft", "(I)V"⟩, prog_2_method_10_code, 8, none)
def m_Bi_dropZeroLimb : M_t := (⟨"CanonPress$Big", "dropZeroLimb", "()V"⟩, prog_2_method_12_code, 1, none)
def m_Bi_overFive : M_t := (⟨"CanonPress$Big", "overFive", "(I)V"⟩, prog_2_method_9_code, 3, none)
def m_Bi_divide : M_t := (⟨"CanonPress$Big", "divide", "(I)I"⟩, prog_2_method_7_code, 5, some .int)
def m_Nu_nearest : M_t := (⟨"CanonPress$Numeral", "nearest", "(I)J"⟩, prog_4_method_11_code, 10, some .long)
def m_Bi_shiftRight : M_t := (⟨"CanonPress$Big", "shiftRight", "(I)V"⟩, prog_2_method_11_code, 7, none)
def m_Bi_low : M_t := (⟨"CanonPress$Big", "low", "()J"⟩, prog_2_method_5_code, 3, some .long)
def m_Cp_print : M_t := (⟨"CanonPress", "print", "(J)I"⟩, prog_1_method_6_code, 3, some .int)
def m_Cp_isNumber : M_t := (⟨"CanonPress", "isNumber", "(J)Z"⟩, prog_1_method_22_code, 2, some .boolean)
def m_Ou_clear : M_t := (⟨"CanonPress$Out", "clear", "()V"⟩, prog_5_method_2_code, 1, none)
def m_Pr_putShortest : M_t := (⟨"CanonPress$Printer", "putShortest", "(JLCanonPress$Out;)V"⟩, prog_7_method_2_code, 4, none)
def m_Ou_put : M_t := (⟨"CanonPress$Out", "put", "(I)V"⟩, prog_5_method_4_code, 2, none)
def m_Pr_fractionOf : M_t := (⟨"CanonPress$Printer", "fractionOf", "(J)J"⟩, prog_7_method_3_code, 2, some .long)
def m_Pr_twosOf : M_t := (⟨"CanonPress$Printer", "twosOf", "(J)I"⟩, prog_7_method_4_code, 3, some .int)
def m_Pr_findShortest : M_t := (⟨"CanonPress$Printer", "findShortest", "(JI)V"⟩, prog_7_method_5_code, 22, none)
def m_JLo_numberOfLeadingZeros : M_t := (⟨"java/lang/Long", "numberOfLeadingZeros", "(J)I"⟩, prog_16_method_48_code, 3, some .int)
def m_Pr_tensOf : M_t := (⟨"CanonPress$Printer", "tensOf", "(I)I"⟩, prog_7_method_7_code, 1, some .int)
def m_Pr_scaled : M_t := (⟨"CanonPress$Printer", "scaled", "(JII)J"⟩, prog_7_method_8_code, 5, some .long)
def m_Pr_isUpperNearer : M_t := (⟨"CanonPress$Printer", "isUpperNearer", "(JJJ)Z"⟩, prog_7_method_6_code, 9, some .boolean)
def m_Pr_keepDigits : M_t := (⟨"CanonPress$Printer", "keepDigits", "(JI)V"⟩, prog_7_method_9_code, 7, none)
def m_Pr_moveToFront : M_t := (⟨"CanonPress$Printer", "moveToFront", "(I)V"⟩, prog_7_method_10_code, 4, none)
def m_Pr_putDigits : M_t := (⟨"CanonPress$Printer", "putDigits", "(ILCanonPress$Out;)V"⟩, prog_7_method_13_code, 4, none)
def m_Pr_putPower : M_t := (⟨"CanonPress$Printer", "putPower", "(LCanonPress$Out;)V"⟩, prog_7_method_14_code, 3, none)
def m_JMa_abs : M_t := (⟨"java/lang/Math", "abs", "(I)I"⟩, prog_17_method_59_code, 1, some .int)
def m_Pr_putPlain : M_t := (⟨"CanonPress$Printer", "putPlain", "(LCanonPress$Out;)V"⟩, prog_7_method_11_code, 3, none)
def m_Pr_putZeros : M_t := (⟨"CanonPress$Printer", "putZeros", "(ILCanonPress$Out;)V"⟩, prog_7_method_12_code, 3, none)
def m_Cp_round : M_t := (⟨"CanonPress", "round", "(JI)I"⟩, prog_1_method_7_code, 4, some .int)
def m_Pr_putRounded : M_t := (⟨"CanonPress$Printer", "putRounded", "(JILCanonPress$Out;)V"⟩, prog_7_method_15_code, 5, none)
def m_Pr_findAllDigits : M_t := (⟨"CanonPress$Printer", "findAllDigits", "(JI)V"⟩, prog_7_method_16_code, 9, none)
def m_JLo_numberOfTrailingZeros : M_t := (⟨"java/lang/Long", "numberOfTrailingZeros", "(J)I"⟩, prog_16_method_49_code, 3, some .int)
def m_JIn_numberOfTrailingZeros : M_t := (⟨"java/lang/Integer", "numberOfTrailingZeros", "(I)I"⟩, prog_15_method_48_code, 2, some .int)
def m_Bi_isZero : M_t := (⟨"CanonPress$Big", "isZero", "()Z"⟩, prog_2_method_3_code, 1, some .boolean)
def m_Pr_cutTo : M_t := (⟨"CanonPress$Printer", "cutTo", "(I)V"⟩, prog_7_method_17_code, 4, none)
def m_Pr_isUpper : M_t := (⟨"CanonPress$Printer", "isUpper", "(I)Z"⟩, prog_7_method_18_code, 3, some .boolean)
def m_Cp_out : M_t := (⟨"CanonPress", "out", "(I)I"⟩, prog_1_method_8_code, 2, some .int)
def m_Cp_document : M_t := (⟨"CanonPress", "document", "(I)I"⟩, prog_1_method_9_code, 3, some .int)
def m_Cp_isShelf : M_t := (⟨"CanonPress", "isShelf", "(I)Z"⟩, prog_1_method_23_code, 1, some .boolean)
def m_Re_read : M_t := (⟨"CanonPress$Reader", "read", "(LCanonPress$Tree;)I"⟩, prog_8_method_2_code, 3, some .int)
def m_Re_begin : M_t := (⟨"CanonPress$Reader", "begin", "()V"⟩, prog_8_method_3_code, 1, none)
def m_Tr_clear : M_t := (⟨"CanonPress$Tree", "clear", "()V"⟩, prog_10_method_2_code, 1, none)
def m_Re_readRest : M_t := (⟨"CanonPress$Reader", "readRest", "(I)V"⟩, prog_8_method_13_code, 2, none)
def m_Re_wantBehindValue : M_t := (⟨"CanonPress$Reader", "wantBehindValue", "()V"⟩, prog_8_method_9_code, 1, none)
def m_Re_readWord : M_t := (⟨"CanonPress$Reader", "readWord", "(Ljava/lang/String;)V"⟩, prog_8_method_14_code, 2, none)
def m_Te_passWord : M_t := (⟨"CanonPress$Text", "passWord", "(Ljava/lang/String;)Z"⟩, prog_9_method_6_code, 3, some .boolean)
def m_JSt_length : M_t := (⟨"java/lang/String", "length", "()I"⟩, prog_18_method_54_code, 1, some .int)
def m_JSt_coder : M_t := (⟨"java/lang/String", "coder", "()B"⟩, prog_18_method_152_code, 1, some .byte)
def m_JSt_charAt : M_t := (⟨"java/lang/String", "charAt", "(I)C"⟩, prog_18_method_56_code, 2, some .char)
def m_JSt_isLatin1 : M_t := (⟨"java/lang/String", "isLatin1", "()Z"⟩, prog_18_method_154_code, 1, some .boolean)
def m_JSl_charAt : M_t := (⟨"java/lang/StringLatin1", "charAt", "([BI)C"⟩, prog_19_method_2_code, 2, some .char)
def m_JSt_checkIndex : M_t := (⟨"java/lang/String", "checkIndex", "(II)V"⟩, prog_18_method_155_code, 2, none)
def m_JPc_checkIndex : M_t := (⟨"jdk/internal/util/Preconditions", "checkIndex", "(IILjava/util/function/BiFunction;)I"⟩, prog_22_method_11_code, 3, some .int)
def m_JSu_charAt : M_t := (⟨"java/lang/StringUTF16", "charAt", "([BI)C"⟩, prog_20_method_83_code, 2, some .char)
def m_JSu_checkIndex : M_t := (⟨"java/lang/StringUTF16", "checkIndex", "(I[B)V"⟩, prog_20_method_91_code, 2, none)
def m_JSu_length : M_t := (⟨"java/lang/StringUTF16", "length", "([B)I"⟩, prog_20_method_6_code, 1, some .int)
def m_JSu_getChar : M_t := (⟨"java/lang/StringUTF16", "getChar", "([BI)C"⟩, prog_20_method_5_code, 2, some .char)
def m_Re_blame : M_t := (⟨"CanonPress$Reader", "blame", "(II)V"⟩, prog_8_method_4_code, 3, none)
def m_Re_readNumber : M_t := (⟨"CanonPress$Reader", "readNumber", "(I)V"⟩, prog_8_method_15_code, 3, none)
def m_Re_readString : M_t := (⟨"CanonPress$Reader", "readString", "()V"⟩, prog_8_method_18_code, 4, none)
def m_Re_readEscape : M_t := (⟨"CanonPress$Reader", "readEscape", "()I"⟩, prog_8_method_19_code, 2, some .int)
def m_Re_readShortEscape : M_t := (⟨"CanonPress$Reader", "readShortEscape", "(I)I"⟩, prog_8_method_20_code, 3, some .int)
def m_JSt_indexOf : M_t := (⟨"java/lang/String", "indexOf", "(I)I"⟩, prog_18_method_79_code, 2, some .int)
def m_JSt_indexOf_II : M_t := (⟨"java/lang/String", "indexOf", "(II)I"⟩, prog_18_method_80_code, 3, some .int)
def m_JSl_indexOf : M_t := (⟨"java/lang/StringLatin1", "indexOf", "([BIII)I"⟩, prog_19_method_22_code, 4, some .int)
def m_JSl_canEncode : M_t := (⟨"java/lang/StringLatin1", "canEncode", "(I)Z"⟩, prog_19_method_4_code, 1, some .boolean)
def m_JSl_indexOfChar : M_t := (⟨"java/lang/StringLatin1", "indexOfChar", "([BIII)I"⟩, prog_19_method_23_code, 6, some .int)
def m_JSu_indexOf : M_t := (⟨"java/lang/StringUTF16", "indexOf", "([BIII)I"⟩, prog_20_method_40_code, 4, some .int)
def m_JSu_indexOfChar : M_t := (⟨"java/lang/StringUTF16", "indexOfChar", "([BIII)I"⟩, prog_20_method_47_code, 4, some .int)
def m_JSu_checkBoundsBeginEnd : M_t := (⟨"java/lang/StringUTF16", "checkBoundsBeginEnd", "(II[B)V"⟩, prog_20_method_93_code, 3, none)
def m_JSt_checkBoundsBeginEnd : M_t := (⟨"java/lang/String", "checkBoundsBeginEnd", "(III)V"⟩, prog_18_method_158_code, 3, none)
def m_JPc_checkFromToIndex : M_t := (⟨"jdk/internal/util/Preconditions", "checkFromToIndex", "(IIILjava/util/function/BiFunction;)I"⟩, prog_22_method_12_code, 4, some .int)
def m_JSu_indexOfCharUnsafe : M_t := (⟨"java/lang/StringUTF16", "indexOfCharUnsafe", "([BIII)I"⟩, prog_20_method_48_code, 5, some .int)
def m_JSu_indexOfSupplementary : M_t := (⟨"java/lang/StringUTF16", "indexOfSupplementary", "([BIII)I"⟩, prog_20_method_49_code, 7, some .int)
def m_JCh_isValidCodePoint : M_t := (⟨"java/lang/Character", "isValidCodePoint", "(I)Z"⟩, prog_14_method_11_code, 2, some .boolean)
def m_JCh_highSurrogate : M_t := (⟨"java/lang/Character", "highSurrogate", "(I)C"⟩, prog_14_method_28_code, 1, some .char)
def m_JCh_lowSurrogate : M_t := (⟨"java/lang/Character", "lowSurrogate", "(I)C"⟩, prog_14_method_29_code, 1, some .char)
def m_Re_readUnit : M_t := (⟨"CanonPress$Reader", "readUnit", "()I"⟩, prog_8_method_22_code, 4, some .int)
def m_Re_hexadecimal : M_t := (⟨"CanonPress$Reader", "hexadecimal", "(I)I"⟩, prog_8_method_23_code, 1, some .int)
def m_Re_joined : M_t := (⟨"CanonPress$Reader", "joined", "(II)I"⟩, prog_8_method_21_code, 3, some .int)
def m_Te_nextCharacter : M_t := (⟨"CanonPress$Text", "nextCharacter", "()I"⟩, prog_9_method_9_code, 8, some .int)
def m_Te_bytesBehind : M_t := (⟨"CanonPress$Text", "bytesBehind", "(I)I"⟩, prog_9_method_10_code, 1, some .int)
def m_Tr_addCharacter : M_t := (⟨"CanonPress$Tree", "addCharacter", "(I)V"⟩, prog_10_method_4_code, 3, none)
def m_Te_skipBlanks : M_t := (⟨"CanonPress$Text", "skipBlanks", "()V"⟩, prog_9_method_7_code, 1, none)
def m_Te_isBlank : M_t := (⟨"CanonPress$Text", "isBlank", "(I)Z"⟩, prog_9_method_8_code, 1, some .boolean)
def m_Re_readNext : M_t := (⟨"CanonPress$Reader", "readNext", "(I)V"⟩, prog_8_method_5_code, 2, none)
def m_Re_close : M_t := (⟨"CanonPress$Reader", "close", "()V"⟩, prog_8_method_8_code, 1, none)
def m_Re_kindBegunBy : M_t := (⟨"CanonPress$Reader", "kindBegunBy", "(I)I"⟩, prog_8_method_10_code, 1, some .int)
def m_Re_readValue : M_t := (⟨"CanonPress$Reader", "readValue", "(I)V"⟩, prog_8_method_11_code, 4, none)
def m_Tr_add : M_t := (⟨"CanonPress$Tree", "add", "(II)I"⟩, prog_10_method_3_code, 5, some .int)
def m_Re_link : M_t := (⟨"CanonPress$Reader", "link", "(I)V"⟩, prog_8_method_12_code, 3, none)
def m_Re_isInObject : M_t := (⟨"CanonPress$Reader", "isInObject", "()Z"⟩, prog_8_method_6_code, 1, some .boolean)
def m_Re_readName : M_t := (⟨"CanonPress$Reader", "readName", "(I)V"⟩, prog_8_method_16_code, 3, none)
def m_Re_findPartAhead : M_t := (⟨"CanonPress$Reader", "findPartAhead", "()Z"⟩, prog_8_method_17_code, 4, some .boolean)
def m_Tr_compareWithName : M_t := (⟨"CanonPress$Tree", "compareWithName", "(IILCanonPress$Tree;I)I"⟩, prog_10_method_13_code, 10, some .int)
def m_Tr_rank : M_t := (⟨"CanonPress$Tree", "rank", "(I)I"⟩, prog_10_method_15_code, 1, some .int)
def m_JIn_compare : M_t := (⟨"java/lang/Integer", "compare", "(II)I"⟩, prog_15_method_40_code, 2, some .int)
def m_Re_readSeparator : M_t := (⟨"CanonPress$Reader", "readSeparator", "(I)V"⟩, prog_8_method_7_code, 3, none)
def m_Re_arrange : M_t := (⟨"CanonPress$Reader", "arrange", "(LCanonPress$Tree;)V"⟩, prog_8_method_24_code, 5, none)
def m_Tr_addLike : M_t := (⟨"CanonPress$Tree", "addLike", "(LCanonPress$Tree;II)I"⟩, prog_10_method_6_code, 5, some .int)
def m_Tr_addNamed : M_t := (⟨"CanonPress$Tree", "addNamed", "(ILCanonPress$Tree;II)I"⟩, prog_10_method_5_code, 6, some .int)
def m_Tr_isNamed : M_t := (⟨"CanonPress$Tree", "isNamed", "(I)Z"⟩, prog_10_method_10_code, 2, some .boolean)
def m_Tr_addCharacters : M_t := (⟨"CanonPress$Tree", "addCharacters", "(LCanonPress$Tree;II)V"⟩, prog_10_method_7_code, 6, none)
def m_Re_following : M_t := (⟨"CanonPress$Reader", "following", "(I)I"⟩, prog_8_method_25_code, 4, some .int)
def m_Tr_measure : M_t := (⟨"CanonPress$Tree", "measure", "()V"⟩, prog_10_method_9_code, 2, none)
def m_Cp_bringSpareTo : M_t := (⟨"CanonPress", "bringSpareTo", "(I)V"⟩, prog_1_method_27_code, 3, none)
def m_Cp_place : M_t := (⟨"CanonPress", "place", "()I"⟩, prog_1_method_10_code, 1, some .int)
def m_Cp_form : M_t := (⟨"CanonPress", "form", "(II)I"⟩, prog_1_method_11_code, 3, some .int)
def m_Cp_hasValue : M_t := (⟨"CanonPress", "hasValue", "(II)Z"⟩, prog_1_method_25_code, 3, some .boolean)
def m_Fo_write : M_t := (⟨"CanonPress$Former", "write", "(LCanonPress$Tree;ILCanonPress$Out;)V"⟩, prog_3_method_2_code, 7, none)
def m_Fo_closeUpTo : M_t := (⟨"CanonPress$Former", "closeUpTo", "(LCanonPress$Tree;IILCanonPress$Out;)I"⟩, prog_3_method_3_code, 6, some .int)
def m_Fo_writeAhead : M_t := (⟨"CanonPress$Former", "writeAhead", "(LCanonPress$Tree;ILCanonPress$Out;)V"⟩, prog_3_method_4_code, 3, none)
def m_Fo_writeString : M_t := (⟨"CanonPress$Former", "writeString", "(LCanonPress$Tree;IILCanonPress$Out;)V"⟩, prog_3_method_6_code, 6, none)
def m_Fo_writeCharacter : M_t := (⟨"CanonPress$Former", "writeCharacter", "(ILCanonPress$Out;)V"⟩, prog_3_method_7_code, 2, none)
def m_Ou_putCharacter : M_t := (⟨"CanonPress$Out", "putCharacter", "(I)V"⟩, prog_5_method_6_code, 2, none)
def m_Fo_writeEscape : M_t := (⟨"CanonPress$Former", "writeEscape", "(ILCanonPress$Out;)V"⟩, prog_3_method_8_code, 3, none)
def m_Fo_writeBeginning : M_t := (⟨"CanonPress$Former", "writeBeginning", "(LCanonPress$Tree;ILCanonPress$Out;)V"⟩, prog_3_method_5_code, 3, none)
def m_Ou_putWord : M_t := (⟨"CanonPress$Out", "putWord", "(Ljava/lang/String;)V"⟩, prog_5_method_5_code, 3, none)
def m_Cp_value : M_t := (⟨"CanonPress", "value", "(III)I"⟩, prog_1_method_12_code, 5, some .int)
def m_Cp_bits : M_t := (⟨"CanonPress", "bits", "(II)J"⟩, prog_1_method_13_code, 3, some .long)
def m_Cp_character : M_t := (⟨"CanonPress", "character", "(IIII)I"⟩, prog_1_method_14_code, 6, some .int)
def m_Tr_nameCharacter : M_t := (⟨"CanonPress$Tree", "nameCharacter", "(II)I"⟩, prog_10_method_11_code, 4, some .int)
def m_Tr_textCharacter : M_t := (⟨"CanonPress$Tree", "textCharacter", "(II)I"⟩, prog_10_method_12_code, 4, some .int)
def m_Cp_point : M_t := (⟨"CanonPress", "point", "(I)I"⟩, prog_1_method_15_code, 3, some .int)
def m_Po_decode : M_t := (⟨"CanonPress$Pointer", "decode", "(LCanonPress$Text;)Z"⟩, prog_6_method_2_code, 4, some .boolean)
def m_Po_nextMark : M_t := (⟨"CanonPress$Pointer", "nextMark", "(LCanonPress$Text;)I"⟩, prog_6_method_3_code, 1, some .int)
def m_Cp_hasDocument : M_t := (⟨"CanonPress", "hasDocument", "(I)Z"⟩, prog_1_method_24_code, 2, some .boolean)
def m_Po_find : M_t := (⟨"CanonPress$Pointer", "find", "(LCanonPress$Tree;)I"⟩, prog_6_method_4_code, 6, some .int)
def m_Po_endOfToken : M_t := (⟨"CanonPress$Pointer", "endOfToken", "(I)I"⟩, prog_6_method_5_code, 3, some .int)
def m_Po_findPart : M_t := (⟨"CanonPress$Pointer", "findPart", "(LCanonPress$Tree;III)I"⟩, prog_6_method_6_code, 9, some .int)
def m_Po_index : M_t := (⟨"CanonPress$Pointer", "index", "(II)I"⟩, prog_6_method_8_code, 6, some .int)
def m_Po_isName : M_t := (⟨"CanonPress$Pointer", "isName", "(LCanonPress$Tree;III)Z"⟩, prog_6_method_7_code, 6, some .boolean)
def m_Cp_same : M_t := (⟨"CanonPress", "same", "(IIII)I"⟩, prog_1_method_16_code, 5, some .int)
def m_Tr_isAlike : M_t := (⟨"CanonPress$Tree", "isAlike", "(ILCanonPress$Tree;I)Z"⟩, prog_10_method_16_code, 6, some .boolean)
def m_Tr_isAlikeAlone : M_t := (⟨"CanonPress$Tree", "isAlikeAlone", "(ILCanonPress$Tree;I)Z"⟩, prog_10_method_18_code, 5, some .boolean)
def m_Tr_hasSameCharacters : M_t := (⟨"CanonPress$Tree", "hasSameCharacters", "(IILCanonPress$Tree;I)Z"⟩, prog_10_method_19_code, 6, some .boolean)
def m_Tr_hasSameName : M_t := (⟨"CanonPress$Tree", "hasSameName", "(ILCanonPress$Tree;I)Z"⟩, prog_10_method_17_code, 4, some .boolean)
def m_Cp_merge : M_t := (⟨"CanonPress", "merge", "(III)I"⟩, prog_1_method_17_code, 4, some .int)
def m_We_make : M_t := (⟨"CanonPress$Weaver", "make", "(LCanonPress$Tree;LCanonPress$Tree;LCanonPress$Tree;Z)V"⟩, prog_11_method_2_code, 5, none)
def m_We_weave : M_t := (⟨"CanonPress$Weaver", "weave", "(IIII)V"⟩, prog_11_method_3_code, 13, none)
def m_Tr_addWhole : M_t := (⟨"CanonPress$Tree", "addWhole", "(LCanonPress$Tree;II)V"⟩, prog_10_method_8_code, 7, none)
def m_We_hasNullPart : M_t := (⟨"CanonPress$Weaver", "hasNullPart", "(I)Z"⟩, prog_11_method_5_code, 5, some .boolean)
def m_Tr_compareNames : M_t := (⟨"CanonPress$Tree", "compareNames", "(ILCanonPress$Tree;I)I"⟩, prog_10_method_14_code, 4, some .int)
def m_We_isWanted : M_t := (⟨"CanonPress$Weaver", "isWanted", "(II)Z"⟩, prog_11_method_4_code, 3, some .boolean)
def m_Cp_bringIfItFits : M_t := (⟨"CanonPress", "bringIfItFits", "(I)I"⟩, prog_1_method_26_code, 2, some .int)
def m_Cp_patch : M_t := (⟨"CanonPress", "patch", "(III)I"⟩, prog_1_method_18_code, 4, some .int)
def m_Cp_part : M_t := (⟨"CanonPress", "part", "(III)I"⟩, prog_1_method_19_code, 4, some .int)
def m_Cp_about : M_t := (⟨"CanonPress", "about", "(I)I"⟩, prog_1_method_20_code, 2, some .int)
def m_Cp_countDocuments : M_t := (⟨"CanonPress", "countDocuments", "()I"⟩, prog_1_method_21_code, 3, some .int)
def m_Mo_init : M_t := (⟨"CanonPressModel", "<init>", "()V"⟩, prog_13_method_1_code, 1, none)
def m_Mo_feed : M_t := (⟨"CanonPressModel", "feed", "(IIIII)I"⟩, prog_13_method_2_code, 6, some .int)
def m_Mo_four : M_t := (⟨"CanonPressModel", "four", "(I)V"⟩, prog_13_method_3_code, 3, none)
def m_Mo_end : M_t := (⟨"CanonPressModel", "end", "(I)I"⟩, prog_13_method_4_code, 2, some .int)
def m_Mo_take : M_t := (⟨"CanonPressModel", "take", "()I"⟩, prog_13_method_5_code, 2, some .int)
def m_Mo_out : M_t := (⟨"CanonPressModel", "out", "(I)I"⟩, prog_13_method_6_code, 2, some .int)
def m_Mo_numeral : M_t := (⟨"CanonPressModel", "numeral", "()J"⟩, prog_13_method_19_code, 2, some .long)
def m_Mo_takeNumeral : M_t := (⟨"CanonPressModel", "takeNumeral", "(I)Z"⟩, prog_13_method_18_code, 6, some .boolean)
def m_Mo_here : M_t := (⟨"CanonPressModel", "here", "(I)I"⟩, prog_13_method_17_code, 2, some .int)
def m_Mo_isDigit : M_t := (⟨"CanonPressModel", "isDigit", "(I)Z"⟩, prog_13_method_16_code, 1, some .boolean)
def m_Mo_nearest : M_t := (⟨"CanonPressModel", "nearest", "()J"⟩, prog_13_method_14_code, 5, some .long)
def m_Mo_trim : M_t := (⟨"CanonPressModel", "trim", "()V"⟩, prog_13_method_9_code, 1, none)
def m_Mo_halved : M_t := (⟨"CanonPressModel", "halved", "(I)V"⟩, prog_13_method_11_code, 11, none)
def m_Mo_doubled : M_t := (⟨"CanonPressModel", "doubled", "(I)V"⟩, prog_13_method_10_code, 7, none)
def m_Mo_halvedBy : M_t := (⟨"CanonPressModel", "halvedBy", "(I)V"⟩, prog_13_method_13_code, 4, none)
def m_Mo_doubledBy : M_t := (⟨"CanonPressModel", "doubledBy", "(I)V"⟩, prog_13_method_12_code, 4, none)
def m_Mo_print : M_t := (⟨"CanonPressModel", "print", "(J)I"⟩, prog_13_method_28_code, 4, some .int)
def m_Mo_isNumber : M_t := (⟨"CanonPressModel", "isNumber", "(J)Z"⟩, prog_13_method_20_code, 2, some .boolean)
def m_Mo_spell : M_t := (⟨"CanonPressModel", "spell", "(J)V"⟩, prog_13_method_27_code, 6, none)
def m_Mo_printing : M_t := (⟨"CanonPressModel", "printing", "(I)V"⟩, prog_13_method_25_code, 2, none)
def m_Mo_shortest : M_t := (⟨"CanonPressModel", "shortest", "(J)V"⟩, prog_13_method_24_code, 9, none)
def m_Mo_keepExact : M_t := (⟨"CanonPressModel", "keepExact", "(J)V"⟩, prog_13_method_21_code, 4, none)
def m_Mo_exactly : M_t := (⟨"CanonPressModel", "exactly", "(J)V"⟩, prog_13_method_15_code, 10, none)
def m_Mo_reads : M_t := (⟨"CanonPressModel", "reads", "(IZJ)Z"⟩, prog_13_method_23_code, 6, some .boolean)
def m_Mo_take_IZ : M_t := (⟨"CanonPressModel", "take", "(IZ)V"⟩, prog_13_method_22_code, 4, none)
def m_Mo_printNumber : M_t := (⟨"CanonPressModel", "printNumber", "(I)V"⟩, prog_13_method_26_code, 2, none)
def m_Mo_clearOut : M_t := (⟨"CanonPressModel", "clearOut", "()V"⟩, prog_13_method_7_code, 1, none)
def m_Mo_put : M_t := (⟨"CanonPressModel", "put", "(I)V"⟩, prog_13_method_8_code, 2, none)
def m_Mo_round : M_t := (⟨"CanonPressModel", "round", "(JI)I"⟩, prog_13_method_29_code, 8, some .int)
def m_Mo_document : M_t := (⟨"CanonPressModel", "document", "(I)I"⟩, prog_13_method_58_code, 3, some .int)
def m_Mo_isShelf : M_t := (⟨"CanonPressModel", "isShelf", "(I)Z"⟩, prog_13_method_30_code, 1, some .boolean)
def m_Mo_readAll : M_t := (⟨"CanonPressModel", "readAll", "(I)Z"⟩, prog_13_method_54_code, 11, some .boolean)
def m_Mo_blanks : M_t := (⟨"CanonPressModel", "blanks", "(I)V"⟩, prog_13_method_42_code, 2, none)
def m_Mo_wrong : M_t := (⟨"CanonPressModel", "wrong", "(II)Z"⟩, prog_13_method_41_code, 3, some .boolean)
def m_Mo_takeString : M_t := (⟨"CanonPressModel", "takeString", "(I)Z"⟩, prog_13_method_48_code, 4, some .boolean)
def m_Mo_takeEscape : M_t := (⟨"CanonPressModel", "takeEscape", "(I)Z"⟩, prog_13_method_47_code, 5, some .boolean)
def m_Mo_keep : M_t := (⟨"CanonPressModel", "keep", "(I)V"⟩, prog_13_method_44_code, 2, none)
def m_Mo_takeFour : M_t := (⟨"CanonPressModel", "takeFour", "(I)Z"⟩, prog_13_method_46_code, 4, some .boolean)
def m_Mo_hex : M_t := (⟨"CanonPressModel", "hex", "(I)I"⟩, prog_13_method_43_code, 1, some .int)
def m_Mo_takeWide : M_t := (⟨"CanonPressModel", "takeWide", "(I)Z"⟩, prog_13_method_45_code, 9, some .boolean)
def m_Mo_isNamed : M_t := (⟨"CanonPressModel", "isNamed", "(III)Z"⟩, prog_13_method_53_code, 5, some .boolean)
def m_Mo_compared : M_t := (⟨"CanonPressModel", "compared", "([III[III)I"⟩, prog_13_method_33_code, 9, some .int)
def m_Mo_unit : M_t := (⟨"CanonPressModel", "unit", "(I)I"⟩, prog_13_method_32_code, 1, some .int)
def m_Mo_kindAt : M_t := (⟨"CanonPressModel", "kindAt", "(I)I"⟩, prog_13_method_52_code, 1, some .int)
def m_Mo_begin : M_t := (⟨"CanonPressModel", "begin", "(II)I"⟩, prog_13_method_50_code, 4, some .int)
def m_Mo_takePlain : M_t := (⟨"CanonPressModel", "takePlain", "(II)Z"⟩, prog_13_method_51_code, 5, some .boolean)
def m_Mo_takeWord : M_t := (⟨"CanonPressModel", "takeWord", "(III)Z"⟩, prog_13_method_49_code, 5, some .boolean)
def m_Mo_makeRead : M_t := (⟨"CanonPressModel", "makeRead", "()V"⟩, prog_13_method_56_code, 5, none)
def m_Mo_beginMade : M_t := (⟨"CanonPressModel", "beginMade", "()V"⟩, prog_13_method_35_code, 1, none)
def m_Mo_makeNamed : M_t := (⟨"CanonPressModel", "makeNamed", "(III)V"⟩, prog_13_method_57_code, 6, none)
def m_Mo_make : M_t := (⟨"CanonPressModel", "make", "(IIIII)V"⟩, prog_13_method_36_code, 9, none)
def m_Mo_lay : M_t := (⟨"CanonPressModel", "lay", "(I)V"⟩, prog_13_method_37_code, 2, none)
def m_Mo_bytesOf : M_t := (⟨"CanonPressModel", "bytesOf", "(I)I"⟩, prog_13_method_34_code, 1, some .int)
def m_Mo_order : M_t := (⟨"CanonPressModel", "order", "(I)V"⟩, prog_13_method_55_code, 5, none)
def m_Mo_shelve : M_t := (⟨"CanonPressModel", "shelve", "(I)V"⟩, prog_13_method_40_code, 5, none)
def m_Mo_place : M_t := (⟨"CanonPressModel", "place", "()I"⟩, prog_13_method_59_code, 1, some .int)
def m_Mo_form : M_t := (⟨"CanonPressModel", "form", "(II)I"⟩, prog_13_method_65_code, 7, some .int)
def m_Mo_has : M_t := (⟨"CanonPressModel", "has", "(II)Z"⟩, prog_13_method_31_code, 3, some .boolean)
def m_Mo_putString : M_t := (⟨"CanonPressModel", "putString", "(II)V"⟩, prog_13_method_62_code, 6, none)
def m_Mo_digitOf : M_t := (⟨"CanonPressModel", "digitOf", "(I)I"⟩, prog_13_method_61_code, 1, some .int)
def m_Mo_putWide : M_t := (⟨"CanonPressModel", "putWide", "(I)V"⟩, prog_13_method_60_code, 2, none)
def m_Mo_putPlain : M_t := (⟨"CanonPressModel", "putPlain", "(II)V"⟩, prog_13_method_64_code, 4, none)
def m_Mo_putWord : M_t := (⟨"CanonPressModel", "putWord", "(II)V"⟩, prog_13_method_63_code, 4, none)
def m_Mo_value : M_t := (⟨"CanonPressModel", "value", "(III)I"⟩, prog_13_method_66_code, 5, some .int)
def m_Mo_bits : M_t := (⟨"CanonPressModel", "bits", "(II)J"⟩, prog_13_method_67_code, 3, some .long)
def m_Mo_character : M_t := (⟨"CanonPressModel", "character", "(IIII)I"⟩, prog_13_method_68_code, 7, some .int)
def m_Mo_point : M_t := (⟨"CanonPressModel", "point", "(I)I"⟩, prog_13_method_71_code, 5, some .int)
def m_Mo_readPointer : M_t := (⟨"CanonPressModel", "readPointer", "(I)Z"⟩, prog_13_method_69_code, 3, some .boolean)
def m_Mo_partOf : M_t := (⟨"CanonPressModel", "partOf", "(III)I"⟩, prog_13_method_70_code, 10, some .int)
def m_Mo_same : M_t := (⟨"CanonPressModel", "same", "(IIII)I"⟩, prog_13_method_75_code, 5, some .int)
def m_Mo_isSame : M_t := (⟨"CanonPressModel", "isSame", "(IIII)Z"⟩, prog_13_method_74_code, 8, some .boolean)
def m_Mo_isLike : M_t := (⟨"CanonPressModel", "isLike", "(IIII)Z"⟩, prog_13_method_73_code, 8, some .boolean)
def m_Mo_namedLike : M_t := (⟨"CanonPressModel", "namedLike", "(IIII)I"⟩, prog_13_method_72_code, 5, some .int)
def m_Mo_merge : M_t := (⟨"CanonPressModel", "merge", "(III)I"⟩, prog_13_method_81_code, 8, some .int)
def m_Mo_isObject : M_t := (⟨"CanonPressModel", "isObject", "(II)Z"⟩, prog_13_method_76_code, 3, some .boolean)
def m_Mo_copy : M_t := (⟨"CanonPressModel", "copy", "(IIIZ)V"⟩, prog_13_method_39_code, 9, none)
def m_Mo_makeLike : M_t := (⟨"CanonPressModel", "makeLike", "(IIIIII)V"⟩, prog_13_method_38_code, 10, none)
def m_Mo_named : M_t := (⟨"CanonPressModel", "named", "(IIIIZ)V"⟩, prog_13_method_80_code, 7, none)
def m_Mo_openPair : M_t := (⟨"CanonPressModel", "openPair", "(IIIII)V"⟩, prog_13_method_78_code, 6, none)
def m_Mo_firstOf : M_t := (⟨"CanonPressModel", "firstOf", "(III)I"⟩, prog_13_method_79_code, 4, some .int)
def m_Mo_nextOf : M_t := (⟨"CanonPressModel", "nextOf", "(II)I"⟩, prog_13_method_77_code, 3, some .int)
def m_Mo_patch : M_t := (⟨"CanonPressModel", "patch", "(III)I"⟩, prog_13_method_83_code, 9, some .int)
def m_Mo_hasNull : M_t := (⟨"CanonPressModel", "hasNull", "(II)Z"⟩, prog_13_method_82_code, 6, some .boolean)
def m_Mo_part : M_t := (⟨"CanonPressModel", "part", "(III)I"⟩, prog_13_method_84_code, 4, some .int)
def m_Mo_about : M_t := (⟨"CanonPressModel", "about", "(I)I"⟩, prog_13_method_85_code, 4, some .int)
