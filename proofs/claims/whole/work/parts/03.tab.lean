/-! ===== tables of the claim, written by program: classes, fields, the cells of the two objects, links ===== -/
def RHo : String := "SixBeds$House"
def THo : u_T := fun k => match k with
  | 0 => ("SixBeds$House", "kinds", "[I", true)
  | 1 => ("SixBeds$House", "needs", "[I", true)
  | 2 => ("SixBeds$House", "works", "[I", true)
  | 3 => ("SixBeds$House", "row", "[I", true)
  | 4 => ("SixBeds$House", "count", "I", false)
  | 5 => ("SixBeds$House", "beds", "I", false)
  | 6 => ("SixBeds$House", "lasts", "I", false)
  | 7 => ("SixBeds$House", "rowTold", "Z", false)
  | 8 => ("SixBeds$House", "age", "I", false)
  | _ => ("SixBeds$House", "ageOfLodgers", "I", false)
def yHo : Nat → FieldType := fun k => match k with
  | 0 => .array .int
  | 1 => .array .int
  | 2 => .array .int
  | 3 => .array .int
  | 4 => .int
  | 5 => .int
  | 6 => .int
  | 7 => .boolean
  | 8 => .int
  | _ => .int
def RMa : String := "SixBeds$Market"
def TMa : u_T := fun k => match k with
  | 0 => ("SixBeds$Market", "house", "LSixBeds$House;", true)
  | 1 => ("SixBeds$Market", "stays", "LSixBeds$Stays;", true)
  | 2 => ("SixBeds$Market", "costs", "[J", true)
  | 3 => ("SixBeds$Market", "rents", "[I", true)
  | 4 => ("SixBeds$Market", "leastSum", "I", false)
  | 5 => ("SixBeds$Market", "leastStand", "Z", false)
  | _ => ("SixBeds$Market", "age", "I", false)
def yMa : Nat → FieldType := fun k => match k with
  | 0 => .object "SixBeds$House"
  | 1 => .object "SixBeds$Stays"
  | 2 => .array .long
  | 3 => .array .int
  | 4 => .int
  | 5 => .boolean
  | _ => .int
def RNi : String := "SixBeds$Night"
def TNi : u_T := fun k => match k with
  | 0 => ("SixBeds$Night", "house", "LSixBeds$House;", true)
  | 1 => ("SixBeds$Night", "bedsOf", "[I", true)
  | 2 => ("SixBeds$Night", "downWho", "[I", true)
  | 3 => ("SixBeds$Night", "downBed", "[I", true)
  | 4 => ("SixBeds$Night", "downs", "I", false)
  | 5 => ("SixBeds$Night", "age", "I", false)
  | 6 => ("SixBeds$Night", "layLast", "[I", true)
  | _ => ("SixBeds$Night", "gotOn", "[I", true)
def yNi : Nat → FieldType := fun k => match k with
  | 0 => .object "SixBeds$House"
  | 1 => .array .int
  | 2 => .array .int
  | 3 => .array .int
  | 4 => .int
  | 5 => .int
  | 6 => .array .int
  | _ => .array .int
def RSe : String := "SixBeds$Search"
def TSe : u_T := fun k => match k with
  | 0 => ("SixBeds$Search", "house", "LSixBeds$House;", true)
  | 1 => ("SixBeds$Search", "stays", "LSixBeds$Stays;", true)
  | 2 => ("SixBeds$Search", "open", "[I", true)
  | 3 => ("SixBeds$Search", "order", "[I", true)
  | 4 => ("SixBeds$Search", "haste", "[I", true)
  | 5 => ("SixBeds$Search", "sureChanges", "[I", true)
  | 6 => ("SixBeds$Search", "found", "[I", true)
  | 7 => ("SixBeds$Search", "firstRow", "[I", true)
  | 8 => ("SixBeds$Search", "firstStands", "Z", false)
  | 9 => ("SixBeds$Search", "firstAge", "I", false)
  | 10 => ("SixBeds$Search", "mendedRow", "[I", true)
  | 11 => ("SixBeds$Search", "mendedChanges", "I", false)
  | 12 => ("SixBeds$Search", "mendedStands", "Z", false)
  | _ => ("SixBeds$Search", "mendedAge", "I", false)
def ySe : Nat → FieldType := fun k => match k with
  | 0 => .object "SixBeds$House"
  | 1 => .object "SixBeds$Stays"
  | 2 => .array .int
  | 3 => .array .int
  | 4 => .array .int
  | 5 => .array .int
  | 6 => .array .int
  | 7 => .array .int
  | 8 => .boolean
  | 9 => .int
  | 10 => .array .int
  | 11 => .int
  | 12 => .boolean
  | _ => .int
def RSh : String := "SixBeds$Sheet"
def TSh : u_T := fun k => match k with
  | 0 => ("SixBeds$Sheet", "items", "[J", true)
  | 1 => ("SixBeds$Sheet", "missing", "Z", false)
  | 2 => ("SixBeds$Sheet", "lane", "I", false)
  | _ => ("SixBeds$Sheet", "size", "I", false)
def ySh : Nat → FieldType := fun k => match k with
  | 0 => .array .long
  | 1 => .boolean
  | 2 => .int
  | _ => .int
def RSt : String := "SixBeds$Stays"
def TSt : u_T := fun k => match k with
  | 0 => ("SixBeds$Stays", "house", "LSixBeds$House;", true)
  | 1 => ("SixBeds$Stays", "mays", "[I", true)
  | 2 => ("SixBeds$Stays", "loads", "[J", true)
  | 3 => ("SixBeds$Stays", "marks", "[J", true)
  | _ => ("SixBeds$Stays", "clashes", "[J", true)
def ySt : Nat → FieldType := fun k => match k with
  | 0 => .object "SixBeds$House"
  | 1 => .array .int
  | 2 => .array .long
  | 3 => .array .long
  | _ => .array .long
def RTa : String := "SixBeds$Tape"
def TTa : u_T := fun k => match k with
  | 0 => ("SixBeds$Tape", "bytes", "[I", true)
  | 1 => ("SixBeds$Tape", "length", "I", false)
  | 2 => ("SixBeds$Tape", "place", "I", false)
  | 3 => ("SixBeds$Tape", "found", "I", false)
  | 4 => ("SixBeds$Tape", "kinds", "[I", true)
  | 5 => ("SixBeds$Tape", "needs", "[I", true)
  | _ => ("SixBeds$Tape", "works", "[I", true)
def yTa : Nat → FieldType := fun k => match k with
  | 0 => .array .int
  | 1 => .int
  | 2 => .int
  | 3 => .int
  | 4 => .array .int
  | 5 => .array .int
  | _ => .array .int
def RSb : String := "SixBeds"
def TSb : u_T := fun k => match k with
  | 0 => ("SixBeds", "house", "LSixBeds$House;", true)
  | 1 => ("SixBeds", "kept", "LSixBeds$House;", true)
  | 2 => ("SixBeds", "imaged", "Z", false)
  | 3 => ("SixBeds", "stays", "LSixBeds$Stays;", true)
  | 4 => ("SixBeds", "search", "LSixBeds$Search;", true)
  | 5 => ("SixBeds", "market", "LSixBeds$Market;", true)
  | 6 => ("SixBeds", "night", "LSixBeds$Night;", true)
  | 7 => ("SixBeds", "tape", "LSixBeds$Tape;", true)
  | 8 => ("SixBeds", "sheets", "[LSixBeds$Sheet;", true)
  | _ => ("SixBeds", "taken", "[I", true)
def ySb : Nat → FieldType := fun k => match k with
  | 0 => .object "SixBeds$House"
  | 1 => .object "SixBeds$House"
  | 2 => .boolean
  | 3 => .object "SixBeds$Stays"
  | 4 => .object "SixBeds$Search"
  | 5 => .object "SixBeds$Market"
  | 6 => .object "SixBeds$Night"
  | 7 => .object "SixBeds$Tape"
  | 8 => .array (.object "SixBeds$Sheet")
  | _ => .array .int
def RMo : String := "SixBedsModel"
def TMo : u_T := fun k => match k with
  | 0 => ("SixBedsModel", "lodgers", "I", false)
  | 1 => ("SixBedsModel", "kinds", "[I", true)
  | 2 => ("SixBedsModel", "needs", "[I", true)
  | 3 => ("SixBedsModel", "works", "[I", true)
  | 4 => ("SixBedsModel", "row", "[I", true)
  | 5 => ("SixBedsModel", "isRow", "Z", false)
  | 6 => ("SixBedsModel", "beds", "I", false)
  | 7 => ("SixBedsModel", "lasts", "I", false)
  | 8 => ("SixBedsModel", "tried", "[I", true)
  | 9 => ("SixBedsModel", "rents", "[I", true)
  | 10 => ("SixBedsModel", "lies", "[I", true)
  | 11 => ("SixBedsModel", "lastIn", "[I", true)
  | 12 => ("SixBedsModel", "got", "[I", true)
  | 13 => ("SixBedsModel", "tape", "[I", true)
  | 14 => ("SixBedsModel", "taped", "I", false)
  | 15 => ("SixBedsModel", "at", "I", false)
  | 16 => ("SixBedsModel", "wrong", "Z", false)
  | 17 => ("SixBedsModel", "read", "[I", true)
  | 18 => ("SixBedsModel", "image", "[I", true)
  | 19 => ("SixBedsModel", "isImage", "Z", false)
  | 20 => ("SixBedsModel", "lanes", "[I", true)
  | 21 => ("SixBedsModel", "sizes", "[I", true)
  | 22 => ("SixBedsModel", "items", "[J", true)
  | _ => ("SixBedsModel", "moved", "[J", true)
def yMo : Nat → FieldType := fun k => match k with
  | 0 => .int
  | 1 => .array .int
  | 2 => .array .int
  | 3 => .array .int
  | 4 => .array .int
  | 5 => .boolean
  | 6 => .int
  | 7 => .int
  | 8 => .array .int
  | 9 => .array .int
  | 10 => .array .int
  | 11 => .array .int
  | 12 => .array .int
  | 13 => .array .int
  | 14 => .int
  | 15 => .int
  | 16 => .boolean
  | 17 => .array .int
  | 18 => .array .int
  | 19 => .boolean
  | 20 => .array .int
  | 21 => .array .int
  | 22 => .array .long
  | _ => .array .long
abbrev vwCl : List vw_C := [(RHo, THo, 10), (RMa, TMa, 7), (RNi, TNi, 8), (RSe, TSe, 14), (RSh, TSh, 4), (RSt, TSt, 5), (RTa, TTa, 7), (RSb, TSb, 10), (RMo, TMo, 24)]
def sx_cn : Nat → String := fun k => match k with
  | 0 => RHo
  | 1 => RMa
  | 2 => RNi
  | 3 => RSe
  | 4 => RSh
  | 5 => RSt
  | 6 => RTa
  | 7 => RSb
  | 8 => RMo
  | _ => "java/lang/Integer"
set_option maxRecDepth 100000 in
theorem lyHo : ∀ k, k < 10 → lw_tbl[([118, 120, 122, 124, 126, 128, 130, 132, 134, 136] : List Nat).getD k 0]? = some (u_lay RHo THo k) ∧ goodWord (u_lay RHo THo k) = true := by decide +kernel
theorem nmHo : ∀ a, a < 10 → ∀ b, b < 10 → a ≠ b → (THo a).2.1 ≠ (THo b).2.1 := by decide +kernel
theorem ykHo : ∀ k, k < 10 → parseFieldDescriptor (THo k).2.2.1 = some (yHo k) := by decide +kernel
set_option maxRecDepth 100000 in
theorem lyMa : ∀ k, k < 7 → lw_tbl[([233, 235, 237, 239, 241, 243, 245] : List Nat).getD k 0]? = some (u_lay RMa TMa k) ∧ goodWord (u_lay RMa TMa k) = true := by decide +kernel
theorem nmMa : ∀ a, a < 7 → ∀ b, b < 7 → a ≠ b → (TMa a).2.1 ≠ (TMa b).2.1 := by decide +kernel
theorem ykMa : ∀ k, k < 7 → parseFieldDescriptor (TMa k).2.2.1 = some (yMa k) := by decide +kernel
set_option maxRecDepth 100000 in
theorem lyNi : ∀ k, k < 8 → lw_tbl[([262, 264, 266, 268, 270, 272, 274, 276] : List Nat).getD k 0]? = some (u_lay RNi TNi k) ∧ goodWord (u_lay RNi TNi k) = true := by decide +kernel
theorem nmNi : ∀ a, a < 8 → ∀ b, b < 8 → a ≠ b → (TNi a).2.1 ≠ (TNi b).2.1 := by decide +kernel
theorem ykNi : ∀ k, k < 8 → parseFieldDescriptor (TNi k).2.2.1 = some (yNi k) := by decide +kernel
set_option maxRecDepth 100000 in
theorem lySe : ∀ k, k < 14 → lw_tbl[([189, 191, 193, 195, 197, 199, 201, 203, 205, 207, 209, 211, 213, 215] : List Nat).getD k 0]? = some (u_lay RSe TSe k) ∧ goodWord (u_lay RSe TSe k) = true := by decide +kernel
theorem nmSe : ∀ a, a < 14 → ∀ b, b < 14 → a ≠ b → (TSe a).2.1 ≠ (TSe b).2.1 := by decide +kernel
theorem ykSe : ∀ k, k < 14 → parseFieldDescriptor (TSe k).2.2.1 = some (ySe k) := by decide +kernel
set_option maxRecDepth 100000 in
theorem lySh : ∀ k, k < 4 → lw_tbl[([328, 330, 332, 334] : List Nat).getD k 0]? = some (u_lay RSh TSh k) ∧ goodWord (u_lay RSh TSh k) = true := by decide +kernel
theorem nmSh : ∀ a, a < 4 → ∀ b, b < 4 → a ≠ b → (TSh a).2.1 ≠ (TSh b).2.1 := by decide +kernel
theorem ykSh : ∀ k, k < 4 → parseFieldDescriptor (TSh k).2.2.1 = some (ySh k) := by decide +kernel
set_option maxRecDepth 100000 in
theorem lySt : ∀ k, k < 5 → lw_tbl[([154, 156, 158, 160, 162] : List Nat).getD k 0]? = some (u_lay RSt TSt k) ∧ goodWord (u_lay RSt TSt k) = true := by decide +kernel
theorem nmSt : ∀ a, a < 5 → ∀ b, b < 5 → a ≠ b → (TSt a).2.1 ≠ (TSt b).2.1 := by decide +kernel
theorem ykSt : ∀ k, k < 5 → parseFieldDescriptor (TSt k).2.2.1 = some (ySt k) := by decide +kernel
set_option maxRecDepth 100000 in
theorem lyTa : ∀ k, k < 7 → lw_tbl[([298, 300, 302, 304, 306, 308, 310] : List Nat).getD k 0]? = some (u_lay RTa TTa k) ∧ goodWord (u_lay RTa TTa k) = true := by decide +kernel
theorem nmTa : ∀ a, a < 7 → ∀ b, b < 7 → a ≠ b → (TTa a).2.1 ≠ (TTa b).2.1 := by decide +kernel
theorem ykTa : ∀ k, k < 7 → parseFieldDescriptor (TTa k).2.2.1 = some (yTa k) := by decide +kernel
set_option maxRecDepth 100000 in
theorem lySb : ∀ k, k < 10 → lw_tbl[([347, 349, 351, 353, 355, 357, 359, 361, 363, 365] : List Nat).getD k 0]? = some (u_lay RSb TSb k) ∧ goodWord (u_lay RSb TSb k) = true := by decide +kernel
theorem nmSb : ∀ a, a < 10 → ∀ b, b < 10 → a ≠ b → (TSb a).2.1 ≠ (TSb b).2.1 := by decide +kernel
theorem ykSb : ∀ k, k < 10 → parseFieldDescriptor (TSb k).2.2.1 = some (ySb k) := by decide +kernel
set_option maxRecDepth 100000 in
theorem lyMo : ∀ k, k < 24 → lw_tbl[([831, 833, 835, 837, 839, 841, 843, 845, 847, 849, 851, 853, 855, 857, 859, 861, 863, 865, 867, 869, 871, 873, 875, 877] : List Nat).getD k 0]? = some (u_lay RMo TMo k) ∧ goodWord (u_lay RMo TMo k) = true := by decide +kernel
theorem nmMo : ∀ a, a < 24 → ∀ b, b < 24 → a ≠ b → (TMo a).2.1 ≠ (TMo b).2.1 := by decide +kernel
theorem ykMo : ∀ k, k < 24 → parseFieldDescriptor (TMo k).2.2.1 = some (yMo k) := by decide +kernel
def sx_kok (C : String) (T : u_T) (N : Nat) : Prop := (∀ w ∈ u_ws C T N, w ∈ sx_T) ∧ (∃ ty0 : Nat → FieldType, ∀ k, k < N → parseFieldDescriptor (T k).2.2.1 = some (ty0 k)) ∧ (∀ a, a < N → ∀ b, b < N → a ≠ b → (T a).2.1 ≠ (T b).2.1)
set_option maxRecDepth 100000 in
theorem sx_kok_of {C : String} {T : u_T} {N : Nat} {ps : List Nat} {ty0 : Nat → FieldType} (h1 : ∀ k, k < N → lw_tbl[ps.getD k 0]? = some (u_lay C T k) ∧ goodWord (u_lay C T k) = true) (h2 : ∀ k, k < N → parseFieldDescriptor (T k).2.2.1 = some (ty0 k)) (h3 : ∀ a, a < N → ∀ b, b < N → a ≠ b → (T a).2.1 ≠ (T b).2.1) : sx_kok C T N := by
  refine ⟨fun w hw => ?_, ⟨ty0, h2⟩, h3⟩
  obtain ⟨k, hk, rfl⟩ := List.mem_map.mp hw
  have q := h1 k (List.mem_range.mp hk)
  exact sx_in _ q.1 q.2
theorem sx_kall : ∀ (ci : Nat) (q : vw_C), vwCl[ci]? = some q → sx_kok q.1 q.2.1 q.2.2 := by
  intro ci q h
  match ci, h with
  | 0, h => cases h; exact sx_kok_of lyHo ykHo nmHo
  | 1, h => cases h; exact sx_kok_of lyMa ykMa nmMa
  | 2, h => cases h; exact sx_kok_of lyNi ykNi nmNi
  | 3, h => cases h; exact sx_kok_of lySe ykSe nmSe
  | 4, h => cases h; exact sx_kok_of lySh ykSh nmSh
  | 5, h => cases h; exact sx_kok_of lySt ykSt nmSt
  | 6, h => cases h; exact sx_kok_of lyTa ykTa nmTa
  | 7, h => cases h; exact sx_kok_of lySb ykSb nmSb
  | 8, h => cases h; exact sx_kok_of lyMo ykMo nmMo
  | n + 9, h => simp [vwCl] at h
def sx_sh : List sx_S := [
  (0, 7, [some 1, some 6, none, some 11, some 16, some 24, some 27, some 33, some 38, some 39]),
  (0, 0, [some 2, some 3, some 4, some 5, none, none, none, none, none, none]),
  (1, 7, []),
  (1, 7, []),
  (1, 7, []),
  (1, 7, []),
  (0, 0, [some 7, some 8, some 9, some 10, none, none, none, none, none, none]),
  (1, 7, []),
  (1, 7, []),
  (1, 7, []),
  (1, 7, []),
  (0, 5, [some 1, some 12, some 13, some 14, some 15]),
  (1, 7, []),
  (2, 56, []),
  (2, 56, []),
  (2, 56, []),
  (0, 3, [some 1, some 11, some 17, some 18, some 19, some 20, some 21, some 22, none, none, some 23, none, none, none]),
  (1, 7, []),
  (1, 7, []),
  (1, 7, []),
  (1, 8, []),
  (1, 7, []),
  (1, 7, []),
  (1, 7, []),
  (0, 1, [some 1, some 11, some 25, some 26, none, none, none]),
  (2, 9, []),
  (1, 8, []),
  (0, 2, [some 1, some 28, some 29, some 30, none, none, some 31, some 32]),
  (1, 56, []),
  (1, 56, []),
  (1, 56, []),
  (1, 7, []),
  (1, 7, []),
  (0, 6, [some 34, none, none, none, some 35, some 36, some 37]),
  (1, 100, []),
  (1, 7, []),
  (1, 7, []),
  (1, 7, []),
  (3, 4, [some 40, some 42, some 44, some 46]),
  (1, 8, []),
  (0, 4, [some 41, none, none, none]),
  (2, 16, []),
  (0, 4, [some 43, none, none, none]),
  (2, 16, []),
  (0, 4, [some 45, none, none, none]),
  (2, 16, []),
  (0, 4, [some 47, none, none, none]),
  (2, 16, []),
  (0, 8, [none, some 49, some 50, some 51, some 52, none, none, none, some 53, some 54, some 55, some 56, some 57, some 58, none, none, none, some 59, some 60, none, some 61, some 62, some 63, some 64]),
  (1, 7, []),
  (1, 7, []),
  (1, 7, []),
  (1, 7, []),
  (1, 7, []),
  (1, 8, []),
  (1, 56, []),
  (1, 7, []),
  (1, 7, []),
  (1, 100, []),
  (1, 21, []),
  (1, 32, []),
  (1, 4, []),
  (1, 4, []),
  (2, 64, []),
  (2, 16, [])]
def rHo_has : sx_R := (⟨"SixBeds$House", "has", "(I)Z"⟩, prog_2_method_2_code, 2, (some .boolean))
def rHo_isSetOfLodgers : sx_R := (⟨"SixBeds$House", "isSetOfLodgers", "(I)Z"⟩, prog_2_method_3_code, 2, (some .boolean))
def rHo_needOfAll : sx_R := (⟨"SixBeds$House", "needOfAll", "()I"⟩, prog_2_method_4_code, 3, (some .int))
def rHo_sleepSet : sx_R := (⟨"SixBeds$House", "sleepSet", "(II)I"⟩, prog_2_method_5_code, 7, (some .int))
/-- the name of the House's method that takes a lodger in, as the Statement's own table has it (its word 375: the link of SixBeds, 81) -/
def sx_nmOf : Option Cond → String
  | some (Cond.methodLink _ _ q) => q.name
  | _ => ""
def sx_nm375 : String := sx_nmOf (lw_tbl[375]?)
def rHo_admit : sx_R := (⟨"SixBeds$House", sx_nm375, "(III)V"⟩, prog_2_method_6_code, 4, none)
def rHo_dismiss : sx_R := (⟨"SixBeds$House", "dismiss", "(I)V"⟩, prog_2_method_7_code, 3, none)
def rHo_empty : sx_R := (⟨"SixBeds$House", "empty", "()V"⟩, prog_2_method_8_code, 1, none)
def rHo_employ : sx_R := (⟨"SixBeds$House", "employ", "(II)V"⟩, prog_2_method_9_code, 3, none)
def rHo_furnish : sx_R := (⟨"SixBeds$House", "furnish", "(I)V"⟩, prog_2_method_10_code, 2, none)
def rHo_tellRow : sx_R := (⟨"SixBeds$House", "tellRow", "([I)V"⟩, prog_2_method_11_code, 2, none)
def rHo_shift : sx_R := (⟨"SixBeds$House", "shift", "(II)V"⟩, prog_2_method_12_code, 3, none)
def rHo_become : sx_R := (⟨"SixBeds$House", "become", "(LSixBeds$House;)V"⟩, prog_2_method_13_code, 2, none)
def rHo_lodgersChanged : sx_R := (⟨"SixBeds$House", "lodgersChanged", "()V"⟩, prog_2_method_14_code, 1, none)
def rMa_knowsLeast : sx_R := (⟨"SixBeds$Market", "knowsLeast", "()Z"⟩, prog_3_method_2_code, 1, (some .boolean))
def rMa_areCleared : sx_R := (⟨"SixBeds$Market", "areCleared", "([I)Z"⟩, prog_3_method_3_code, 6, (some .boolean))
def rMa_findLeast : sx_R := (⟨"SixBeds$Market", "findLeast", "()Z"⟩, prog_3_method_4_code, 2, (some .boolean))
def rMa_clearFrom : sx_R := (⟨"SixBeds$Market", "clearFrom", "(LSixBeds$Market;II)Z"⟩, prog_3_method_5_code, 6, (some .boolean))
def rMa_reckonCosts : sx_R := (⟨"SixBeds$Market", "reckonCosts", "([I)V"⟩, prog_3_method_6_code, 5, none)
def rMa_later : sx_R := (⟨"SixBeds$Market", "later", "(JI)J"⟩, prog_3_method_7_code, 4, (some .long))
def rMa_cheapest : sx_R := (⟨"SixBeds$Market", "cheapest", "(I)I"⟩, prog_3_method_8_code, 9, (some .int))
def rNi_bedOf : sx_R := (⟨"SixBeds$Night", "bedOf", "(II)I"⟩, prog_4_method_2_code, 3, (some .int))
def rNi_linenChanges : sx_R := (⟨"SixBeds$Night", "linenChanges", "()I"⟩, prog_4_method_3_code, 4, (some .int))
def rNi_sickAfter : sx_R := (⟨"SixBeds$Night", "sickAfter", "(II)I"⟩, prog_4_method_4_code, 5, (some .int))
def rNi_bringersOf : sx_R := (⟨"SixBeds$Night", "bringersOf", "(II)I"⟩, prog_4_method_5_code, 5, (some .int))
def rNi_spread : sx_R := (⟨"SixBeds$Night", "spread", "(I)V"⟩, prog_4_method_6_code, 5, none)
def rNi_hasIt : sx_R := (⟨"SixBeds$Night", "hasIt", "(II)Z"⟩, prog_4_method_7_code, 3, (some .boolean))
def rNi_stripBeds : sx_R := (⟨"SixBeds$Night", "stripBeds", "()V"⟩, prog_4_method_8_code, 2, none)
def rNi_settle : sx_R := (⟨"SixBeds$Night", "settle", "()V"⟩, prog_4_method_9_code, 3, none)
def rNi_keepBeds : sx_R := (⟨"SixBeds$Night", "keepBeds", "(I)I"⟩, prog_4_method_10_code, 6, (some .int))
def rNi_layDown : sx_R := (⟨"SixBeds$Night", "layDown", "(II)V"⟩, prog_4_method_11_code, 6, none)
def rNi_sleepsIn : sx_R := (⟨"SixBeds$Night", "sleepsIn", "(II)Z"⟩, prog_4_method_12_code, 3, (some .boolean))
def rSe_knowsFirst : sx_R := (⟨"SixBeds$Search", "knowsFirst", "()Z"⟩, prog_5_method_2_code, 1, (some .boolean))
def rSe_knowsMended : sx_R := (⟨"SixBeds$Search", "knowsMended", "()Z"⟩, prog_5_method_3_code, 2, (some .boolean))
def rSe_countGood : sx_R := (⟨"SixBeds$Search", "countGood", "()I"⟩, prog_5_method_4_code, 1, (some .int))
def rSe_fewestBeds : sx_R := (⟨"SixBeds$Search", "fewestBeds", "()I"⟩, prog_5_method_5_code, 2, (some .int))
def rSe_findFirst : sx_R := (⟨"SixBeds$Search", "findFirst", "(I[I)Z"⟩, prog_5_method_6_code, 4, (some .boolean))
def rSe_earliest : sx_R := (⟨"SixBeds$Search", "earliest", "(II)I"⟩, prog_5_method_7_code, 6, (some .int))
def rSe_exists : sx_R := (⟨"SixBeds$Search", "exists", "(II)Z"⟩, prog_5_method_8_code, 3, (some .boolean))
def rSe_hasRoomForAll : sx_R := (⟨"SixBeds$Search", "hasRoomForAll", "(I)Z"⟩, prog_5_method_9_code, 2, (some .boolean))
def rSe_openAll : sx_R := (⟨"SixBeds$Search", "openAll", "()V"⟩, prog_5_method_10_code, 2, none)
def rSe_sortLodgers : sx_R := (⟨"SixBeds$Search", "sortLodgers", "()V"⟩, prog_5_method_11_code, 3, none)
def rSe_hasteOf : sx_R := (⟨"SixBeds$Search", "hasteOf", "(I)I"⟩, prog_5_method_12_code, 5, (some .int))
def rSe_howMany : sx_R := (⟨"SixBeds$Search", "howMany", "(I)I"⟩, prog_5_method_13_code, 4, (some .int))
def rSe_fillFrom : sx_R := (⟨"SixBeds$Search", "fillFrom", "(LSixBeds$Search;IJI)Z"⟩, prog_5_method_14_code, 10, (some .boolean))
def rSe_countFrom : sx_R := (⟨"SixBeds$Search", "countFrom", "(LSixBeds$Search;IJI)I"⟩, prog_5_method_15_code, 10, (some .int))
def rSh_begin : sx_R := (⟨"SixBeds$Sheet", "begin", "(II)V"⟩, prog_6_method_2_code, 4, none)
def rSh_reaches : sx_R := (⟨"SixBeds$Sheet", "reaches", "(II)Z"⟩, prog_6_method_3_code, 3, (some .boolean))
def rSh_put : sx_R := (⟨"SixBeds$Sheet", "put", "(IJ)V"⟩, prog_6_method_4_code, 4, none)
def rSt_allMayBegin : sx_R := (⟨"SixBeds$Stays", "allMayBegin", "()Z"⟩, prog_7_method_2_code, 2, (some .boolean))
def rSt_firstSpoiler : sx_R := (⟨"SixBeds$Stays", "firstSpoiler", "([I)I"⟩, prog_7_method_3_code, 6, (some .int))
def rSt_nobodyIn : sx_R := (⟨"SixBeds$Stays", "nobodyIn", "(I)J"⟩, prog_7_method_4_code, 1, (some .long))
def rSt_joined : sx_R := (⟨"SixBeds$Stays", "joined", "(JII)J"⟩, prog_7_method_5_code, 9, (some .long))
def rSt_refresh : sx_R := (⟨"SixBeds$Stays", "refresh", "()V"⟩, prog_7_method_6_code, 3, none)
def rSt_note : sx_R := (⟨"SixBeds$Stays", "note", "(III)V"⟩, prog_7_method_7_code, 10, none)
def rSt_oneInEach : sx_R := (⟨"SixBeds$Stays", "oneInEach", "(I)J"⟩, prog_7_method_8_code, 4, (some .long))
def rTa_canHold : sx_R := (⟨"SixBeds$Tape", "canHold", "(JI)Z"⟩, prog_8_method_2_code, 5, (some .boolean))
def rTa_hasRoom : sx_R := (⟨"SixBeds$Tape", "hasRoom", "(I)Z"⟩, prog_8_method_3_code, 2, (some .boolean))
def rTa_append : sx_R := (⟨"SixBeds$Tape", "append", "(JI)V"⟩, prog_8_method_4_code, 5, none)
def rTa_parses : sx_R := (⟨"SixBeds$Tape", "parses", "()Z"⟩, prog_8_method_5_code, 3, (some .boolean))
def rTa_readLodger : sx_R := (⟨"SixBeds$Tape", "readLodger", "(I)Z"⟩, prog_8_method_6_code, 4, (some .boolean))
def rTa_readWork : sx_R := (⟨"SixBeds$Tape", "readWork", "(I)Z"⟩, prog_8_method_7_code, 4, (some .boolean))
def rTa_peek : sx_R := (⟨"SixBeds$Tape", "peek", "()I"⟩, prog_8_method_8_code, 1, (some .int))
def rTa_kindOf : sx_R := (⟨"SixBeds$Tape", "kindOf", "(I)I"⟩, prog_8_method_9_code, 1, (some .int))
def rTa_byteAt : sx_R := (⟨"SixBeds$Tape", "byteAt", "(JI)I"⟩, prog_8_method_10_code, 3, (some .int))
def rSb_lodger : sx_R := (⟨"SixBeds", "lodger", "(III)I"⟩, prog_1_method_2_code, 4, (some .int))
def rSb_leave : sx_R := (⟨"SixBeds", "leave", "(I)I"⟩, prog_1_method_3_code, 2, (some .int))
def rSb_told : sx_R := (⟨"SixBeds", "told", "(II)I"⟩, prog_1_method_4_code, 3, (some .int))
def rSb_work : sx_R := (⟨"SixBeds", "work", "(II)I"⟩, prog_1_method_5_code, 4, (some .int))
def rSb_sleeps : sx_R := (⟨"SixBeds", "sleeps", "(II)I"⟩, prog_1_method_6_code, 3, (some .int))
def rSb_beds : sx_R := (⟨"SixBeds", "beds", "(I)I"⟩, prog_1_method_7_code, 3, (some .int))
def rSb_lasts : sx_R := (⟨"SixBeds", "lasts", "(I)I"⟩, prog_1_method_8_code, 3, (some .int))
def rSb_type : sx_R := (⟨"SixBeds", "type", "(JI)I"⟩, prog_1_method_9_code, 4, (some .int))
def rSb_lodging : sx_R := (⟨"SixBeds", "lodging", "()I"⟩, prog_1_method_10_code, 4, (some .int))
def rSb_count : sx_R := (⟨"SixBeds", "count", "(I)I"⟩, prog_1_method_11_code, 2, (some .int))
def rSb_first : sx_R := (⟨"SixBeds", "first", "(I)I"⟩, prog_1_method_12_code, 2, (some .int))
def rSb_ways : sx_R := (⟨"SixBeds", "ways", "()I"⟩, prog_1_method_13_code, 1, (some .int))
def rSb_fewest : sx_R := (⟨"SixBeds", "fewest", "()I"⟩, prog_1_method_14_code, 1, (some .int))
def rSb_take : sx_R := (⟨"SixBeds", "take", "()I"⟩, prog_1_method_15_code, 1, (some .int))
def rSb_move : sx_R := (⟨"SixBeds", "move", "(II)I"⟩, prog_1_method_16_code, 4, (some .int))
def rSb_mended : sx_R := (⟨"SixBeds", "mended", "(I)I"⟩, prog_1_method_17_code, 2, (some .int))
def rSb_rents : sx_R := (⟨"SixBeds", "rents", "(I)I"⟩, prog_1_method_18_code, 2, (some .int))
def rSb_bed : sx_R := (⟨"SixBeds", "bed", "(II)I"⟩, prog_1_method_19_code, 4, (some .int))
def rSb_linen : sx_R := (⟨"SixBeds", "linen", "()I"⟩, prog_1_method_20_code, 1, (some .int))
def rSb_sick : sx_R := (⟨"SixBeds", "sick", "(II)I"⟩, prog_1_method_21_code, 3, (some .int))
def rSb_brought : sx_R := (⟨"SixBeds", "brought", "(II)I"⟩, prog_1_method_22_code, 3, (some .int))
def rSb_image : sx_R := (⟨"SixBeds", "image", "()I"⟩, prog_1_method_23_code, 1, (some .int))
def rSb_restore : sx_R := (⟨"SixBeds", "restore", "()I"⟩, prog_1_method_24_code, 1, (some .int))
def rSb_lay : sx_R := (⟨"SixBeds", "lay", "(III)I"⟩, prog_1_method_25_code, 5, (some .int))
def rSb_judged : sx_R := (⟨"SixBeds", "judged", "(III)I"⟩, prog_1_method_26_code, 6, (some .int))
def rSb_clears : sx_R := (⟨"SixBeds", "clears", "(III)I"⟩, prog_1_method_27_code, 5, (some .int))
def rSb_sheet : sx_R := (⟨"SixBeds", "sheet", "(III)I"⟩, prog_1_method_28_code, 4, (some .int))
def rSb_drop : sx_R := (⟨"SixBeds", "drop", "(I)I"⟩, prog_1_method_29_code, 3, (some .int))
def rSb_item : sx_R := (⟨"SixBeds", "item", "(IIIJ)I"⟩, prog_1_method_30_code, 7, (some .int))
def rSb_film : sx_R := (⟨"SixBeds", "film", "(III)I"⟩, prog_1_method_31_code, 6, (some .int))
def rSb_copy : sx_R := (⟨"SixBeds", "copy", "(IIIII)I"⟩, prog_1_method_32_code, 8, (some .int))
def rSb_rowIsGood : sx_R := (⟨"SixBeds", "rowIsGood", "()Z"⟩, prog_1_method_33_code, 1, (some .boolean))
def rSb_refusalOfItems : sx_R := (⟨"SixBeds", "refusalOfItems", "(IIII)I"⟩, prog_1_method_34_code, 6, (some .int))
def rSb_takeItems : sx_R := (⟨"SixBeds", "takeItems", "(IIII)Z"⟩, prog_1_method_35_code, 10, (some .boolean))
def rSb_isPart : sx_R := (⟨"SixBeds", "isPart", "(I)Z"⟩, prog_1_method_36_code, 1, (some .boolean))
def rSb_isSetOfParts : sx_R := (⟨"SixBeds", "isSetOfParts", "(I)Z"⟩, prog_1_method_37_code, 1, (some .boolean))
def rSb_isDay : sx_R := (⟨"SixBeds", "isDay", "(I)Z"⟩, prog_1_method_38_code, 1, (some .boolean))
def rSb_isBadSheet : sx_R := (⟨"SixBeds", "isBadSheet", "(I)Z"⟩, prog_1_method_39_code, 1, (some .boolean))
def rSb_isBadLane : sx_R := (⟨"SixBeds", "isBadLane", "(I)Z"⟩, prog_1_method_40_code, 1, (some .boolean))
def rSb_holds : sx_R := (⟨"SixBeds", "holds", "(II)Z"⟩, prog_1_method_41_code, 2, (some .boolean))
def rMo_in : sx_R := (⟨"SixBedsModel", "in", "(JJJ)Z"⟩, prog_10_method_2_code, 6, (some .boolean))
def rMo_isLodger : sx_R := (⟨"SixBedsModel", "isLodger", "(I)Z"⟩, prog_10_method_4_code, 2, (some .boolean))
def rMo_isPart : sx_R := (⟨"SixBedsModel", "isPart", "(J)Z"⟩, prog_10_method_5_code, 2, (some .boolean))
def rMo_comes : sx_R := (⟨"SixBedsModel", "comes", "(III)V"⟩, prog_10_method_6_code, 4, none)
def rMo_lodger : sx_R := (⟨"SixBedsModel", "lodger", "(III)I"⟩, prog_10_method_7_code, 4, (some .int))
def rMo_leave : sx_R := (⟨"SixBedsModel", "leave", "(I)I"⟩, prog_10_method_8_code, 3, (some .int))
def rMo_sleep : sx_R := (⟨"SixBedsModel", "sleep", "(II)I"⟩, prog_10_method_9_code, 7, (some .int))
def rMo_may : sx_R := (⟨"SixBedsModel", "may", "(II)Z"⟩, prog_10_method_10_code, 3, (some .boolean))
def rMo_mays : sx_R := (⟨"SixBedsModel", "mays", "(I)I"⟩, prog_10_method_11_code, 4, (some .int))
def rMo_told : sx_R := (⟨"SixBedsModel", "told", "(II)I"⟩, prog_10_method_12_code, 3, (some .int))
def rMo_work : sx_R := (⟨"SixBedsModel", "work", "(II)I"⟩, prog_10_method_13_code, 4, (some .int))
def rMo_sleeps : sx_R := (⟨"SixBedsModel", "sleeps", "(II)I"⟩, prog_10_method_14_code, 3, (some .int))
def rMo_beds : sx_R := (⟨"SixBedsModel", "beds", "(I)I"⟩, prog_10_method_15_code, 3, (some .int))
def rMo_lasts : sx_R := (⟨"SixBedsModel", "lasts", "(I)I"⟩, prog_10_method_16_code, 3, (some .int))
def rMo_fits : sx_R := (⟨"SixBedsModel", "fits", "([II)Z"⟩, prog_10_method_17_code, 7, (some .boolean))
def rMo_wrongBy : sx_R := (⟨"SixBedsModel", "wrongBy", "([I)I"⟩, prog_10_method_18_code, 3, (some .int))
def rMo_isGood : sx_R := (⟨"SixBedsModel", "isGood", "()Z"⟩, prog_10_method_19_code, 1, (some .boolean))
def rMo_count : sx_R := (⟨"SixBedsModel", "count", "(I)I"⟩, prog_10_method_20_code, 4, (some .int))
def rMo_goes : sx_R := (⟨"SixBedsModel", "goes", "(II)I"⟩, prog_10_method_21_code, 6, (some .int))
def rMo_changed : sx_R := (⟨"SixBedsModel", "changed", "(I)I"⟩, prog_10_method_22_code, 4, (some .int))
def rMo_first : sx_R := (⟨"SixBedsModel", "first", "(I)I"⟩, prog_10_method_23_code, 2, (some .int))
def rMo_ways : sx_R := (⟨"SixBedsModel", "ways", "()I"⟩, prog_10_method_24_code, 1, (some .int))
def rMo_fewest : sx_R := (⟨"SixBedsModel", "fewest", "()I"⟩, prog_10_method_25_code, 4, (some .int))
def rMo_takes : sx_R := (⟨"SixBedsModel", "takes", "()V"⟩, prog_10_method_26_code, 2, none)
def rMo_take : sx_R := (⟨"SixBedsModel", "take", "()I"⟩, prog_10_method_27_code, 1, (some .int))
def rMo_move : sx_R := (⟨"SixBedsModel", "move", "(II)I"⟩, prog_10_method_28_code, 4, (some .int))
def rMo_mended : sx_R := (⟨"SixBedsModel", "mended", "(I)I"⟩, prog_10_method_29_code, 3, (some .int))
def rMo_clear : sx_R := (⟨"SixBedsModel", "clear", "()Z"⟩, prog_10_method_30_code, 8, (some .boolean))
def rMo_tells : sx_R := (⟨"SixBedsModel", "tells", "(I)V"⟩, prog_10_method_31_code, 4, none)
def rMo_rents : sx_R := (⟨"SixBedsModel", "rents", "(I)I"⟩, prog_10_method_32_code, 7, (some .int))
def rMo_isAsleep : sx_R := (⟨"SixBedsModel", "isAsleep", "(II)Z"⟩, prog_10_method_33_code, 3, (some .boolean))
def rMo_liesDown : sx_R := (⟨"SixBedsModel", "liesDown", "(II)Z"⟩, prog_10_method_34_code, 3, (some .boolean))
def rMo_liesAll : sx_R := (⟨"SixBedsModel", "liesAll", "()V"⟩, prog_10_method_35_code, 5, none)
def rMo_bed : sx_R := (⟨"SixBedsModel", "bed", "(II)I"⟩, prog_10_method_36_code, 3, (some .int))
def rMo_days : sx_R := (⟨"SixBedsModel", "days", "(I)I"⟩, prog_10_method_37_code, 8, (some .int))
def rMo_begins : sx_R := (⟨"SixBedsModel", "begins", "(I)V"⟩, prog_10_method_38_code, 3, none)
def rMo_linen : sx_R := (⟨"SixBedsModel", "linen", "()I"⟩, prog_10_method_39_code, 1, (some .int))
def rMo_ill : sx_R := (⟨"SixBedsModel", "ill", "(II)I"⟩, prog_10_method_40_code, 5, (some .int))
def rMo_isSet : sx_R := (⟨"SixBedsModel", "isSet", "(II)Z"⟩, prog_10_method_41_code, 3, (some .boolean))
def rMo_sick : sx_R := (⟨"SixBedsModel", "sick", "(II)I"⟩, prog_10_method_42_code, 3, (some .int))
def rMo_brought : sx_R := (⟨"SixBedsModel", "brought", "(II)I"⟩, prog_10_method_43_code, 5, (some .int))
def rMo_type : sx_R := (⟨"SixBedsModel", "type", "(JI)I"⟩, prog_10_method_44_code, 5, (some .int))
def rMo_here : sx_R := (⟨"SixBedsModel", "here", "()I"⟩, prog_10_method_45_code, 1, (some .int))
def rMo_has : sx_R := (⟨"SixBedsModel", "has", "(I)Z"⟩, prog_10_method_46_code, 3, (some .boolean))
def rMo_kindOf : sx_R := (⟨"SixBedsModel", "kindOf", "(I)I"⟩, prog_10_method_47_code, 1, (some .int))
def rMo_digit : sx_R := (⟨"SixBedsModel", "digit", "(II)I"⟩, prog_10_method_48_code, 4, (some .int))
def rMo_readOne : sx_R := (⟨"SixBedsModel", "readOne", "(I)V"⟩, prog_10_method_49_code, 5, none)
def rMo_lodging : sx_R := (⟨"SixBedsModel", "lodging", "()I"⟩, prog_10_method_50_code, 4, (some .int))
def rMo_notes : sx_R := (⟨"SixBedsModel", "notes", "([II)I"⟩, prog_10_method_51_code, 4, (some .int))
def rMo_gives : sx_R := (⟨"SixBedsModel", "gives", "(I[I)I"⟩, prog_10_method_52_code, 4, (some .int))
def rMo_image : sx_R := (⟨"SixBedsModel", "image", "()I"⟩, prog_10_method_53_code, 2, (some .int))
def rMo_restore : sx_R := (⟨"SixBedsModel", "restore", "()I"⟩, prog_10_method_54_code, 2, (some .int))
def rMo_isSheet : sx_R := (⟨"SixBedsModel", "isSheet", "(I)Z"⟩, prog_10_method_55_code, 1, (some .boolean))
def rMo_isLane : sx_R := (⟨"SixBedsModel", "isLane", "(I)Z"⟩, prog_10_method_56_code, 1, (some .boolean))
def rMo_why : sx_R := (⟨"SixBedsModel", "why", "(IIII)I"⟩, prog_10_method_57_code, 5, (some .int))
def rMo_lay : sx_R := (⟨"SixBedsModel", "lay", "(III)I"⟩, prog_10_method_58_code, 7, (some .int))
def rMo_judged : sx_R := (⟨"SixBedsModel", "judged", "(III)I"⟩, prog_10_method_59_code, 8, (some .int))
def rMo_clears : sx_R := (⟨"SixBedsModel", "clears", "(III)I"⟩, prog_10_method_60_code, 7, (some .int))
def rMo_puts : sx_R := (⟨"SixBedsModel", "puts", "(IIJ)V"⟩, prog_10_method_61_code, 6, none)
def rMo_film : sx_R := (⟨"SixBedsModel", "film", "(III)I"⟩, prog_10_method_62_code, 6, (some .int))
def rMo_sheet : sx_R := (⟨"SixBedsModel", "sheet", "(III)I"⟩, prog_10_method_63_code, 5, (some .int))
def rMo_drop : sx_R := (⟨"SixBedsModel", "drop", "(I)I"⟩, prog_10_method_64_code, 2, (some .int))
def rMo_item : sx_R := (⟨"SixBedsModel", "item", "(IIIJ)I"⟩, prog_10_method_65_code, 7, (some .int))
def rMo_copy : sx_R := (⟨"SixBedsModel", "copy", "(IIIII)I"⟩, prog_10_method_66_code, 7, (some .int))
def rIn_bitCount : sx_R := (⟨"java/lang/Integer", "bitCount", "(I)I"⟩, prog_11_method_49_code, 1, (some .int))
def sx_fok (own : Nat) (q : Nat × Nat × Nat × Nat) : Prop := ∃ (C : String) (T : u_T) (N : Nat), vwCl[q.2.1]? = some (C, T, N) ∧ q.2.2.1 < N ∧ Cond.fieldLink (sx_cn own) q.1 (T q.2.2.1).1 (T q.2.2.1).2.1 (T q.2.2.1).2.2.1 ∈ sx_T ∧ (q.2.2.2 = 0 → (T q.2.2.1).2.2.2 = false ∧ parseFieldDescriptor (T q.2.2.1).2.2.1 = some .int) ∧ (q.2.2.2 = 1 → (T q.2.2.1).2.2.2 = false ∧ parseFieldDescriptor (T q.2.2.1).2.2.1 = some .boolean)
set_option maxRecDepth 100000 in
theorem fkHo_9 : sx_fok 0 (9, 0, 0, 2) := ⟨RHo, THo, 10, rfl, by decide, sx_in 80 (by decide +kernel) rfl, (fun h => by cases h), (fun h => by cases h)⟩
set_option maxRecDepth 100000 in
theorem fkHo_15 : sx_fok 0 (15, 0, 1, 2) := ⟨RHo, THo, 10, rfl, by decide, sx_in 85 (by decide +kernel) rfl, (fun h => by cases h), (fun h => by cases h)⟩
set_option maxRecDepth 100000 in
theorem fkHo_18 : sx_fok 0 (18, 0, 2, 2) := ⟨RHo, THo, 10, rfl, by decide, sx_in 89 (by decide +kernel) rfl, (fun h => by cases h), (fun h => by cases h)⟩
set_option maxRecDepth 100000 in
theorem fkHo_21 : sx_fok 0 (21, 0, 3, 2) := ⟨RHo, THo, 10, rfl, by decide, sx_in 92 (by decide +kernel) rfl, (fun h => by cases h), (fun h => by cases h)⟩
set_option maxRecDepth 100000 in
theorem fkHo_24 : sx_fok 0 (24, 0, 4, 0) := ⟨RHo, THo, 10, rfl, by decide, sx_in 96 (by decide +kernel) rfl, (fun h => by exact ⟨rfl, by decide +kernel⟩), (fun h => by cases h)⟩
set_option maxRecDepth 100000 in
theorem fkHo_28 : sx_fok 0 (28, 0, 5, 0) := ⟨RHo, THo, 10, rfl, by decide, sx_in 102 (by decide +kernel) rfl, (fun h => by exact ⟨rfl, by decide +kernel⟩), (fun h => by cases h)⟩
set_option maxRecDepth 100000 in
theorem fkHo_31 : sx_fok 0 (31, 0, 6, 0) := ⟨RHo, THo, 10, rfl, by decide, sx_in 107 (by decide +kernel) rfl, (fun h => by exact ⟨rfl, by decide +kernel⟩), (fun h => by cases h)⟩
set_option maxRecDepth 100000 in
theorem fkHo_34 : sx_fok 0 (34, 0, 7, 1) := ⟨RHo, THo, 10, rfl, by decide, sx_in 110 (by decide +kernel) rfl, (fun h => by cases h), (fun h => by exact ⟨rfl, by decide +kernel⟩)⟩
set_option maxRecDepth 100000 in
theorem fkHo_38 : sx_fok 0 (38, 0, 8, 0) := ⟨RHo, THo, 10, rfl, by decide, sx_in 112 (by decide +kernel) rfl, (fun h => by exact ⟨rfl, by decide +kernel⟩), (fun h => by cases h)⟩
set_option maxRecDepth 100000 in
theorem fkHo_41 : sx_fok 0 (41, 0, 9, 0) := ⟨RHo, THo, 10, rfl, by decide, sx_in 115 (by decide +kernel) rfl, (fun h => by exact ⟨rfl, by decide +kernel⟩), (fun h => by cases h)⟩
def flHo : List (Nat × Nat × Nat × Nat) := [(9, 0, 0, 2), (15, 0, 1, 2), (18, 0, 2, 2), (21, 0, 3, 2), (24, 0, 4, 0), (28, 0, 5, 0), (31, 0, 6, 0), (34, 0, 7, 1), (38, 0, 8, 0), (41, 0, 9, 0)]
theorem flHo_ok : ∀ q ∈ flHo, sx_fok 0 q := List.forall_mem_cons.mpr ⟨fkHo_9, List.forall_mem_cons.mpr ⟨fkHo_15, List.forall_mem_cons.mpr ⟨fkHo_18, List.forall_mem_cons.mpr ⟨fkHo_21, List.forall_mem_cons.mpr ⟨fkHo_24, List.forall_mem_cons.mpr ⟨fkHo_28, List.forall_mem_cons.mpr ⟨fkHo_31, List.forall_mem_cons.mpr ⟨fkHo_34, List.forall_mem_cons.mpr ⟨fkHo_38, List.forall_mem_cons.mpr ⟨fkHo_41, fun _ h => absurd h List.not_mem_nil⟩⟩⟩⟩⟩⟩⟩⟩⟩⟩
set_option maxRecDepth 100000 in
theorem fkMa_91 : sx_fok 1 (91, 0, 0, 2) := ⟨RHo, THo, 10, rfl, by decide, sx_in 83 (by decide +kernel) rfl, (fun h => by cases h), (fun h => by cases h)⟩
set_option maxRecDepth 100000 in
theorem fkMa_88 : sx_fok 1 (88, 0, 1, 2) := ⟨RHo, THo, 10, rfl, by decide, sx_in 87 (by decide +kernel) rfl, (fun h => by cases h), (fun h => by cases h)⟩
set_option maxRecDepth 100000 in
theorem fkMa_63 : sx_fok 1 (63, 0, 4, 0) := ⟨RHo, THo, 10, rfl, by decide, sx_in 100 (by decide +kernel) rfl, (fun h => by exact ⟨rfl, by decide +kernel⟩), (fun h => by cases h)⟩
set_option maxRecDepth 100000 in
theorem fkMa_56 : sx_fok 1 (56, 0, 5, 0) := ⟨RHo, THo, 10, rfl, by decide, sx_in 104 (by decide +kernel) rfl, (fun h => by exact ⟨rfl, by decide +kernel⟩), (fun h => by cases h)⟩
set_option maxRecDepth 100000 in
theorem fkMa_38 : sx_fok 1 (38, 0, 9, 0) := ⟨RHo, THo, 10, rfl, by decide, sx_in 117 (by decide +kernel) rfl, (fun h => by exact ⟨rfl, by decide +kernel⟩), (fun h => by cases h)⟩
set_option maxRecDepth 100000 in
theorem fkMa_94 : sx_fok 1 (94, 5, 1, 2) := ⟨RSt, TSt, 5, rfl, by decide, sx_in 149 (by decide +kernel) rfl, (fun h => by cases h), (fun h => by cases h)⟩
set_option maxRecDepth 100000 in
theorem fkMa_30 : sx_fok 1 (30, 1, 0, 2) := ⟨RMa, TMa, 7, rfl, by decide, sx_in 224 (by decide +kernel) rfl, (fun h => by cases h), (fun h => by cases h)⟩
set_option maxRecDepth 100000 in
theorem fkMa_34 : sx_fok 1 (34, 1, 1, 2) := ⟨RMa, TMa, 7, rfl, by decide, sx_in 225 (by decide +kernel) rfl, (fun h => by cases h), (fun h => by cases h)⟩
set_option maxRecDepth 100000 in
theorem fkMa_9 : sx_fok 1 (9, 1, 2, 2) := ⟨RMa, TMa, 7, rfl, by decide, sx_in 226 (by decide +kernel) rfl, (fun h => by cases h), (fun h => by cases h)⟩
set_option maxRecDepth 100000 in
theorem fkMa_15 : sx_fok 1 (15, 1, 3, 2) := ⟨RMa, TMa, 7, rfl, by decide, sx_in 227 (by decide +kernel) rfl, (fun h => by cases h), (fun h => by cases h)⟩
set_option maxRecDepth 100000 in
theorem fkMa_19 : sx_fok 1 (19, 1, 4, 0) := ⟨RMa, TMa, 7, rfl, by decide, sx_in 229 (by decide +kernel) rfl, (fun h => by exact ⟨rfl, by decide +kernel⟩), (fun h => by cases h)⟩
set_option maxRecDepth 100000 in
theorem fkMa_23 : sx_fok 1 (23, 1, 5, 1) := ⟨RMa, TMa, 7, rfl, by decide, sx_in 231 (by decide +kernel) rfl, (fun h => by cases h), (fun h => by exact ⟨rfl, by decide +kernel⟩)⟩
set_option maxRecDepth 100000 in
theorem fkMa_27 : sx_fok 1 (27, 1, 6, 0) := ⟨RMa, TMa, 7, rfl, by decide, sx_in 232 (by decide +kernel) rfl, (fun h => by exact ⟨rfl, by decide +kernel⟩), (fun h => by cases h)⟩
def flMa : List (Nat × Nat × Nat × Nat) := [(91, 0, 0, 2), (88, 0, 1, 2), (63, 0, 4, 0), (56, 0, 5, 0), (38, 0, 9, 0), (94, 5, 1, 2), (30, 1, 0, 2), (34, 1, 1, 2), (9, 1, 2, 2), (15, 1, 3, 2), (19, 1, 4, 0), (23, 1, 5, 1), (27, 1, 6, 0)]
theorem flMa_ok : ∀ q ∈ flMa, sx_fok 1 q := List.forall_mem_cons.mpr ⟨fkMa_91, List.forall_mem_cons.mpr ⟨fkMa_88, List.forall_mem_cons.mpr ⟨fkMa_63, List.forall_mem_cons.mpr ⟨fkMa_56, List.forall_mem_cons.mpr ⟨fkMa_38, List.forall_mem_cons.mpr ⟨fkMa_94, List.forall_mem_cons.mpr ⟨fkMa_30, List.forall_mem_cons.mpr ⟨fkMa_34, List.forall_mem_cons.mpr ⟨fkMa_9, List.forall_mem_cons.mpr ⟨fkMa_15, List.forall_mem_cons.mpr ⟨fkMa_19, List.forall_mem_cons.mpr ⟨fkMa_23, List.forall_mem_cons.mpr ⟨fkMa_27, fun _ h => absurd h List.not_mem_nil⟩⟩⟩⟩⟩⟩⟩⟩⟩⟩⟩⟩⟩
set_option maxRecDepth 100000 in
theorem fkNi_79 : sx_fok 2 (79, 0, 3, 2) := ⟨RHo, THo, 10, rfl, by decide, sx_in 95 (by decide +kernel) rfl, (fun h => by cases h), (fun h => by cases h)⟩
set_option maxRecDepth 100000 in
theorem fkNi_44 : sx_fok 2 (44, 0, 4, 0) := ⟨RHo, THo, 10, rfl, by decide, sx_in 101 (by decide +kernel) rfl, (fun h => by exact ⟨rfl, by decide +kernel⟩), (fun h => by cases h)⟩
set_option maxRecDepth 100000 in
theorem fkNi_64 : sx_fok 2 (64, 0, 6, 0) := ⟨RHo, THo, 10, rfl, by decide, sx_in 108 (by decide +kernel) rfl, (fun h => by exact ⟨rfl, by decide +kernel⟩), (fun h => by cases h)⟩
set_option maxRecDepth 100000 in
theorem fkNi_67 : sx_fok 2 (67, 0, 8, 0) := ⟨RHo, THo, 10, rfl, by decide, sx_in 114 (by decide +kernel) rfl, (fun h => by exact ⟨rfl, by decide +kernel⟩), (fun h => by cases h)⟩
set_option maxRecDepth 100000 in
theorem fkNi_34 : sx_fok 2 (34, 2, 0, 2) := ⟨RNi, TNi, 8, rfl, by decide, sx_in 254 (by decide +kernel) rfl, (fun h => by cases h), (fun h => by cases h)⟩
set_option maxRecDepth 100000 in
theorem fkNi_9 : sx_fok 2 (9, 2, 1, 2) := ⟨RNi, TNi, 8, rfl, by decide, sx_in 255 (by decide +kernel) rfl, (fun h => by cases h), (fun h => by cases h)⟩
set_option maxRecDepth 100000 in
theorem fkNi_15 : sx_fok 2 (15, 2, 2, 2) := ⟨RNi, TNi, 8, rfl, by decide, sx_in 256 (by decide +kernel) rfl, (fun h => by cases h), (fun h => by cases h)⟩
set_option maxRecDepth 100000 in
theorem fkNi_18 : sx_fok 2 (18, 2, 3, 2) := ⟨RNi, TNi, 8, rfl, by decide, sx_in 257 (by decide +kernel) rfl, (fun h => by cases h), (fun h => by cases h)⟩
set_option maxRecDepth 100000 in
theorem fkNi_21 : sx_fok 2 (21, 2, 4, 0) := ⟨RNi, TNi, 8, rfl, by decide, sx_in 258 (by decide +kernel) rfl, (fun h => by exact ⟨rfl, by decide +kernel⟩), (fun h => by cases h)⟩
set_option maxRecDepth 100000 in
theorem fkNi_25 : sx_fok 2 (25, 2, 5, 0) := ⟨RNi, TNi, 8, rfl, by decide, sx_in 259 (by decide +kernel) rfl, (fun h => by exact ⟨rfl, by decide +kernel⟩), (fun h => by cases h)⟩
set_option maxRecDepth 100000 in
theorem fkNi_28 : sx_fok 2 (28, 2, 6, 2) := ⟨RNi, TNi, 8, rfl, by decide, sx_in 260 (by decide +kernel) rfl, (fun h => by cases h), (fun h => by cases h)⟩
set_option maxRecDepth 100000 in
theorem fkNi_31 : sx_fok 2 (31, 2, 7, 2) := ⟨RNi, TNi, 8, rfl, by decide, sx_in 261 (by decide +kernel) rfl, (fun h => by cases h), (fun h => by cases h)⟩
def flNi : List (Nat × Nat × Nat × Nat) := [(79, 0, 3, 2), (44, 0, 4, 0), (64, 0, 6, 0), (67, 0, 8, 0), (34, 2, 0, 2), (9, 2, 1, 2), (15, 2, 2, 2), (18, 2, 3, 2), (21, 2, 4, 0), (25, 2, 5, 0), (28, 2, 6, 2), (31, 2, 7, 2)]
theorem flNi_ok : ∀ q ∈ flNi, sx_fok 2 q := List.forall_mem_cons.mpr ⟨fkNi_79, List.forall_mem_cons.mpr ⟨fkNi_44, List.forall_mem_cons.mpr ⟨fkNi_64, List.forall_mem_cons.mpr ⟨fkNi_67, List.forall_mem_cons.mpr ⟨fkNi_34, List.forall_mem_cons.mpr ⟨fkNi_9, List.forall_mem_cons.mpr ⟨fkNi_15, List.forall_mem_cons.mpr ⟨fkNi_18, List.forall_mem_cons.mpr ⟨fkNi_21, List.forall_mem_cons.mpr ⟨fkNi_25, List.forall_mem_cons.mpr ⟨fkNi_28, List.forall_mem_cons.mpr ⟨fkNi_31, fun _ h => absurd h List.not_mem_nil⟩⟩⟩⟩⟩⟩⟩⟩⟩⟩⟩⟩
set_option maxRecDepth 100000 in
theorem fkSe_136 : sx_fok 3 (136, 0, 0, 2) := ⟨RHo, THo, 10, rfl, by decide, sx_in 84 (by decide +kernel) rfl, (fun h => by cases h), (fun h => by cases h)⟩
set_option maxRecDepth 100000 in
theorem fkSe_142 : sx_fok 3 (142, 0, 1, 2) := ⟨RHo, THo, 10, rfl, by decide, sx_in 88 (by decide +kernel) rfl, (fun h => by cases h), (fun h => by cases h)⟩
set_option maxRecDepth 100000 in
theorem fkSe_128 : sx_fok 3 (128, 0, 3, 2) := ⟨RHo, THo, 10, rfl, by decide, sx_in 94 (by decide +kernel) rfl, (fun h => by cases h), (fun h => by cases h)⟩
set_option maxRecDepth 100000 in
theorem fkSe_63 : sx_fok 3 (63, 0, 4, 0) := ⟨RHo, THo, 10, rfl, by decide, sx_in 98 (by decide +kernel) rfl, (fun h => by exact ⟨rfl, by decide +kernel⟩), (fun h => by cases h)⟩
set_option maxRecDepth 100000 in
theorem fkSe_76 : sx_fok 3 (76, 0, 5, 0) := ⟨RHo, THo, 10, rfl, by decide, sx_in 105 (by decide +kernel) rfl, (fun h => by exact ⟨rfl, by decide +kernel⟩), (fun h => by cases h)⟩
set_option maxRecDepth 100000 in
theorem fkSe_70 : sx_fok 3 (70, 0, 8, 0) := ⟨RHo, THo, 10, rfl, by decide, sx_in 113 (by decide +kernel) rfl, (fun h => by exact ⟨rfl, by decide +kernel⟩), (fun h => by cases h)⟩
set_option maxRecDepth 100000 in
theorem fkSe_58 : sx_fok 3 (58, 0, 9, 0) := ⟨RHo, THo, 10, rfl, by decide, sx_in 116 (by decide +kernel) rfl, (fun h => by exact ⟨rfl, by decide +kernel⟩), (fun h => by cases h)⟩
set_option maxRecDepth 100000 in
theorem fkSe_121 : sx_fok 3 (121, 5, 1, 2) := ⟨RSt, TSt, 5, rfl, by decide, sx_in 150 (by decide +kernel) rfl, (fun h => by cases h), (fun h => by cases h)⟩
set_option maxRecDepth 100000 in
theorem fkSe_50 : sx_fok 3 (50, 3, 0, 2) := ⟨RSe, TSe, 14, rfl, by decide, sx_in 172 (by decide +kernel) rfl, (fun h => by cases h), (fun h => by cases h)⟩
set_option maxRecDepth 100000 in
theorem fkSe_54 : sx_fok 3 (54, 3, 1, 2) := ⟨RSe, TSe, 14, rfl, by decide, sx_in 173 (by decide +kernel) rfl, (fun h => by cases h), (fun h => by cases h)⟩
set_option maxRecDepth 100000 in
theorem fkSe_9 : sx_fok 3 (9, 3, 2, 2) := ⟨RSe, TSe, 14, rfl, by decide, sx_in 174 (by decide +kernel) rfl, (fun h => by cases h), (fun h => by cases h)⟩
set_option maxRecDepth 100000 in
theorem fkSe_15 : sx_fok 3 (15, 3, 3, 2) := ⟨RSe, TSe, 14, rfl, by decide, sx_in 175 (by decide +kernel) rfl, (fun h => by cases h), (fun h => by cases h)⟩
set_option maxRecDepth 100000 in
theorem fkSe_18 : sx_fok 3 (18, 3, 4, 2) := ⟨RSe, TSe, 14, rfl, by decide, sx_in 176 (by decide +kernel) rfl, (fun h => by cases h), (fun h => by cases h)⟩
set_option maxRecDepth 100000 in
theorem fkSe_21 : sx_fok 3 (21, 3, 5, 2) := ⟨RSe, TSe, 14, rfl, by decide, sx_in 177 (by decide +kernel) rfl, (fun h => by cases h), (fun h => by cases h)⟩
set_option maxRecDepth 100000 in
theorem fkSe_24 : sx_fok 3 (24, 3, 6, 2) := ⟨RSe, TSe, 14, rfl, by decide, sx_in 178 (by decide +kernel) rfl, (fun h => by cases h), (fun h => by cases h)⟩
set_option maxRecDepth 100000 in
theorem fkSe_27 : sx_fok 3 (27, 3, 7, 2) := ⟨RSe, TSe, 14, rfl, by decide, sx_in 179 (by decide +kernel) rfl, (fun h => by cases h), (fun h => by cases h)⟩
set_option maxRecDepth 100000 in
theorem fkSe_30 : sx_fok 3 (30, 3, 8, 1) := ⟨RSe, TSe, 14, rfl, by decide, sx_in 181 (by decide +kernel) rfl, (fun h => by cases h), (fun h => by exact ⟨rfl, by decide +kernel⟩)⟩
set_option maxRecDepth 100000 in
theorem fkSe_34 : sx_fok 3 (34, 3, 9, 0) := ⟨RSe, TSe, 14, rfl, by decide, sx_in 182 (by decide +kernel) rfl, (fun h => by exact ⟨rfl, by decide +kernel⟩), (fun h => by cases h)⟩
set_option maxRecDepth 100000 in
theorem fkSe_38 : sx_fok 3 (38, 3, 10, 2) := ⟨RSe, TSe, 14, rfl, by decide, sx_in 183 (by decide +kernel) rfl, (fun h => by cases h), (fun h => by cases h)⟩
set_option maxRecDepth 100000 in
theorem fkSe_41 : sx_fok 3 (41, 3, 11, 0) := ⟨RSe, TSe, 14, rfl, by decide, sx_in 185 (by decide +kernel) rfl, (fun h => by exact ⟨rfl, by decide +kernel⟩), (fun h => by cases h)⟩
set_option maxRecDepth 100000 in
theorem fkSe_44 : sx_fok 3 (44, 3, 12, 1) := ⟨RSe, TSe, 14, rfl, by decide, sx_in 187 (by decide +kernel) rfl, (fun h => by cases h), (fun h => by exact ⟨rfl, by decide +kernel⟩)⟩
set_option maxRecDepth 100000 in
theorem fkSe_47 : sx_fok 3 (47, 3, 13, 0) := ⟨RSe, TSe, 14, rfl, by decide, sx_in 188 (by decide +kernel) rfl, (fun h => by exact ⟨rfl, by decide +kernel⟩), (fun h => by cases h)⟩
def flSe : List (Nat × Nat × Nat × Nat) := [(136, 0, 0, 2), (142, 0, 1, 2), (128, 0, 3, 2), (63, 0, 4, 0), (76, 0, 5, 0), (70, 0, 8, 0), (58, 0, 9, 0), (121, 5, 1, 2), (50, 3, 0, 2), (54, 3, 1, 2), (9, 3, 2, 2), (15, 3, 3, 2), (18, 3, 4, 2), (21, 3, 5, 2), (24, 3, 6, 2), (27, 3, 7, 2), (30, 3, 8, 1), (34, 3, 9, 0), (38, 3, 10, 2), (41, 3, 11, 0), (44, 3, 12, 1), (47, 3, 13, 0)]
theorem flSe_ok : ∀ q ∈ flSe, sx_fok 3 q := List.forall_mem_cons.mpr ⟨fkSe_136, List.forall_mem_cons.mpr ⟨fkSe_142, List.forall_mem_cons.mpr ⟨fkSe_128, List.forall_mem_cons.mpr ⟨fkSe_63, List.forall_mem_cons.mpr ⟨fkSe_76, List.forall_mem_cons.mpr ⟨fkSe_70, List.forall_mem_cons.mpr ⟨fkSe_58, List.forall_mem_cons.mpr ⟨fkSe_121, List.forall_mem_cons.mpr ⟨fkSe_50, List.forall_mem_cons.mpr ⟨fkSe_54, List.forall_mem_cons.mpr ⟨fkSe_9, List.forall_mem_cons.mpr ⟨fkSe_15, List.forall_mem_cons.mpr ⟨fkSe_18, List.forall_mem_cons.mpr ⟨fkSe_21, List.forall_mem_cons.mpr ⟨fkSe_24, List.forall_mem_cons.mpr ⟨fkSe_27, List.forall_mem_cons.mpr ⟨fkSe_30, List.forall_mem_cons.mpr ⟨fkSe_34, List.forall_mem_cons.mpr ⟨fkSe_38, List.forall_mem_cons.mpr ⟨fkSe_41, List.forall_mem_cons.mpr ⟨fkSe_44, List.forall_mem_cons.mpr ⟨fkSe_47, fun _ h => absurd h List.not_mem_nil⟩⟩⟩⟩⟩⟩⟩⟩⟩⟩⟩⟩⟩⟩⟩⟩⟩⟩⟩⟩⟩⟩
set_option maxRecDepth 100000 in
theorem fkSh_9 : sx_fok 4 (9, 4, 0, 2) := ⟨RSh, TSh, 4, rfl, by decide, sx_in 320 (by decide +kernel) rfl, (fun h => by cases h), (fun h => by cases h)⟩
set_option maxRecDepth 100000 in
theorem fkSh_15 : sx_fok 4 (15, 4, 1, 1) := ⟨RSh, TSh, 4, rfl, by decide, sx_in 322 (by decide +kernel) rfl, (fun h => by cases h), (fun h => by exact ⟨rfl, by decide +kernel⟩)⟩
set_option maxRecDepth 100000 in
theorem fkSh_19 : sx_fok 4 (19, 4, 2, 0) := ⟨RSh, TSh, 4, rfl, by decide, sx_in 324 (by decide +kernel) rfl, (fun h => by exact ⟨rfl, by decide +kernel⟩), (fun h => by cases h)⟩
set_option maxRecDepth 100000 in
theorem fkSh_23 : sx_fok 4 (23, 4, 3, 0) := ⟨RSh, TSh, 4, rfl, by decide, sx_in 326 (by decide +kernel) rfl, (fun h => by exact ⟨rfl, by decide +kernel⟩), (fun h => by cases h)⟩
def flSh : List (Nat × Nat × Nat × Nat) := [(9, 4, 0, 2), (15, 4, 1, 1), (19, 4, 2, 0), (23, 4, 3, 0)]
theorem flSh_ok : ∀ q ∈ flSh, sx_fok 4 q := List.forall_mem_cons.mpr ⟨fkSh_9, List.forall_mem_cons.mpr ⟨fkSh_15, List.forall_mem_cons.mpr ⟨fkSh_19, List.forall_mem_cons.mpr ⟨fkSh_23, fun _ h => absurd h List.not_mem_nil⟩⟩⟩⟩
set_option maxRecDepth 100000 in
theorem fkSt_68 : sx_fok 5 (68, 0, 0, 2) := ⟨RHo, THo, 10, rfl, by decide, sx_in 82 (by decide +kernel) rfl, (fun h => by cases h), (fun h => by cases h)⟩
set_option maxRecDepth 100000 in
theorem fkSt_71 : sx_fok 5 (71, 0, 2, 2) := ⟨RHo, THo, 10, rfl, by decide, sx_in 91 (by decide +kernel) rfl, (fun h => by cases h), (fun h => by cases h)⟩
set_option maxRecDepth 100000 in
theorem fkSt_29 : sx_fok 5 (29, 0, 4, 0) := ⟨RHo, THo, 10, rfl, by decide, sx_in 97 (by decide +kernel) rfl, (fun h => by exact ⟨rfl, by decide +kernel⟩), (fun h => by cases h)⟩
set_option maxRecDepth 100000 in
theorem fkSt_35 : sx_fok 5 (35, 0, 5, 0) := ⟨RHo, THo, 10, rfl, by decide, sx_in 103 (by decide +kernel) rfl, (fun h => by exact ⟨rfl, by decide +kernel⟩), (fun h => by cases h)⟩
set_option maxRecDepth 100000 in
theorem fkSt_25 : sx_fok 5 (25, 5, 0, 2) := ⟨RSt, TSt, 5, rfl, by decide, sx_in 146 (by decide +kernel) rfl, (fun h => by cases h), (fun h => by cases h)⟩
set_option maxRecDepth 100000 in
theorem fkSt_9 : sx_fok 5 (9, 5, 1, 2) := ⟨RSt, TSt, 5, rfl, by decide, sx_in 147 (by decide +kernel) rfl, (fun h => by cases h), (fun h => by cases h)⟩
set_option maxRecDepth 100000 in
theorem fkSt_15 : sx_fok 5 (15, 5, 2, 2) := ⟨RSt, TSt, 5, rfl, by decide, sx_in 151 (by decide +kernel) rfl, (fun h => by cases h), (fun h => by cases h)⟩
set_option maxRecDepth 100000 in
theorem fkSt_19 : sx_fok 5 (19, 5, 3, 2) := ⟨RSt, TSt, 5, rfl, by decide, sx_in 152 (by decide +kernel) rfl, (fun h => by cases h), (fun h => by cases h)⟩
set_option maxRecDepth 100000 in
theorem fkSt_22 : sx_fok 5 (22, 5, 4, 2) := ⟨RSt, TSt, 5, rfl, by decide, sx_in 153 (by decide +kernel) rfl, (fun h => by cases h), (fun h => by cases h)⟩
def flSt : List (Nat × Nat × Nat × Nat) := [(68, 0, 0, 2), (71, 0, 2, 2), (29, 0, 4, 0), (35, 0, 5, 0), (25, 5, 0, 2), (9, 5, 1, 2), (15, 5, 2, 2), (19, 5, 3, 2), (22, 5, 4, 2)]
theorem flSt_ok : ∀ q ∈ flSt, sx_fok 5 q := List.forall_mem_cons.mpr ⟨fkSt_68, List.forall_mem_cons.mpr ⟨fkSt_71, List.forall_mem_cons.mpr ⟨fkSt_29, List.forall_mem_cons.mpr ⟨fkSt_35, List.forall_mem_cons.mpr ⟨fkSt_25, List.forall_mem_cons.mpr ⟨fkSt_9, List.forall_mem_cons.mpr ⟨fkSt_15, List.forall_mem_cons.mpr ⟨fkSt_19, List.forall_mem_cons.mpr ⟨fkSt_22, fun _ h => absurd h List.not_mem_nil⟩⟩⟩⟩⟩⟩⟩⟩⟩
set_option maxRecDepth 100000 in
theorem fkTa_11 : sx_fok 6 (11, 6, 0, 2) := ⟨RTa, TTa, 7, rfl, by decide, sx_in 285 (by decide +kernel) rfl, (fun h => by cases h), (fun h => by cases h)⟩
set_option maxRecDepth 100000 in
theorem fkTa_15 : sx_fok 6 (15, 6, 1, 0) := ⟨RTa, TTa, 7, rfl, by decide, sx_in 286 (by decide +kernel) rfl, (fun h => by exact ⟨rfl, by decide +kernel⟩), (fun h => by cases h)⟩
set_option maxRecDepth 100000 in
theorem fkTa_19 : sx_fok 6 (19, 6, 2, 0) := ⟨RTa, TTa, 7, rfl, by decide, sx_in 288 (by decide +kernel) rfl, (fun h => by exact ⟨rfl, by decide +kernel⟩), (fun h => by cases h)⟩
set_option maxRecDepth 100000 in
theorem fkTa_22 : sx_fok 6 (22, 6, 3, 0) := ⟨RTa, TTa, 7, rfl, by decide, sx_in 290 (by decide +kernel) rfl, (fun h => by exact ⟨rfl, by decide +kernel⟩), (fun h => by cases h)⟩
set_option maxRecDepth 100000 in
theorem fkTa_25 : sx_fok 6 (25, 6, 4, 2) := ⟨RTa, TTa, 7, rfl, by decide, sx_in 292 (by decide +kernel) rfl, (fun h => by cases h), (fun h => by cases h)⟩
set_option maxRecDepth 100000 in
theorem fkTa_28 : sx_fok 6 (28, 6, 5, 2) := ⟨RTa, TTa, 7, rfl, by decide, sx_in 294 (by decide +kernel) rfl, (fun h => by cases h), (fun h => by cases h)⟩
set_option maxRecDepth 100000 in
theorem fkTa_31 : sx_fok 6 (31, 6, 6, 2) := ⟨RTa, TTa, 7, rfl, by decide, sx_in 296 (by decide +kernel) rfl, (fun h => by cases h), (fun h => by cases h)⟩
def flTa : List (Nat × Nat × Nat × Nat) := [(11, 6, 0, 2), (15, 6, 1, 0), (19, 6, 2, 0), (22, 6, 3, 0), (25, 6, 4, 2), (28, 6, 5, 2), (31, 6, 6, 2)]
theorem flTa_ok : ∀ q ∈ flTa, sx_fok 6 q := List.forall_mem_cons.mpr ⟨fkTa_11, List.forall_mem_cons.mpr ⟨fkTa_15, List.forall_mem_cons.mpr ⟨fkTa_19, List.forall_mem_cons.mpr ⟨fkTa_22, List.forall_mem_cons.mpr ⟨fkTa_25, List.forall_mem_cons.mpr ⟨fkTa_28, List.forall_mem_cons.mpr ⟨fkTa_31, fun _ h => absurd h List.not_mem_nil⟩⟩⟩⟩⟩⟩⟩
set_option maxRecDepth 100000 in
theorem fkSb_95 : sx_fok 7 (95, 0, 0, 2) := ⟨RHo, THo, 10, rfl, by decide, sx_in 81 (by decide +kernel) rfl, (fun h => by cases h), (fun h => by cases h)⟩
set_option maxRecDepth 100000 in
theorem fkSb_98 : sx_fok 7 (98, 0, 1, 2) := ⟨RHo, THo, 10, rfl, by decide, sx_in 86 (by decide +kernel) rfl, (fun h => by cases h), (fun h => by cases h)⟩
set_option maxRecDepth 100000 in
theorem fkSb_101 : sx_fok 7 (101, 0, 2, 2) := ⟨RHo, THo, 10, rfl, by decide, sx_in 90 (by decide +kernel) rfl, (fun h => by cases h), (fun h => by cases h)⟩
set_option maxRecDepth 100000 in
theorem fkSb_110 : sx_fok 7 (110, 0, 3, 2) := ⟨RHo, THo, 10, rfl, by decide, sx_in 93 (by decide +kernel) rfl, (fun h => by cases h), (fun h => by cases h)⟩
set_option maxRecDepth 100000 in
theorem fkSb_77 : sx_fok 7 (77, 0, 4, 0) := ⟨RHo, THo, 10, rfl, by decide, sx_in 99 (by decide +kernel) rfl, (fun h => by exact ⟨rfl, by decide +kernel⟩), (fun h => by cases h)⟩
set_option maxRecDepth 100000 in
theorem fkSb_124 : sx_fok 7 (124, 0, 5, 0) := ⟨RHo, THo, 10, rfl, by decide, sx_in 106 (by decide +kernel) rfl, (fun h => by exact ⟨rfl, by decide +kernel⟩), (fun h => by cases h)⟩
set_option maxRecDepth 100000 in
theorem fkSb_130 : sx_fok 7 (130, 0, 6, 0) := ⟨RHo, THo, 10, rfl, by decide, sx_in 109 (by decide +kernel) rfl, (fun h => by exact ⟨rfl, by decide +kernel⟩), (fun h => by cases h)⟩
set_option maxRecDepth 100000 in
theorem fkSb_107 : sx_fok 7 (107, 0, 7, 1) := ⟨RHo, THo, 10, rfl, by decide, sx_in 111 (by decide +kernel) rfl, (fun h => by cases h), (fun h => by exact ⟨rfl, by decide +kernel⟩)⟩
set_option maxRecDepth 100000 in
theorem fkSb_104 : sx_fok 7 (104, 5, 1, 2) := ⟨RSt, TSt, 5, rfl, by decide, sx_in 148 (by decide +kernel) rfl, (fun h => by cases h), (fun h => by cases h)⟩
set_option maxRecDepth 100000 in
theorem fkSb_173 : sx_fok 7 (173, 3, 7, 2) := ⟨RSe, TSe, 14, rfl, by decide, sx_in 180 (by decide +kernel) rfl, (fun h => by cases h), (fun h => by cases h)⟩
set_option maxRecDepth 100000 in
theorem fkSb_195 : sx_fok 7 (195, 3, 10, 2) := ⟨RSe, TSe, 14, rfl, by decide, sx_in 184 (by decide +kernel) rfl, (fun h => by cases h), (fun h => by cases h)⟩
set_option maxRecDepth 100000 in
theorem fkSb_192 : sx_fok 7 (192, 3, 11, 0) := ⟨RSe, TSe, 14, rfl, by decide, sx_in 186 (by decide +kernel) rfl, (fun h => by exact ⟨rfl, by decide +kernel⟩), (fun h => by cases h)⟩
set_option maxRecDepth 100000 in
theorem fkSb_204 : sx_fok 7 (204, 1, 3, 2) := ⟨RMa, TMa, 7, rfl, by decide, sx_in 228 (by decide +kernel) rfl, (fun h => by cases h), (fun h => by cases h)⟩
set_option maxRecDepth 100000 in
theorem fkSb_201 : sx_fok 7 (201, 1, 4, 0) := ⟨RMa, TMa, 7, rfl, by decide, sx_in 230 (by decide +kernel) rfl, (fun h => by exact ⟨rfl, by decide +kernel⟩), (fun h => by cases h)⟩
set_option maxRecDepth 100000 in
theorem fkSb_144 : sx_fok 7 (144, 6, 1, 0) := ⟨RTa, TTa, 7, rfl, by decide, sx_in 287 (by decide +kernel) rfl, (fun h => by exact ⟨rfl, by decide +kernel⟩), (fun h => by cases h)⟩
set_option maxRecDepth 100000 in
theorem fkSb_151 : sx_fok 7 (151, 6, 2, 0) := ⟨RTa, TTa, 7, rfl, by decide, sx_in 289 (by decide +kernel) rfl, (fun h => by exact ⟨rfl, by decide +kernel⟩), (fun h => by cases h)⟩
set_option maxRecDepth 100000 in
theorem fkSb_157 : sx_fok 7 (157, 6, 3, 0) := ⟨RTa, TTa, 7, rfl, by decide, sx_in 291 (by decide +kernel) rfl, (fun h => by exact ⟨rfl, by decide +kernel⟩), (fun h => by cases h)⟩
set_option maxRecDepth 100000 in
theorem fkSb_160 : sx_fok 7 (160, 6, 4, 2) := ⟨RTa, TTa, 7, rfl, by decide, sx_in 293 (by decide +kernel) rfl, (fun h => by cases h), (fun h => by cases h)⟩
set_option maxRecDepth 100000 in
theorem fkSb_161 : sx_fok 7 (161, 6, 5, 2) := ⟨RTa, TTa, 7, rfl, by decide, sx_in 295 (by decide +kernel) rfl, (fun h => by cases h), (fun h => by cases h)⟩
set_option maxRecDepth 100000 in
theorem fkSb_162 : sx_fok 7 (162, 6, 6, 2) := ⟨RTa, TTa, 7, rfl, by decide, sx_in 297 (by decide +kernel) rfl, (fun h => by cases h), (fun h => by cases h)⟩
set_option maxRecDepth 100000 in
theorem fkSb_273 : sx_fok 7 (273, 4, 0, 2) := ⟨RSh, TSh, 4, rfl, by decide, sx_in 321 (by decide +kernel) rfl, (fun h => by cases h), (fun h => by cases h)⟩
set_option maxRecDepth 100000 in
theorem fkSb_256 : sx_fok 7 (256, 4, 1, 1) := ⟨RSh, TSh, 4, rfl, by decide, sx_in 323 (by decide +kernel) rfl, (fun h => by cases h), (fun h => by exact ⟨rfl, by decide +kernel⟩)⟩
set_option maxRecDepth 100000 in
theorem fkSb_266 : sx_fok 7 (266, 4, 2, 0) := ⟨RSh, TSh, 4, rfl, by decide, sx_in 325 (by decide +kernel) rfl, (fun h => by exact ⟨rfl, by decide +kernel⟩), (fun h => by cases h)⟩
set_option maxRecDepth 100000 in
theorem fkSb_259 : sx_fok 7 (259, 4, 3, 0) := ⟨RSh, TSh, 4, rfl, by decide, sx_in 327 (by decide +kernel) rfl, (fun h => by exact ⟨rfl, by decide +kernel⟩), (fun h => by cases h)⟩
set_option maxRecDepth 100000 in
theorem fkSb_10 : sx_fok 7 (10, 7, 0, 2) := ⟨RSb, TSb, 10, rfl, by decide, sx_in 337 (by decide +kernel) rfl, (fun h => by cases h), (fun h => by cases h)⟩
set_option maxRecDepth 100000 in
theorem fkSb_16 : sx_fok 7 (16, 7, 1, 2) := ⟨RSb, TSb, 10, rfl, by decide, sx_in 338 (by decide +kernel) rfl, (fun h => by cases h), (fun h => by cases h)⟩
set_option maxRecDepth 100000 in
theorem fkSb_19 : sx_fok 7 (19, 7, 2, 1) := ⟨RSb, TSb, 10, rfl, by decide, sx_in 339 (by decide +kernel) rfl, (fun h => by cases h), (fun h => by exact ⟨rfl, by decide +kernel⟩)⟩
set_option maxRecDepth 100000 in
theorem fkSb_28 : sx_fok 7 (28, 7, 3, 2) := ⟨RSb, TSb, 10, rfl, by decide, sx_in 340 (by decide +kernel) rfl, (fun h => by cases h), (fun h => by cases h)⟩
set_option maxRecDepth 100000 in
theorem fkSb_37 : sx_fok 7 (37, 7, 4, 2) := ⟨RSb, TSb, 10, rfl, by decide, sx_in 341 (by decide +kernel) rfl, (fun h => by cases h), (fun h => by cases h)⟩
set_option maxRecDepth 100000 in
theorem fkSb_44 : sx_fok 7 (44, 7, 5, 2) := ⟨RSb, TSb, 10, rfl, by decide, sx_in 342 (by decide +kernel) rfl, (fun h => by cases h), (fun h => by cases h)⟩
set_option maxRecDepth 100000 in
theorem fkSb_51 : sx_fok 7 (51, 7, 6, 2) := ⟨RSb, TSb, 10, rfl, by decide, sx_in 343 (by decide +kernel) rfl, (fun h => by cases h), (fun h => by cases h)⟩
set_option maxRecDepth 100000 in
theorem fkSb_58 : sx_fok 7 (58, 7, 7, 2) := ⟨RSb, TSb, 10, rfl, by decide, sx_in 344 (by decide +kernel) rfl, (fun h => by cases h), (fun h => by cases h)⟩
set_option maxRecDepth 100000 in
theorem fkSb_64 : sx_fok 7 (64, 7, 8, 2) := ⟨RSb, TSb, 10, rfl, by decide, sx_in 345 (by decide +kernel) rfl, (fun h => by cases h), (fun h => by cases h)⟩
set_option maxRecDepth 100000 in
theorem fkSb_68 : sx_fok 7 (68, 7, 9, 2) := ⟨RSb, TSb, 10, rfl, by decide, sx_in 346 (by decide +kernel) rfl, (fun h => by cases h), (fun h => by cases h)⟩
def flSb : List (Nat × Nat × Nat × Nat) := [(95, 0, 0, 2), (98, 0, 1, 2), (101, 0, 2, 2), (110, 0, 3, 2), (77, 0, 4, 0), (124, 0, 5, 0), (130, 0, 6, 0), (107, 0, 7, 1), (104, 5, 1, 2), (173, 3, 7, 2), (195, 3, 10, 2), (192, 3, 11, 0), (204, 1, 3, 2), (201, 1, 4, 0), (144, 6, 1, 0), (151, 6, 2, 0), (157, 6, 3, 0), (160, 6, 4, 2), (161, 6, 5, 2), (162, 6, 6, 2), (273, 4, 0, 2), (256, 4, 1, 1), (266, 4, 2, 0), (259, 4, 3, 0), (10, 7, 0, 2), (16, 7, 1, 2), (19, 7, 2, 1), (28, 7, 3, 2), (37, 7, 4, 2), (44, 7, 5, 2), (51, 7, 6, 2), (58, 7, 7, 2), (64, 7, 8, 2), (68, 7, 9, 2)]
theorem flSb_ok : ∀ q ∈ flSb, sx_fok 7 q := List.forall_mem_cons.mpr ⟨fkSb_95, List.forall_mem_cons.mpr ⟨fkSb_98, List.forall_mem_cons.mpr ⟨fkSb_101, List.forall_mem_cons.mpr ⟨fkSb_110, List.forall_mem_cons.mpr ⟨fkSb_77, List.forall_mem_cons.mpr ⟨fkSb_124, List.forall_mem_cons.mpr ⟨fkSb_130, List.forall_mem_cons.mpr ⟨fkSb_107, List.forall_mem_cons.mpr ⟨fkSb_104, List.forall_mem_cons.mpr ⟨fkSb_173, List.forall_mem_cons.mpr ⟨fkSb_195, List.forall_mem_cons.mpr ⟨fkSb_192, List.forall_mem_cons.mpr ⟨fkSb_204, List.forall_mem_cons.mpr ⟨fkSb_201, List.forall_mem_cons.mpr ⟨fkSb_144, List.forall_mem_cons.mpr ⟨fkSb_151, List.forall_mem_cons.mpr ⟨fkSb_157, List.forall_mem_cons.mpr ⟨fkSb_160, List.forall_mem_cons.mpr ⟨fkSb_161, List.forall_mem_cons.mpr ⟨fkSb_162, List.forall_mem_cons.mpr ⟨fkSb_273, List.forall_mem_cons.mpr ⟨fkSb_256, List.forall_mem_cons.mpr ⟨fkSb_266, List.forall_mem_cons.mpr ⟨fkSb_259, List.forall_mem_cons.mpr ⟨fkSb_10, List.forall_mem_cons.mpr ⟨fkSb_16, List.forall_mem_cons.mpr ⟨fkSb_19, List.forall_mem_cons.mpr ⟨fkSb_28, List.forall_mem_cons.mpr ⟨fkSb_37, List.forall_mem_cons.mpr ⟨fkSb_44, List.forall_mem_cons.mpr ⟨fkSb_51, List.forall_mem_cons.mpr ⟨fkSb_58, List.forall_mem_cons.mpr ⟨fkSb_64, List.forall_mem_cons.mpr ⟨fkSb_68, fun _ h => absurd h List.not_mem_nil⟩⟩⟩⟩⟩⟩⟩⟩⟩⟩⟩⟩⟩⟩⟩⟩⟩⟩⟩⟩⟩⟩⟩⟩⟩⟩⟩⟩⟩⟩⟩⟩⟩⟩
set_option maxRecDepth 100000 in
theorem fkMo_66 : sx_fok 8 (66, 8, 0, 0) := ⟨RMo, TMo, 24, rfl, by decide, sx_in 807 (by decide +kernel) rfl, (fun h => by exact ⟨rfl, by decide +kernel⟩), (fun h => by cases h)⟩
set_option maxRecDepth 100000 in
theorem fkMo_7 : sx_fok 8 (7, 8, 1, 2) := ⟨RMo, TMo, 24, rfl, by decide, sx_in 808 (by decide +kernel) rfl, (fun h => by cases h), (fun h => by cases h)⟩
set_option maxRecDepth 100000 in
theorem fkMo_13 : sx_fok 8 (13, 8, 2, 2) := ⟨RMo, TMo, 24, rfl, by decide, sx_in 809 (by decide +kernel) rfl, (fun h => by cases h), (fun h => by cases h)⟩
set_option maxRecDepth 100000 in
theorem fkMo_16 : sx_fok 8 (16, 8, 3, 2) := ⟨RMo, TMo, 24, rfl, by decide, sx_in 810 (by decide +kernel) rfl, (fun h => by cases h), (fun h => by cases h)⟩
set_option maxRecDepth 100000 in
theorem fkMo_19 : sx_fok 8 (19, 8, 4, 2) := ⟨RMo, TMo, 24, rfl, by decide, sx_in 811 (by decide +kernel) rfl, (fun h => by cases h), (fun h => by cases h)⟩
set_option maxRecDepth 100000 in
theorem fkMo_75 : sx_fok 8 (75, 8, 5, 1) := ⟨RMo, TMo, 24, rfl, by decide, sx_in 812 (by decide +kernel) rfl, (fun h => by cases h), (fun h => by exact ⟨rfl, by decide +kernel⟩)⟩
set_option maxRecDepth 100000 in
theorem fkMo_59 : sx_fok 8 (59, 8, 6, 0) := ⟨RMo, TMo, 24, rfl, by decide, sx_in 813 (by decide +kernel) rfl, (fun h => by exact ⟨rfl, by decide +kernel⟩), (fun h => by cases h)⟩
set_option maxRecDepth 100000 in
theorem fkMo_63 : sx_fok 8 (63, 8, 7, 0) := ⟨RMo, TMo, 24, rfl, by decide, sx_in 814 (by decide +kernel) rfl, (fun h => by exact ⟨rfl, by decide +kernel⟩), (fun h => by cases h)⟩
set_option maxRecDepth 100000 in
theorem fkMo_22 : sx_fok 8 (22, 8, 8, 2) := ⟨RMo, TMo, 24, rfl, by decide, sx_in 815 (by decide +kernel) rfl, (fun h => by cases h), (fun h => by cases h)⟩
set_option maxRecDepth 100000 in
theorem fkMo_25 : sx_fok 8 (25, 8, 9, 2) := ⟨RMo, TMo, 24, rfl, by decide, sx_in 816 (by decide +kernel) rfl, (fun h => by cases h), (fun h => by cases h)⟩
set_option maxRecDepth 100000 in
theorem fkMo_28 : sx_fok 8 (28, 8, 10, 2) := ⟨RMo, TMo, 24, rfl, by decide, sx_in 817 (by decide +kernel) rfl, (fun h => by cases h), (fun h => by cases h)⟩
set_option maxRecDepth 100000 in
theorem fkMo_31 : sx_fok 8 (31, 8, 11, 2) := ⟨RMo, TMo, 24, rfl, by decide, sx_in 818 (by decide +kernel) rfl, (fun h => by cases h), (fun h => by cases h)⟩
set_option maxRecDepth 100000 in
theorem fkMo_34 : sx_fok 8 (34, 8, 12, 2) := ⟨RMo, TMo, 24, rfl, by decide, sx_in 819 (by decide +kernel) rfl, (fun h => by cases h), (fun h => by cases h)⟩
set_option maxRecDepth 100000 in
theorem fkMo_37 : sx_fok 8 (37, 8, 13, 2) := ⟨RMo, TMo, 24, rfl, by decide, sx_in 820 (by decide +kernel) rfl, (fun h => by cases h), (fun h => by cases h)⟩
set_option maxRecDepth 100000 in
theorem fkMo_170 : sx_fok 8 (170, 8, 14, 0) := ⟨RMo, TMo, 24, rfl, by decide, sx_in 821 (by decide +kernel) rfl, (fun h => by exact ⟨rfl, by decide +kernel⟩), (fun h => by cases h)⟩
set_option maxRecDepth 100000 in
theorem fkMo_173 : sx_fok 8 (173, 8, 15, 0) := ⟨RMo, TMo, 24, rfl, by decide, sx_in 822 (by decide +kernel) rfl, (fun h => by exact ⟨rfl, by decide +kernel⟩), (fun h => by cases h)⟩
set_option maxRecDepth 100000 in
theorem fkMo_176 : sx_fok 8 (176, 8, 16, 1) := ⟨RMo, TMo, 24, rfl, by decide, sx_in 823 (by decide +kernel) rfl, (fun h => by cases h), (fun h => by exact ⟨rfl, by decide +kernel⟩)⟩
set_option maxRecDepth 100000 in
theorem fkMo_40 : sx_fok 8 (40, 8, 17, 2) := ⟨RMo, TMo, 24, rfl, by decide, sx_in 824 (by decide +kernel) rfl, (fun h => by cases h), (fun h => by cases h)⟩
set_option maxRecDepth 100000 in
theorem fkMo_43 : sx_fok 8 (43, 8, 18, 2) := ⟨RMo, TMo, 24, rfl, by decide, sx_in 825 (by decide +kernel) rfl, (fun h => by cases h), (fun h => by cases h)⟩
set_option maxRecDepth 100000 in
theorem fkMo_203 : sx_fok 8 (203, 8, 19, 1) := ⟨RMo, TMo, 24, rfl, by decide, sx_in 826 (by decide +kernel) rfl, (fun h => by cases h), (fun h => by exact ⟨rfl, by decide +kernel⟩)⟩
set_option maxRecDepth 100000 in
theorem fkMo_46 : sx_fok 8 (46, 8, 20, 2) := ⟨RMo, TMo, 24, rfl, by decide, sx_in 827 (by decide +kernel) rfl, (fun h => by cases h), (fun h => by cases h)⟩
set_option maxRecDepth 100000 in
theorem fkMo_49 : sx_fok 8 (49, 8, 21, 2) := ⟨RMo, TMo, 24, rfl, by decide, sx_in 828 (by decide +kernel) rfl, (fun h => by cases h), (fun h => by cases h)⟩
set_option maxRecDepth 100000 in
theorem fkMo_52 : sx_fok 8 (52, 8, 22, 2) := ⟨RMo, TMo, 24, rfl, by decide, sx_in 829 (by decide +kernel) rfl, (fun h => by cases h), (fun h => by cases h)⟩
set_option maxRecDepth 100000 in
theorem fkMo_56 : sx_fok 8 (56, 8, 23, 2) := ⟨RMo, TMo, 24, rfl, by decide, sx_in 830 (by decide +kernel) rfl, (fun h => by cases h), (fun h => by cases h)⟩
def flMo : List (Nat × Nat × Nat × Nat) := [(66, 8, 0, 0), (7, 8, 1, 2), (13, 8, 2, 2), (16, 8, 3, 2), (19, 8, 4, 2), (75, 8, 5, 1), (59, 8, 6, 0), (63, 8, 7, 0), (22, 8, 8, 2), (25, 8, 9, 2), (28, 8, 10, 2), (31, 8, 11, 2), (34, 8, 12, 2), (37, 8, 13, 2), (170, 8, 14, 0), (173, 8, 15, 0), (176, 8, 16, 1), (40, 8, 17, 2), (43, 8, 18, 2), (203, 8, 19, 1), (46, 8, 20, 2), (49, 8, 21, 2), (52, 8, 22, 2), (56, 8, 23, 2)]
theorem flMo_ok : ∀ q ∈ flMo, sx_fok 8 q := List.forall_mem_cons.mpr ⟨fkMo_66, List.forall_mem_cons.mpr ⟨fkMo_7, List.forall_mem_cons.mpr ⟨fkMo_13, List.forall_mem_cons.mpr ⟨fkMo_16, List.forall_mem_cons.mpr ⟨fkMo_19, List.forall_mem_cons.mpr ⟨fkMo_75, List.forall_mem_cons.mpr ⟨fkMo_59, List.forall_mem_cons.mpr ⟨fkMo_63, List.forall_mem_cons.mpr ⟨fkMo_22, List.forall_mem_cons.mpr ⟨fkMo_25, List.forall_mem_cons.mpr ⟨fkMo_28, List.forall_mem_cons.mpr ⟨fkMo_31, List.forall_mem_cons.mpr ⟨fkMo_34, List.forall_mem_cons.mpr ⟨fkMo_37, List.forall_mem_cons.mpr ⟨fkMo_170, List.forall_mem_cons.mpr ⟨fkMo_173, List.forall_mem_cons.mpr ⟨fkMo_176, List.forall_mem_cons.mpr ⟨fkMo_40, List.forall_mem_cons.mpr ⟨fkMo_43, List.forall_mem_cons.mpr ⟨fkMo_203, List.forall_mem_cons.mpr ⟨fkMo_46, List.forall_mem_cons.mpr ⟨fkMo_49, List.forall_mem_cons.mpr ⟨fkMo_52, List.forall_mem_cons.mpr ⟨fkMo_56, fun _ h => absurd h List.not_mem_nil⟩⟩⟩⟩⟩⟩⟩⟩⟩⟩⟩⟩⟩⟩⟩⟩⟩⟩⟩⟩⟩⟩⟩⟩
def sx_fl : Nat → List (Nat × Nat × Nat × Nat) := fun k => match k with
  | 0 => flHo
  | 1 => flMa
  | 2 => flNi
  | 3 => flSe
  | 4 => flSh
  | 5 => flSt
  | 6 => flTa
  | 7 => flSb
  | 8 => flMo
  | _ => []
theorem sx_fl_ok : ∀ own, ∀ q ∈ sx_fl own, sx_fok own q := by
  intro own
  match own with
  | 0 => exact flHo_ok
  | 1 => exact flMa_ok
  | 2 => exact flNi_ok
  | 3 => exact flSe_ok
  | 4 => exact flSh_ok
  | 5 => exact flSt_ok
  | 6 => exact flTa_ok
  | 7 => exact flSb_ok
  | 8 => exact flMo_ok
  | n + 9 => exact fun _ h => absurd h List.not_mem_nil
def sx_nl : List (String × Nat × MethodName × String) := [("SixBeds$Market", 97, rSb_holds.1, "SixBeds"), ("SixBeds$Night", 49, rSb_holds.1, "SixBeds"), ("SixBeds$Search", 107, rSb_holds.1, "SixBeds"), ("SixBeds$Stays", 46, rSb_holds.1, "SixBeds"), ("SixBeds$Stays", 42, rSb_isPart.1, "SixBeds"), ("SixBeds$Tape", 53, rSb_isPart.1, "SixBeds"), ("SixBeds$Tape", 56, rSb_holds.1, "SixBeds")]
set_option maxRecDepth 100000 in
theorem sx_nl_ok : ∀ q ∈ sx_nl, Cond.methodLinkNest q.1 q.2.1 q.2.2.1 q.2.2.2 ∈ lw_tbl := List.forall_mem_cons.mpr ⟨List.mem_of_getElem? (i := 655) (by decide +kernel), List.forall_mem_cons.mpr ⟨List.mem_of_getElem? (i := 679) (by decide +kernel), List.forall_mem_cons.mpr ⟨List.mem_of_getElem? (i := 553) (by decide +kernel), List.forall_mem_cons.mpr ⟨List.mem_of_getElem? (i := 398) (by decide +kernel), List.forall_mem_cons.mpr ⟨List.mem_of_getElem? (i := 512) (by decide +kernel), List.forall_mem_cons.mpr ⟨List.mem_of_getElem? (i := 486) (by decide +kernel), List.forall_mem_cons.mpr ⟨List.mem_of_getElem? (i := 487) (by decide +kernel), fun _ h => absurd h List.not_mem_nil⟩⟩⟩⟩⟩⟩⟩
def sx_ck0 (own : Nat) (q : Nat × Nat × Nat × Nat × sx_R) : Prop := match q.2.1 with
  | 0 => Cond.methodLink (sx_cn own) q.1 q.2.2.2.2.1 ∈ sx_T ∧ Cond.instanceMethod q.2.2.2.2.1 ∈ sx_T ∧ Cond.selects q.2.2.2.2.1.cls q.2.2.2.2.1 q.2.2.2.2.1 ∈ sx_T ∧ (vwCl[q.2.2.2.1]?).map (fun z => z.1) = some q.2.2.2.2.1.cls
  | 1 => Cond.methodLink (sx_cn own) q.1 q.2.2.2.2.1 ∈ sx_T ∧ Cond.static q.2.2.2.2.1 ∈ sx_T
  | 2 => (∃ host : String, (sx_cn own, q.1, q.2.2.2.2.1, host) ∈ sx_nl) ∧ Cond.static q.2.2.2.2.1 ∈ sx_T
  | _ => False
def sx_rok (n : Nat) (r : sx_R) : Prop := Cond.code r.1 r.2.1 r.2.2.1 r.2.2.2 ∈ sx_T ∧ Cond.initialized r.1.cls ∈ sx_T ∧ (r.1.cls ≠ "java/lang/invoke/MethodHandle" ∧ r.1.cls ≠ "java/lang/invoke/VarHandle" ∧ (parseMethodDescriptor r.1.desc).map (fun d => d.parameters.length) = some n) ∧ r.2.2.1 ≤ 40 ∧ plainName r.1.cls = true
def sx_cok (own : Nat) (q : Nat × Nat × Nat × Nat × sx_R) : Prop := sx_ck0 own q ∧ sx_rok q.2.2.1 q.2.2.2.2
set_option maxRecDepth 100000 in
theorem rkHo_has : sx_rok 1 rHo_has := ⟨sx_in 408 rfl rfl, sx_in 56 (by decide +kernel) rfl, ⟨by decide, by decide, by decide +kernel⟩, by decide, by decide⟩
set_option maxRecDepth 100000 in
theorem rkHo_isSetOfLodgers : sx_rok 1 rHo_isSetOfLodgers := ⟨sx_in 703 rfl rfl, sx_in 56 (by decide +kernel) rfl, ⟨by decide, by decide, by decide +kernel⟩, by decide, by decide⟩
set_option maxRecDepth 100000 in
theorem rkHo_needOfAll : sx_rok 0 rHo_needOfAll := ⟨sx_in 499 rfl rfl, sx_in 56 (by decide +kernel) rfl, ⟨by decide, by decide, by decide +kernel⟩, by decide, by decide⟩
set_option maxRecDepth 100000 in
theorem rkHo_sleepSet : sx_rok 2 rHo_sleepSet := ⟨sx_in 390 rfl rfl, sx_in 56 (by decide +kernel) rfl, ⟨by decide, by decide, by decide +kernel⟩, by decide, by decide⟩
set_option maxRecDepth 100000 in
theorem rkHo_admit : sx_rok 3 rHo_admit := ⟨sx_in 378 rfl rfl, sx_in 56 (by decide +kernel) rfl, ⟨by decide, by decide, by decide +kernel⟩, by decide, by decide⟩
set_option maxRecDepth 100000 in
theorem rkHo_dismiss : sx_rok 1 rHo_dismiss := ⟨sx_in 412 rfl rfl, sx_in 56 (by decide +kernel) rfl, ⟨by decide, by decide, by decide +kernel⟩, by decide, by decide⟩
set_option maxRecDepth 100000 in
theorem rkHo_empty : sx_rok 0 rHo_empty := ⟨sx_in 491 rfl rfl, sx_in 56 (by decide +kernel) rfl, ⟨by decide, by decide, by decide +kernel⟩, by decide, by decide⟩
set_option maxRecDepth 100000 in
theorem rkHo_employ : sx_rok 2 rHo_employ := ⟨sx_in 424 rfl rfl, sx_in 56 (by decide +kernel) rfl, ⟨by decide, by decide, by decide +kernel⟩, by decide, by decide⟩
set_option maxRecDepth 100000 in
theorem rkHo_furnish : sx_rok 1 rHo_furnish := ⟨sx_in 440 rfl rfl, sx_in 56 (by decide +kernel) rfl, ⟨by decide, by decide, by decide +kernel⟩, by decide, by decide⟩
set_option maxRecDepth 100000 in
theorem rkHo_tellRow : sx_rok 1 rHo_tellRow := ⟨sx_in 602 rfl rfl, sx_in 56 (by decide +kernel) rfl, ⟨by decide, by decide, by decide +kernel⟩, by decide, by decide⟩
set_option maxRecDepth 100000 in
theorem rkHo_shift : sx_rok 2 rHo_shift := ⟨sx_in 611 rfl rfl, sx_in 56 (by decide +kernel) rfl, ⟨by decide, by decide, by decide +kernel⟩, by decide, by decide⟩
set_option maxRecDepth 100000 in
theorem rkHo_become : sx_rok 1 rHo_become := ⟨sx_in 735 rfl rfl, sx_in 56 (by decide +kernel) rfl, ⟨by decide, by decide, by decide +kernel⟩, by decide, by decide⟩
set_option maxRecDepth 100000 in
theorem rkHo_lodgersChanged : sx_rok 0 rHo_lodgersChanged := ⟨sx_in 382 rfl rfl, sx_in 56 (by decide +kernel) rfl, ⟨by decide, by decide, by decide +kernel⟩, by decide, by decide⟩
set_option maxRecDepth 100000 in
theorem rkMa_knowsLeast : sx_rok 0 rMa_knowsLeast := ⟨sx_in 627 rfl rfl, sx_in 59 (by decide +kernel) rfl, ⟨by decide, by decide, by decide +kernel⟩, by decide, by decide⟩
set_option maxRecDepth 100000 in
theorem rkMa_areCleared : sx_rok 1 rMa_areCleared := ⟨sx_in 642 rfl rfl, sx_in 59 (by decide +kernel) rfl, ⟨by decide, by decide, by decide +kernel⟩, by decide, by decide⟩
set_option maxRecDepth 100000 in
theorem rkMa_findLeast : sx_rok 0 rMa_findLeast := ⟨sx_in 635 rfl rfl, sx_in 59 (by decide +kernel) rfl, ⟨by decide, by decide, by decide +kernel⟩, by decide, by decide⟩
set_option maxRecDepth 100000 in
theorem rkMa_clearFrom : sx_rok 3 rMa_clearFrom := ⟨sx_in 638 rfl rfl, sx_in 59 (by decide +kernel) rfl, ⟨by decide, by decide, by decide +kernel⟩, by decide, by decide⟩
set_option maxRecDepth 100000 in
theorem rkMa_reckonCosts : sx_rok 1 rMa_reckonCosts := ⟨sx_in 646 rfl rfl, sx_in 59 (by decide +kernel) rfl, ⟨by decide, by decide, by decide +kernel⟩, by decide, by decide⟩
set_option maxRecDepth 100000 in
theorem rkMa_later : sx_rok 2 rMa_later := ⟨sx_in 649 rfl rfl, sx_in 59 (by decide +kernel) rfl, ⟨by decide, by decide, by decide +kernel⟩, by decide, by decide⟩
set_option maxRecDepth 100000 in
theorem rkMa_cheapest : sx_rok 1 rMa_cheapest := ⟨sx_in 654 rfl rfl, sx_in 59 (by decide +kernel) rfl, ⟨by decide, by decide, by decide +kernel⟩, by decide, by decide⟩
set_option maxRecDepth 100000 in
theorem rkNi_bedOf : sx_rok 2 rNi_bedOf := ⟨sx_in 665 rfl rfl, sx_in 60 (by decide +kernel) rfl, ⟨by decide, by decide, by decide +kernel⟩, by decide, by decide⟩
set_option maxRecDepth 100000 in
theorem rkNi_linenChanges : sx_rok 0 rNi_linenChanges := ⟨sx_in 691 rfl rfl, sx_in 60 (by decide +kernel) rfl, ⟨by decide, by decide, by decide +kernel⟩, by decide, by decide⟩
set_option maxRecDepth 100000 in
theorem rkNi_sickAfter : sx_rok 2 rNi_sickAfter := ⟨sx_in 710 rfl rfl, sx_in 60 (by decide +kernel) rfl, ⟨by decide, by decide, by decide +kernel⟩, by decide, by decide⟩
set_option maxRecDepth 100000 in
theorem rkNi_bringersOf : sx_rok 2 rNi_bringersOf := ⟨sx_in 726 rfl rfl, sx_in 60 (by decide +kernel) rfl, ⟨by decide, by decide, by decide +kernel⟩, by decide, by decide⟩
set_option maxRecDepth 100000 in
theorem rkNi_spread : sx_rok 1 rNi_spread := ⟨sx_in 714 rfl rfl, sx_in 60 (by decide +kernel) rfl, ⟨by decide, by decide, by decide +kernel⟩, by decide, by decide⟩
set_option maxRecDepth 100000 in
theorem rkNi_hasIt : sx_rok 2 rNi_hasIt := ⟨sx_in 718 rfl rfl, sx_in 60 (by decide +kernel) rfl, ⟨by decide, by decide, by decide +kernel⟩, by decide, by decide⟩
set_option maxRecDepth 100000 in
theorem rkNi_stripBeds : sx_rok 0 rNi_stripBeds := ⟨sx_in 695 rfl rfl, sx_in 60 (by decide +kernel) rfl, ⟨by decide, by decide, by decide +kernel⟩, by decide, by decide⟩
set_option maxRecDepth 100000 in
theorem rkNi_settle : sx_rok 0 rNi_settle := ⟨sx_in 669 rfl rfl, sx_in 60 (by decide +kernel) rfl, ⟨by decide, by decide, by decide +kernel⟩, by decide, by decide⟩
set_option maxRecDepth 100000 in
theorem rkNi_keepBeds : sx_rok 1 rNi_keepBeds := ⟨sx_in 673 rfl rfl, sx_in 60 (by decide +kernel) rfl, ⟨by decide, by decide, by decide +kernel⟩, by decide, by decide⟩
set_option maxRecDepth 100000 in
theorem rkNi_layDown : sx_rok 2 rNi_layDown := ⟨sx_in 683 rfl rfl, sx_in 60 (by decide +kernel) rfl, ⟨by decide, by decide, by decide +kernel⟩, by decide, by decide⟩
set_option maxRecDepth 100000 in
theorem rkNi_sleepsIn : sx_rok 2 rNi_sleepsIn := ⟨sx_in 677 rfl rfl, sx_in 60 (by decide +kernel) rfl, ⟨by decide, by decide, by decide +kernel⟩, by decide, by decide⟩
set_option maxRecDepth 100000 in
theorem rkSe_knowsFirst : sx_rok 0 rSe_knowsFirst := ⟨sx_in 526 rfl rfl, sx_in 58 (by decide +kernel) rfl, ⟨by decide, by decide, by decide +kernel⟩, by decide, by decide⟩
set_option maxRecDepth 100000 in
theorem rkSe_knowsMended : sx_rok 0 rSe_knowsMended := ⟨sx_in 619 rfl rfl, sx_in 58 (by decide +kernel) rfl, ⟨by decide, by decide, by decide +kernel⟩, by decide, by decide⟩
set_option maxRecDepth 100000 in
theorem rkSe_countGood : sx_rok 0 rSe_countGood := ⟨sx_in 583 rfl rfl, sx_in 58 (by decide +kernel) rfl, ⟨by decide, by decide, by decide +kernel⟩, by decide, by decide⟩
set_option maxRecDepth 100000 in
theorem rkSe_fewestBeds : sx_rok 0 rSe_fewestBeds := ⟨sx_in 594 rfl rfl, sx_in 58 (by decide +kernel) rfl, ⟨by decide, by decide, by decide +kernel⟩, by decide, by decide⟩
set_option maxRecDepth 100000 in
theorem rkSe_findFirst : sx_rok 2 rSe_findFirst := ⟨sx_in 530 rfl rfl, sx_in 58 (by decide +kernel) rfl, ⟨by decide, by decide, by decide +kernel⟩, by decide, by decide⟩
set_option maxRecDepth 100000 in
theorem rkSe_earliest : sx_rok 2 rSe_earliest := ⟨sx_in 572 rfl rfl, sx_in 58 (by decide +kernel) rfl, ⟨by decide, by decide, by decide +kernel⟩, by decide, by decide⟩
set_option maxRecDepth 100000 in
theorem rkSe_exists : sx_rok 2 rSe_exists := ⟨sx_in 557 rfl rfl, sx_in 58 (by decide +kernel) rfl, ⟨by decide, by decide, by decide +kernel⟩, by decide, by decide⟩
set_option maxRecDepth 100000 in
theorem rkSe_hasRoomForAll : sx_rok 1 rSe_hasRoomForAll := ⟨sx_in 561 rfl rfl, sx_in 58 (by decide +kernel) rfl, ⟨by decide, by decide, by decide +kernel⟩, by decide, by decide⟩
set_option maxRecDepth 100000 in
theorem rkSe_openAll : sx_rok 0 rSe_openAll := ⟨sx_in 534 rfl rfl, sx_in 58 (by decide +kernel) rfl, ⟨by decide, by decide, by decide +kernel⟩, by decide, by decide⟩
set_option maxRecDepth 100000 in
theorem rkSe_sortLodgers : sx_rok 0 rSe_sortLodgers := ⟨sx_in 538 rfl rfl, sx_in 58 (by decide +kernel) rfl, ⟨by decide, by decide, by decide +kernel⟩, by decide, by decide⟩
set_option maxRecDepth 100000 in
theorem rkSe_hasteOf : sx_rok 1 rSe_hasteOf := ⟨sx_in 542 rfl rfl, sx_in 58 (by decide +kernel) rfl, ⟨by decide, by decide, by decide +kernel⟩, by decide, by decide⟩
set_option maxRecDepth 100000 in
theorem rkSe_howMany : sx_rok 1 rSe_howMany := ⟨sx_in 552 rfl rfl, sx_in 58 (by decide +kernel) rfl, ⟨by decide, by decide, by decide +kernel⟩, by decide, by decide⟩
set_option maxRecDepth 100000 in
theorem rkSe_fillFrom : sx_rok 4 rSe_fillFrom := ⟨sx_in 566 rfl rfl, sx_in 58 (by decide +kernel) rfl, ⟨by decide, by decide, by decide +kernel⟩, by decide, by decide⟩
set_option maxRecDepth 100000 in
theorem rkSe_countFrom : sx_rok 4 rSe_countFrom := ⟨sx_in 586 rfl rfl, sx_in 58 (by decide +kernel) rfl, ⟨by decide, by decide, by decide +kernel⟩, by decide, by decide⟩
set_option maxRecDepth 100000 in
theorem rkSh_begin : sx_rok 2 rSh_begin := ⟨sx_in 779 rfl rfl, sx_in 62 (by decide +kernel) rfl, ⟨by decide, by decide, by decide +kernel⟩, by decide, by decide⟩
set_option maxRecDepth 100000 in
theorem rkSh_reaches : sx_rok 2 rSh_reaches := ⟨sx_in 757 rfl rfl, sx_in 62 (by decide +kernel) rfl, ⟨by decide, by decide, by decide +kernel⟩, by decide, by decide⟩
set_option maxRecDepth 100000 in
theorem rkSh_put : sx_rok 2 rSh_put := ⟨sx_in 791 rfl rfl, sx_in 62 (by decide +kernel) rfl, ⟨by decide, by decide, by decide +kernel⟩, by decide, by decide⟩
set_option maxRecDepth 100000 in
theorem rkSt_allMayBegin : sx_rok 0 rSt_allMayBegin := ⟨sx_in 631 rfl rfl, sx_in 57 (by decide +kernel) rfl, ⟨by decide, by decide, by decide +kernel⟩, by decide, by decide⟩
set_option maxRecDepth 100000 in
theorem rkSt_firstSpoiler : sx_rok 1 rSt_firstSpoiler := ⟨sx_in 507 rfl rfl, sx_in 57 (by decide +kernel) rfl, ⟨by decide, by decide, by decide +kernel⟩, by decide, by decide⟩
set_option maxRecDepth 100000 in
theorem rkSt_nobodyIn : sx_rok 1 rSt_nobodyIn := ⟨sx_in 510 rfl rfl, sx_in 57 (by decide +kernel) rfl, ⟨by decide, by decide, by decide +kernel⟩, by decide, by decide⟩
set_option maxRecDepth 100000 in
theorem rkSt_joined : sx_rok 3 rSt_joined := ⟨sx_in 516 rfl rfl, sx_in 57 (by decide +kernel) rfl, ⟨by decide, by decide, by decide +kernel⟩, by decide, by decide⟩
set_option maxRecDepth 100000 in
theorem rkSt_refresh : sx_rok 0 rSt_refresh := ⟨sx_in 386 rfl rfl, sx_in 57 (by decide +kernel) rfl, ⟨by decide, by decide, by decide +kernel⟩, by decide, by decide⟩
set_option maxRecDepth 100000 in
theorem rkSt_note : sx_rok 3 rSt_note := ⟨sx_in 394 rfl rfl, sx_in 57 (by decide +kernel) rfl, ⟨by decide, by decide, by decide +kernel⟩, by decide, by decide⟩
set_option maxRecDepth 100000 in
theorem rkSt_oneInEach : sx_rok 1 rSt_oneInEach := ⟨sx_in 397 rfl rfl, sx_in 57 (by decide +kernel) rfl, ⟨by decide, by decide, by decide +kernel⟩, by decide, by decide⟩
set_option maxRecDepth 100000 in
theorem rkTa_canHold : sx_rok 2 rTa_canHold := ⟨sx_in 451 rfl rfl, sx_in 61 (by decide +kernel) rfl, ⟨by decide, by decide, by decide +kernel⟩, by decide, by decide⟩
set_option maxRecDepth 100000 in
theorem rkTa_hasRoom : sx_rok 1 rTa_hasRoom := ⟨sx_in 458 rfl rfl, sx_in 61 (by decide +kernel) rfl, ⟨by decide, by decide, by decide +kernel⟩, by decide, by decide⟩
set_option maxRecDepth 100000 in
theorem rkTa_append : sx_rok 2 rTa_append := ⟨sx_in 462 rfl rfl, sx_in 61 (by decide +kernel) rfl, ⟨by decide, by decide, by decide +kernel⟩, by decide, by decide⟩
set_option maxRecDepth 100000 in
theorem rkTa_parses : sx_rok 0 rTa_parses := ⟨sx_in 470 rfl rfl, sx_in 61 (by decide +kernel) rfl, ⟨by decide, by decide, by decide +kernel⟩, by decide, by decide⟩
set_option maxRecDepth 100000 in
theorem rkTa_readLodger : sx_rok 1 rTa_readLodger := ⟨sx_in 474 rfl rfl, sx_in 61 (by decide +kernel) rfl, ⟨by decide, by decide, by decide +kernel⟩, by decide, by decide⟩
set_option maxRecDepth 100000 in
theorem rkTa_readWork : sx_rok 1 rTa_readWork := ⟨sx_in 485 rfl rfl, sx_in 61 (by decide +kernel) rfl, ⟨by decide, by decide, by decide +kernel⟩, by decide, by decide⟩
set_option maxRecDepth 100000 in
theorem rkTa_peek : sx_rok 0 rTa_peek := ⟨sx_in 478 rfl rfl, sx_in 61 (by decide +kernel) rfl, ⟨by decide, by decide, by decide +kernel⟩, by decide, by decide⟩
set_option maxRecDepth 100000 in
theorem rkTa_kindOf : sx_rok 1 rTa_kindOf := ⟨sx_in 481 rfl rfl, sx_in 61 (by decide +kernel) rfl, ⟨by decide, by decide, by decide +kernel⟩, by decide, by decide⟩
set_option maxRecDepth 100000 in
theorem rkTa_byteAt : sx_rok 2 rTa_byteAt := ⟨sx_in 454 rfl rfl, sx_in 61 (by decide +kernel) rfl, ⟨by decide, by decide, by decide +kernel⟩, by decide, by decide⟩
set_option maxRecDepth 100000 in
theorem rkSb_lodger : sx_rok 3 rSb_lodger := ⟨sx_in 371 rfl rfl, sx_in 55 (by decide +kernel) rfl, ⟨by decide, by decide, by decide +kernel⟩, by decide, by decide⟩
set_option maxRecDepth 100000 in
theorem rkSb_leave : sx_rok 1 rSb_leave := ⟨sx_in 404 rfl rfl, sx_in 55 (by decide +kernel) rfl, ⟨by decide, by decide, by decide +kernel⟩, by decide, by decide⟩
set_option maxRecDepth 100000 in
theorem rkSb_told : sx_rok 2 rSb_told := ⟨sx_in 416 rfl rfl, sx_in 55 (by decide +kernel) rfl, ⟨by decide, by decide, by decide +kernel⟩, by decide, by decide⟩
set_option maxRecDepth 100000 in
theorem rkSb_work : sx_rok 2 rSb_work := ⟨sx_in 420 rfl rfl, sx_in 55 (by decide +kernel) rfl, ⟨by decide, by decide, by decide +kernel⟩, by decide, by decide⟩
set_option maxRecDepth 100000 in
theorem rkSb_sleeps : sx_rok 2 rSb_sleeps := ⟨sx_in 428 rfl rfl, sx_in 55 (by decide +kernel) rfl, ⟨by decide, by decide, by decide +kernel⟩, by decide, by decide⟩
set_option maxRecDepth 100000 in
theorem rkSb_beds : sx_rok 1 rSb_beds := ⟨sx_in 436 rfl rfl, sx_in 55 (by decide +kernel) rfl, ⟨by decide, by decide, by decide +kernel⟩, by decide, by decide⟩
set_option maxRecDepth 100000 in
theorem rkSb_lasts : sx_rok 1 rSb_lasts := ⟨sx_in 444 rfl rfl, sx_in 55 (by decide +kernel) rfl, ⟨by decide, by decide, by decide +kernel⟩, by decide, by decide⟩
set_option maxRecDepth 100000 in
theorem rkSb_type : sx_rok 2 rSb_type := ⟨sx_in 448 rfl rfl, sx_in 55 (by decide +kernel) rfl, ⟨by decide, by decide, by decide +kernel⟩, by decide, by decide⟩
set_option maxRecDepth 100000 in
theorem rkSb_lodging : sx_rok 0 rSb_lodging := ⟨sx_in 466 rfl rfl, sx_in 55 (by decide +kernel) rfl, ⟨by decide, by decide, by decide +kernel⟩, by decide, by decide⟩
set_option maxRecDepth 100000 in
theorem rkSb_count : sx_rok 1 rSb_count := ⟨sx_in 495 rfl rfl, sx_in 55 (by decide +kernel) rfl, ⟨by decide, by decide, by decide +kernel⟩, by decide, by decide⟩
set_option maxRecDepth 100000 in
theorem rkSb_first : sx_rok 1 rSb_first := ⟨sx_in 522 rfl rfl, sx_in 55 (by decide +kernel) rfl, ⟨by decide, by decide, by decide +kernel⟩, by decide, by decide⟩
set_option maxRecDepth 100000 in
theorem rkSb_ways : sx_rok 0 rSb_ways := ⟨sx_in 579 rfl rfl, sx_in 55 (by decide +kernel) rfl, ⟨by decide, by decide, by decide +kernel⟩, by decide, by decide⟩
set_option maxRecDepth 100000 in
theorem rkSb_fewest : sx_rok 0 rSb_fewest := ⟨sx_in 590 rfl rfl, sx_in 55 (by decide +kernel) rfl, ⟨by decide, by decide, by decide +kernel⟩, by decide, by decide⟩
set_option maxRecDepth 100000 in
theorem rkSb_take : sx_rok 0 rSb_take := ⟨sx_in 598 rfl rfl, sx_in 55 (by decide +kernel) rfl, ⟨by decide, by decide, by decide +kernel⟩, by decide, by decide⟩
set_option maxRecDepth 100000 in
theorem rkSb_move : sx_rok 2 rSb_move := ⟨sx_in 607 rfl rfl, sx_in 55 (by decide +kernel) rfl, ⟨by decide, by decide, by decide +kernel⟩, by decide, by decide⟩
set_option maxRecDepth 100000 in
theorem rkSb_mended : sx_rok 1 rSb_mended := ⟨sx_in 615 rfl rfl, sx_in 55 (by decide +kernel) rfl, ⟨by decide, by decide, by decide +kernel⟩, by decide, by decide⟩
set_option maxRecDepth 100000 in
theorem rkSb_rents : sx_rok 1 rSb_rents := ⟨sx_in 623 rfl rfl, sx_in 55 (by decide +kernel) rfl, ⟨by decide, by decide, by decide +kernel⟩, by decide, by decide⟩
set_option maxRecDepth 100000 in
theorem rkSb_bed : sx_rok 2 rSb_bed := ⟨sx_in 661 rfl rfl, sx_in 55 (by decide +kernel) rfl, ⟨by decide, by decide, by decide +kernel⟩, by decide, by decide⟩
set_option maxRecDepth 100000 in
theorem rkSb_linen : sx_rok 0 rSb_linen := ⟨sx_in 687 rfl rfl, sx_in 55 (by decide +kernel) rfl, ⟨by decide, by decide, by decide +kernel⟩, by decide, by decide⟩
set_option maxRecDepth 100000 in
theorem rkSb_sick : sx_rok 2 rSb_sick := ⟨sx_in 699 rfl rfl, sx_in 55 (by decide +kernel) rfl, ⟨by decide, by decide, by decide +kernel⟩, by decide, by decide⟩
set_option maxRecDepth 100000 in
theorem rkSb_brought : sx_rok 2 rSb_brought := ⟨sx_in 722 rfl rfl, sx_in 55 (by decide +kernel) rfl, ⟨by decide, by decide, by decide +kernel⟩, by decide, by decide⟩
set_option maxRecDepth 100000 in
theorem rkSb_image : sx_rok 0 rSb_image := ⟨sx_in 731 rfl rfl, sx_in 55 (by decide +kernel) rfl, ⟨by decide, by decide, by decide +kernel⟩, by decide, by decide⟩
set_option maxRecDepth 100000 in
theorem rkSb_restore : sx_rok 0 rSb_restore := ⟨sx_in 739 rfl rfl, sx_in 55 (by decide +kernel) rfl, ⟨by decide, by decide, by decide +kernel⟩, by decide, by decide⟩
set_option maxRecDepth 100000 in
theorem rkSb_lay : sx_rok 3 rSb_lay := ⟨sx_in 743 rfl rfl, sx_in 55 (by decide +kernel) rfl, ⟨by decide, by decide, by decide +kernel⟩, by decide, by decide⟩
set_option maxRecDepth 100000 in
theorem rkSb_judged : sx_rok 3 rSb_judged := ⟨sx_in 765 rfl rfl, sx_in 55 (by decide +kernel) rfl, ⟨by decide, by decide, by decide +kernel⟩, by decide, by decide⟩
set_option maxRecDepth 100000 in
theorem rkSb_clears : sx_rok 3 rSb_clears := ⟨sx_in 769 rfl rfl, sx_in 55 (by decide +kernel) rfl, ⟨by decide, by decide, by decide +kernel⟩, by decide, by decide⟩
set_option maxRecDepth 100000 in
theorem rkSb_sheet : sx_rok 3 rSb_sheet := ⟨sx_in 775 rfl rfl, sx_in 55 (by decide +kernel) rfl, ⟨by decide, by decide, by decide +kernel⟩, by decide, by decide⟩
set_option maxRecDepth 100000 in
theorem rkSb_drop : sx_rok 1 rSb_drop := ⟨sx_in 783 rfl rfl, sx_in 55 (by decide +kernel) rfl, ⟨by decide, by decide, by decide +kernel⟩, by decide, by decide⟩
set_option maxRecDepth 100000 in
theorem rkSb_item : sx_rok 4 rSb_item := ⟨sx_in 787 rfl rfl, sx_in 55 (by decide +kernel) rfl, ⟨by decide, by decide, by decide +kernel⟩, by decide, by decide⟩
set_option maxRecDepth 100000 in
theorem rkSb_film : sx_rok 3 rSb_film := ⟨sx_in 795 rfl rfl, sx_in 55 (by decide +kernel) rfl, ⟨by decide, by decide, by decide +kernel⟩, by decide, by decide⟩
set_option maxRecDepth 100000 in
theorem rkSb_copy : sx_rok 5 rSb_copy := ⟨sx_in 799 rfl rfl, sx_in 55 (by decide +kernel) rfl, ⟨by decide, by decide, by decide +kernel⟩, by decide, by decide⟩
set_option maxRecDepth 100000 in
theorem rkSb_rowIsGood : sx_rok 0 rSb_rowIsGood := ⟨sx_in 503 rfl rfl, sx_in 55 (by decide +kernel) rfl, ⟨by decide, by decide, by decide +kernel⟩, by decide, by decide⟩
set_option maxRecDepth 100000 in
theorem rkSb_refusalOfItems : sx_rok 4 rSb_refusalOfItems := ⟨sx_in 747 rfl rfl, sx_in 55 (by decide +kernel) rfl, ⟨by decide, by decide, by decide +kernel⟩, by decide, by decide⟩
set_option maxRecDepth 100000 in
theorem rkSb_takeItems : sx_rok 4 rSb_takeItems := ⟨sx_in 761 rfl rfl, sx_in 55 (by decide +kernel) rfl, ⟨by decide, by decide, by decide +kernel⟩, by decide, by decide⟩
set_option maxRecDepth 100000 in
theorem rkSb_isPart : sx_rok 1 rSb_isPart := ⟨sx_in 431 rfl rfl, sx_in 55 (by decide +kernel) rfl, ⟨by decide, by decide, by decide +kernel⟩, by decide, by decide⟩
set_option maxRecDepth 100000 in
theorem rkSb_isSetOfParts : sx_rok 1 rSb_isSetOfParts := ⟨sx_in 374 rfl rfl, sx_in 55 (by decide +kernel) rfl, ⟨by decide, by decide, by decide +kernel⟩, by decide, by decide⟩
set_option maxRecDepth 100000 in
theorem rkSb_isDay : sx_rok 1 rSb_isDay := ⟨sx_in 706 rfl rfl, sx_in 55 (by decide +kernel) rfl, ⟨by decide, by decide, by decide +kernel⟩, by decide, by decide⟩
set_option maxRecDepth 100000 in
theorem rkSb_isBadSheet : sx_rok 1 rSb_isBadSheet := ⟨sx_in 750 rfl rfl, sx_in 55 (by decide +kernel) rfl, ⟨by decide, by decide, by decide +kernel⟩, by decide, by decide⟩
set_option maxRecDepth 100000 in
theorem rkSb_isBadLane : sx_rok 1 rSb_isBadLane := ⟨sx_in 753 rfl rfl, sx_in 55 (by decide +kernel) rfl, ⟨by decide, by decide, by decide +kernel⟩, by decide, by decide⟩
set_option maxRecDepth 100000 in
theorem rkSb_holds : sx_rok 2 rSb_holds := ⟨sx_in 400 rfl rfl, sx_in 55 (by decide +kernel) rfl, ⟨by decide, by decide, by decide +kernel⟩, by decide, by decide⟩
set_option maxRecDepth 100000 in
theorem rkMo_in : sx_rok 3 rMo_in := ⟨sx_in 887 rfl rfl, sx_in 63 (by decide +kernel) rfl, ⟨by decide, by decide, by decide +kernel⟩, by decide, by decide⟩
set_option maxRecDepth 100000 in
theorem rkMo_isLodger : sx_rok 1 rMo_isLodger := ⟨sx_in 901 rfl rfl, sx_in 63 (by decide +kernel) rfl, ⟨by decide, by decide, by decide +kernel⟩, by decide, by decide⟩
set_option maxRecDepth 100000 in
theorem rkMo_isPart : sx_rok 1 rMo_isPart := ⟨sx_in 928 rfl rfl, sx_in 63 (by decide +kernel) rfl, ⟨by decide, by decide, by decide +kernel⟩, by decide, by decide⟩
set_option maxRecDepth 100000 in
theorem rkMo_comes : sx_rok 3 rMo_comes := ⟨sx_in 893 rfl rfl, sx_in 63 (by decide +kernel) rfl, ⟨by decide, by decide, by decide +kernel⟩, by decide, by decide⟩
set_option maxRecDepth 100000 in
theorem rkMo_lodger : sx_rok 3 rMo_lodger := ⟨sx_in 883 rfl rfl, sx_in 63 (by decide +kernel) rfl, ⟨by decide, by decide, by decide +kernel⟩, by decide, by decide⟩
set_option maxRecDepth 100000 in
theorem rkMo_leave : sx_rok 1 rMo_leave := ⟨sx_in 897 rfl rfl, sx_in 63 (by decide +kernel) rfl, ⟨by decide, by decide, by decide +kernel⟩, by decide, by decide⟩
set_option maxRecDepth 100000 in
theorem rkMo_sleep : sx_rok 2 rMo_sleep := ⟨sx_in 917 rfl rfl, sx_in 63 (by decide +kernel) rfl, ⟨by decide, by decide, by decide +kernel⟩, by decide, by decide⟩
set_option maxRecDepth 100000 in
theorem rkMo_may : sx_rok 2 rMo_may := ⟨sx_in 913 rfl rfl, sx_in 63 (by decide +kernel) rfl, ⟨by decide, by decide, by decide +kernel⟩, by decide, by decide⟩
set_option maxRecDepth 100000 in
theorem rkMo_mays : sx_rok 1 rMo_mays := ⟨sx_in 909 rfl rfl, sx_in 63 (by decide +kernel) rfl, ⟨by decide, by decide, by decide +kernel⟩, by decide, by decide⟩
set_option maxRecDepth 100000 in
theorem rkMo_told : sx_rok 2 rMo_told := ⟨sx_in 905 rfl rfl, sx_in 63 (by decide +kernel) rfl, ⟨by decide, by decide, by decide +kernel⟩, by decide, by decide⟩
set_option maxRecDepth 100000 in
theorem rkMo_work : sx_rok 2 rMo_work := ⟨sx_in 921 rfl rfl, sx_in 63 (by decide +kernel) rfl, ⟨by decide, by decide, by decide +kernel⟩, by decide, by decide⟩
set_option maxRecDepth 100000 in
theorem rkMo_sleeps : sx_rok 2 rMo_sleeps := ⟨sx_in 925 rfl rfl, sx_in 63 (by decide +kernel) rfl, ⟨by decide, by decide, by decide +kernel⟩, by decide, by decide⟩
set_option maxRecDepth 100000 in
theorem rkMo_beds : sx_rok 1 rMo_beds := ⟨sx_in 933 rfl rfl, sx_in 63 (by decide +kernel) rfl, ⟨by decide, by decide, by decide +kernel⟩, by decide, by decide⟩
set_option maxRecDepth 100000 in
theorem rkMo_lasts : sx_rok 1 rMo_lasts := ⟨sx_in 937 rfl rfl, sx_in 63 (by decide +kernel) rfl, ⟨by decide, by decide, by decide +kernel⟩, by decide, by decide⟩
set_option maxRecDepth 100000 in
theorem rkMo_fits : sx_rok 2 rMo_fits := ⟨sx_in 954 rfl rfl, sx_in 63 (by decide +kernel) rfl, ⟨by decide, by decide, by decide +kernel⟩, by decide, by decide⟩
set_option maxRecDepth 100000 in
theorem rkMo_wrongBy : sx_rok 1 rMo_wrongBy := ⟨sx_in 950 rfl rfl, sx_in 63 (by decide +kernel) rfl, ⟨by decide, by decide, by decide +kernel⟩, by decide, by decide⟩
set_option maxRecDepth 100000 in
theorem rkMo_isGood : sx_rok 0 rMo_isGood := ⟨sx_in 946 rfl rfl, sx_in 63 (by decide +kernel) rfl, ⟨by decide, by decide, by decide +kernel⟩, by decide, by decide⟩
set_option maxRecDepth 100000 in
theorem rkMo_count : sx_rok 1 rMo_count := ⟨sx_in 942 rfl rfl, sx_in 63 (by decide +kernel) rfl, ⟨by decide, by decide, by decide +kernel⟩, by decide, by decide⟩
set_option maxRecDepth 100000 in
theorem rkMo_goes : sx_rok 2 rMo_goes := ⟨sx_in 962 rfl rfl, sx_in 63 (by decide +kernel) rfl, ⟨by decide, by decide, by decide +kernel⟩, by decide, by decide⟩
set_option maxRecDepth 100000 in
theorem rkMo_changed : sx_rok 1 rMo_changed := ⟨sx_in 966 rfl rfl, sx_in 63 (by decide +kernel) rfl, ⟨by decide, by decide, by decide +kernel⟩, by decide, by decide⟩
set_option maxRecDepth 100000 in
theorem rkMo_first : sx_rok 1 rMo_first := ⟨sx_in 958 rfl rfl, sx_in 63 (by decide +kernel) rfl, ⟨by decide, by decide, by decide +kernel⟩, by decide, by decide⟩
set_option maxRecDepth 100000 in
theorem rkMo_ways : sx_rok 0 rMo_ways := ⟨sx_in 970 rfl rfl, sx_in 63 (by decide +kernel) rfl, ⟨by decide, by decide, by decide +kernel⟩, by decide, by decide⟩
set_option maxRecDepth 100000 in
theorem rkMo_fewest : sx_rok 0 rMo_fewest := ⟨sx_in 974 rfl rfl, sx_in 63 (by decide +kernel) rfl, ⟨by decide, by decide, by decide +kernel⟩, by decide, by decide⟩
set_option maxRecDepth 100000 in
theorem rkMo_takes : sx_rok 0 rMo_takes := ⟨sx_in 982 rfl rfl, sx_in 63 (by decide +kernel) rfl, ⟨by decide, by decide, by decide +kernel⟩, by decide, by decide⟩
set_option maxRecDepth 100000 in
theorem rkMo_take : sx_rok 0 rMo_take := ⟨sx_in 978 rfl rfl, sx_in 63 (by decide +kernel) rfl, ⟨by decide, by decide, by decide +kernel⟩, by decide, by decide⟩
set_option maxRecDepth 100000 in
theorem rkMo_move : sx_rok 2 rMo_move := ⟨sx_in 986 rfl rfl, sx_in 63 (by decide +kernel) rfl, ⟨by decide, by decide, by decide +kernel⟩, by decide, by decide⟩
set_option maxRecDepth 100000 in
theorem rkMo_mended : sx_rok 1 rMo_mended := ⟨sx_in 990 rfl rfl, sx_in 63 (by decide +kernel) rfl, ⟨by decide, by decide, by decide +kernel⟩, by decide, by decide⟩
set_option maxRecDepth 100000 in
theorem rkMo_clear : sx_rok 0 rMo_clear := ⟨sx_in 1003 rfl rfl, sx_in 63 (by decide +kernel) rfl, ⟨by decide, by decide, by decide +kernel⟩, by decide, by decide⟩
set_option maxRecDepth 100000 in
theorem rkMo_tells : sx_rok 1 rMo_tells := ⟨sx_in 999 rfl rfl, sx_in 63 (by decide +kernel) rfl, ⟨by decide, by decide, by decide +kernel⟩, by decide, by decide⟩
set_option maxRecDepth 100000 in
theorem rkMo_rents : sx_rok 1 rMo_rents := ⟨sx_in 994 rfl rfl, sx_in 63 (by decide +kernel) rfl, ⟨by decide, by decide, by decide +kernel⟩, by decide, by decide⟩
set_option maxRecDepth 100000 in
theorem rkMo_isAsleep : sx_rok 2 rMo_isAsleep := ⟨sx_in 1015 rfl rfl, sx_in 63 (by decide +kernel) rfl, ⟨by decide, by decide, by decide +kernel⟩, by decide, by decide⟩
set_option maxRecDepth 100000 in
theorem rkMo_liesDown : sx_rok 2 rMo_liesDown := ⟨sx_in 1019 rfl rfl, sx_in 63 (by decide +kernel) rfl, ⟨by decide, by decide, by decide +kernel⟩, by decide, by decide⟩
set_option maxRecDepth 100000 in
theorem rkMo_liesAll : sx_rok 0 rMo_liesAll := ⟨sx_in 1011 rfl rfl, sx_in 63 (by decide +kernel) rfl, ⟨by decide, by decide, by decide +kernel⟩, by decide, by decide⟩
set_option maxRecDepth 100000 in
theorem rkMo_bed : sx_rok 2 rMo_bed := ⟨sx_in 1007 rfl rfl, sx_in 63 (by decide +kernel) rfl, ⟨by decide, by decide, by decide +kernel⟩, by decide, by decide⟩
set_option maxRecDepth 100000 in
theorem rkMo_days : sx_rok 1 rMo_days := ⟨sx_in 1031 rfl rfl, sx_in 63 (by decide +kernel) rfl, ⟨by decide, by decide, by decide +kernel⟩, by decide, by decide⟩
set_option maxRecDepth 100000 in
theorem rkMo_begins : sx_rok 1 rMo_begins := ⟨sx_in 1027 rfl rfl, sx_in 63 (by decide +kernel) rfl, ⟨by decide, by decide, by decide +kernel⟩, by decide, by decide⟩
set_option maxRecDepth 100000 in
theorem rkMo_linen : sx_rok 0 rMo_linen := ⟨sx_in 1023 rfl rfl, sx_in 63 (by decide +kernel) rfl, ⟨by decide, by decide, by decide +kernel⟩, by decide, by decide⟩
set_option maxRecDepth 100000 in
theorem rkMo_ill : sx_rok 2 rMo_ill := ⟨sx_in 1044 rfl rfl, sx_in 63 (by decide +kernel) rfl, ⟨by decide, by decide, by decide +kernel⟩, by decide, by decide⟩
set_option maxRecDepth 100000 in
theorem rkMo_isSet : sx_rok 2 rMo_isSet := ⟨sx_in 1039 rfl rfl, sx_in 63 (by decide +kernel) rfl, ⟨by decide, by decide, by decide +kernel⟩, by decide, by decide⟩
set_option maxRecDepth 100000 in
theorem rkMo_sick : sx_rok 2 rMo_sick := ⟨sx_in 1035 rfl rfl, sx_in 63 (by decide +kernel) rfl, ⟨by decide, by decide, by decide +kernel⟩, by decide, by decide⟩
set_option maxRecDepth 100000 in
theorem rkMo_brought : sx_rok 2 rMo_brought := ⟨sx_in 1048 rfl rfl, sx_in 63 (by decide +kernel) rfl, ⟨by decide, by decide, by decide +kernel⟩, by decide, by decide⟩
set_option maxRecDepth 100000 in
theorem rkMo_type : sx_rok 2 rMo_type := ⟨sx_in 1052 rfl rfl, sx_in 63 (by decide +kernel) rfl, ⟨by decide, by decide, by decide +kernel⟩, by decide, by decide⟩
set_option maxRecDepth 100000 in
theorem rkMo_here : sx_rok 0 rMo_here := ⟨sx_in 1067 rfl rfl, sx_in 63 (by decide +kernel) rfl, ⟨by decide, by decide, by decide +kernel⟩, by decide, by decide⟩
set_option maxRecDepth 100000 in
theorem rkMo_has : sx_rok 1 rMo_has := ⟨sx_in 1078 rfl rfl, sx_in 63 (by decide +kernel) rfl, ⟨by decide, by decide, by decide +kernel⟩, by decide, by decide⟩
set_option maxRecDepth 100000 in
theorem rkMo_kindOf : sx_rok 1 rMo_kindOf := ⟨sx_in 1070 rfl rfl, sx_in 63 (by decide +kernel) rfl, ⟨by decide, by decide, by decide +kernel⟩, by decide, by decide⟩
set_option maxRecDepth 100000 in
theorem rkMo_digit : sx_rok 2 rMo_digit := ⟨sx_in 1074 rfl rfl, sx_in 63 (by decide +kernel) rfl, ⟨by decide, by decide, by decide +kernel⟩, by decide, by decide⟩
set_option maxRecDepth 100000 in
theorem rkMo_readOne : sx_rok 1 rMo_readOne := ⟨sx_in 1063 rfl rfl, sx_in 63 (by decide +kernel) rfl, ⟨by decide, by decide, by decide +kernel⟩, by decide, by decide⟩
set_option maxRecDepth 100000 in
theorem rkMo_lodging : sx_rok 0 rMo_lodging := ⟨sx_in 1059 rfl rfl, sx_in 63 (by decide +kernel) rfl, ⟨by decide, by decide, by decide +kernel⟩, by decide, by decide⟩
set_option maxRecDepth 100000 in
theorem rkMo_notes : sx_rok 2 rMo_notes := ⟨sx_in 1088 rfl rfl, sx_in 63 (by decide +kernel) rfl, ⟨by decide, by decide, by decide +kernel⟩, by decide, by decide⟩
set_option maxRecDepth 100000 in
theorem rkMo_gives : sx_rok 2 rMo_gives := ⟨sx_in 1096 rfl rfl, sx_in 63 (by decide +kernel) rfl, ⟨by decide, by decide, by decide +kernel⟩, by decide, by decide⟩
set_option maxRecDepth 100000 in
theorem rkMo_image : sx_rok 0 rMo_image := ⟨sx_in 1084 rfl rfl, sx_in 63 (by decide +kernel) rfl, ⟨by decide, by decide, by decide +kernel⟩, by decide, by decide⟩
set_option maxRecDepth 100000 in
theorem rkMo_restore : sx_rok 0 rMo_restore := ⟨sx_in 1092 rfl rfl, sx_in 63 (by decide +kernel) rfl, ⟨by decide, by decide, by decide +kernel⟩, by decide, by decide⟩
set_option maxRecDepth 100000 in
theorem rkMo_isSheet : sx_rok 1 rMo_isSheet := ⟨sx_in 1103 rfl rfl, sx_in 63 (by decide +kernel) rfl, ⟨by decide, by decide, by decide +kernel⟩, by decide, by decide⟩
set_option maxRecDepth 100000 in
theorem rkMo_isLane : sx_rok 1 rMo_isLane := ⟨sx_in 1106 rfl rfl, sx_in 63 (by decide +kernel) rfl, ⟨by decide, by decide, by decide +kernel⟩, by decide, by decide⟩
set_option maxRecDepth 100000 in
theorem rkMo_why : sx_rok 4 rMo_why := ⟨sx_in 1111 rfl rfl, sx_in 63 (by decide +kernel) rfl, ⟨by decide, by decide, by decide +kernel⟩, by decide, by decide⟩
set_option maxRecDepth 100000 in
theorem rkMo_lay : sx_rok 3 rMo_lay := ⟨sx_in 1100 rfl rfl, sx_in 63 (by decide +kernel) rfl, ⟨by decide, by decide, by decide +kernel⟩, by decide, by decide⟩
set_option maxRecDepth 100000 in
theorem rkMo_judged : sx_rok 3 rMo_judged := ⟨sx_in 1115 rfl rfl, sx_in 63 (by decide +kernel) rfl, ⟨by decide, by decide, by decide +kernel⟩, by decide, by decide⟩
set_option maxRecDepth 100000 in
theorem rkMo_clears : sx_rok 3 rMo_clears := ⟨sx_in 1119 rfl rfl, sx_in 63 (by decide +kernel) rfl, ⟨by decide, by decide, by decide +kernel⟩, by decide, by decide⟩
set_option maxRecDepth 100000 in
theorem rkMo_puts : sx_rok 3 rMo_puts := ⟨sx_in 1127 rfl rfl, sx_in 63 (by decide +kernel) rfl, ⟨by decide, by decide, by decide +kernel⟩, by decide, by decide⟩
set_option maxRecDepth 100000 in
theorem rkMo_film : sx_rok 3 rMo_film := ⟨sx_in 1123 rfl rfl, sx_in 63 (by decide +kernel) rfl, ⟨by decide, by decide, by decide +kernel⟩, by decide, by decide⟩
set_option maxRecDepth 100000 in
theorem rkMo_sheet : sx_rok 3 rMo_sheet := ⟨sx_in 1131 rfl rfl, sx_in 63 (by decide +kernel) rfl, ⟨by decide, by decide, by decide +kernel⟩, by decide, by decide⟩
set_option maxRecDepth 100000 in
theorem rkMo_drop : sx_rok 1 rMo_drop := ⟨sx_in 1135 rfl rfl, sx_in 63 (by decide +kernel) rfl, ⟨by decide, by decide, by decide +kernel⟩, by decide, by decide⟩
set_option maxRecDepth 100000 in
theorem rkMo_item : sx_rok 4 rMo_item := ⟨sx_in 1139 rfl rfl, sx_in 63 (by decide +kernel) rfl, ⟨by decide, by decide, by decide +kernel⟩, by decide, by decide⟩
set_option maxRecDepth 100000 in
theorem rkMo_copy : sx_rok 5 rMo_copy := ⟨sx_in 1143 rfl rfl, sx_in 63 (by decide +kernel) rfl, ⟨by decide, by decide, by decide +kernel⟩, by decide, by decide⟩
set_option maxRecDepth 100000 in
theorem rkIn_bitCount : sx_rok 1 rIn_bitCount := ⟨sx_in 545 rfl rfl, sx_in 64 (by decide +kernel) rfl, ⟨by decide, by decide, by decide +kernel⟩, by decide, by decide⟩
set_option maxRecDepth 100000 in
theorem ckHo_44 : sx_cok 0 (44, 0, 0, 0, rHo_lodgersChanged) := ⟨⟨sx_in 379 (by decide +kernel) rfl, sx_in 381 (by decide +kernel) rfl, sx_in 0 (by decide +kernel) rfl, by decide +kernel⟩, rkHo_lodgersChanged⟩
def clHo : List (Nat × Nat × Nat × Nat × sx_R) := [(44, 0, 0, 0, rHo_lodgersChanged)]
theorem clHo_ok : ∀ q ∈ clHo, sx_cok 0 q := List.forall_mem_cons.mpr ⟨ckHo_44, fun _ h => absurd h List.not_mem_nil⟩
set_option maxRecDepth 100000 in
theorem ckMa_43 : sx_cok 1 (43, 0, 0, 5, rSt_allMayBegin) := ⟨⟨sx_in 628 (by decide +kernel) rfl, sx_in 629 (by decide +kernel) rfl, sx_in 630 (by decide +kernel) rfl, by decide +kernel⟩, rkSt_allMayBegin⟩
set_option maxRecDepth 100000 in
theorem ckMa_49 : sx_cok 1 (49, 0, 0, 1, rMa_findLeast) := ⟨⟨sx_in 632 (by decide +kernel) rfl, sx_in 634 (by decide +kernel) rfl, sx_in 14 (by decide +kernel) rfl, by decide +kernel⟩, rkMa_findLeast⟩
set_option maxRecDepth 100000 in
theorem ckMa_76 : sx_cok 1 (76, 1, 3, 1, rMa_clearFrom) := ⟨⟨sx_in 636 (by decide +kernel) rfl, sx_in 637 (by decide +kernel) rfl⟩, rkMa_clearFrom⟩
set_option maxRecDepth 100000 in
theorem ckMa_80 : sx_cok 1 (80, 0, 1, 1, rMa_areCleared) := ⟨⟨sx_in 639 (by decide +kernel) rfl, sx_in 640 (by decide +kernel) rfl, sx_in 641 (by decide +kernel) rfl, by decide +kernel⟩, rkMa_areCleared⟩
set_option maxRecDepth 100000 in
theorem ckMa_52 : sx_cok 1 (52, 0, 1, 1, rMa_reckonCosts) := ⟨⟨sx_in 643 (by decide +kernel) rfl, sx_in 645 (by decide +kernel) rfl, sx_in 15 (by decide +kernel) rfl, by decide +kernel⟩, rkMa_reckonCosts⟩
set_option maxRecDepth 100000 in
theorem ckMa_84 : sx_cok 1 (84, 1, 2, 1, rMa_later) := ⟨⟨sx_in 647 (by decide +kernel) rfl, sx_in 648 (by decide +kernel) rfl⟩, rkMa_later⟩
set_option maxRecDepth 100000 in
theorem ckMa_59 : sx_cok 1 (59, 1, 1, 5, rSt_nobodyIn) := ⟨⟨sx_in 650 (by decide +kernel) rfl, sx_in 509 (by decide +kernel) rfl⟩, rkSt_nobodyIn⟩
set_option maxRecDepth 100000 in
theorem ckMa_66 : sx_cok 1 (66, 0, 1, 1, rMa_cheapest) := ⟨⟨sx_in 651 (by decide +kernel) rfl, sx_in 653 (by decide +kernel) rfl, sx_in 16 (by decide +kernel) rfl, by decide +kernel⟩, rkMa_cheapest⟩
set_option maxRecDepth 100000 in
theorem ckMa_97 : sx_cok 1 (97, 2, 2, 7, rSb_holds) := ⟨⟨⟨"SixBeds", List.mem_of_getElem? (i := 0) rfl⟩, sx_in 399 (by decide +kernel) rfl⟩, rkSb_holds⟩
set_option maxRecDepth 100000 in
theorem ckMa_72 : sx_cok 1 (72, 0, 3, 5, rSt_joined) := ⟨⟨sx_in 657 (by decide +kernel) rfl, sx_in 514 (by decide +kernel) rfl, sx_in 515 (by decide +kernel) rfl, by decide +kernel⟩, rkSt_joined⟩
def clMa : List (Nat × Nat × Nat × Nat × sx_R) := [(43, 0, 0, 5, rSt_allMayBegin), (49, 0, 0, 1, rMa_findLeast), (76, 1, 3, 1, rMa_clearFrom), (80, 0, 1, 1, rMa_areCleared), (52, 0, 1, 1, rMa_reckonCosts), (84, 1, 2, 1, rMa_later), (59, 1, 1, 5, rSt_nobodyIn), (66, 0, 1, 1, rMa_cheapest), (97, 2, 2, 7, rSb_holds), (72, 0, 3, 5, rSt_joined)]
theorem clMa_ok : ∀ q ∈ clMa, sx_cok 1 q := List.forall_mem_cons.mpr ⟨ckMa_43, List.forall_mem_cons.mpr ⟨ckMa_49, List.forall_mem_cons.mpr ⟨ckMa_76, List.forall_mem_cons.mpr ⟨ckMa_80, List.forall_mem_cons.mpr ⟨ckMa_52, List.forall_mem_cons.mpr ⟨ckMa_84, List.forall_mem_cons.mpr ⟨ckMa_59, List.forall_mem_cons.mpr ⟨ckMa_66, List.forall_mem_cons.mpr ⟨ckMa_97, List.forall_mem_cons.mpr ⟨ckMa_72, fun _ h => absurd h List.not_mem_nil⟩⟩⟩⟩⟩⟩⟩⟩⟩⟩
set_option maxRecDepth 100000 in
theorem ckNi_38 : sx_cok 2 (38, 0, 0, 2, rNi_settle) := ⟨⟨sx_in 666 (by decide +kernel) rfl, sx_in 668 (by decide +kernel) rfl, sx_in 17 (by decide +kernel) rfl, by decide +kernel⟩, rkNi_settle⟩
set_option maxRecDepth 100000 in
theorem ckNi_68 : sx_cok 2 (68, 0, 1, 2, rNi_keepBeds) := ⟨⟨sx_in 670 (by decide +kernel) rfl, sx_in 672 (by decide +kernel) rfl, sx_in 18 (by decide +kernel) rfl, by decide +kernel⟩, rkNi_keepBeds⟩
set_option maxRecDepth 100000 in
theorem ckNi_76 : sx_cok 2 (76, 0, 2, 2, rNi_sleepsIn) := ⟨⟨sx_in 674 (by decide +kernel) rfl, sx_in 676 (by decide +kernel) rfl, sx_in 19 (by decide +kernel) rfl, by decide +kernel⟩, rkNi_sleepsIn⟩
set_option maxRecDepth 100000 in
theorem ckNi_82 : sx_cok 2 (82, 0, 2, 0, rHo_sleepSet) := ⟨⟨sx_in 678 (by decide +kernel) rfl, sx_in 388 (by decide +kernel) rfl, sx_in 389 (by decide +kernel) rfl, by decide +kernel⟩, rkHo_sleepSet⟩
set_option maxRecDepth 100000 in
theorem ckNi_49 : sx_cok 2 (49, 2, 2, 7, rSb_holds) := ⟨⟨⟨"SixBeds", List.mem_of_getElem? (i := 1) rfl⟩, sx_in 399 (by decide +kernel) rfl⟩, rkSb_holds⟩
set_option maxRecDepth 100000 in
theorem ckNi_72 : sx_cok 2 (72, 0, 2, 2, rNi_layDown) := ⟨⟨sx_in 680 (by decide +kernel) rfl, sx_in 682 (by decide +kernel) rfl, sx_in 20 (by decide +kernel) rfl, by decide +kernel⟩, rkNi_layDown⟩
set_option maxRecDepth 100000 in
theorem ckNi_41 : sx_cok 2 (41, 0, 0, 2, rNi_stripBeds) := ⟨⟨sx_in 692 (by decide +kernel) rfl, sx_in 694 (by decide +kernel) rfl, sx_in 21 (by decide +kernel) rfl, by decide +kernel⟩, rkNi_stripBeds⟩
set_option maxRecDepth 100000 in
theorem ckNi_53 : sx_cok 2 (53, 0, 1, 2, rNi_spread) := ⟨⟨sx_in 711 (by decide +kernel) rfl, sx_in 713 (by decide +kernel) rfl, sx_in 22 (by decide +kernel) rfl, by decide +kernel⟩, rkNi_spread⟩
set_option maxRecDepth 100000 in
theorem ckNi_57 : sx_cok 2 (57, 0, 2, 2, rNi_hasIt) := ⟨⟨sx_in 715 (by decide +kernel) rfl, sx_in 717 (by decide +kernel) rfl, sx_in 23 (by decide +kernel) rfl, by decide +kernel⟩, rkNi_hasIt⟩
set_option maxRecDepth 100000 in
theorem ckNi_60 : sx_cok 2 (60, 0, 2, 2, rNi_sickAfter) := ⟨⟨sx_in 727 (by decide +kernel) rfl, sx_in 708 (by decide +kernel) rfl, sx_in 709 (by decide +kernel) rfl, by decide +kernel⟩, rkNi_sickAfter⟩
def clNi : List (Nat × Nat × Nat × Nat × sx_R) := [(38, 0, 0, 2, rNi_settle), (68, 0, 1, 2, rNi_keepBeds), (76, 0, 2, 2, rNi_sleepsIn), (82, 0, 2, 0, rHo_sleepSet), (49, 2, 2, 7, rSb_holds), (72, 0, 2, 2, rNi_layDown), (41, 0, 0, 2, rNi_stripBeds), (53, 0, 1, 2, rNi_spread), (57, 0, 2, 2, rNi_hasIt), (60, 0, 2, 2, rNi_sickAfter)]
theorem clNi_ok : ∀ q ∈ clNi, sx_cok 2 q := List.forall_mem_cons.mpr ⟨ckNi_38, List.forall_mem_cons.mpr ⟨ckNi_68, List.forall_mem_cons.mpr ⟨ckNi_76, List.forall_mem_cons.mpr ⟨ckNi_82, List.forall_mem_cons.mpr ⟨ckNi_49, List.forall_mem_cons.mpr ⟨ckNi_72, List.forall_mem_cons.mpr ⟨ckNi_41, List.forall_mem_cons.mpr ⟨ckNi_53, List.forall_mem_cons.mpr ⟨ckNi_57, List.forall_mem_cons.mpr ⟨ckNi_60, fun _ h => absurd h List.not_mem_nil⟩⟩⟩⟩⟩⟩⟩⟩⟩⟩
set_option maxRecDepth 100000 in
theorem ckSe_66 : sx_cok 3 (66, 0, 2, 3, rSe_findFirst) := ⟨⟨sx_in 527 (by decide +kernel) rfl, sx_in 529 (by decide +kernel) rfl, sx_in 6 (by decide +kernel) rfl, by decide +kernel⟩, rkSe_findFirst⟩
set_option maxRecDepth 100000 in
theorem ckSe_73 : sx_cok 3 (73, 0, 0, 3, rSe_openAll) := ⟨⟨sx_in 531 (by decide +kernel) rfl, sx_in 533 (by decide +kernel) rfl, sx_in 7 (by decide +kernel) rfl, by decide +kernel⟩, rkSe_openAll⟩
set_option maxRecDepth 100000 in
theorem ckSe_110 : sx_cok 3 (110, 0, 0, 3, rSe_sortLodgers) := ⟨⟨sx_in 535 (by decide +kernel) rfl, sx_in 537 (by decide +kernel) rfl, sx_in 8 (by decide +kernel) rfl, by decide +kernel⟩, rkSe_sortLodgers⟩
set_option maxRecDepth 100000 in
theorem ckSe_124 : sx_cok 3 (124, 0, 1, 3, rSe_hasteOf) := ⟨⟨sx_in 539 (by decide +kernel) rfl, sx_in 541 (by decide +kernel) rfl, sx_in 9 (by decide +kernel) rfl, by decide +kernel⟩, rkSe_hasteOf⟩
set_option maxRecDepth 100000 in
theorem ckSe_131 : sx_cok 3 (131, 1, 1, 9, rIn_bitCount) := ⟨⟨sx_in 543 (by decide +kernel) rfl, sx_in 544 (by decide +kernel) rfl⟩, rkIn_bitCount⟩
set_option maxRecDepth 100000 in
theorem ckSe_139 : sx_cok 3 (139, 0, 1, 3, rSe_howMany) := ⟨⟨sx_in 549 (by decide +kernel) rfl, sx_in 551 (by decide +kernel) rfl, sx_in 10 (by decide +kernel) rfl, by decide +kernel⟩, rkSe_howMany⟩
set_option maxRecDepth 100000 in
theorem ckSe_107 : sx_cok 3 (107, 2, 2, 7, rSb_holds) := ⟨⟨⟨"SixBeds", List.mem_of_getElem? (i := 2) rfl⟩, sx_in 399 (by decide +kernel) rfl⟩, rkSb_holds⟩
set_option maxRecDepth 100000 in
theorem ckSe_93 : sx_cok 3 (93, 0, 2, 3, rSe_exists) := ⟨⟨sx_in 554 (by decide +kernel) rfl, sx_in 556 (by decide +kernel) rfl, sx_in 11 (by decide +kernel) rfl, by decide +kernel⟩, rkSe_exists⟩
set_option maxRecDepth 100000 in
theorem ckSe_79 : sx_cok 3 (79, 0, 1, 3, rSe_hasRoomForAll) := ⟨⟨sx_in 558 (by decide +kernel) rfl, sx_in 560 (by decide +kernel) rfl, sx_in 12 (by decide +kernel) rfl, by decide +kernel⟩, rkSe_hasRoomForAll⟩
set_option maxRecDepth 100000 in
theorem ckSe_117 : sx_cok 3 (117, 0, 0, 0, rHo_needOfAll) := ⟨⟨sx_in 562 (by decide +kernel) rfl, sx_in 497 (by decide +kernel) rfl, sx_in 498 (by decide +kernel) rfl, by decide +kernel⟩, rkHo_needOfAll⟩
set_option maxRecDepth 100000 in
theorem ckSe_83 : sx_cok 3 (83, 1, 1, 5, rSt_nobodyIn) := ⟨⟨sx_in 563 (by decide +kernel) rfl, sx_in 509 (by decide +kernel) rfl⟩, rkSt_nobodyIn⟩
set_option maxRecDepth 100000 in
theorem ckSe_113 : sx_cok 3 (113, 1, 4, 3, rSe_fillFrom) := ⟨⟨sx_in 564 (by decide +kernel) rfl, sx_in 565 (by decide +kernel) rfl⟩, rkSe_fillFrom⟩
set_option maxRecDepth 100000 in
theorem ckSe_145 : sx_cok 3 (145, 0, 3, 5, rSt_joined) := ⟨⟨sx_in 567 (by decide +kernel) rfl, sx_in 514 (by decide +kernel) rfl, sx_in 515 (by decide +kernel) rfl, by decide +kernel⟩, rkSt_joined⟩
set_option maxRecDepth 100000 in
theorem ckSe_97 : sx_cok 3 (97, 0, 2, 3, rSe_earliest) := ⟨⟨sx_in 569 (by decide +kernel) rfl, sx_in 571 (by decide +kernel) rfl, sx_in 13 (by decide +kernel) rfl, by decide +kernel⟩, rkSe_earliest⟩
set_option maxRecDepth 100000 in
theorem ckSe_89 : sx_cok 3 (89, 1, 4, 3, rSe_countFrom) := ⟨⟨sx_in 584 (by decide +kernel) rfl, sx_in 585 (by decide +kernel) rfl⟩, rkSe_countFrom⟩
def clSe : List (Nat × Nat × Nat × Nat × sx_R) := [(66, 0, 2, 3, rSe_findFirst), (73, 0, 0, 3, rSe_openAll), (110, 0, 0, 3, rSe_sortLodgers), (124, 0, 1, 3, rSe_hasteOf), (131, 1, 1, 9, rIn_bitCount), (139, 0, 1, 3, rSe_howMany), (107, 2, 2, 7, rSb_holds), (93, 0, 2, 3, rSe_exists), (79, 0, 1, 3, rSe_hasRoomForAll), (117, 0, 0, 0, rHo_needOfAll), (83, 1, 1, 5, rSt_nobodyIn), (113, 1, 4, 3, rSe_fillFrom), (145, 0, 3, 5, rSt_joined), (97, 0, 2, 3, rSe_earliest), (89, 1, 4, 3, rSe_countFrom)]
theorem clSe_ok : ∀ q ∈ clSe, sx_cok 3 q := List.forall_mem_cons.mpr ⟨ckSe_66, List.forall_mem_cons.mpr ⟨ckSe_73, List.forall_mem_cons.mpr ⟨ckSe_110, List.forall_mem_cons.mpr ⟨ckSe_124, List.forall_mem_cons.mpr ⟨ckSe_131, List.forall_mem_cons.mpr ⟨ckSe_139, List.forall_mem_cons.mpr ⟨ckSe_107, List.forall_mem_cons.mpr ⟨ckSe_93, List.forall_mem_cons.mpr ⟨ckSe_79, List.forall_mem_cons.mpr ⟨ckSe_117, List.forall_mem_cons.mpr ⟨ckSe_83, List.forall_mem_cons.mpr ⟨ckSe_113, List.forall_mem_cons.mpr ⟨ckSe_145, List.forall_mem_cons.mpr ⟨ckSe_97, List.forall_mem_cons.mpr ⟨ckSe_89, fun _ h => absurd h List.not_mem_nil⟩⟩⟩⟩⟩⟩⟩⟩⟩⟩⟩⟩⟩⟩⟩
def clSh : List (Nat × Nat × Nat × Nat × sx_R) := []
theorem clSh_ok : ∀ q ∈ clSh, sx_cok 4 q := fun _ h => absurd h List.not_mem_nil
set_option maxRecDepth 100000 in
theorem ckSt_60 : sx_cok 5 (60, 0, 2, 0, rHo_sleepSet) := ⟨⟨sx_in 387 (by decide +kernel) rfl, sx_in 388 (by decide +kernel) rfl, sx_in 389 (by decide +kernel) rfl, by decide +kernel⟩, rkHo_sleepSet⟩
set_option maxRecDepth 100000 in
theorem ckSt_64 : sx_cok 5 (64, 0, 3, 5, rSt_note) := ⟨⟨sx_in 391 (by decide +kernel) rfl, sx_in 393 (by decide +kernel) rfl, sx_in 1 (by decide +kernel) rfl, by decide +kernel⟩, rkSt_note⟩
set_option maxRecDepth 100000 in
theorem ckSt_74 : sx_cok 5 (74, 1, 1, 5, rSt_oneInEach) := ⟨⟨sx_in 395 (by decide +kernel) rfl, sx_in 396 (by decide +kernel) rfl⟩, rkSt_oneInEach⟩
set_option maxRecDepth 100000 in
theorem ckSt_46 : sx_cok 5 (46, 2, 2, 7, rSb_holds) := ⟨⟨⟨"SixBeds", List.mem_of_getElem? (i := 3) rfl⟩, sx_in 399 (by decide +kernel) rfl⟩, rkSb_holds⟩
set_option maxRecDepth 100000 in
theorem ckSt_38 : sx_cok 5 (38, 1, 1, 5, rSt_nobodyIn) := ⟨⟨sx_in 508 (by decide +kernel) rfl, sx_in 509 (by decide +kernel) rfl⟩, rkSt_nobodyIn⟩
set_option maxRecDepth 100000 in
theorem ckSt_42 : sx_cok 5 (42, 2, 1, 7, rSb_isPart) := ⟨⟨⟨"SixBeds", List.mem_of_getElem? (i := 4) rfl⟩, sx_in 430 (by decide +kernel) rfl⟩, rkSb_isPart⟩
set_option maxRecDepth 100000 in
theorem ckSt_50 : sx_cok 5 (50, 0, 3, 5, rSt_joined) := ⟨⟨sx_in 513 (by decide +kernel) rfl, sx_in 514 (by decide +kernel) rfl, sx_in 515 (by decide +kernel) rfl, by decide +kernel⟩, rkSt_joined⟩
def clSt : List (Nat × Nat × Nat × Nat × sx_R) := [(60, 0, 2, 0, rHo_sleepSet), (64, 0, 3, 5, rSt_note), (74, 1, 1, 5, rSt_oneInEach), (46, 2, 2, 7, rSb_holds), (38, 1, 1, 5, rSt_nobodyIn), (42, 2, 1, 7, rSb_isPart), (50, 0, 3, 5, rSt_joined)]
theorem clSt_ok : ∀ q ∈ clSt, sx_cok 5 q := List.forall_mem_cons.mpr ⟨ckSt_60, List.forall_mem_cons.mpr ⟨ckSt_64, List.forall_mem_cons.mpr ⟨ckSt_74, List.forall_mem_cons.mpr ⟨ckSt_46, List.forall_mem_cons.mpr ⟨ckSt_38, List.forall_mem_cons.mpr ⟨ckSt_42, List.forall_mem_cons.mpr ⟨ckSt_50, fun _ h => absurd h List.not_mem_nil⟩⟩⟩⟩⟩⟩⟩
set_option maxRecDepth 100000 in
theorem ckTa_34 : sx_cok 6 (34, 1, 2, 6, rTa_byteAt) := ⟨⟨sx_in 452 (by decide +kernel) rfl, sx_in 453 (by decide +kernel) rfl⟩, rkTa_byteAt⟩
set_option maxRecDepth 100000 in
theorem ckTa_38 : sx_cok 6 (38, 0, 1, 6, rTa_readLodger) := ⟨⟨sx_in 471 (by decide +kernel) rfl, sx_in 473 (by decide +kernel) rfl, sx_in 2 (by decide +kernel) rfl, by decide +kernel⟩, rkTa_readLodger⟩
set_option maxRecDepth 100000 in
theorem ckTa_42 : sx_cok 6 (42, 0, 0, 6, rTa_peek) := ⟨⟨sx_in 475 (by decide +kernel) rfl, sx_in 477 (by decide +kernel) rfl, sx_in 3 (by decide +kernel) rfl, by decide +kernel⟩, rkTa_peek⟩
set_option maxRecDepth 100000 in
theorem ckTa_46 : sx_cok 6 (46, 1, 1, 6, rTa_kindOf) := ⟨⟨sx_in 479 (by decide +kernel) rfl, sx_in 480 (by decide +kernel) rfl⟩, rkTa_kindOf⟩
set_option maxRecDepth 100000 in
theorem ckTa_50 : sx_cok 6 (50, 0, 1, 6, rTa_readWork) := ⟨⟨sx_in 482 (by decide +kernel) rfl, sx_in 484 (by decide +kernel) rfl, sx_in 4 (by decide +kernel) rfl, by decide +kernel⟩, rkTa_readWork⟩
set_option maxRecDepth 100000 in
theorem ckTa_53 : sx_cok 6 (53, 2, 1, 7, rSb_isPart) := ⟨⟨⟨"SixBeds", List.mem_of_getElem? (i := 5) rfl⟩, sx_in 430 (by decide +kernel) rfl⟩, rkSb_isPart⟩
set_option maxRecDepth 100000 in
theorem ckTa_56 : sx_cok 6 (56, 2, 2, 7, rSb_holds) := ⟨⟨⟨"SixBeds", List.mem_of_getElem? (i := 6) rfl⟩, sx_in 399 (by decide +kernel) rfl⟩, rkSb_holds⟩
def clTa : List (Nat × Nat × Nat × Nat × sx_R) := [(34, 1, 2, 6, rTa_byteAt), (38, 0, 1, 6, rTa_readLodger), (42, 0, 0, 6, rTa_peek), (46, 1, 1, 6, rTa_kindOf), (50, 0, 1, 6, rTa_readWork), (53, 2, 1, 7, rSb_isPart), (56, 2, 2, 7, rSb_holds)]
theorem clTa_ok : ∀ q ∈ clTa, sx_cok 6 q := List.forall_mem_cons.mpr ⟨ckTa_34, List.forall_mem_cons.mpr ⟨ckTa_38, List.forall_mem_cons.mpr ⟨ckTa_42, List.forall_mem_cons.mpr ⟨ckTa_46, List.forall_mem_cons.mpr ⟨ckTa_50, List.forall_mem_cons.mpr ⟨ckTa_53, List.forall_mem_cons.mpr ⟨ckTa_56, fun _ h => absurd h List.not_mem_nil⟩⟩⟩⟩⟩⟩⟩
set_option maxRecDepth 100000 in
theorem ckSb_73 : sx_cok 7 (73, 1, 1, 7, rSb_isSetOfParts) := ⟨⟨sx_in 372 (by decide +kernel) rfl, sx_in 373 (by decide +kernel) rfl⟩, rkSb_isSetOfParts⟩
set_option maxRecDepth 100000 in
theorem ckSb_81 : sx_cok 7 (81, 0, 3, 0, rHo_admit) := ⟨⟨sx_in 375 (by decide +kernel) rfl, sx_in 376 (by decide +kernel) rfl, sx_in 377 (by decide +kernel) rfl, by decide +kernel⟩, rkHo_admit⟩
set_option maxRecDepth 100000 in
theorem ckSb_85 : sx_cok 7 (85, 0, 0, 5, rSt_refresh) := ⟨⟨sx_in 383 (by decide +kernel) rfl, sx_in 384 (by decide +kernel) rfl, sx_in 385 (by decide +kernel) rfl, by decide +kernel⟩, rkSt_refresh⟩
set_option maxRecDepth 100000 in
theorem ckSb_88 : sx_cok 7 (88, 0, 1, 0, rHo_has) := ⟨⟨sx_in 405 (by decide +kernel) rfl, sx_in 406 (by decide +kernel) rfl, sx_in 407 (by decide +kernel) rfl, by decide +kernel⟩, rkHo_has⟩
set_option maxRecDepth 100000 in
theorem ckSb_91 : sx_cok 7 (91, 0, 1, 0, rHo_dismiss) := ⟨⟨sx_in 409 (by decide +kernel) rfl, sx_in 410 (by decide +kernel) rfl, sx_in 411 (by decide +kernel) rfl, by decide +kernel⟩, rkHo_dismiss⟩
set_option maxRecDepth 100000 in
theorem ckSb_113 : sx_cok 7 (113, 0, 2, 0, rHo_employ) := ⟨⟨sx_in 421 (by decide +kernel) rfl, sx_in 422 (by decide +kernel) rfl, sx_in 423 (by decide +kernel) rfl, by decide +kernel⟩, rkHo_employ⟩
set_option maxRecDepth 100000 in
theorem ckSb_117 : sx_cok 7 (117, 1, 1, 7, rSb_isPart) := ⟨⟨sx_in 429 (by decide +kernel) rfl, sx_in 430 (by decide +kernel) rfl⟩, rkSb_isPart⟩
set_option maxRecDepth 100000 in
theorem ckSb_120 : sx_cok 7 (120, 0, 2, 0, rHo_sleepSet) := ⟨⟨sx_in 432 (by decide +kernel) rfl, sx_in 388 (by decide +kernel) rfl, sx_in 389 (by decide +kernel) rfl, by decide +kernel⟩, rkHo_sleepSet⟩
set_option maxRecDepth 100000 in
theorem ckSb_127 : sx_cok 7 (127, 0, 1, 0, rHo_furnish) := ⟨⟨sx_in 437 (by decide +kernel) rfl, sx_in 438 (by decide +kernel) rfl, sx_in 439 (by decide +kernel) rfl, by decide +kernel⟩, rkHo_furnish⟩
set_option maxRecDepth 100000 in
theorem ckSb_133 : sx_cok 7 (133, 1, 2, 6, rTa_canHold) := ⟨⟨sx_in 449 (by decide +kernel) rfl, sx_in 450 (by decide +kernel) rfl⟩, rkTa_canHold⟩
set_option maxRecDepth 100000 in
theorem ckSb_137 : sx_cok 7 (137, 0, 1, 6, rTa_hasRoom) := ⟨⟨sx_in 455 (by decide +kernel) rfl, sx_in 456 (by decide +kernel) rfl, sx_in 457 (by decide +kernel) rfl, by decide +kernel⟩, rkTa_hasRoom⟩
set_option maxRecDepth 100000 in
theorem ckSb_140 : sx_cok 7 (140, 0, 2, 6, rTa_append) := ⟨⟨sx_in 459 (by decide +kernel) rfl, sx_in 460 (by decide +kernel) rfl, sx_in 461 (by decide +kernel) rfl, by decide +kernel⟩, rkTa_append⟩
set_option maxRecDepth 100000 in
theorem ckSb_147 : sx_cok 7 (147, 0, 0, 6, rTa_parses) := ⟨⟨sx_in 467 (by decide +kernel) rfl, sx_in 468 (by decide +kernel) rfl, sx_in 469 (by decide +kernel) rfl, by decide +kernel⟩, rkTa_parses⟩
set_option maxRecDepth 100000 in
theorem ckSb_154 : sx_cok 7 (154, 0, 0, 0, rHo_empty) := ⟨⟨sx_in 488 (by decide +kernel) rfl, sx_in 489 (by decide +kernel) rfl, sx_in 490 (by decide +kernel) rfl, by decide +kernel⟩, rkHo_empty⟩
set_option maxRecDepth 100000 in
theorem ckSb_163 : sx_cok 7 (163, 0, 0, 0, rHo_needOfAll) := ⟨⟨sx_in 496 (by decide +kernel) rfl, sx_in 497 (by decide +kernel) rfl, sx_in 498 (by decide +kernel) rfl, by decide +kernel⟩, rkHo_needOfAll⟩
set_option maxRecDepth 100000 in
theorem ckSb_167 : sx_cok 7 (167, 0, 0, 7, rSb_rowIsGood) := ⟨⟨sx_in 500 (by decide +kernel) rfl, sx_in 502 (by decide +kernel) rfl, sx_in 5 (by decide +kernel) rfl, by decide +kernel⟩, rkSb_rowIsGood⟩
set_option maxRecDepth 100000 in
theorem ckSb_236 : sx_cok 7 (236, 0, 1, 5, rSt_firstSpoiler) := ⟨⟨sx_in 504 (by decide +kernel) rfl, sx_in 505 (by decide +kernel) rfl, sx_in 506 (by decide +kernel) rfl, by decide +kernel⟩, rkSt_firstSpoiler⟩
set_option maxRecDepth 100000 in
theorem ckSb_170 : sx_cok 7 (170, 0, 0, 3, rSe_knowsFirst) := ⟨⟨sx_in 523 (by decide +kernel) rfl, sx_in 524 (by decide +kernel) rfl, sx_in 525 (by decide +kernel) rfl, by decide +kernel⟩, rkSe_knowsFirst⟩
set_option maxRecDepth 100000 in
theorem ckSb_176 : sx_cok 7 (176, 0, 0, 3, rSe_countGood) := ⟨⟨sx_in 580 (by decide +kernel) rfl, sx_in 581 (by decide +kernel) rfl, sx_in 582 (by decide +kernel) rfl, by decide +kernel⟩, rkSe_countGood⟩
set_option maxRecDepth 100000 in
theorem ckSb_179 : sx_cok 7 (179, 0, 0, 3, rSe_fewestBeds) := ⟨⟨sx_in 591 (by decide +kernel) rfl, sx_in 592 (by decide +kernel) rfl, sx_in 593 (by decide +kernel) rfl, by decide +kernel⟩, rkSe_fewestBeds⟩
set_option maxRecDepth 100000 in
theorem ckSb_182 : sx_cok 7 (182, 0, 1, 0, rHo_tellRow) := ⟨⟨sx_in 599 (by decide +kernel) rfl, sx_in 600 (by decide +kernel) rfl, sx_in 601 (by decide +kernel) rfl, by decide +kernel⟩, rkHo_tellRow⟩
set_option maxRecDepth 100000 in
theorem ckSb_186 : sx_cok 7 (186, 0, 2, 0, rHo_shift) := ⟨⟨sx_in 608 (by decide +kernel) rfl, sx_in 609 (by decide +kernel) rfl, sx_in 610 (by decide +kernel) rfl, by decide +kernel⟩, rkHo_shift⟩
set_option maxRecDepth 100000 in
theorem ckSb_189 : sx_cok 7 (189, 0, 0, 3, rSe_knowsMended) := ⟨⟨sx_in 616 (by decide +kernel) rfl, sx_in 617 (by decide +kernel) rfl, sx_in 618 (by decide +kernel) rfl, by decide +kernel⟩, rkSe_knowsMended⟩
set_option maxRecDepth 100000 in
theorem ckSb_198 : sx_cok 7 (198, 0, 0, 1, rMa_knowsLeast) := ⟨⟨sx_in 624 (by decide +kernel) rfl, sx_in 625 (by decide +kernel) rfl, sx_in 626 (by decide +kernel) rfl, by decide +kernel⟩, rkMa_knowsLeast⟩
set_option maxRecDepth 100000 in
theorem ckSb_207 : sx_cok 7 (207, 0, 2, 2, rNi_bedOf) := ⟨⟨sx_in 662 (by decide +kernel) rfl, sx_in 663 (by decide +kernel) rfl, sx_in 664 (by decide +kernel) rfl, by decide +kernel⟩, rkNi_bedOf⟩
set_option maxRecDepth 100000 in
theorem ckSb_210 : sx_cok 7 (210, 0, 0, 2, rNi_linenChanges) := ⟨⟨sx_in 688 (by decide +kernel) rfl, sx_in 689 (by decide +kernel) rfl, sx_in 690 (by decide +kernel) rfl, by decide +kernel⟩, rkNi_linenChanges⟩
set_option maxRecDepth 100000 in
theorem ckSb_213 : sx_cok 7 (213, 0, 1, 0, rHo_isSetOfLodgers) := ⟨⟨sx_in 700 (by decide +kernel) rfl, sx_in 701 (by decide +kernel) rfl, sx_in 702 (by decide +kernel) rfl, by decide +kernel⟩, rkHo_isSetOfLodgers⟩
set_option maxRecDepth 100000 in
theorem ckSb_216 : sx_cok 7 (216, 1, 1, 7, rSb_isDay) := ⟨⟨sx_in 704 (by decide +kernel) rfl, sx_in 705 (by decide +kernel) rfl⟩, rkSb_isDay⟩
set_option maxRecDepth 100000 in
theorem ckSb_219 : sx_cok 7 (219, 0, 2, 2, rNi_sickAfter) := ⟨⟨sx_in 707 (by decide +kernel) rfl, sx_in 708 (by decide +kernel) rfl, sx_in 709 (by decide +kernel) rfl, by decide +kernel⟩, rkNi_sickAfter⟩
set_option maxRecDepth 100000 in
theorem ckSb_222 : sx_cok 7 (222, 0, 2, 2, rNi_bringersOf) := ⟨⟨sx_in 723 (by decide +kernel) rfl, sx_in 724 (by decide +kernel) rfl, sx_in 725 (by decide +kernel) rfl, by decide +kernel⟩, rkNi_bringersOf⟩
set_option maxRecDepth 100000 in
theorem ckSb_225 : sx_cok 7 (225, 0, 1, 0, rHo_become) := ⟨⟨sx_in 732 (by decide +kernel) rfl, sx_in 733 (by decide +kernel) rfl, sx_in 734 (by decide +kernel) rfl, by decide +kernel⟩, rkHo_become⟩
set_option maxRecDepth 100000 in
theorem ckSb_228 : sx_cok 7 (228, 0, 4, 7, rSb_refusalOfItems) := ⟨⟨sx_in 744 (by decide +kernel) rfl, sx_in 746 (by decide +kernel) rfl, sx_in 24 (by decide +kernel) rfl, by decide +kernel⟩, rkSb_refusalOfItems⟩
set_option maxRecDepth 100000 in
theorem ckSb_247 : sx_cok 7 (247, 1, 1, 7, rSb_isBadSheet) := ⟨⟨sx_in 748 (by decide +kernel) rfl, sx_in 749 (by decide +kernel) rfl⟩, rkSb_isBadSheet⟩
set_option maxRecDepth 100000 in
theorem ckSb_250 : sx_cok 7 (250, 1, 1, 7, rSb_isBadLane) := ⟨⟨sx_in 751 (by decide +kernel) rfl, sx_in 752 (by decide +kernel) rfl⟩, rkSb_isBadLane⟩
set_option maxRecDepth 100000 in
theorem ckSb_269 : sx_cok 7 (269, 0, 2, 4, rSh_reaches) := ⟨⟨sx_in 754 (by decide +kernel) rfl, sx_in 755 (by decide +kernel) rfl, sx_in 756 (by decide +kernel) rfl, by decide +kernel⟩, rkSh_reaches⟩
set_option maxRecDepth 100000 in
theorem ckSb_232 : sx_cok 7 (232, 0, 4, 7, rSb_takeItems) := ⟨⟨sx_in 758 (by decide +kernel) rfl, sx_in 760 (by decide +kernel) rfl, sx_in 25 (by decide +kernel) rfl, by decide +kernel⟩, rkSb_takeItems⟩
set_option maxRecDepth 100000 in
theorem ckSb_240 : sx_cok 7 (240, 0, 0, 5, rSt_allMayBegin) := ⟨⟨sx_in 770 (by decide +kernel) rfl, sx_in 629 (by decide +kernel) rfl, sx_in 630 (by decide +kernel) rfl, by decide +kernel⟩, rkSt_allMayBegin⟩
set_option maxRecDepth 100000 in
theorem ckSb_243 : sx_cok 7 (243, 0, 1, 1, rMa_areCleared) := ⟨⟨sx_in 771 (by decide +kernel) rfl, sx_in 640 (by decide +kernel) rfl, sx_in 641 (by decide +kernel) rfl, by decide +kernel⟩, rkMa_areCleared⟩
set_option maxRecDepth 100000 in
theorem ckSb_253 : sx_cok 7 (253, 0, 2, 4, rSh_begin) := ⟨⟨sx_in 776 (by decide +kernel) rfl, sx_in 777 (by decide +kernel) rfl, sx_in 778 (by decide +kernel) rfl, by decide +kernel⟩, rkSh_begin⟩
set_option maxRecDepth 100000 in
theorem ckSb_262 : sx_cok 7 (262, 0, 2, 4, rSh_put) := ⟨⟨sx_in 788 (by decide +kernel) rfl, sx_in 789 (by decide +kernel) rfl, sx_in 790 (by decide +kernel) rfl, by decide +kernel⟩, rkSh_put⟩
def clSb : List (Nat × Nat × Nat × Nat × sx_R) := [(73, 1, 1, 7, rSb_isSetOfParts), (81, 0, 3, 0, rHo_admit), (85, 0, 0, 5, rSt_refresh), (88, 0, 1, 0, rHo_has), (91, 0, 1, 0, rHo_dismiss), (113, 0, 2, 0, rHo_employ), (117, 1, 1, 7, rSb_isPart), (120, 0, 2, 0, rHo_sleepSet), (127, 0, 1, 0, rHo_furnish), (133, 1, 2, 6, rTa_canHold), (137, 0, 1, 6, rTa_hasRoom), (140, 0, 2, 6, rTa_append), (147, 0, 0, 6, rTa_parses), (154, 0, 0, 0, rHo_empty), (163, 0, 0, 0, rHo_needOfAll), (167, 0, 0, 7, rSb_rowIsGood), (236, 0, 1, 5, rSt_firstSpoiler), (170, 0, 0, 3, rSe_knowsFirst), (176, 0, 0, 3, rSe_countGood), (179, 0, 0, 3, rSe_fewestBeds), (182, 0, 1, 0, rHo_tellRow), (186, 0, 2, 0, rHo_shift), (189, 0, 0, 3, rSe_knowsMended), (198, 0, 0, 1, rMa_knowsLeast), (207, 0, 2, 2, rNi_bedOf), (210, 0, 0, 2, rNi_linenChanges), (213, 0, 1, 0, rHo_isSetOfLodgers), (216, 1, 1, 7, rSb_isDay), (219, 0, 2, 2, rNi_sickAfter), (222, 0, 2, 2, rNi_bringersOf), (225, 0, 1, 0, rHo_become), (228, 0, 4, 7, rSb_refusalOfItems), (247, 1, 1, 7, rSb_isBadSheet), (250, 1, 1, 7, rSb_isBadLane), (269, 0, 2, 4, rSh_reaches), (232, 0, 4, 7, rSb_takeItems), (240, 0, 0, 5, rSt_allMayBegin), (243, 0, 1, 1, rMa_areCleared), (253, 0, 2, 4, rSh_begin), (262, 0, 2, 4, rSh_put)]
theorem clSb_ok : ∀ q ∈ clSb, sx_cok 7 q := List.forall_mem_cons.mpr ⟨ckSb_73, List.forall_mem_cons.mpr ⟨ckSb_81, List.forall_mem_cons.mpr ⟨ckSb_85, List.forall_mem_cons.mpr ⟨ckSb_88, List.forall_mem_cons.mpr ⟨ckSb_91, List.forall_mem_cons.mpr ⟨ckSb_113, List.forall_mem_cons.mpr ⟨ckSb_117, List.forall_mem_cons.mpr ⟨ckSb_120, List.forall_mem_cons.mpr ⟨ckSb_127, List.forall_mem_cons.mpr ⟨ckSb_133, List.forall_mem_cons.mpr ⟨ckSb_137, List.forall_mem_cons.mpr ⟨ckSb_140, List.forall_mem_cons.mpr ⟨ckSb_147, List.forall_mem_cons.mpr ⟨ckSb_154, List.forall_mem_cons.mpr ⟨ckSb_163, List.forall_mem_cons.mpr ⟨ckSb_167, List.forall_mem_cons.mpr ⟨ckSb_236, List.forall_mem_cons.mpr ⟨ckSb_170, List.forall_mem_cons.mpr ⟨ckSb_176, List.forall_mem_cons.mpr ⟨ckSb_179, List.forall_mem_cons.mpr ⟨ckSb_182, List.forall_mem_cons.mpr ⟨ckSb_186, List.forall_mem_cons.mpr ⟨ckSb_189, List.forall_mem_cons.mpr ⟨ckSb_198, List.forall_mem_cons.mpr ⟨ckSb_207, List.forall_mem_cons.mpr ⟨ckSb_210, List.forall_mem_cons.mpr ⟨ckSb_213, List.forall_mem_cons.mpr ⟨ckSb_216, List.forall_mem_cons.mpr ⟨ckSb_219, List.forall_mem_cons.mpr ⟨ckSb_222, List.forall_mem_cons.mpr ⟨ckSb_225, List.forall_mem_cons.mpr ⟨ckSb_228, List.forall_mem_cons.mpr ⟨ckSb_247, List.forall_mem_cons.mpr ⟨ckSb_250, List.forall_mem_cons.mpr ⟨ckSb_269, List.forall_mem_cons.mpr ⟨ckSb_232, List.forall_mem_cons.mpr ⟨ckSb_240, List.forall_mem_cons.mpr ⟨ckSb_243, List.forall_mem_cons.mpr ⟨ckSb_253, List.forall_mem_cons.mpr ⟨ckSb_262, fun _ h => absurd h List.not_mem_nil⟩⟩⟩⟩⟩⟩⟩⟩⟩⟩⟩⟩⟩⟩⟩⟩⟩⟩⟩⟩⟩⟩⟩⟩⟩⟩⟩⟩⟩⟩⟩⟩⟩⟩⟩⟩⟩⟩⟩⟩
set_option maxRecDepth 100000 in
theorem ckMo_69 : sx_cok 8 (69, 1, 3, 8, rMo_in) := ⟨⟨sx_in 885 (by decide +kernel) rfl, sx_in 886 (by decide +kernel) rfl⟩, rkMo_in⟩
set_option maxRecDepth 100000 in
theorem ckMo_85 : sx_cok 8 (85, 0, 3, 8, rMo_comes) := ⟨⟨sx_in 890 (by decide +kernel) rfl, sx_in 892 (by decide +kernel) rfl, sx_in 26 (by decide +kernel) rfl, by decide +kernel⟩, rkMo_comes⟩
set_option maxRecDepth 100000 in
theorem ckMo_89 : sx_cok 8 (89, 0, 1, 8, rMo_isLodger) := ⟨⟨sx_in 898 (by decide +kernel) rfl, sx_in 900 (by decide +kernel) rfl, sx_in 27 (by decide +kernel) rfl, by decide +kernel⟩, rkMo_isLodger⟩
set_option maxRecDepth 100000 in
theorem ckMo_101 : sx_cok 8 (101, 0, 1, 8, rMo_mays) := ⟨⟨sx_in 906 (by decide +kernel) rfl, sx_in 908 (by decide +kernel) rfl, sx_in 28 (by decide +kernel) rfl, by decide +kernel⟩, rkMo_mays⟩
set_option maxRecDepth 100000 in
theorem ckMo_97 : sx_cok 8 (97, 0, 2, 8, rMo_may) := ⟨⟨sx_in 910 (by decide +kernel) rfl, sx_in 912 (by decide +kernel) rfl, sx_in 29 (by decide +kernel) rfl, by decide +kernel⟩, rkMo_may⟩
set_option maxRecDepth 100000 in
theorem ckMo_93 : sx_cok 8 (93, 0, 2, 8, rMo_sleep) := ⟨⟨sx_in 914 (by decide +kernel) rfl, sx_in 916 (by decide +kernel) rfl, sx_in 30 (by decide +kernel) rfl, by decide +kernel⟩, rkMo_sleep⟩
set_option maxRecDepth 100000 in
theorem ckMo_105 : sx_cok 8 (105, 1, 1, 8, rMo_isPart) := ⟨⟨sx_in 926 (by decide +kernel) rfl, sx_in 927 (by decide +kernel) rfl⟩, rkMo_isPart⟩
set_option maxRecDepth 100000 in
theorem ckMo_119 : sx_cok 8 (119, 0, 0, 8, rMo_isGood) := ⟨⟨sx_in 943 (by decide +kernel) rfl, sx_in 945 (by decide +kernel) rfl, sx_in 31 (by decide +kernel) rfl, by decide +kernel⟩, rkMo_isGood⟩
set_option maxRecDepth 100000 in
theorem ckMo_115 : sx_cok 8 (115, 0, 1, 8, rMo_wrongBy) := ⟨⟨sx_in 947 (by decide +kernel) rfl, sx_in 949 (by decide +kernel) rfl, sx_in 32 (by decide +kernel) rfl, by decide +kernel⟩, rkMo_wrongBy⟩
set_option maxRecDepth 100000 in
theorem ckMo_111 : sx_cok 8 (111, 0, 2, 8, rMo_fits) := ⟨⟨sx_in 951 (by decide +kernel) rfl, sx_in 953 (by decide +kernel) rfl, sx_in 33 (by decide +kernel) rfl, by decide +kernel⟩, rkMo_fits⟩
set_option maxRecDepth 100000 in
theorem ckMo_126 : sx_cok 8 (126, 0, 2, 8, rMo_goes) := ⟨⟨sx_in 959 (by decide +kernel) rfl, sx_in 961 (by decide +kernel) rfl, sx_in 34 (by decide +kernel) rfl, by decide +kernel⟩, rkMo_goes⟩
set_option maxRecDepth 100000 in
theorem ckMo_123 : sx_cok 8 (123, 0, 1, 8, rMo_changed) := ⟨⟨sx_in 963 (by decide +kernel) rfl, sx_in 965 (by decide +kernel) rfl, sx_in 35 (by decide +kernel) rfl, by decide +kernel⟩, rkMo_changed⟩
set_option maxRecDepth 100000 in
theorem ckMo_129 : sx_cok 8 (129, 0, 0, 8, rMo_takes) := ⟨⟨sx_in 979 (by decide +kernel) rfl, sx_in 981 (by decide +kernel) rfl, sx_in 36 (by decide +kernel) rfl, by decide +kernel⟩, rkMo_takes⟩
set_option maxRecDepth 100000 in
theorem ckMo_134 : sx_cok 8 (134, 0, 1, 8, rMo_tells) := ⟨⟨sx_in 996 (by decide +kernel) rfl, sx_in 998 (by decide +kernel) rfl, sx_in 37 (by decide +kernel) rfl, by decide +kernel⟩, rkMo_tells⟩
set_option maxRecDepth 100000 in
theorem ckMo_138 : sx_cok 8 (138, 0, 0, 8, rMo_clear) := ⟨⟨sx_in 1000 (by decide +kernel) rfl, sx_in 1002 (by decide +kernel) rfl, sx_in 38 (by decide +kernel) rfl, by decide +kernel⟩, rkMo_clear⟩
set_option maxRecDepth 100000 in
theorem ckMo_147 : sx_cok 8 (147, 0, 0, 8, rMo_liesAll) := ⟨⟨sx_in 1008 (by decide +kernel) rfl, sx_in 1010 (by decide +kernel) rfl, sx_in 39 (by decide +kernel) rfl, by decide +kernel⟩, rkMo_liesAll⟩
set_option maxRecDepth 100000 in
theorem ckMo_141 : sx_cok 8 (141, 0, 2, 8, rMo_isAsleep) := ⟨⟨sx_in 1012 (by decide +kernel) rfl, sx_in 1014 (by decide +kernel) rfl, sx_in 40 (by decide +kernel) rfl, by decide +kernel⟩, rkMo_isAsleep⟩
set_option maxRecDepth 100000 in
theorem ckMo_144 : sx_cok 8 (144, 0, 2, 8, rMo_liesDown) := ⟨⟨sx_in 1016 (by decide +kernel) rfl, sx_in 1018 (by decide +kernel) rfl, sx_in 41 (by decide +kernel) rfl, by decide +kernel⟩, rkMo_liesDown⟩
set_option maxRecDepth 100000 in
theorem ckMo_150 : sx_cok 8 (150, 0, 1, 8, rMo_begins) := ⟨⟨sx_in 1024 (by decide +kernel) rfl, sx_in 1026 (by decide +kernel) rfl, sx_in 42 (by decide +kernel) rfl, by decide +kernel⟩, rkMo_begins⟩
set_option maxRecDepth 100000 in
theorem ckMo_153 : sx_cok 8 (153, 0, 1, 8, rMo_days) := ⟨⟨sx_in 1028 (by decide +kernel) rfl, sx_in 1030 (by decide +kernel) rfl, sx_in 43 (by decide +kernel) rfl, by decide +kernel⟩, rkMo_days⟩
set_option maxRecDepth 100000 in
theorem ckMo_158 : sx_cok 8 (158, 0, 2, 8, rMo_isSet) := ⟨⟨sx_in 1036 (by decide +kernel) rfl, sx_in 1038 (by decide +kernel) rfl, sx_in 44 (by decide +kernel) rfl, by decide +kernel⟩, rkMo_isSet⟩
set_option maxRecDepth 100000 in
theorem ckMo_161 : sx_cok 8 (161, 0, 2, 8, rMo_ill) := ⟨⟨sx_in 1041 (by decide +kernel) rfl, sx_in 1043 (by decide +kernel) rfl, sx_in 45 (by decide +kernel) rfl, by decide +kernel⟩, rkMo_ill⟩
set_option maxRecDepth 100000 in
theorem ckMo_196 : sx_cok 8 (196, 0, 1, 8, rMo_readOne) := ⟨⟨sx_in 1060 (by decide +kernel) rfl, sx_in 1062 (by decide +kernel) rfl, sx_in 46 (by decide +kernel) rfl, by decide +kernel⟩, rkMo_readOne⟩
set_option maxRecDepth 100000 in
theorem ckMo_179 : sx_cok 8 (179, 0, 0, 8, rMo_here) := ⟨⟨sx_in 1064 (by decide +kernel) rfl, sx_in 1066 (by decide +kernel) rfl, sx_in 47 (by decide +kernel) rfl, by decide +kernel⟩, rkMo_here⟩
set_option maxRecDepth 100000 in
theorem ckMo_183 : sx_cok 8 (183, 1, 1, 8, rMo_kindOf) := ⟨⟨sx_in 1068 (by decide +kernel) rfl, sx_in 1069 (by decide +kernel) rfl⟩, rkMo_kindOf⟩
set_option maxRecDepth 100000 in
theorem ckMo_186 : sx_cok 8 (186, 0, 2, 8, rMo_digit) := ⟨⟨sx_in 1071 (by decide +kernel) rfl, sx_in 1073 (by decide +kernel) rfl, sx_in 48 (by decide +kernel) rfl, by decide +kernel⟩, rkMo_digit⟩
set_option maxRecDepth 100000 in
theorem ckMo_189 : sx_cok 8 (189, 0, 1, 8, rMo_has) := ⟨⟨sx_in 1075 (by decide +kernel) rfl, sx_in 1077 (by decide +kernel) rfl, sx_in 49 (by decide +kernel) rfl, by decide +kernel⟩, rkMo_has⟩
set_option maxRecDepth 100000 in
theorem ckMo_199 : sx_cok 8 (199, 0, 2, 8, rMo_notes) := ⟨⟨sx_in 1085 (by decide +kernel) rfl, sx_in 1087 (by decide +kernel) rfl, sx_in 50 (by decide +kernel) rfl, by decide +kernel⟩, rkMo_notes⟩
set_option maxRecDepth 100000 in
theorem ckMo_206 : sx_cok 8 (206, 0, 2, 8, rMo_gives) := ⟨⟨sx_in 1093 (by decide +kernel) rfl, sx_in 1095 (by decide +kernel) rfl, sx_in 51 (by decide +kernel) rfl, by decide +kernel⟩, rkMo_gives⟩
set_option maxRecDepth 100000 in
theorem ckMo_212 : sx_cok 8 (212, 1, 1, 8, rMo_isSheet) := ⟨⟨sx_in 1101 (by decide +kernel) rfl, sx_in 1102 (by decide +kernel) rfl⟩, rkMo_isSheet⟩
set_option maxRecDepth 100000 in
theorem ckMo_215 : sx_cok 8 (215, 1, 1, 8, rMo_isLane) := ⟨⟨sx_in 1104 (by decide +kernel) rfl, sx_in 1105 (by decide +kernel) rfl⟩, rkMo_isLane⟩
set_option maxRecDepth 100000 in
theorem ckMo_218 : sx_cok 8 (218, 0, 4, 8, rMo_why) := ⟨⟨sx_in 1108 (by decide +kernel) rfl, sx_in 1110 (by decide +kernel) rfl, sx_in 52 (by decide +kernel) rfl, by decide +kernel⟩, rkMo_why⟩
set_option maxRecDepth 100000 in
theorem ckMo_222 : sx_cok 8 (222, 0, 3, 8, rMo_puts) := ⟨⟨sx_in 1124 (by decide +kernel) rfl, sx_in 1126 (by decide +kernel) rfl, sx_in 53 (by decide +kernel) rfl, by decide +kernel⟩, rkMo_puts⟩
def clMo : List (Nat × Nat × Nat × Nat × sx_R) := [(69, 1, 3, 8, rMo_in), (85, 0, 3, 8, rMo_comes), (89, 0, 1, 8, rMo_isLodger), (101, 0, 1, 8, rMo_mays), (97, 0, 2, 8, rMo_may), (93, 0, 2, 8, rMo_sleep), (105, 1, 1, 8, rMo_isPart), (119, 0, 0, 8, rMo_isGood), (115, 0, 1, 8, rMo_wrongBy), (111, 0, 2, 8, rMo_fits), (126, 0, 2, 8, rMo_goes), (123, 0, 1, 8, rMo_changed), (129, 0, 0, 8, rMo_takes), (134, 0, 1, 8, rMo_tells), (138, 0, 0, 8, rMo_clear), (147, 0, 0, 8, rMo_liesAll), (141, 0, 2, 8, rMo_isAsleep), (144, 0, 2, 8, rMo_liesDown), (150, 0, 1, 8, rMo_begins), (153, 0, 1, 8, rMo_days), (158, 0, 2, 8, rMo_isSet), (161, 0, 2, 8, rMo_ill), (196, 0, 1, 8, rMo_readOne), (179, 0, 0, 8, rMo_here), (183, 1, 1, 8, rMo_kindOf), (186, 0, 2, 8, rMo_digit), (189, 0, 1, 8, rMo_has), (199, 0, 2, 8, rMo_notes), (206, 0, 2, 8, rMo_gives), (212, 1, 1, 8, rMo_isSheet), (215, 1, 1, 8, rMo_isLane), (218, 0, 4, 8, rMo_why), (222, 0, 3, 8, rMo_puts)]
theorem clMo_ok : ∀ q ∈ clMo, sx_cok 8 q := List.forall_mem_cons.mpr ⟨ckMo_69, List.forall_mem_cons.mpr ⟨ckMo_85, List.forall_mem_cons.mpr ⟨ckMo_89, List.forall_mem_cons.mpr ⟨ckMo_101, List.forall_mem_cons.mpr ⟨ckMo_97, List.forall_mem_cons.mpr ⟨ckMo_93, List.forall_mem_cons.mpr ⟨ckMo_105, List.forall_mem_cons.mpr ⟨ckMo_119, List.forall_mem_cons.mpr ⟨ckMo_115, List.forall_mem_cons.mpr ⟨ckMo_111, List.forall_mem_cons.mpr ⟨ckMo_126, List.forall_mem_cons.mpr ⟨ckMo_123, List.forall_mem_cons.mpr ⟨ckMo_129, List.forall_mem_cons.mpr ⟨ckMo_134, List.forall_mem_cons.mpr ⟨ckMo_138, List.forall_mem_cons.mpr ⟨ckMo_147, List.forall_mem_cons.mpr ⟨ckMo_141, List.forall_mem_cons.mpr ⟨ckMo_144, List.forall_mem_cons.mpr ⟨ckMo_150, List.forall_mem_cons.mpr ⟨ckMo_153, List.forall_mem_cons.mpr ⟨ckMo_158, List.forall_mem_cons.mpr ⟨ckMo_161, List.forall_mem_cons.mpr ⟨ckMo_196, List.forall_mem_cons.mpr ⟨ckMo_179, List.forall_mem_cons.mpr ⟨ckMo_183, List.forall_mem_cons.mpr ⟨ckMo_186, List.forall_mem_cons.mpr ⟨ckMo_189, List.forall_mem_cons.mpr ⟨ckMo_199, List.forall_mem_cons.mpr ⟨ckMo_206, List.forall_mem_cons.mpr ⟨ckMo_212, List.forall_mem_cons.mpr ⟨ckMo_215, List.forall_mem_cons.mpr ⟨ckMo_218, List.forall_mem_cons.mpr ⟨ckMo_222, fun _ h => absurd h List.not_mem_nil⟩⟩⟩⟩⟩⟩⟩⟩⟩⟩⟩⟩⟩⟩⟩⟩⟩⟩⟩⟩⟩⟩⟩⟩⟩⟩⟩⟩⟩⟩⟩⟩⟩
def sx_cl : Nat → List (Nat × Nat × Nat × Nat × sx_R) := fun k => match k with
  | 0 => clHo
  | 1 => clMa
  | 2 => clNi
  | 3 => clSe
  | 4 => clSh
  | 5 => clSt
  | 6 => clTa
  | 7 => clSb
  | 8 => clMo
  | _ => []
theorem sx_cl_ok : ∀ own, ∀ q ∈ sx_cl own, sx_cok own q := by
  intro own
  match own with
  | 0 => exact clHo_ok
  | 1 => exact clMa_ok
  | 2 => exact clNi_ok
  | 3 => exact clSe_ok
  | 4 => exact clSh_ok
  | 5 => exact clSt_ok
  | 6 => exact clTa_ok
  | 7 => exact clSb_ok
  | 8 => exact clMo_ok
  | n + 9 => exact fun _ h => absurd h List.not_mem_nil
def sx_ac : Nat → List Nat := fun k => match k with
  | 0 => [47]
  | 1 => []
  | 2 => []
  | 3 => [101]
  | 4 => []
  | 5 => []
  | 6 => []
  | 7 => [277]
  | 8 => []
  | _ => []
theorem sx_ac_ok : ∀ own, ∀ i ∈ sx_ac own, Cond.methodLink (sx_cn own) i arraycopyName ∈ sx_T := by
  intro own
  match own with
  | 0 => exact List.forall_mem_cons.mpr ⟨sx_in 603 (by decide +kernel) rfl, fun _ h => absurd h List.not_mem_nil⟩
  | 1 => exact fun _ h => absurd h List.not_mem_nil
  | 2 => exact fun _ h => absurd h List.not_mem_nil
  | 3 => exact List.forall_mem_cons.mpr ⟨sx_in 573 (by decide +kernel) rfl, fun _ h => absurd h List.not_mem_nil⟩
  | 4 => exact fun _ h => absurd h List.not_mem_nil
  | 5 => exact fun _ h => absurd h List.not_mem_nil
  | 6 => exact fun _ h => absurd h List.not_mem_nil
  | 7 => exact List.forall_mem_cons.mpr ⟨sx_in 800 (by decide +kernel) rfl, fun _ h => absurd h List.not_mem_nil⟩
  | 8 => exact fun _ h => absurd h List.not_mem_nil
  | n + 9 => exact fun _ h => absurd h List.not_mem_nil
set_option maxRecDepth 100000 in
theorem sx_acN : Cond.native arraycopyName ∈ sx_T ∧ Cond.static arraycopyName ∈ sx_T ∧ Cond.initialized "java/lang/System" ∈ sx_T := ⟨sx_in 575 (by decide +kernel) rfl, sx_in 574 (by decide +kernel) rfl, sx_in 65 (by decide +kernel) rfl⟩
def klHo : List (Nat × Int64) := []
theorem klHo_ok : ∀ q ∈ klHo, Cond.constantLong (sx_cn 0) q.1 q.2 ∈ sx_T := fun _ h => absurd h List.not_mem_nil
def klMa : List (Nat × Int64) := [(70, (-1 : Int64))]
set_option maxRecDepth 100000 in
theorem klMa_ok : ∀ q ∈ klMa, Cond.constantLong (sx_cn 1) q.1 q.2 ∈ sx_T := List.forall_mem_cons.mpr ⟨sx_in 656 (by decide +kernel) rfl, fun _ h => absurd h List.not_mem_nil⟩
def klNi : List (Nat × Int64) := []
theorem klNi_ok : ∀ q ∈ klNi, Cond.constantLong (sx_cn 2) q.1 q.2 ∈ sx_T := fun _ h => absurd h List.not_mem_nil
def klSe : List (Nat × Int64) := [(149, (-1 : Int64))]
set_option maxRecDepth 100000 in
theorem klSe_ok : ∀ q ∈ klSe, Cond.constantLong (sx_cn 3) q.1 q.2 ∈ sx_T := List.forall_mem_cons.mpr ⟨sx_in 568 (by decide +kernel) rfl, fun _ h => absurd h List.not_mem_nil⟩
def klSh : List (Nat × Int64) := []
theorem klSh_ok : ∀ q ∈ klSh, Cond.constantLong (sx_cn 4) q.1 q.2 ∈ sx_T := fun _ h => absurd h List.not_mem_nil
def klSt : List (Nat × Int64) := [(56, lN 286331153), (58, lN 2290649224), (54, (-1 : Int64))]
set_option maxRecDepth 100000 in
theorem klSt_ok : ∀ q ∈ klSt, Cond.constantLong (sx_cn 5) q.1 q.2 ∈ sx_T := List.forall_mem_cons.mpr ⟨sx_in 511 (by decide +kernel) rfl, List.forall_mem_cons.mpr ⟨sx_in 517 (by decide +kernel) rfl, List.forall_mem_cons.mpr ⟨sx_in 518 (by decide +kernel) rfl, fun _ h => absurd h List.not_mem_nil⟩⟩⟩
def klTa : List (Nat × Int64) := []
theorem klTa_ok : ∀ q ∈ klTa, Cond.constantLong (sx_cn 6) q.1 q.2 ∈ sx_T := fun _ h => absurd h List.not_mem_nil
def klSb : List (Nat × Int64) := []
theorem klSb_ok : ∀ q ∈ klSb, Cond.constantLong (sx_cn 7) q.1 q.2 ∈ sx_T := fun _ h => absurd h List.not_mem_nil
def klMo : List (Nat × Int64) := [(79, lN 3), (81, lN 4), (83, lN 255), (73, lN 7), (109, lN 9), (132, (-1 : Int64)), (156, lN 30), (164, lN 8), (166, lN 32), (168, lN 126), (192, lN 48), (194, lN 57), (210, lN 2)]
set_option maxRecDepth 100000 in
theorem klMo_ok : ∀ q ∈ klMo, Cond.constantLong (sx_cn 8) q.1 q.2 ∈ sx_T := List.forall_mem_cons.mpr ⟨sx_in 884 (by decide +kernel) rfl, List.forall_mem_cons.mpr ⟨sx_in 888 (by decide +kernel) rfl, List.forall_mem_cons.mpr ⟨sx_in 889 (by decide +kernel) rfl, List.forall_mem_cons.mpr ⟨sx_in 929 (by decide +kernel) rfl, List.forall_mem_cons.mpr ⟨sx_in 938 (by decide +kernel) rfl, List.forall_mem_cons.mpr ⟨sx_in 995 (by decide +kernel) rfl, List.forall_mem_cons.mpr ⟨sx_in 1040 (by decide +kernel) rfl, List.forall_mem_cons.mpr ⟨sx_in 1053 (by decide +kernel) rfl, List.forall_mem_cons.mpr ⟨sx_in 1054 (by decide +kernel) rfl, List.forall_mem_cons.mpr ⟨sx_in 1055 (by decide +kernel) rfl, List.forall_mem_cons.mpr ⟨sx_in 1079 (by decide +kernel) rfl, List.forall_mem_cons.mpr ⟨sx_in 1080 (by decide +kernel) rfl, List.forall_mem_cons.mpr ⟨sx_in 1107 (by decide +kernel) rfl, fun _ h => absurd h List.not_mem_nil⟩⟩⟩⟩⟩⟩⟩⟩⟩⟩⟩⟩⟩
def klIn : List (Nat × Int64) := []
theorem klIn_ok : ∀ q ∈ klIn, Cond.constantLong (sx_cn 9) q.1 q.2 ∈ sx_T := fun _ h => absurd h List.not_mem_nil
def sx_kl : Nat → List (Nat × Int64) := fun k => match k with
  | 0 => klHo
  | 1 => klMa
  | 2 => klNi
  | 3 => klSe
  | 4 => klSh
  | 5 => klSt
  | 6 => klTa
  | 7 => klSb
  | 8 => klMo
  | 9 => klIn
  | _ => []
theorem sx_kl_ok : ∀ own, ∀ q ∈ sx_kl own, Cond.constantLong (sx_cn own) q.1 q.2 ∈ sx_T := by
  intro own
  match own with
  | 0 => exact klHo_ok
  | 1 => exact klMa_ok
  | 2 => exact klNi_ok
  | 3 => exact klSe_ok
  | 4 => exact klSh_ok
  | 5 => exact klSt_ok
  | 6 => exact klTa_ok
  | 7 => exact klSb_ok
  | 8 => exact klMo_ok
  | 9 => exact klIn_ok
  | n + 10 => exact fun _ h => absurd h List.not_mem_nil
def kiHo : List (Nat × Int32) := []
theorem kiHo_ok : ∀ q ∈ kiHo, Cond.constant (sx_cn 0) q.1 q.2 ∈ sx_T := fun _ h => absurd h List.not_mem_nil
def kiMa : List (Nat × Int32) := []
theorem kiMa_ok : ∀ q ∈ kiMa, Cond.constant (sx_cn 1) q.1 q.2 ∈ sx_T := fun _ h => absurd h List.not_mem_nil
def kiNi : List (Nat × Int32) := []
theorem kiNi_ok : ∀ q ∈ kiNi, Cond.constant (sx_cn 2) q.1 q.2 ∈ sx_T := fun _ h => absurd h List.not_mem_nil
def kiSe : List (Nat × Int32) := []
theorem kiSe_ok : ∀ q ∈ kiSe, Cond.constant (sx_cn 3) q.1 q.2 ∈ sx_T := fun _ h => absurd h List.not_mem_nil
def kiSh : List (Nat × Int32) := []
theorem kiSh_ok : ∀ q ∈ kiSh, Cond.constant (sx_cn 4) q.1 q.2 ∈ sx_T := fun _ h => absurd h List.not_mem_nil
def kiSt : List (Nat × Int32) := []
theorem kiSt_ok : ∀ q ∈ kiSt, Cond.constant (sx_cn 5) q.1 q.2 ∈ sx_T := fun _ h => absurd h List.not_mem_nil
def kiTa : List (Nat × Int32) := []
theorem kiTa_ok : ∀ q ∈ kiTa, Cond.constant (sx_cn 6) q.1 q.2 ∈ sx_T := fun _ h => absurd h List.not_mem_nil
def kiSb : List (Nat × Int32) := []
theorem kiSb_ok : ∀ q ∈ kiSb, Cond.constant (sx_cn 7) q.1 q.2 ∈ sx_T := fun _ h => absurd h List.not_mem_nil
def kiMo : List (Nat × Int32) := []
theorem kiMo_ok : ∀ q ∈ kiMo, Cond.constant (sx_cn 8) q.1 q.2 ∈ sx_T := fun _ h => absurd h List.not_mem_nil
def kiIn : List (Nat × Int32) := [(265, nI 1431655765), (266, nI 858993459), (267, nI 252645135)]
set_option maxRecDepth 100000 in
theorem kiIn_ok : ∀ q ∈ kiIn, Cond.constant (sx_cn 9) q.1 q.2 ∈ sx_T := List.forall_mem_cons.mpr ⟨sx_in 546 (by decide +kernel) rfl, List.forall_mem_cons.mpr ⟨sx_in 547 (by decide +kernel) rfl, List.forall_mem_cons.mpr ⟨sx_in 548 (by decide +kernel) rfl, fun _ h => absurd h List.not_mem_nil⟩⟩⟩
def sx_ki : Nat → List (Nat × Int32) := fun k => match k with
  | 0 => kiHo
  | 1 => kiMa
  | 2 => kiNi
  | 3 => kiSe
  | 4 => kiSh
  | 5 => kiSt
  | 6 => kiTa
  | 7 => kiSb
  | 8 => kiMo
  | 9 => kiIn
  | _ => []
theorem sx_ki_ok : ∀ own, ∀ q ∈ sx_ki own, Cond.constant (sx_cn own) q.1 q.2 ∈ sx_T := by
  intro own
  match own with
  | 0 => exact kiHo_ok
  | 1 => exact kiMa_ok
  | 2 => exact kiNi_ok
  | 3 => exact kiSe_ok
  | 4 => exact kiSh_ok
  | 5 => exact kiSt_ok
  | 6 => exact kiTa_ok
  | 7 => exact kiSb_ok
  | 8 => exact kiMo_ok
  | 9 => exact kiIn_ok
  | n + 10 => exact fun _ h => absurd h List.not_mem_nil
