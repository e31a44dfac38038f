-- ===== PART A: goes FIRST, ahead of the names: the tables' words, and 'selects' of the private methods out of them =====
/-- a private method of a class that the tables say can be made, by its rows of tables_1 -/
def lw_okq (q : MethodName × Nat) : Prop := (q.1.cls ≠ "java/lang/invoke/MethodHandle" ∧ q.1.cls ≠ "java/lang/invoke/VarHandle") ∧ Cond.instantiable q.1.cls q.2 ∈ tables_1 ∧ Cond.privateMethod q.1 ∈ tables_1 ∧ Cond.instanceMethod q.1 ∈ tables_1
theorem lw_p0 : lw_okq (⟨"SquaredPaper$Figure", "relink", "()V"⟩, 6) := ⟨⟨by decide +kernel, by decide +kernel⟩, List.mem_of_getElem? (i := 26) (by decide +kernel), List.mem_of_getElem? (i := 124) (by decide +kernel), List.mem_of_getElem? (i := 125) (by decide +kernel)⟩
theorem lw_p1 : lw_okq (⟨"SquaredPaper", "checkCorner", "(II)V"⟩, 7) := ⟨⟨by decide +kernel, by decide +kernel⟩, List.mem_of_getElem? (i := 18) (by decide +kernel), List.mem_of_getElem? (i := 154) (by decide +kernel), List.mem_of_getElem? (i := 155) (by decide +kernel)⟩
theorem lw_p2 : lw_okq (⟨"java/lang/Throwable", "fillInStackTrace", "(I)Ljava/lang/Throwable;"⟩, 6) := ⟨⟨by decide +kernel, by decide +kernel⟩, List.mem_of_getElem? (i := 200) (by decide +kernel), List.mem_of_getElem? (i := 198) (by decide +kernel), List.mem_of_getElem? (i := 199) (by decide +kernel)⟩
theorem lw_p3 : lw_okq (⟨"SquaredPaper$Figure", "passesRightOf", "(III)Z"⟩, 6) := ⟨⟨by decide +kernel, by decide +kernel⟩, List.mem_of_getElem? (i := 26) (by decide +kernel), List.mem_of_getElem? (i := 306) (by decide +kernel), List.mem_of_getElem? (i := 307) (by decide +kernel)⟩
theorem lw_p4 : lw_okq (⟨"SquaredPaper", "keepDraft", "()V"⟩, 7) := ⟨⟨by decide +kernel, by decide +kernel⟩, List.mem_of_getElem? (i := 18) (by decide +kernel), List.mem_of_getElem? (i := 351) (by decide +kernel), List.mem_of_getElem? (i := 352) (by decide +kernel)⟩
theorem lw_p5 : lw_okq (⟨"SquaredPaper$Figure", "closeGap", "(II)V"⟩, 6) := ⟨⟨by decide +kernel, by decide +kernel⟩, List.mem_of_getElem? (i := 26) (by decide +kernel), List.mem_of_getElem? (i := 408) (by decide +kernel), List.mem_of_getElem? (i := 409) (by decide +kernel)⟩
def lw_privs_1 : List (MethodName × Nat) := [(⟨"SquaredPaper$Figure", "relink", "()V"⟩, 6), (⟨"SquaredPaper", "checkCorner", "(II)V"⟩, 7), (⟨"java/lang/Throwable", "fillInStackTrace", "(I)Ljava/lang/Throwable;"⟩, 6), (⟨"SquaredPaper$Figure", "passesRightOf", "(III)Z"⟩, 6), (⟨"SquaredPaper", "keepDraft", "()V"⟩, 7), (⟨"SquaredPaper$Figure", "closeGap", "(II)V"⟩, 6)]
theorem lw_r1 : ∀ q ∈ lw_privs_1, lw_okq q := List.forall_mem_cons.mpr ⟨lw_p0, List.forall_mem_cons.mpr ⟨lw_p1, List.forall_mem_cons.mpr ⟨lw_p2, List.forall_mem_cons.mpr ⟨lw_p3, List.forall_mem_cons.mpr ⟨lw_p4, List.forall_mem_cons.mpr ⟨lw_p5, fun _ h => absurd h List.not_mem_nil⟩⟩⟩⟩⟩⟩
def lw_privs : List (MethodName × Nat) := lw_privs_1
def lw_tbl : List Cond := k2_sels lw_privs ++ tables_1
theorem lw_privs_ok : ∀ q ∈ lw_privs, lw_okq q := lw_r1

def RX0 : String := "SquaredPaper$Change"
def TX0 : u_T := fun k => match k with
  | _ => ("", "", "", false)
def tyX0 : Nat → FieldType := fun k => match k with
  | _ => .int
abbrev wsX00 : List Cond := u_ws RX0 TX0 0
theorem nmX0 : ∀ a, a < 0 → ∀ b, b < 0 → a ≠ b → (TX0 a).2.1 ≠ (TX0 b).2.1 := by decide +kernel
theorem tyX0_ok : ∀ k, k < 0 → parseFieldDescriptor (TX0 k).2.2.1 = some (tyX0 k) := by decide +kernel
abbrev cX0_movedCorner : ByteArray := prog_2_method_2_code
def yX0_movedCorner : MethodName := ⟨RX0, "movedCorner", "(LSquaredPaper$Figure;IIII)Z"⟩
abbrev cX0_addedCorner : ByteArray := prog_2_method_3_code
def yX0_addedCorner : MethodName := ⟨RX0, "addedCorner", "(LSquaredPaper$Figure;IIII)Z"⟩
abbrev cX0_lostCorner : ByteArray := prog_2_method_4_code
def yX0_lostCorner : MethodName := ⟨RX0, "lostCorner", "(LSquaredPaper$Figure;II)Z"⟩
abbrev cX0_addedHole : ByteArray := prog_2_method_5_code
def yX0_addedHole : MethodName := ⟨RX0, "addedHole", "(LSquaredPaper$Figure;II)Z"⟩
def RX1 : String := "SquaredPaper$Figure"
def TX1 : u_T := fun k => match k with
  | 0 => ("SquaredPaper$Figure", "rings", "I", false)
  | 1 => ("SquaredPaper$Figure", "corners", "I", false)
  | 2 => ("SquaredPaper$Figure", "sizes", "[I", true)
  | 3 => ("SquaredPaper$Figure", "xs", "[I", true)
  | 4 => ("SquaredPaper$Figure", "ys", "[I", true)
  | _ => ("SquaredPaper$Figure", "next", "[I", true)
def tyX1 : Nat → FieldType := fun k => match k with
  | 0 => .int
  | 1 => .int
  | 2 => .array .int
  | 3 => .array .int
  | 4 => .array .int
  | _ => .array .int
abbrev wsX10 : List Cond := u_ws RX1 TX1 6
theorem nmX1 : ∀ a, a < 6 → ∀ b, b < 6 → a ≠ b → (TX1 a).2.1 ≠ (TX1 b).2.1 := by decide +kernel
theorem tyX1_ok : ∀ k, k < 6 → parseFieldDescriptor (TX1 k).2.2.1 = some (tyX1 k) := by decide +kernel
abbrev cX1_init : ByteArray := prog_3_method_1_code
def yX1_init : MethodName := ⟨RX1, "<init>", "()V"⟩
abbrev cX1_copyFrom : ByteArray := prog_3_method_2_code
def yX1_copyFrom : MethodName := ⟨RX1, "copyFrom", "(LSquaredPaper$Figure;)V"⟩
abbrev cX1_hasRing : ByteArray := prog_3_method_3_code
def yX1_hasRing : MethodName := ⟨RX1, "hasRing", "(I)Z"⟩
abbrev cX1_hasCorner : ByteArray := prog_3_method_4_code
def yX1_hasCorner : MethodName := ⟨RX1, "hasCorner", "(II)Z"⟩
abbrev cX1_sizeOf : ByteArray := prog_3_method_5_code
def yX1_sizeOf : MethodName := ⟨RX1, "sizeOf", "(I)I"⟩
abbrev cX1_firstOf : ByteArray := prog_3_method_6_code
def yX1_firstOf : MethodName := ⟨RX1, "firstOf", "(I)I"⟩
abbrev cX1_at : ByteArray := prog_3_method_7_code
def yX1_at : MethodName := ⟨RX1, "at", "(II)I"⟩
abbrev cX1_xOf : ByteArray := prog_3_method_8_code
def yX1_xOf : MethodName := ⟨RX1, "xOf", "(I)I"⟩
abbrev cX1_yOf : ByteArray := prog_3_method_9_code
def yX1_yOf : MethodName := ⟨RX1, "yOf", "(I)I"⟩
abbrev cX1_nextOf : ByteArray := prog_3_method_10_code
def yX1_nextOf : MethodName := ⟨RX1, "nextOf", "(I)I"⟩
abbrev cX1_priorOf : ByteArray := prog_3_method_11_code
def yX1_priorOf : MethodName := ⟨RX1, "priorOf", "(II)I"⟩
abbrev cX1_openRing : ByteArray := prog_3_method_13_code
def yX1_openRing : MethodName := ⟨RX1, "openRing", "()V"⟩
abbrev cX1_addCorner : ByteArray := prog_3_method_14_code
def yX1_addCorner : MethodName := ⟨RX1, "addCorner", "(II)V"⟩
abbrev cX1_place : ByteArray := prog_3_method_15_code
def yX1_place : MethodName := ⟨RX1, "place", "(III)V"⟩
abbrev cX1_putIn : ByteArray := prog_3_method_16_code
def yX1_putIn : MethodName := ⟨RX1, "putIn", "(IIII)V"⟩
abbrev cX1_takeOut : ByteArray := prog_3_method_17_code
def yX1_takeOut : MethodName := ⟨RX1, "takeOut", "(II)V"⟩
abbrev cX1_closeGap : ByteArray := prog_3_method_19_code
def yX1_closeGap : MethodName := ⟨RX1, "closeGap", "(II)V"⟩
abbrev cX1_relink : ByteArray := prog_3_method_20_code
def yX1_relink : MethodName := ⟨RX1, "relink", "()V"⟩
abbrev cX1_bend : ByteArray := prog_3_method_24_code
def yX1_bend : MethodName := ⟨RX1, "bend", "(III)I"⟩
abbrev cX1_bendAt : ByteArray := prog_3_method_25_code
def yX1_bendAt : MethodName := ⟨RX1, "bendAt", "(II)I"⟩
abbrev cX1_linesCross : ByteArray := prog_3_method_26_code
def yX1_linesCross : MethodName := ⟨RX1, "linesCross", "(IIII)Z"⟩
abbrev cX1_onLine : ByteArray := prog_3_method_27_code
def yX1_onLine : MethodName := ⟨RX1, "onLine", "(IIII)Z"⟩
abbrev cX1_cornerOnLine : ByteArray := prog_3_method_28_code
def yX1_cornerOnLine : MethodName := ⟨RX1, "cornerOnLine", "(III)Z"⟩
abbrev cX1_surrounds : ByteArray := prog_3_method_29_code
def yX1_surrounds : MethodName := ⟨RX1, "surrounds", "(III)Z"⟩
abbrev cX1_passesRightOf : ByteArray := prog_3_method_30_code
def yX1_passesRightOf : MethodName := ⟨RX1, "passesRightOf", "(III)Z"⟩
abbrev cX1_inSomeHole : ByteArray := prog_3_method_31_code
def yX1_inSomeHole : MethodName := ⟨RX1, "inSomeHole", "(II)Z"⟩
abbrev cX1_placeOf : ByteArray := prog_3_method_32_code
def yX1_placeOf : MethodName := ⟨RX1, "placeOf", "(II)I"⟩
abbrev cX1_squareOfSide : ByteArray := prog_3_method_33_code
def yX1_squareOfSide : MethodName := ⟨RX1, "squareOfSide", "(I)I"⟩
abbrev cX1_stepsOfSide : ByteArray := prog_3_method_34_code
def yX1_stepsOfSide : MethodName := ⟨RX1, "stepsOfSide", "(I)I"⟩
def RX2 : String := "SquaredPaper$Measure"
def TX2 : u_T := fun k => match k with
  | _ => ("", "", "", false)
def tyX2 : Nat → FieldType := fun k => match k with
  | _ => .int
abbrev wsX20 : List Cond := u_ws RX2 TX2 0
theorem nmX2 : ∀ a, a < 0 → ∀ b, b < 0 → a ≠ b → (TX2 a).2.1 ≠ (TX2 b).2.1 := by decide +kernel
theorem tyX2_ok : ∀ k, k < 0 → parseFieldDescriptor (TX2 k).2.2.1 = some (tyX2 k) := by decide +kernel
abbrev cX2_ringSum : ByteArray := prog_4_method_2_code
def yX2_ringSum : MethodName := ⟨RX2, "ringSum", "(LSquaredPaper$Figure;I)I"⟩
abbrev cX2_product : ByteArray := prog_4_method_3_code
def yX2_product : MethodName := ⟨RX2, "product", "(LSquaredPaper$Figure;II)I"⟩
abbrev cX2_ringArea : ByteArray := prog_4_method_4_code
def yX2_ringArea : MethodName := ⟨RX2, "ringArea", "(LSquaredPaper$Figure;I)I"⟩
abbrev cX2_area : ByteArray := prog_4_method_5_code
def yX2_area : MethodName := ⟨RX2, "area", "(LSquaredPaper$Figure;)I"⟩
abbrev cX2_ringBorder : ByteArray := prog_4_method_6_code
def yX2_ringBorder : MethodName := ⟨RX2, "ringBorder", "(LSquaredPaper$Figure;I)I"⟩
abbrev cX2_border : ByteArray := prog_4_method_7_code
def yX2_border : MethodName := ⟨RX2, "border", "(LSquaredPaper$Figure;)I"⟩
abbrev cX2_inside : ByteArray := prog_4_method_8_code
def yX2_inside : MethodName := ⟨RX2, "inside", "(LSquaredPaper$Figure;)I"⟩
abbrev cX2_kind : ByteArray := prog_4_method_9_code
def yX2_kind : MethodName := ⟨RX2, "kind", "(LSquaredPaper$Figure;II)I"⟩
abbrev cX2_outlineCorners : ByteArray := prog_4_method_10_code
def yX2_outlineCorners : MethodName := ⟨RX2, "outlineCorners", "(LSquaredPaper$Figure;I)I"⟩
abbrev cX2_hull : ByteArray := prog_4_method_13_code
def yX2_hull : MethodName := ⟨RX2, "hull", "(LSquaredPaper$Figure;)I"⟩
abbrev cX2_isHullSide : ByteArray := prog_4_method_14_code
def yX2_isHullSide : MethodName := ⟨RX2, "isHullSide", "(LSquaredPaper$Figure;II)Z"⟩
def RX3 : String := "SquaredPaper$Past"
def TX3 : u_T := fun k => match k with
  | 0 => ("SquaredPaper$Past", "states", "[LSquaredPaper$Figure;", true)
  | 1 => ("SquaredPaper$Past", "oldest", "I", false)
  | _ => ("SquaredPaper$Past", "count", "I", false)
def tyX3 : Nat → FieldType := fun k => match k with
  | 0 => .array (.object "SquaredPaper$Figure")
  | 1 => .int
  | _ => .int
abbrev wsX30 : List Cond := u_ws RX3 TX3 3
theorem nmX3 : ∀ a, a < 3 → ∀ b, b < 3 → a ≠ b → (TX3 a).2.1 ≠ (TX3 b).2.1 := by decide +kernel
theorem tyX3_ok : ∀ k, k < 3 → parseFieldDescriptor (TX3 k).2.2.1 = some (tyX3 k) := by decide +kernel
abbrev cX3_init : ByteArray := prog_5_method_1_code
def yX3_init : MethodName := ⟨RX3, "<init>", "()V"⟩
abbrev cX3_remember : ByteArray := prog_5_method_3_code
def yX3_remember : MethodName := ⟨RX3, "remember", "(LSquaredPaper$Figure;)V"⟩
def RX4 : String := "SquaredPaper$Rules"
def TX4 : u_T := fun k => match k with
  | _ => ("", "", "", false)
def tyX4 : Nat → FieldType := fun k => match k with
  | _ => .int
abbrev wsX40 : List Cond := u_ws RX4 TX4 0
theorem nmX4 : ∀ a, a < 0 → ∀ b, b < 0 → a ≠ b → (TX4 a).2.1 ≠ (TX4 b).2.1 := by decide +kernel
theorem tyX4_ok : ∀ k, k < 0 → parseFieldDescriptor (TX4 k).2.2.1 = some (tyX4 k) := by decide +kernel
abbrev cX4_firstBroken : ByteArray := prog_6_method_2_code
def yX4_firstBroken : MethodName := ⟨RX4, "firstBroken", "(LSquaredPaper$Figure;)I"⟩
abbrev cX4_leavesPaper : ByteArray := prog_6_method_3_code
def yX4_leavesPaper : MethodName := ⟨RX4, "leavesPaper", "(LSquaredPaper$Figure;)Z"⟩
abbrev cX4_hasEmptySide : ByteArray := prog_6_method_4_code
def yX4_hasEmptySide : MethodName := ⟨RX4, "hasEmptySide", "(LSquaredPaper$Figure;)Z"⟩
abbrev cX4_hasCrossing : ByteArray := prog_6_method_5_code
def yX4_hasCrossing : MethodName := ⟨RX4, "hasCrossing", "(LSquaredPaper$Figure;)Z"⟩
abbrev cX4_hasTouching : ByteArray := prog_6_method_6_code
def yX4_hasTouching : MethodName := ⟨RX4, "hasTouching", "(LSquaredPaper$Figure;)Z"⟩
abbrev cX4_hasLostHole : ByteArray := prog_6_method_7_code
def yX4_hasLostHole : MethodName := ⟨RX4, "hasLostHole", "(LSquaredPaper$Figure;)Z"⟩
def RX5 : String := "SquaredPaper$Script"
def TX5 : u_T := fun k => match k with
  | _ => ("", "", "", false)
def tyX5 : Nat → FieldType := fun k => match k with
  | _ => .int
abbrev wsX50 : List Cond := u_ws RX5 TX5 0
theorem nmX5 : ∀ a, a < 0 → ∀ b, b < 0 → a ≠ b → (TX5 a).2.1 ≠ (TX5 b).2.1 := by decide +kernel
theorem tyX5_ok : ∀ k, k < 0 → parseFieldDescriptor (TX5 k).2.2.1 = some (tyX5 k) := by decide +kernel
def RX6 : String := "SquaredPaper$Sight"
def TX6 : u_T := fun k => match k with
  | _ => ("", "", "", false)
def tyX6 : Nat → FieldType := fun k => match k with
  | _ => .int
abbrev wsX60 : List Cond := u_ws RX6 TX6 0
theorem nmX6 : ∀ a, a < 0 → ∀ b, b < 0 → a ≠ b → (TX6 a).2.1 ≠ (TX6 b).2.1 := by decide +kernel
theorem tyX6_ok : ∀ k, k < 0 → parseFieldDescriptor (TX6 k).2.2.1 = some (tyX6 k) := by decide +kernel
abbrev cX6_between : ByteArray := prog_8_method_2_code
def yX6_between : MethodName := ⟨RX6, "between", "(LSquaredPaper$Figure;II)Z"⟩
abbrev cX6_seenFrom : ByteArray := prog_8_method_3_code
def yX6_seenFrom : MethodName := ⟨RX6, "seenFrom", "(LSquaredPaper$Figure;I)I"⟩
abbrev cX6_pairs : ByteArray := prog_8_method_4_code
def yX6_pairs : MethodName := ⟨RX6, "pairs", "(LSquaredPaper$Figure;)I"⟩
abbrev cX6_isEar : ByteArray := prog_8_method_5_code
def yX6_isEar : MethodName := ⟨RX6, "isEar", "(LSquaredPaper$Figure;I)Z"⟩
abbrev cX6_ears : ByteArray := prog_8_method_6_code
def yX6_ears : MethodName := ⟨RX6, "ears", "(LSquaredPaper$Figure;)I"⟩
def RX7 : String := "SquaredPaper$Text"
def TX7 : u_T := fun k => match k with
  | 0 => ("SquaredPaper$Text", "signs", "[C", true)
  | _ => ("SquaredPaper$Text", "length", "I", false)
def tyX7 : Nat → FieldType := fun k => match k with
  | 0 => .array .char
  | _ => .int
abbrev wsX70 : List Cond := u_ws RX7 TX7 2
theorem nmX7 : ∀ a, a < 2 → ∀ b, b < 2 → a ≠ b → (TX7 a).2.1 ≠ (TX7 b).2.1 := by decide +kernel
theorem tyX7_ok : ∀ k, k < 2 → parseFieldDescriptor (TX7 k).2.2.1 = some (tyX7 k) := by decide +kernel
abbrev cX7_init : ByteArray := prog_9_method_1_code
def yX7_init : MethodName := ⟨RX7, "<init>", "()V"⟩
def RX8 : String := "SquaredPaper"
def TX8 : u_T := fun k => match k with
  | 0 => ("SquaredPaper", "figure", "LSquaredPaper$Figure;", true)
  | 1 => ("SquaredPaper", "draft", "LSquaredPaper$Figure;", true)
  | 2 => ("SquaredPaper", "past", "LSquaredPaper$Past;", true)
  | 3 => ("SquaredPaper", "slots", "[LSquaredPaper$Figure;", true)
  | 4 => ("SquaredPaper", "saved", "[Z", true)
  | 5 => ("SquaredPaper", "text", "LSquaredPaper$Text;", true)
  | _ => ("SquaredPaper", "ways", "[I", true)
def tyX8 : Nat → FieldType := fun k => match k with
  | 0 => .object "SquaredPaper$Figure"
  | 1 => .object "SquaredPaper$Figure"
  | 2 => .object "SquaredPaper$Past"
  | 3 => .array (.object "SquaredPaper$Figure")
  | 4 => .array .boolean
  | 5 => .object "SquaredPaper$Text"
  | _ => .array .int
abbrev wsX80 : List Cond := u_ws RX8 TX8 7
theorem nmX8 : ∀ a, a < 7 → ∀ b, b < 7 → a ≠ b → (TX8 a).2.1 ≠ (TX8 b).2.1 := by decide +kernel
theorem tyX8_ok : ∀ k, k < 7 → parseFieldDescriptor (TX8 k).2.2.1 = some (tyX8 k) := by decide +kernel
abbrev cX8_init : ByteArray := prog_1_method_1_code
def yX8_init : MethodName := ⟨RX8, "<init>", "()V"⟩
abbrev cX8_about : ByteArray := prog_1_method_6_code
def yX8_about : MethodName := ⟨RX8, "about", "(I)I"⟩
abbrev cX8_corner : ByteArray := prog_1_method_8_code
def yX8_corner : MethodName := ⟨RX8, "corner", "(III)I"⟩
abbrev cX8_point : ByteArray := prog_1_method_9_code
def yX8_point : MethodName := ⟨RX8, "point", "(II)I"⟩
abbrev cX8_sees : ByteArray := prog_1_method_10_code
def yX8_sees : MethodName := ⟨RX8, "sees", "(IIII)Z"⟩
abbrev cX8_move : ByteArray := prog_1_method_11_code
def yX8_move : MethodName := ⟨RX8, "move", "(IIII)I"⟩
abbrev cX8_insert : ByteArray := prog_1_method_12_code
def yX8_insert : MethodName := ⟨RX8, "insert", "(IIII)I"⟩
abbrev cX8_remove : ByteArray := prog_1_method_13_code
def yX8_remove : MethodName := ⟨RX8, "remove", "(II)I"⟩
abbrev cX8_addHole : ByteArray := prog_1_method_14_code
def yX8_addHole : MethodName := ⟨RX8, "addHole", "(II)I"⟩
abbrev cX8_whyNot : ByteArray := prog_1_method_20_code
def yX8_whyNot : MethodName := ⟨RX8, "whyNot", "(IIII)I"⟩
abbrev cX8_cut : ByteArray := prog_1_method_21_code
def yX8_cut : MethodName := ⟨RX8, "cut", "(I)I"⟩
abbrev cX8_inRow : ByteArray := prog_1_method_23_code
def yX8_inRow : MethodName := ⟨RX8, "inRow", "(IZ)I"⟩
abbrev cX8_keepDraft : ByteArray := prog_1_method_29_code
def yX8_keepDraft : MethodName := ⟨RX8, "keepDraft", "()V"⟩
abbrev cX8_checkCorner : ByteArray := prog_1_method_31_code
def yX8_checkCorner : MethodName := ⟨RX8, "checkCorner", "(II)V"⟩
abbrev cX8_inRange : ByteArray := prog_1_method_33_code
def yX8_inRange : MethodName := ⟨RX8, "inRange", "(III)Z"⟩
def RX9 : String := "SquaredPaperModel"
def TX9 : u_T := fun k => match k with
  | _ => ("", "", "", false)
def tyX9 : Nat → FieldType := fun k => match k with
  | _ => .int
abbrev wsX90 : List Cond := u_ws RX9 TX9 0
theorem nmX9 : ∀ a, a < 0 → ∀ b, b < 0 → a ≠ b → (TX9 a).2.1 ≠ (TX9 b).2.1 := by decide +kernel
theorem tyX9_ok : ∀ k, k < 0 → parseFieldDescriptor (TX9 k).2.2.1 = some (tyX9 k) := by decide +kernel
def RJ9 : String := "java/lang/Math"
def RJ0 : String := "java/lang/String"
def RJ10 : String := "java/lang/System"
def RL : String := "SquaredPaperLaw"
abbrev cL_cell : ByteArray := method_2_code
def yL_cell : MethodName := ⟨RL, "cell", "([II)I"⟩
abbrev cL_low : ByteArray := method_3_code
def yL_low : MethodName := ⟨RL, "low", "(II)I"⟩
abbrev cL_move : ByteArray := method_4_code
def yL_move : MethodName := ⟨RL, "move", "(LSquaredPaper;IIII)I"⟩
abbrev cL_insert : ByteArray := method_5_code
def yL_insert : MethodName := ⟨RL, "insert", "(LSquaredPaper;IIII)I"⟩
abbrev cL_remove : ByteArray := method_6_code
def yL_remove : MethodName := ⟨RL, "remove", "(LSquaredPaper;II)I"⟩
abbrev cL_addHole : ByteArray := method_7_code
def yL_addHole : MethodName := ⟨RL, "addHole", "(LSquaredPaper;II)I"⟩
abbrev cL_next : ByteArray := method_8_code
def yL_next : MethodName := ⟨RL, "next", "(I[I)I"⟩
abbrev cL_before : ByteArray := method_9_code
def yL_before : MethodName := ⟨RL, "before", "(I[I)I"⟩
abbrev cL_there : ByteArray := method_10_code
def yL_there : MethodName := ⟨RL, "there", "(I[I)Z"⟩
abbrev cL_cross : ByteArray := method_11_code
def yL_cross : MethodName := ⟨RL, "cross", "(IIII)I"⟩
abbrev cL_common : ByteArray := method_12_code
def yL_common : MethodName := ⟨RL, "common", "(IIIIIIII)I"⟩
abbrev cL_sides : ByteArray := method_13_code
def yL_sides : MethodName := ⟨RL, "sides", "(II[I[I[I)I"⟩
abbrev cL_around : ByteArray := method_14_code
def yL_around : MethodName := ⟨RL, "around", "(III[I[I[I)I"⟩
abbrev cL_broken : ByteArray := method_15_code
def yL_broken : MethodName := ⟨RL, "broken", "([I[I[I)I"⟩
abbrev cL_sum : ByteArray := method_16_code
def yL_sum : MethodName := ⟨RL, "sum", "(I[I[I[I)I"⟩
abbrev cL_area : ByteArray := method_17_code
def yL_area : MethodName := ⟨RL, "area", "([I[I[I)I"⟩
abbrev cL_where : ByteArray := method_18_code
def yL_where : MethodName := ⟨RL, "where", "(II[I[I[I)I"⟩
abbrev cL_sees : ByteArray := method_19_code
def yL_sees : MethodName := ⟨RL, "sees", "(II[I[I[I)Z"⟩
abbrev cL_bend : ByteArray := method_20_code
def yL_bend : MethodName := ⟨RL, "bend", "(I[I[I[I)I"⟩
abbrev cL_kind : ByteArray := method_21_code
def yL_kind : MethodName := ⟨RL, "kind", "(I[I[I[I)I"⟩
abbrev cL_hull : ByteArray := method_22_code
def yL_hull : MethodName := ⟨RL, "hull", "([I[I[I)I"⟩
abbrev cL_same : ByteArray := method_23_code
def yL_same : MethodName := ⟨RL, "same", "(LSquaredPaper;I[I[I[I)Z"⟩
abbrev cL_copy : ByteArray := method_24_code
def yL_copy : MethodName := ⟨RL, "copy", "([I[I[I[I[I[I)V"⟩
abbrev cL_law : ByteArray := code
def yL_law : MethodName := ⟨RL, "law", "([I)Z"⟩
abbrev vwCl : List vw_C := [(RX1, TX1, 6), (RX3, TX3, 3), (RX7, TX7, 2), (RX8, TX8, 7)]
