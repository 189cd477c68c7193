/-! names, fields, methods: rows printed with the task (its word lists left out) -/
def RX0 : String := "ForestPacks$Acts"
def TX0 : u_T := fun k => match k with
  | 0 => ("ForestPacks$Acts", "net", "LForestPacks$Net;", true)
  | 1 => ("ForestPacks$Acts", "kept", "[LForestPacks$Net;", true)
  | 2 => ("ForestPacks$Acts", "next", "I", false)
  | _ => ("ForestPacks$Acts", "count", "I", false)
def tyX0 : Nat → FieldType := fun k => match k with
  | 0 => .object "ForestPacks$Net"
  | 1 => .array (.object "ForestPacks$Net")
  | 2 => .int
  | _ => .int
abbrev wsX00 : List Cond := u_ws RX0 TX0 4
theorem nmX0 : ∀ a, a < 4 → ∀ b, b < 4 → a ≠ b → (TX0 a).2.1 ≠ (TX0 b).2.1 := by decide +kernel
theorem tyX0_ok : ∀ k, k < 4 → parseFieldDescriptor (TX0 k).2.2.1 = some (tyX0 k) := by decide +kernel
abbrev cX0_init : ByteArray := prog_2_method_1_code
def yX0_init : MethodName := ⟨RX0, "<init>", "(LForestPacks$Net;)V"⟩
abbrev cX0_before : ByteArray := prog_2_method_2_code
def yX0_before : MethodName := ⟨RX0, "before", "()V"⟩
abbrev cX0_done : ByteArray := prog_2_method_3_code
def yX0_done : MethodName := ⟨RX0, "done", "()V"⟩
abbrev cX0_forget : ByteArray := prog_2_method_5_code
def yX0_forget : MethodName := ⟨RX0, "forget", "()V"⟩
abbrev cX0_count : ByteArray := prog_2_method_6_code
def yX0_count : MethodName := ⟨RX0, "count", "()I"⟩
def RX1 : String := "ForestPacks$Chains"
def TX1 : u_T := fun k => match k with
  | 0 => ("ForestPacks$Chains", "net", "LForestPacks$Net;", true)
  | 1 => ("ForestPacks$Chains", "wayTo", "[I", true)
  | 2 => ("ForestPacks$Chains", "queue", "[I", true)
  | 3 => ("ForestPacks$Chains", "ledBy", "[I", true)
  | 4 => ("ForestPacks$Chains", "step", "[I", true)
  | 5 => ("ForestPacks$Chains", "into", "[I", true)
  | 6 => ("ForestPacks$Chains", "length", "I", false)
  | 7 => ("ForestPacks$Chains", "seen", "I", false)
  | 8 => ("ForestPacks$Chains", "toldStep", "[I", true)
  | 9 => ("ForestPacks$Chains", "toldInto", "[I", true)
  | 10 => ("ForestPacks$Chains", "toldLength", "I", false)
  | _ => ("ForestPacks$Chains", "toldCrowd", "I", false)
def tyX1 : Nat → FieldType := fun k => match k with
  | 0 => .object "ForestPacks$Net"
  | 1 => .array .int
  | 2 => .array .int
  | 3 => .array .int
  | 4 => .array .int
  | 5 => .array .int
  | 6 => .int
  | 7 => .int
  | 8 => .array .int
  | 9 => .array .int
  | 10 => .int
  | _ => .int
abbrev wsX10 : List Cond := u_ws RX1 TX1 12
theorem nmX1 : ∀ a, a < 12 → ∀ b, b < 12 → a ≠ b → (TX1 a).2.1 ≠ (TX1 b).2.1 := by decide +kernel
theorem tyX1_ok : ∀ k, k < 12 → parseFieldDescriptor (TX1 k).2.2.1 = some (tyX1 k) := by decide +kernel
abbrev cX1_init : ByteArray := prog_3_method_1_code
def yX1_init : MethodName := ⟨RX1, "<init>", "(LForestPacks$Net;)V"⟩
abbrev cX1_ringOf : ByteArray := prog_3_method_2_code
def yX1_ringOf : MethodName := ⟨RX1, "ringOf", "(II)I"⟩
abbrev cX1_goAlong : ByteArray := prog_3_method_3_code
def yX1_goAlong : MethodName := ⟨RX1, "goAlong", "(II)I"⟩
abbrev cX1_find : ByteArray := prog_3_method_4_code
def yX1_find : MethodName := ⟨RX1, "find", "(I)I"⟩
abbrev cX1_freeForest : ByteArray := prog_3_method_5_code
def yX1_freeForest : MethodName := ⟨RX1, "freeForest", "(I)I"⟩
abbrev cX1_allRings : ByteArray := prog_3_method_6_code
def yX1_allRings : MethodName := ⟨RX1, "allRings", "(I)I"⟩
abbrev cX1_writeDown : ByteArray := prog_3_method_7_code
def yX1_writeDown : MethodName := ⟨RX1, "writeDown", "(II)V"⟩
abbrev cX1_carryOut : ByteArray := prog_3_method_8_code
def yX1_carryOut : MethodName := ⟨RX1, "carryOut", "()V"⟩
abbrev cX1_remember : ByteArray := prog_3_method_9_code
def yX1_remember : MethodName := ⟨RX1, "remember", "()V"⟩
abbrev cX1_toldAt : ByteArray := prog_3_method_10_code
def yX1_toldAt : MethodName := ⟨RX1, "toldAt", "(II)I"⟩
abbrev cX1_toldCrowd : ByteArray := prog_3_method_11_code
def yX1_toldCrowd : MethodName := ⟨RX1, "toldCrowd", "()I"⟩
def RX2 : String := "ForestPacks$Easing"
def TX2 : u_T := fun k => match k with
  | 0 => ("ForestPacks$Easing", "net", "LForestPacks$Net;", true)
  | 1 => ("ForestPacks$Easing", "queue", "[I", true)
  | _ => ("ForestPacks$Easing", "wayTo", "[I", true)
def tyX2 : Nat → FieldType := fun k => match k with
  | 0 => .object "ForestPacks$Net"
  | 1 => .array .int
  | _ => .array .int
abbrev wsX20 : List Cond := u_ws RX2 TX2 3
theorem nmX2 : ∀ a, a < 3 → ∀ b, b < 3 → a ≠ b → (TX2 a).2.1 ≠ (TX2 b).2.1 := by decide +kernel
theorem tyX2_ok : ∀ k, k < 3 → parseFieldDescriptor (TX2 k).2.2.1 = some (tyX2 k) := by decide +kernel
abbrev cX2_init : ByteArray := prog_4_method_1_code
def yX2_init : MethodName := ⟨RX2, "<init>", "(LForestPacks$Net;)V"⟩
def RX3 : String := "ForestPacks$Game"
def TX3 : u_T := fun k => match k with
  | 0 => ("ForestPacks$Game", "net", "LForestPacks$Net;", true)
  | 1 => ("ForestPacks$Game", "tape", "LForestPacks$Tape;", true)
  | 2 => ("ForestPacks$Game", "forest", "[I", true)
  | 3 => ("ForestPacks$Game", "told", "[I", true)
  | 4 => ("ForestPacks$Game", "toldCount", "I", false)
  | 5 => ("ForestPacks$Game", "cut", "I", false)
  | _ => ("ForestPacks$Game", "kept", "I", false)
def tyX3 : Nat → FieldType := fun k => match k with
  | 0 => .object "ForestPacks$Net"
  | 1 => .object "ForestPacks$Tape"
  | 2 => .array .int
  | 3 => .array .int
  | 4 => .int
  | 5 => .int
  | _ => .int
abbrev wsX30 : List Cond := u_ws RX3 TX3 7
theorem nmX3 : ∀ a, a < 7 → ∀ b, b < 7 → a ≠ b → (TX3 a).2.1 ≠ (TX3 b).2.1 := by decide +kernel
theorem tyX3_ok : ∀ k, k < 7 → parseFieldDescriptor (TX3 k).2.2.1 = some (tyX3 k) := by decide +kernel
abbrev cX3_init : ByteArray := prog_5_method_1_code
def yX3_init : MethodName := ⟨RX3, "<init>", "(LForestPacks$Net;LForestPacks$Tape;)V"⟩
def RX4 : String := "ForestPacks$Layers"
def TX4 : u_T := fun k => match k with
  | 0 => ("ForestPacks$Layers", "net", "LForestPacks$Net;", true)
  | 1 => ("ForestPacks$Layers", "sets", "LForestPacks$PointSets;", true)
  | 2 => ("ForestPacks$Layers", "as", "[I", true)
  | 3 => ("ForestPacks$Layers", "above", "[I", true)
  | 4 => ("ForestPacks$Layers", "below", "[I", true)
  | _ => ("ForestPacks$Layers", "melted", "[I", true)
def tyX4 : Nat → FieldType := fun k => match k with
  | 0 => .object "ForestPacks$Net"
  | 1 => .object "ForestPacks$PointSets"
  | 2 => .array .int
  | 3 => .array .int
  | 4 => .array .int
  | _ => .array .int
abbrev wsX40 : List Cond := u_ws RX4 TX4 6
theorem nmX4 : ∀ a, a < 6 → ∀ b, b < 6 → a ≠ b → (TX4 a).2.1 ≠ (TX4 b).2.1 := by decide +kernel
theorem tyX4_ok : ∀ k, k < 6 → parseFieldDescriptor (TX4 k).2.2.1 = some (tyX4 k) := by decide +kernel
abbrev cX4_init : ByteArray := prog_6_method_1_code
def yX4_init : MethodName := ⟨RX4, "<init>", "(LForestPacks$Net;LForestPacks$PointSets;)V"⟩
def RX5 : String := "ForestPacks$Net"
def TX5 : u_T := fun k => match k with
  | 0 => ("ForestPacks$Net", "first", "[I", true)
  | 1 => ("ForestPacks$Net", "second", "[I", true)
  | 2 => ("ForestPacks$Net", "weight", "[I", true)
  | 3 => ("ForestPacks$Net", "home", "[I", true)
  | 4 => ("ForestPacks$Net", "points", "I", false)
  | 5 => ("ForestPacks$Net", "lines", "I", false)
  | 6 => ("ForestPacks$Net", "k", "I", false)
  | 7 => ("ForestPacks$Net", "broken", "I", false)
  | _ => ("ForestPacks$Net", "turned", "I", false)
def tyX5 : Nat → FieldType := fun k => match k with
  | 0 => .array .int
  | 1 => .array .int
  | 2 => .array .int
  | 3 => .array .int
  | 4 => .int
  | 5 => .int
  | 6 => .int
  | 7 => .int
  | _ => .int
abbrev wsX50 : List Cond := u_ws RX5 TX5 9
theorem nmX5 : ∀ a, a < 9 → ∀ b, b < 9 → a ≠ b → (TX5 a).2.1 ≠ (TX5 b).2.1 := by decide +kernel
theorem tyX5_ok : ∀ k, k < 9 → parseFieldDescriptor (TX5 k).2.2.1 = some (tyX5 k) := by decide +kernel
abbrev cX5_init : ByteArray := prog_7_method_1_code
def yX5_init : MethodName := ⟨RX5, "<init>", "()V"⟩
abbrev cX5_become : ByteArray := prog_7_method_2_code
def yX5_become : MethodName := ⟨RX5, "become", "(LForestPacks$Net;)V"⟩
abbrev cX5_clear : ByteArray := prog_7_method_3_code
def yX5_clear : MethodName := ⟨RX5, "clear", "()V"⟩
abbrev cX5_addLine : ByteArray := prog_7_method_4_code
def yX5_addLine : MethodName := ⟨RX5, "addLine", "(III)V"⟩
abbrev cX5_hasLine : ByteArray := prog_7_method_5_code
def yX5_hasLine : MethodName := ⟨RX5, "hasLine", "(I)Z"⟩
abbrev cX5_hasForest : ByteArray := prog_7_method_6_code
def yX5_hasForest : MethodName := ⟨RX5, "hasForest", "(I)Z"⟩
abbrev cX5_isSound : ByteArray := prog_7_method_7_code
def yX5_isSound : MethodName := ⟨RX5, "isSound", "(I)Z"⟩
abbrev cX5_soundSet : ByteArray := prog_7_method_8_code
def yX5_soundSet : MethodName := ⟨RX5, "soundSet", "()I"⟩
abbrev cX5_allPoints : ByteArray := prog_7_method_9_code
def yX5_allPoints : MethodName := ⟨RX5, "allPoints", "()I"⟩
abbrev cX5_ends : ByteArray := prog_7_method_10_code
def yX5_ends : MethodName := ⟨RX5, "ends", "(I)I"⟩
abbrev cX5_breakLine : ByteArray := prog_7_method_14_code
def yX5_breakLine : MethodName := ⟨RX5, "breakLine", "(I)V"⟩
abbrev cX5_mendLine : ByteArray := prog_7_method_15_code
def yX5_mendLine : MethodName := ⟨RX5, "mendLine", "(I)V"⟩
abbrev cX5_forestSet : ByteArray := prog_7_method_16_code
def yX5_forestSet : MethodName := ⟨RX5, "forestSet", "(I)I"⟩
abbrev cX5_packed : ByteArray := prog_7_method_17_code
def yX5_packed : MethodName := ⟨RX5, "packed", "()I"⟩
abbrev cX5_reach : ByteArray := prog_7_method_20_code
def yX5_reach : MethodName := ⟨RX5, "reach", "(II)I"⟩
abbrev cX5_pieces : ByteArray := prog_7_method_21_code
def yX5_pieces : MethodName := ⟨RX5, "pieces", "(I)I"⟩
def RX6 : String := "ForestPacks$OutTrees"
def TX6 : u_T := fun k => match k with
  | 0 => ("ForestPacks$OutTrees", "net", "LForestPacks$Net;", true)
  | _ => ("ForestPacks$OutTrees", "entering", "[I", true)
def tyX6 : Nat → FieldType := fun k => match k with
  | 0 => .object "ForestPacks$Net"
  | _ => .array .int
abbrev wsX60 : List Cond := u_ws RX6 TX6 2
theorem nmX6 : ∀ a, a < 2 → ∀ b, b < 2 → a ≠ b → (TX6 a).2.1 ≠ (TX6 b).2.1 := by decide +kernel
theorem tyX6_ok : ∀ k, k < 2 → parseFieldDescriptor (TX6 k).2.2.1 = some (tyX6 k) := by decide +kernel
abbrev cX6_init : ByteArray := prog_8_method_1_code
def yX6_init : MethodName := ⟨RX6, "<init>", "(LForestPacks$Net;)V"⟩
def RX7 : String := "ForestPacks$Partings"
def TX7 : u_T := fun k => match k with
  | 0 => ("ForestPacks$Partings", "net", "LForestPacks$Net;", true)
  | 1 => ("ForestPacks$Partings", "sets", "LForestPacks$PointSets;", true)
  | 2 => ("ForestPacks$Partings", "inside", "[I", false)
  | 3 => ("ForestPacks$Partings", "insideNext", "[I", false)
  | 4 => ("ForestPacks$Partings", "above", "I", false)
  | _ => ("ForestPacks$Partings", "pieces", "I", false)
def tyX7 : Nat → FieldType := fun k => match k with
  | 0 => .object "ForestPacks$Net"
  | 1 => .object "ForestPacks$PointSets"
  | 2 => .array .int
  | 3 => .array .int
  | 4 => .int
  | _ => .int
abbrev wsX70 : List Cond := u_ws RX7 TX7 6
theorem nmX7 : ∀ a, a < 6 → ∀ b, b < 6 → a ≠ b → (TX7 a).2.1 ≠ (TX7 b).2.1 := by decide +kernel
theorem tyX7_ok : ∀ k, k < 6 → parseFieldDescriptor (TX7 k).2.2.1 = some (tyX7 k) := by decide +kernel
abbrev cX7_init : ByteArray := prog_9_method_1_code
def yX7_init : MethodName := ⟨RX7, "<init>", "(LForestPacks$Net;LForestPacks$PointSets;)V"⟩
abbrev cX7_above : ByteArray := prog_9_method_2_code
def yX7_above : MethodName := ⟨RX7, "above", "()I"⟩
abbrev cX7_pieces : ByteArray := prog_9_method_3_code
def yX7_pieces : MethodName := ⟨RX7, "pieces", "()I"⟩
abbrev cX7_findWeakest : ByteArray := prog_9_method_4_code
def yX7_findWeakest : MethodName := ⟨RX7, "findWeakest", "()V"⟩
abbrev cX7_addPiece : ByteArray := prog_9_method_5_code
def yX7_addPiece : MethodName := ⟨RX7, "addPiece", "(I)V"⟩
abbrev cX7_mostInside : ByteArray := prog_9_method_6_code
def yX7_mostInside : MethodName := ⟨RX7, "mostInside", "(I)I"⟩
def RX8 : String := "ForestPacks$PointSets"
def TX8 : u_T := fun k => match k with
  | 0 => ("ForestPacks$PointSets", "net", "LForestPacks$Net;", true)
  | 1 => ("ForestPacks$PointSets", "inner", "[I", true)
  | 2 => ("ForestPacks$PointSets", "taken", "[I", true)
  | 3 => ("ForestPacks$PointSets", "itself", "[I", true)
  | 4 => ("ForestPacks$PointSets", "bestSet", "I", false)
  | 5 => ("ForestPacks$PointSets", "bestAbove", "I", false)
  | _ => ("ForestPacks$PointSets", "bestBelow", "I", false)
def tyX8 : Nat → FieldType := fun k => match k with
  | 0 => .object "ForestPacks$Net"
  | 1 => .array .int
  | 2 => .array .int
  | 3 => .array .int
  | 4 => .int
  | 5 => .int
  | _ => .int
abbrev wsX80 : List Cond := u_ws RX8 TX8 7
theorem nmX8 : ∀ a, a < 7 → ∀ b, b < 7 → a ≠ b → (TX8 a).2.1 ≠ (TX8 b).2.1 := by decide +kernel
theorem tyX8_ok : ∀ k, k < 7 → parseFieldDescriptor (TX8 k).2.2.1 = some (tyX8 k) := by decide +kernel
abbrev cX8_init : ByteArray := prog_10_method_1_code
def yX8_init : MethodName := ⟨RX8, "<init>", "(LForestPacks$Net;)V"⟩
abbrev cX8_bestSet : ByteArray := prog_10_method_2_code
def yX8_bestSet : MethodName := ⟨RX8, "bestSet", "()I"⟩
abbrev cX8_bestAbove : ByteArray := prog_10_method_3_code
def yX8_bestAbove : MethodName := ⟨RX8, "bestAbove", "()I"⟩
abbrev cX8_bestBelow : ByteArray := prog_10_method_4_code
def yX8_bestBelow : MethodName := ⟨RX8, "bestBelow", "()I"⟩
abbrev cX8_innerOf : ByteArray := prog_10_method_5_code
def yX8_innerOf : MethodName := ⟨RX8, "innerOf", "(I)I"⟩
abbrev cX8_countInner : ByteArray := prog_10_method_6_code
def yX8_countInner : MethodName := ⟨RX8, "countInner", "()V"⟩
abbrev cX8_countInner_ : ByteArray := prog_10_method_7_code
def yX8_countInner_ : MethodName := ⟨RX8, "countInner", "([I)V"⟩
abbrev cX8_findThick : ByteArray := prog_10_method_8_code
def yX8_findThick : MethodName := ⟨RX8, "findThick", "()V"⟩
abbrev cX8_findThick_ : ByteArray := prog_10_method_9_code
def yX8_findThick_ : MethodName := ⟨RX8, "findThick", "([II)V"⟩
abbrev cX8_findCrowded : ByteArray := prog_10_method_10_code
def yX8_findCrowded : MethodName := ⟨RX8, "findCrowded", "(I)I"⟩
abbrev cX8_fewestForests : ByteArray := prog_10_method_11_code
def yX8_fewestForests : MethodName := ⟨RX8, "fewestForests", "()I"⟩
abbrev cX8_greatestShare : ByteArray := prog_10_method_13_code
def yX8_greatestShare : MethodName := ⟨RX8, "greatestShare", "(I)I"⟩
abbrev cX8_mostTrees : ByteArray := prog_10_method_14_code
def yX8_mostTrees : MethodName := ⟨RX8, "mostTrees", "()I"⟩
abbrev cX8_takeNone : ByteArray := prog_10_method_15_code
def yX8_takeNone : MethodName := ⟨RX8, "takeNone", "()V"⟩
abbrev cX8_take : ByteArray := prog_10_method_16_code
def yX8_take : MethodName := ⟨RX8, "take", "(II)Z"⟩
abbrev cX8_isFull : ByteArray := prog_10_method_17_code
def yX8_isFull : MethodName := ⟨RX8, "isFull", "(II)Z"⟩
abbrev cX8_takeByNumber : ByteArray := prog_10_method_18_code
def yX8_takeByNumber : MethodName := ⟨RX8, "takeByNumber", "(I)I"⟩
def RX9 : String := "ForestPacks$Reader"
def TX9 : u_T := fun k => match k with
  | 0 => ("ForestPacks$Reader", "tape", "LForestPacks$Tape;", true)
  | 1 => ("ForestPacks$Reader", "fresh", "LForestPacks$Net;", true)
  | 2 => ("ForestPacks$Reader", "names", "[J", true)
  | 3 => ("ForestPacks$Reader", "pointWord", "J", true)
  | 4 => ("ForestPacks$Reader", "lineWord", "J", true)
  | 5 => ("ForestPacks$Reader", "forestsWord", "J", true)
  | 6 => ("ForestPacks$Reader", "forestsTold", "Z", false)
  | 7 => ("ForestPacks$Reader", "at", "I", false)
  | 8 => ("ForestPacks$Reader", "kind", "I", false)
  | 9 => ("ForestPacks$Reader", "start", "I", false)
  | 10 => ("ForestPacks$Reader", "value", "J", false)
  | 11 => ("ForestPacks$Reader", "fault", "I", false)
  | _ => ("ForestPacks$Reader", "faultPlace", "I", false)
def tyX9 : Nat → FieldType := fun k => match k with
  | 0 => .object "ForestPacks$Tape"
  | 1 => .object "ForestPacks$Net"
  | 2 => .array .long
  | 3 => .long
  | 4 => .long
  | 5 => .long
  | 6 => .boolean
  | 7 => .int
  | 8 => .int
  | 9 => .int
  | 10 => .long
  | 11 => .int
  | _ => .int
abbrev wsX90 : List Cond := u_ws RX9 TX9 13
theorem nmX9 : ∀ a, a < 13 → ∀ b, b < 13 → a ≠ b → (TX9 a).2.1 ≠ (TX9 b).2.1 := by decide +kernel
theorem tyX9_ok : ∀ k, k < 13 → parseFieldDescriptor (TX9 k).2.2.1 = some (tyX9 k) := by decide +kernel
abbrev cX9_init : ByteArray := prog_11_method_1_code
def yX9_init : MethodName := ⟨RX9, "<init>", "(LForestPacks$Tape;)V"⟩
abbrev cX9_told : ByteArray := prog_11_method_2_code
def yX9_told : MethodName := ⟨RX9, "told", "()LForestPacks$Net;"⟩
abbrev cX9_faultKind : ByteArray := prog_11_method_3_code
def yX9_faultKind : MethodName := ⟨RX9, "faultKind", "()I"⟩
abbrev cX9_read : ByteArray := prog_11_method_4_code
def yX9_read : MethodName := ⟨RX9, "read", "()I"⟩
abbrev cX9_readRow : ByteArray := prog_11_method_5_code
def yX9_readRow : MethodName := ⟨RX9, "readRow", "()Z"⟩
abbrev cX9_readPoint : ByteArray := prog_11_method_6_code
def yX9_readPoint : MethodName := ⟨RX9, "readPoint", "()Z"⟩
abbrev cX9_readLine : ByteArray := prog_11_method_7_code
def yX9_readLine : MethodName := ⟨RX9, "readLine", "()Z"⟩
abbrev cX9_readForests : ByteArray := prog_11_method_8_code
def yX9_readForests : MethodName := ⟨RX9, "readForests", "()Z"⟩
abbrev cX9_readEnd : ByteArray := prog_11_method_9_code
def yX9_readEnd : MethodName := ⟨RX9, "readEnd", "(I)I"⟩
abbrev cX9_isName : ByteArray := prog_11_method_10_code
def yX9_isName : MethodName := ⟨RX9, "isName", "()Z"⟩
abbrev cX9_readNumber : ByteArray := prog_11_method_11_code
def yX9_readNumber : MethodName := ⟨RX9, "readNumber", "(I)Z"⟩
abbrev cX9_readSign : ByteArray := prog_11_method_12_code
def yX9_readSign : MethodName := ⟨RX9, "readSign", "()Z"⟩
abbrev cX9_fail : ByteArray := prog_11_method_13_code
def yX9_fail : MethodName := ⟨RX9, "fail", "(I)Z"⟩
abbrev cX9_pointOf : ByteArray := prog_11_method_14_code
def yX9_pointOf : MethodName := ⟨RX9, "pointOf", "(J)I"⟩
abbrev cX9_nextToken : ByteArray := prog_11_method_15_code
def yX9_nextToken : MethodName := ⟨RX9, "nextToken", "()V"⟩
abbrev cX9_readRun : ByteArray := prog_11_method_16_code
def yX9_readRun : MethodName := ⟨RX9, "readRun", "()V"⟩
abbrev cX9_isBlank : ByteArray := prog_11_method_17_code
def yX9_isBlank : MethodName := ⟨RX9, "isBlank", "(I)Z"⟩
abbrev cX9_isLetter : ByteArray := prog_11_method_18_code
def yX9_isLetter : MethodName := ⟨RX9, "isLetter", "(I)Z"⟩
abbrev cX9_isDigit : ByteArray := prog_11_method_19_code
def yX9_isDigit : MethodName := ⟨RX9, "isDigit", "(I)Z"⟩
abbrev cX9_letterCode : ByteArray := prog_11_method_20_code
def yX9_letterCode : MethodName := ⟨RX9, "letterCode", "(I)I"⟩
abbrev cX9_codeOf : ByteArray := prog_11_method_21_code
def yX9_codeOf : MethodName := ⟨RX9, "codeOf", "(Ljava/lang/String;)J"⟩
def RX10 : String := "ForestPacks$Tape"
def TX10 : u_T := fun k => match k with
  | 0 => ("ForestPacks$Tape", "bytes", "[I", true)
  | _ => ("ForestPacks$Tape", "used", "I", false)
def tyX10 : Nat → FieldType := fun k => match k with
  | 0 => .array .int
  | _ => .int
abbrev wsX100 : List Cond := u_ws RX10 TX10 2
theorem nmX10 : ∀ a, a < 2 → ∀ b, b < 2 → a ≠ b → (TX10 a).2.1 ≠ (TX10 b).2.1 := by decide +kernel
theorem tyX10_ok : ∀ k, k < 2 → parseFieldDescriptor (TX10 k).2.2.1 = some (tyX10 k) := by decide +kernel
abbrev cX10_init : ByteArray := prog_12_method_1_code
def yX10_init : MethodName := ⟨RX10, "<init>", "()V"⟩
abbrev cX10_hasRoom : ByteArray := prog_12_method_2_code
def yX10_hasRoom : MethodName := ⟨RX10, "hasRoom", "()Z"⟩
abbrev cX10_add : ByteArray := prog_12_method_3_code
def yX10_add : MethodName := ⟨RX10, "add", "(I)V"⟩
abbrev cX10_cut : ByteArray := prog_12_method_4_code
def yX10_cut : MethodName := ⟨RX10, "cut", "(I)V"⟩
abbrev cX10_size : ByteArray := prog_12_method_5_code
def yX10_size : MethodName := ⟨RX10, "size", "()I"⟩
abbrev cX10_byteAt : ByteArray := prog_12_method_6_code
def yX10_byteAt : MethodName := ⟨RX10, "byteAt", "(I)I"⟩
def RX11 : String := "ForestPacks"
def TX11 : u_T := fun k => match k with
  | 0 => ("ForestPacks", "current", "LForestPacks$Net;", true)
  | 1 => ("ForestPacks", "tape", "LForestPacks$Tape;", true)
  | 2 => ("ForestPacks", "reader", "LForestPacks$Reader;", true)
  | 3 => ("ForestPacks", "acts", "LForestPacks$Acts;", true)
  | 4 => ("ForestPacks", "chains", "LForestPacks$Chains;", true)
  | 5 => ("ForestPacks", "sets", "LForestPacks$PointSets;", true)
  | 6 => ("ForestPacks", "melting", "LForestPacks$Layers;", true)
  | 7 => ("ForestPacks", "partings", "LForestPacks$Partings;", true)
  | 8 => ("ForestPacks", "outTrees", "LForestPacks$OutTrees;", true)
  | 9 => ("ForestPacks", "easing", "LForestPacks$Easing;", true)
  | 10 => ("ForestPacks", "play", "LForestPacks$Game;", true)
  | 11 => ("ForestPacks", "images", "[LForestPacks$Net;", true)
  | _ => ("ForestPacks", "seed", "I", false)
def tyX11 : Nat → FieldType := fun k => match k with
  | 0 => .object "ForestPacks$Net"
  | 1 => .object "ForestPacks$Tape"
  | 2 => .object "ForestPacks$Reader"
  | 3 => .object "ForestPacks$Acts"
  | 4 => .object "ForestPacks$Chains"
  | 5 => .object "ForestPacks$PointSets"
  | 6 => .object "ForestPacks$Layers"
  | 7 => .object "ForestPacks$Partings"
  | 8 => .object "ForestPacks$OutTrees"
  | 9 => .object "ForestPacks$Easing"
  | 10 => .object "ForestPacks$Game"
  | 11 => .array (.object "ForestPacks$Net")
  | _ => .int
abbrev wsX110 : List Cond := u_ws RX11 TX11 13
theorem nmX11 : ∀ a, a < 13 → ∀ b, b < 13 → a ≠ b → (TX11 a).2.1 ≠ (TX11 b).2.1 := by decide +kernel
theorem tyX11_ok : ∀ k, k < 13 → parseFieldDescriptor (TX11 k).2.2.1 = some (tyX11 k) := by decide +kernel
abbrev cX11_init : ByteArray := prog_1_method_1_code
def yX11_init : MethodName := ⟨RX11, "<init>", "()V"⟩
abbrev cX11_feed : ByteArray := prog_1_method_2_code
def yX11_feed : MethodName := ⟨RX11, "feed", "(IIIII)I"⟩
abbrev cX11_end : ByteArray := prog_1_method_3_code
def yX11_end : MethodName := ⟨RX11, "end", "(I)Z"⟩
abbrev cX11_net : ByteArray := prog_1_method_4_code
def yX11_net : MethodName := ⟨RX11, "net", "()I"⟩
abbrev cX11_fault : ByteArray := prog_1_method_5_code
def yX11_fault : MethodName := ⟨RX11, "fault", "()I"⟩
abbrev cX11_line : ByteArray := prog_1_method_7_code
def yX11_line : MethodName := ⟨RX11, "line", "(II)I"⟩
abbrev cX11_ring : ByteArray := prog_1_method_8_code
def yX11_ring : MethodName := ⟨RX11, "ring", "(II)I"⟩
abbrev cX11_forest : ByteArray := prog_1_method_9_code
def yX11_forest : MethodName := ⟨RX11, "forest", "(I)I"⟩
abbrev cX11_now : ByteArray := prog_1_method_10_code
def yX11_now : MethodName := ⟨RX11, "now", "(I)I"⟩
abbrev cX11_put : ByteArray := prog_1_method_11_code
def yX11_put : MethodName := ⟨RX11, "put", "(II)I"⟩
abbrev cX11_lift : ByteArray := prog_1_method_12_code
def yX11_lift : MethodName := ⟨RX11, "lift", "(I)I"⟩
abbrev cX11_place : ByteArray := prog_1_method_13_code
def yX11_place : MethodName := ⟨RX11, "place", "(I)I"⟩
abbrev cX11_chain : ByteArray := prog_1_method_14_code
def yX11_chain : MethodName := ⟨RX11, "chain", "(I)I"⟩
abbrev cX11_chainAt : ByteArray := prog_1_method_15_code
def yX11_chainAt : MethodName := ⟨RX11, "chainAt", "(II)I"⟩
abbrev cX11_crowd : ByteArray := prog_1_method_16_code
def yX11_crowd : MethodName := ⟨RX11, "crowd", "()I"⟩
abbrev cX11_pack : ByteArray := prog_1_method_17_code
def yX11_pack : MethodName := ⟨RX11, "pack", "()I"⟩
abbrev cX11_breaks : ByteArray := prog_1_method_19_code
def yX11_breaks : MethodName := ⟨RX11, "breaks", "(I)I"⟩
abbrev cX11_mend : ByteArray := prog_1_method_20_code
def yX11_mend : MethodName := ⟨RX11, "mend", "(I)I"⟩
abbrev cX11_most : ByteArray := prog_1_method_28_code
def yX11_most : MethodName := ⟨RX11, "most", "(I)I"⟩
abbrev cX11_fewest : ByteArray := prog_1_method_29_code
def yX11_fewest : MethodName := ⟨RX11, "fewest", "()I"⟩
abbrev cX11_trees : ByteArray := prog_1_method_30_code
def yX11_trees : MethodName := ⟨RX11, "trees", "()I"⟩
abbrev cX11_thick : ByteArray := prog_1_method_31_code
def yX11_thick : MethodName := ⟨RX11, "thick", "(I)I"⟩
abbrev cX11_crowded : ByteArray := prog_1_method_32_code
def yX11_crowded : MethodName := ⟨RX11, "crowded", "(I)I"⟩
abbrev cX11_strength : ByteArray := prog_1_method_33_code
def yX11_strength : MethodName := ⟨RX11, "strength", "(I)I"⟩
abbrev cX11_whyNotPut : ByteArray := prog_1_method_44_code
def yX11_whyNotPut : MethodName := ⟨RX11, "whyNotPut", "(II)I"⟩
abbrev cX11_canBePlaced : ByteArray := prog_1_method_45_code
def yX11_canBePlaced : MethodName := ⟨RX11, "canBePlaced", "(I)Z"⟩
abbrev cX11_leastTerms : ByteArray := prog_1_method_53_code
def yX11_leastTerms : MethodName := ⟨RX11, "leastTerms", "(III)I"⟩
def RX12 : String := "ForestPacksModel"
def TX12 : u_T := fun k => match k with
  | _ => ("", "", "", false)
def tyX12 : Nat → FieldType := fun k => match k with
  | _ => .int
abbrev wsX120 : List Cond := u_ws RX12 TX12 0
theorem nmX12 : ∀ a, a < 0 → ∀ b, b < 0 → a ≠ b → (TX12 a).2.1 ≠ (TX12 b).2.1 := by decide +kernel
theorem tyX12_ok : ∀ k, k < 0 → parseFieldDescriptor (TX12 k).2.2.1 = some (tyX12 k) := by decide +kernel
def RJx145de : String := "java/io/Serializable"
def TJx145de : u_T := fun k => match k with
  | _ => ("", "", "", false)
def tyJx145de : Nat → FieldType := fun k => match k with
  | _ => .int
abbrev wsJx145de0 : List Cond := u_ws RJx145de TJx145de 0
theorem nmJx145de : ∀ a, a < 0 → ∀ b, b < 0 → a ≠ b → (TJx145de a).2.1 ≠ (TJx145de b).2.1 := by decide +kernel
theorem tyJx145de_ok : ∀ k, k < 0 → parseFieldDescriptor (TJx145de k).2.2.1 = some (tyJx145de k) := by decide +kernel
def RJx9f9b0 : String := "java/lang/CharSequence"
def TJx9f9b0 : u_T := fun k => match k with
  | _ => ("", "", "", false)
def tyJx9f9b0 : Nat → FieldType := fun k => match k with
  | _ => .int
abbrev wsJx9f9b00 : List Cond := u_ws RJx9f9b0 TJx9f9b0 0
theorem nmJx9f9b0 : ∀ a, a < 0 → ∀ b, b < 0 → a ≠ b → (TJx9f9b0 a).2.1 ≠ (TJx9f9b0 b).2.1 := by decide +kernel
theorem tyJx9f9b0_ok : ∀ k, k < 0 → parseFieldDescriptor (TJx9f9b0 k).2.2.1 = some (tyJx9f9b0 k) := by decide +kernel
def RJxb160c : String := "java/lang/Comparable"
def TJxb160c : u_T := fun k => match k with
  | _ => ("", "", "", false)
def tyJxb160c : Nat → FieldType := fun k => match k with
  | _ => .int
abbrev wsJxb160c0 : List Cond := u_ws RJxb160c TJxb160c 0
theorem nmJxb160c : ∀ a, a < 0 → ∀ b, b < 0 → a ≠ b → (TJxb160c a).2.1 ≠ (TJxb160c b).2.1 := by decide +kernel
theorem tyJxb160c_ok : ∀ k, k < 0 → parseFieldDescriptor (TJxb160c k).2.2.1 = some (tyJxb160c k) := by decide +kernel
def RJ6 : String := "java/lang/Integer"
def TJ6 : u_T := fun k => match k with
  | _ => ("", "", "", false)
def tyJ6 : Nat → FieldType := fun k => match k with
  | _ => .int
abbrev wsJ60 : List Cond := u_ws RJ6 TJ6 0
theorem nmJ6 : ∀ a, a < 0 → ∀ b, b < 0 → a ≠ b → (TJ6 a).2.1 ≠ (TJ6 b).2.1 := by decide +kernel
theorem tyJ6_ok : ∀ k, k < 0 → parseFieldDescriptor (TJ6 k).2.2.1 = some (tyJ6 k) := by decide +kernel
abbrev cJ6_bitCount_0f7a4 : ByteArray := prog_19_method_49_code
def yJ6_bitCount_0f7a4 : MethodName := ⟨RJ6, "bitCount", "(I)I"⟩
def RJ9 : String := "java/lang/Math"
def TJ9 : u_T := fun k => match k with
  | _ => ("", "", "", false)
def tyJ9 : Nat → FieldType := fun k => match k with
  | _ => .int
abbrev wsJ90 : List Cond := u_ws RJ9 TJ9 0
theorem nmJ9 : ∀ a, a < 0 → ∀ b, b < 0 → a ≠ b → (TJ9 a).2.1 ≠ (TJ9 b).2.1 := by decide +kernel
theorem tyJ9_ok : ∀ k, k < 0 → parseFieldDescriptor (TJ9 k).2.2.1 = some (tyJ9 k) := by decide +kernel
abbrev cJ9_max_7cf53 : ByteArray := prog_20_method_65_code
def yJ9_max_7cf53 : MethodName := ⟨RJ9, "max", "(II)I"⟩
abbrev cJ9_min_7cf53 : ByteArray := prog_20_method_69_code
def yJ9_min_7cf53 : MethodName := ⟨RJ9, "min", "(II)I"⟩
def RJ0 : String := "java/lang/String"
def TJ0 : u_T := fun k => match k with
  | _ => ("", "", "", false)
def tyJ0 : Nat → FieldType := fun k => match k with
  | _ => .int
abbrev wsJ00 : List Cond := u_ws RJ0 TJ0 0
theorem nmJ0 : ∀ a, a < 0 → ∀ b, b < 0 → a ≠ b → (TJ0 a).2.1 ≠ (TJ0 b).2.1 := by decide +kernel
theorem tyJ0_ok : ∀ k, k < 0 → parseFieldDescriptor (TJ0 k).2.2.1 = some (tyJ0 k) := by decide +kernel
abbrev cJ0_length_8abf5 : ByteArray := prog_22_method_54_code
def yJ0_length_8abf5 : MethodName := ⟨RJ0, "length", "()I"⟩
abbrev cJ0_charAt_5068e : ByteArray := prog_22_method_56_code
def yJ0_charAt_5068e : MethodName := ⟨RJ0, "charAt", "(I)C"⟩
abbrev cJ0_coder_7d493 : ByteArray := prog_22_method_152_code
def yJ0_coder_7d493 : MethodName := ⟨RJ0, "coder", "()B"⟩
abbrev cJ0_isLatin1_aae02 : ByteArray := prog_22_method_154_code
def yJ0_isLatin1_aae02 : MethodName := ⟨RJ0, "isLatin1", "()Z"⟩
abbrev cJ0_checkIndex_df160 : ByteArray := prog_22_method_155_code
def yJ0_checkIndex_df160 : MethodName := ⟨RJ0, "checkIndex", "(II)V"⟩
def RJ1 : String := "java/lang/StringLatin1"
def TJ1 : u_T := fun k => match k with
  | _ => ("", "", "", false)
def tyJ1 : Nat → FieldType := fun k => match k with
  | _ => .int
abbrev wsJ10 : List Cond := u_ws RJ1 TJ1 0
theorem nmJ1 : ∀ a, a < 0 → ∀ b, b < 0 → a ≠ b → (TJ1 a).2.1 ≠ (TJ1 b).2.1 := by decide +kernel
theorem tyJ1_ok : ∀ k, k < 0 → parseFieldDescriptor (TJ1 k).2.2.1 = some (tyJ1 k) := by decide +kernel
abbrev cJ1_charAt_3b067 : ByteArray := prog_23_method_2_code
def yJ1_charAt_3b067 : MethodName := ⟨RJ1, "charAt", "([BI)C"⟩
def RJ2 : String := "java/lang/StringUTF16"
def TJ2 : u_T := fun k => match k with
  | _ => ("", "", "", false)
def tyJ2 : Nat → FieldType := fun k => match k with
  | _ => .int
abbrev wsJ20 : List Cond := u_ws RJ2 TJ2 0
theorem nmJ2 : ∀ a, a < 0 → ∀ b, b < 0 → a ≠ b → (TJ2 a).2.1 ≠ (TJ2 b).2.1 := by decide +kernel
theorem tyJ2_ok : ∀ k, k < 0 → parseFieldDescriptor (TJ2 k).2.2.1 = some (tyJ2 k) := by decide +kernel
abbrev cJ2_getChar_3b067 : ByteArray := prog_24_method_5_code
def yJ2_getChar_3b067 : MethodName := ⟨RJ2, "getChar", "([BI)C"⟩
abbrev cJ2_length_9d52b : ByteArray := prog_24_method_6_code
def yJ2_length_9d52b : MethodName := ⟨RJ2, "length", "([B)I"⟩
abbrev cJ2_charAt_3b067 : ByteArray := prog_24_method_83_code
def yJ2_charAt_3b067 : MethodName := ⟨RJ2, "charAt", "([BI)C"⟩
abbrev cJ2_checkIndex_2214a : ByteArray := prog_24_method_91_code
def yJ2_checkIndex_2214a : MethodName := ⟨RJ2, "checkIndex", "(I[B)V"⟩
def RJ10 : String := "java/lang/System"
def TJ10 : u_T := fun k => match k with
  | _ => ("", "", "", false)
def tyJ10 : Nat → FieldType := fun k => match k with
  | _ => .int
abbrev wsJ100 : List Cond := u_ws RJ10 TJ10 0
theorem nmJ10 : ∀ a, a < 0 → ∀ b, b < 0 → a ≠ b → (TJ10 a).2.1 ≠ (TJ10 b).2.1 := by decide +kernel
theorem tyJ10_ok : ∀ k, k < 0 → parseFieldDescriptor (TJ10 k).2.2.1 = some (tyJ10 k) := by decide +kernel
def RJxfd54e : String := "java/lang/constant/Constable"
def TJxfd54e : u_T := fun k => match k with
  | _ => ("", "", "", false)
def tyJxfd54e : Nat → FieldType := fun k => match k with
  | _ => .int
abbrev wsJxfd54e0 : List Cond := u_ws RJxfd54e TJxfd54e 0
theorem nmJxfd54e : ∀ a, a < 0 → ∀ b, b < 0 → a ≠ b → (TJxfd54e a).2.1 ≠ (TJxfd54e b).2.1 := by decide +kernel
theorem tyJxfd54e_ok : ∀ k, k < 0 → parseFieldDescriptor (TJxfd54e k).2.2.1 = some (tyJxfd54e k) := by decide +kernel
def RJx3cf43 : String := "java/lang/constant/ConstantDesc"
def TJx3cf43 : u_T := fun k => match k with
  | _ => ("", "", "", false)
def tyJx3cf43 : Nat → FieldType := fun k => match k with
  | _ => .int
abbrev wsJx3cf430 : List Cond := u_ws RJx3cf43 TJx3cf43 0
theorem nmJx3cf43 : ∀ a, a < 0 → ∀ b, b < 0 → a ≠ b → (TJx3cf43 a).2.1 ≠ (TJx3cf43 b).2.1 := by decide +kernel
theorem tyJx3cf43_ok : ∀ k, k < 0 → parseFieldDescriptor (TJx3cf43 k).2.2.1 = some (tyJx3cf43 k) := by decide +kernel
def RJ3 : String := "jdk/internal/util/Preconditions"
def TJ3 : u_T := fun k => match k with
  | _ => ("", "", "", false)
def tyJ3 : Nat → FieldType := fun k => match k with
  | _ => .int
abbrev wsJ30 : List Cond := u_ws RJ3 TJ3 0
theorem nmJ3 : ∀ a, a < 0 → ∀ b, b < 0 → a ≠ b → (TJ3 a).2.1 ≠ (TJ3 b).2.1 := by decide +kernel
theorem tyJ3_ok : ∀ k, k < 0 → parseFieldDescriptor (TJ3 k).2.2.1 = some (tyJ3 k) := by decide +kernel
abbrev cJ3_checkIndex_8e157 : ByteArray := prog_30_method_11_code
def yJ3_checkIndex_8e157 : MethodName := ⟨RJ3, "checkIndex", "(IILjava/util/function/BiFunction;)I"⟩
def RL : String := "ForestPacksLaw"
abbrev cL_put : ByteArray := method_2_code
def yL_put : MethodName := ⟨RL, "put", "([III)I"⟩
abbrev cL_add : ByteArray := method_3_code
def yL_add : MethodName := ⟨RL, "add", "([IILjava/lang/String;)I"⟩
abbrev cL_number : ByteArray := method_4_code
def yL_number : MethodName := ⟨RL, "number", "([III)I"⟩
abbrev cL_lies : ByteArray := method_5_code
def yL_lies : MethodName := ⟨RL, "lies", "(LForestPacks;[II)Z"⟩
abbrev cL_its : ByteArray := method_6_code
def yL_its : MethodName := ⟨RL, "its", "(LForestPacks;III)I"⟩
abbrev cL_draw : ByteArray := method_7_code
def yL_draw : MethodName := ⟨RL, "draw", "([II)I"⟩
abbrev cL_tells : ByteArray := method_8_code
def yL_tells : MethodName := ⟨RL, "tells", "(LForestPacks;[I[I[II)Z"⟩
abbrev cL_bits : ByteArray := method_9_code
def yL_bits : MethodName := ⟨RL, "bits", "(I)I"⟩
abbrev cL_has : ByteArray := method_10_code
def yL_has : MethodName := ⟨RL, "has", "(II)Z"⟩
abbrev cL_ends : ByteArray := method_11_code
def yL_ends : MethodName := ⟨RL, "ends", "([II)I"⟩
abbrev cL_joined : ByteArray := method_12_code
def yL_joined : MethodName := ⟨RL, "joined", "([III)I"⟩
abbrev cL_pieces : ByteArray := method_13_code
def yL_pieces : MethodName := ⟨RL, "pieces", "([II)I"⟩
abbrev cL_isForest : ByteArray := method_14_code
def yL_isForest : MethodName := ⟨RL, "isForest", "([II)Z"⟩
abbrev cL_inner : ByteArray := method_15_code
def yL_inner : MethodName := ⟨RL, "inner", "([III)I"⟩
abbrev cL_sound : ByteArray := method_16_code
def yL_sound : MethodName := ⟨RL, "sound", "(LForestPacks;[I)I"⟩
abbrev cL_lying : ByteArray := method_17_code
def yL_lying : MethodName := ⟨RL, "lying", "(LForestPacks;[I)I"⟩
abbrev cL_placed : ByteArray := method_18_code
def yL_placed : MethodName := ⟨RL, "placed", "(LForestPacks;[II)Z"⟩
abbrev cL_agree : ByteArray := method_19_code
def yL_agree : MethodName := ⟨RL, "agree", "(LForestPacks;[I)Z"⟩
abbrev cL_law : ByteArray := code
def yL_law : MethodName := ⟨RL, "law", "([I)Z"⟩
abbrev vwCl : List vw_C := [(RX0, TX0, 4), (RX1, TX1, 12), (RX2, TX2, 3), (RX3, TX3, 7), (RX4, TX4, 6), (RX5, TX5, 9), (RX6, TX6, 2), (RX7, TX7, 6), (RX8, TX8, 7), (RX9, TX9, 13), (RX10, TX10, 2), (RX11, TX11, 13)]
/-! one list of words for all contracts -/
def zT : List Cond := lw_tbl.filter goodWord
theorem zT_good : ∀ w ∈ zT, goodWord w = true := fun w h => (List.mem_filter.mp h).2
theorem zT_tbl : ∀ w ∈ zT, w ∈ lw_tbl := fun w h => (List.mem_filter.mp h).1
theorem zin {w : Cond} (i : Nat) (h : lw_tbl[i]? = some w) (g : goodWord w = true) : w ∈ zT := List.mem_filter.mpr ⟨List.mem_of_getElem? h, g⟩
def zU (y : MethodName) (cc : ByteArray) (n : Nat) (r : Option FieldType) : List Cond := Cond.code y cc n r :: zT
theorem zU_good {y : MethodName} {cc : ByteArray} {n : Nat} {r : Option FieldType} (h : Cond.code y cc n r ∈ zT) : GoodIn zT (zU y cc n r) := fun w hw => by
  rcases List.mem_cons.mp hw with e | e
  · subst e; exact ⟨h, good_of_word (zT_good _ h)⟩
  · exact ⟨e, good_of_word (zT_good _ e)⟩
theorem zin_all (ws : List Cond) (ps : List Nat) (hp : ws = ps.filterMap (fun i => lw_tbl[i]?)) (h : ws.all goodWord = true) : ∀ w ∈ ws, w ∈ zT := fun w hw => by
  have h1 := List.all_eq_true.mp h w hw
  rw [hp] at hw
  obtain ⟨i, -, hi⟩ := List.mem_filterMap.mp hw
  exact zin i hi h1
set_option maxRecDepth 20000 in
theorem zX0 : ∀ w ∈ u_ws RX0 TX0 4, w ∈ zT := zin_all _ [248, 250, 252, 254] (by decide +kernel) (by decide +kernel)
set_option maxRecDepth 20000 in
theorem zX1 : ∀ w ∈ u_ws RX1 TX1 12, w ∈ zT := zin_all _ [275, 277, 279, 281, 283, 285, 287, 289, 291, 293, 295, 297] (by decide +kernel) (by decide +kernel)
set_option maxRecDepth 20000 in
theorem zX2 : ∀ w ∈ u_ws RX2 TX2 3, w ∈ zT := zin_all _ [400, 402, 404] (by decide +kernel) (by decide +kernel)
set_option maxRecDepth 20000 in
theorem zX3 : ∀ w ∈ u_ws RX3 TX3 7, w ∈ zT := zin_all _ [417, 419, 421, 423, 425, 427, 429] (by decide +kernel) (by decide +kernel)
set_option maxRecDepth 20000 in
theorem zX4 : ∀ w ∈ u_ws RX4 TX4 6, w ∈ zT := zin_all _ [340, 342, 344, 346, 348, 350] (by decide +kernel) (by decide +kernel)
set_option maxRecDepth 20000 in
theorem zX5 : ∀ w ∈ u_ws RX5 TX5 9, w ∈ zT := zin_all _ [94, 96, 98, 100, 102, 104, 106, 108, 110] (by decide +kernel) (by decide +kernel)
set_option maxRecDepth 20000 in
theorem zX6 : ∀ w ∈ u_ws RX6 TX6 2, w ∈ zT := zin_all _ [386, 388] (by decide +kernel) (by decide +kernel)
set_option maxRecDepth 20000 in
theorem zX7 : ∀ w ∈ u_ws RX7 TX7 6, w ∈ zT := zin_all _ [365, 367, 369, 371, 373, 375] (by decide +kernel) (by decide +kernel)
set_option maxRecDepth 20000 in
theorem zX8 : ∀ w ∈ u_ws RX8 TX8 7, w ∈ zT := zin_all _ [313, 315, 317, 319, 321, 323, 325] (by decide +kernel) (by decide +kernel)
set_option maxRecDepth 20000 in
theorem zX9 : ∀ w ∈ u_ws RX9 TX9 13, w ∈ zT := zin_all _ [206, 208, 210, 212, 214, 216, 218, 220, 222, 224, 226, 228, 230] (by decide +kernel) (by decide +kernel)
set_option maxRecDepth 20000 in
theorem zX10 : ∀ w ∈ u_ws RX10 TX10 2, w ∈ zT := zin_all _ [122, 124] (by decide +kernel) (by decide +kernel)
set_option maxRecDepth 20000 in
theorem zX11 : ∀ w ∈ u_ws RX11 TX11 13, w ∈ zT := zin_all _ [444, 446, 448, 450, 452, 454, 456, 458, 460, 462, 464, 466, 468] (by decide +kernel) (by decide +kernel)
