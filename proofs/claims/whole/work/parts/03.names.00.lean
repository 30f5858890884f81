/-! ===== BEGIN printed: names, fields, word lists, decode rows ===== -/
def RX0 : String := "HullBuilder$Face"
def TX0 : u_T := fun k => match k with
  | 0 => ("HullBuilder$Face", "nx", "J", false)
  | 1 => ("HullBuilder$Face", "ny", "J", false)
  | 2 => ("HullBuilder$Face", "nz", "J", false)
  | 3 => ("HullBuilder$Face", "distance", "J", false)
  | 4 => ("HullBuilder$Face", "held", "I", false)
  | 5 => ("HullBuilder$Face", "ring", "[I", true)
  | _ => ("HullBuilder$Face", "size", "I", false)
def tyX0 : Nat → FieldType := fun k => match k with
  | 0 => .long
  | 1 => .long
  | 2 => .long
  | 3 => .long
  | 4 => .int
  | 5 => .array .int
  | _ => .int
abbrev wsX00 : List Cond := u_ws RX0 TX0 7
theorem nmX0 : ∀ a, a < 7 → ∀ b, b < 7 → a ≠ b → (TX0 a).2.1 ≠ (TX0 b).2.1 := by decide +kernel
theorem tyX0_ok : ∀ k, k < 7 → parseFieldDescriptor (TX0 k).2.2.1 = some (tyX0 k) := by decide +kernel
abbrev cX0_init : ByteArray := prog_2_method_1_code
def yX0_init : MethodName := ⟨RX0, "<init>", "()V"⟩
abbrev cX0_layThrough : ByteArray := prog_2_method_2_code
def yX0_layThrough : MethodName := ⟨RX0, "layThrough", "(LHullBuilder$Points;III)Z"⟩
abbrev cX0_heightOf : ByteArray := prog_2_method_3_code
def yX0_heightOf : MethodName := ⟨RX0, "heightOf", "(JJJ)J"⟩
abbrev cX0_holdsAll : ByteArray := prog_2_method_4_code
def yX0_holdsAll : MethodName := ⟨RX0, "holdsAll", "(LHullBuilder$Points;)Z"⟩
abbrev cX0_turnOutside : ByteArray := prog_2_method_5_code
def yX0_turnOutside : MethodName := ⟨RX0, "turnOutside", "(LHullBuilder$Points;)Z"⟩
abbrev cX0_shortenNormal : ByteArray := prog_2_method_6_code
def yX0_shortenNormal : MethodName := ⟨RX0, "shortenNormal", "()V"⟩
abbrev cX0_goRound : ByteArray := prog_2_method_7_code
def yX0_goRound : MethodName := ⟨RX0, "goRound", "(LHullBuilder$Points;I)V"⟩
abbrev cX0_nextRound : ByteArray := prog_2_method_8_code
def yX0_nextRound : MethodName := ⟨RX0, "nextRound", "(LHullBuilder$Points;II)I"⟩
abbrev cX0_isRight : ByteArray := prog_2_method_9_code
def yX0_isRight : MethodName := ⟨RX0, "isRight", "(LHullBuilder$Points;III)Z"⟩
abbrev cX0_rank : ByteArray := prog_2_method_10_code
def yX0_rank : MethodName := ⟨RX0, "rank", "()I"⟩
def RX1 : String := "HullBuilder$Hull"
def TX1 : u_T := fun k => match k with
  | 0 => ("HullBuilder$Hull", "at", "LHullBuilder$Points;", true)
  | 1 => ("HullBuilder$Hull", "faces", "[LHullBuilder$Face;", true)
  | 2 => ("HullBuilder$Hull", "trial", "LHullBuilder$Face;", false)
  | 3 => ("HullBuilder$Hull", "faceCount", "I", false)
  | 4 => ("HullBuilder$Hull", "corners", "I", false)
  | 5 => ("HullBuilder$Hull", "faceAlong", "[I", true)
  | 6 => ("HullBuilder$Hull", "edgeLow", "[I", true)
  | 7 => ("HullBuilder$Hull", "edgeHigh", "[I", true)
  | 8 => ("HullBuilder$Hull", "edgeCount", "I", false)
  | 9 => ("HullBuilder$Hull", "sixVolumes", "J", false)
  | _ => ("HullBuilder$Hull", "moments", "[J", true)
def tyX1 : Nat → FieldType := fun k => match k with
  | 0 => .object "HullBuilder$Points"
  | 1 => .array (.object "HullBuilder$Face")
  | 2 => .object "HullBuilder$Face"
  | 3 => .int
  | 4 => .int
  | 5 => .array .int
  | 6 => .array .int
  | 7 => .array .int
  | 8 => .int
  | 9 => .long
  | _ => .array .long
abbrev wsX10 : List Cond := u_ws RX1 TX1 11
theorem nmX1 : ∀ a, a < 11 → ∀ b, b < 11 → a ≠ b → (TX1 a).2.1 ≠ (TX1 b).2.1 := by decide +kernel
theorem tyX1_ok : ∀ k, k < 11 → parseFieldDescriptor (TX1 k).2.2.1 = some (tyX1 k) := by decide +kernel
abbrev cX1_init : ByteArray := prog_3_method_1_code
def yX1_init : MethodName := ⟨RX1, "<init>", "()V"⟩
abbrev cX1_wouldBeFlat : ByteArray := prog_3_method_2_code
def yX1_wouldBeFlat : MethodName := ⟨RX1, "wouldBeFlat", "(LHullBuilder$Points;)Z"⟩
abbrev cX1_wrap : ByteArray := prog_3_method_3_code
def yX1_wrap : MethodName := ⟨RX1, "wrap", "(LHullBuilder$Points;)V"⟩
abbrev cX1_findFaces : ByteArray := prog_3_method_4_code
def yX1_findFaces : MethodName := ⟨RX1, "findFaces", "()V"⟩
abbrev cX1_tryPlane : ByteArray := prog_3_method_5_code
def yX1_tryPlane : MethodName := ⟨RX1, "tryPlane", "(III)V"⟩
abbrev cX1_lieInOneFace : ByteArray := prog_3_method_6_code
def yX1_lieInOneFace : MethodName := ⟨RX1, "lieInOneFace", "(I)Z"⟩
abbrev cX1_findCorners : ByteArray := prog_3_method_7_code
def yX1_findCorners : MethodName := ⟨RX1, "findCorners", "()V"⟩
abbrev cX1_orderFaces : ByteArray := prog_3_method_8_code
def yX1_orderFaces : MethodName := ⟨RX1, "orderFaces", "()V"⟩
abbrev cX1_findEdges : ByteArray := prog_3_method_9_code
def yX1_findEdges : MethodName := ⟨RX1, "findEdges", "()V"⟩
abbrev cX1_noteWays : ByteArray := prog_3_method_10_code
def yX1_noteWays : MethodName := ⟨RX1, "noteWays", "()V"⟩
abbrev cX1_measure : ByteArray := prog_3_method_11_code
def yX1_measure : MethodName := ⟨RX1, "measure", "()V"⟩
abbrev cX1_addTetrahedron : ByteArray := prog_3_method_12_code
def yX1_addTetrahedron : MethodName := ⟨RX1, "addTetrahedron", "(III)V"⟩
abbrev cX1_furthest : ByteArray := prog_3_method_13_code
def yX1_furthest : MethodName := ⟨RX1, "furthest", "(JJJ)I"⟩
abbrev cX1_walk : ByteArray := prog_3_method_14_code
def yX1_walk : MethodName := ⟨RX1, "walk", "(II)I"⟩
abbrev cX1_stepFrom : ByteArray := prog_3_method_15_code
def yX1_stepFrom : MethodName := ⟨RX1, "stepFrom", "(I)I"⟩
abbrev cX1_locate : ByteArray := prog_3_method_16_code
def yX1_locate : MethodName := ⟨RX1, "locate", "(III)I"⟩
def RX2 : String := "HullBuilder$Points"
def TX2 : u_T := fun k => match k with
  | 0 => ("HullBuilder$Points", "xs", "[I", true)
  | 1 => ("HullBuilder$Points", "ys", "[I", true)
  | 2 => ("HullBuilder$Points", "zs", "[I", true)
  | _ => ("HullBuilder$Points", "size", "I", false)
def tyX2 : Nat → FieldType := fun k => match k with
  | 0 => .array .int
  | 1 => .array .int
  | 2 => .array .int
  | _ => .int
abbrev wsX20 : List Cond := u_ws RX2 TX2 4
theorem nmX2 : ∀ a, a < 4 → ∀ b, b < 4 → a ≠ b → (TX2 a).2.1 ≠ (TX2 b).2.1 := by decide +kernel
theorem tyX2_ok : ∀ k, k < 4 → parseFieldDescriptor (TX2 k).2.2.1 = some (tyX2 k) := by decide +kernel
abbrev cX2_init : ByteArray := prog_4_method_1_code
def yX2_init : MethodName := ⟨RX2, "<init>", "()V"⟩
abbrev cX2_isTaken : ByteArray := prog_4_method_2_code
def yX2_isTaken : MethodName := ⟨RX2, "isTaken", "(III)Z"⟩
abbrev cX2_append : ByteArray := prog_4_method_3_code
def yX2_append : MethodName := ⟨RX2, "append", "(III)I"⟩
abbrev cX2_remove : ByteArray := prog_4_method_4_code
def yX2_remove : MethodName := ⟨RX2, "remove", "(I)V"⟩
abbrev cX2_coordinate : ByteArray := prog_4_method_5_code
def yX2_coordinate : MethodName := ⟨RX2, "coordinate", "(II)I"⟩
abbrev cX2_copyFrom : ByteArray := prog_4_method_6_code
def yX2_copyFrom : MethodName := ⟨RX2, "copyFrom", "(LHullBuilder$Points;)V"⟩
def RX3 : String := "HullBuilder"
def TX3 : u_T := fun k => match k with
  | 0 => ("HullBuilder", "points", "LHullBuilder$Points;", true)
  | 1 => ("HullBuilder", "hull", "LHullBuilder$Hull;", true)
  | _ => ("HullBuilder", "hullsBuilt", "I", false)
def tyX3 : Nat → FieldType := fun k => match k with
  | 0 => .object "HullBuilder$Points"
  | 1 => .object "HullBuilder$Hull"
  | _ => .int
abbrev wsX30 : List Cond := u_ws RX3 TX3 3
theorem nmX3 : ∀ a, a < 3 → ∀ b, b < 3 → a ≠ b → (TX3 a).2.1 ≠ (TX3 b).2.1 := by decide +kernel
theorem tyX3_ok : ∀ k, k < 3 → parseFieldDescriptor (TX3 k).2.2.1 = some (tyX3 k) := by decide +kernel
abbrev cX3_init : ByteArray := prog_1_method_1_code
def yX3_init : MethodName := ⟨RX3, "<init>", "()V"⟩
abbrev cX3_point : ByteArray := prog_1_method_2_code
def yX3_point : MethodName := ⟨RX3, "point", "(III)I"⟩
abbrev cX3_take : ByteArray := prog_1_method_3_code
def yX3_take : MethodName := ⟨RX3, "take", "(I)I"⟩
abbrev cX3_build : ByteArray := prog_1_method_4_code
def yX3_build : MethodName := ⟨RX3, "build", "()I"⟩
abbrev cX3_of : ByteArray := prog_1_method_5_code
def yX3_of : MethodName := ⟨RX3, "of", "(II)I"⟩
abbrev cX3_face : ByteArray := prog_1_method_6_code
def yX3_face : MethodName := ⟨RX3, "face", "(II)I"⟩
abbrev cX3_offset : ByteArray := prog_1_method_7_code
def yX3_offset : MethodName := ⟨RX3, "offset", "(I)J"⟩
abbrev cX3_corner : ByteArray := prog_1_method_8_code
def yX3_corner : MethodName := ⟨RX3, "corner", "(II)I"⟩
abbrev cX3_edge : ByteArray := prog_1_method_9_code
def yX3_edge : MethodName := ⟨RX3, "edge", "(II)I"⟩
abbrev cX3_support : ByteArray := prog_1_method_10_code
def yX3_support : MethodName := ⟨RX3, "support", "(III)I"⟩
abbrev cX3_steps : ByteArray := prog_1_method_11_code
def yX3_steps : MethodName := ⟨RX3, "steps", "(II)I"⟩
abbrev cX3_side : ByteArray := prog_1_method_12_code
def yX3_side : MethodName := ⟨RX3, "side", "(III)I"⟩
abbrev cX3_volume : ByteArray := prog_1_method_13_code
def yX3_volume : MethodName := ⟨RX3, "volume", "()J"⟩
abbrev cX3_centre : ByteArray := prog_1_method_14_code
def yX3_centre : MethodName := ⟨RX3, "centre", "(I)J"⟩
abbrev cX3_middle : ByteArray := prog_1_method_15_code
def yX3_middle : MethodName := ⟨RX3, "middle", "(I)D"⟩
abbrev cX3_count : ByteArray := prog_1_method_16_code
def yX3_count : MethodName := ⟨RX3, "count", "(I)I"⟩
abbrev cX3_requireHull : ByteArray := prog_1_method_17_code
def yX3_requireHull : MethodName := ⟨RX3, "requireHull", "()V"⟩
abbrev cX3_requireCorner : ByteArray := prog_1_method_18_code
def yX3_requireCorner : MethodName := ⟨RX3, "requireCorner", "(I)V"⟩
abbrev cX3_requirePlace : ByteArray := prog_1_method_19_code
def yX3_requirePlace : MethodName := ⟨RX3, "requirePlace", "(II)V"⟩
abbrev cX3_requireReach : ByteArray := prog_1_method_20_code
def yX3_requireReach : MethodName := ⟨RX3, "requireReach", "(IIII)V"⟩
abbrev cX3_isWithin : ByteArray := prog_1_method_21_code
def yX3_isWithin : MethodName := ⟨RX3, "isWithin", "(II)Z"⟩
abbrev cX3_holds : ByteArray := prog_1_method_22_code
def yX3_holds : MethodName := ⟨RX3, "holds", "(II)Z"⟩
abbrev cX3_way : ByteArray := prog_1_method_23_code
def yX3_way : MethodName := ⟨RX3, "way", "(II)I"⟩
abbrev cX3_across : ByteArray := prog_1_method_24_code
def yX3_across : MethodName := ⟨RX3, "across", "([I[IIII)J"⟩
abbrev cX3_commonFactor : ByteArray := prog_1_method_25_code
def yX3_commonFactor : MethodName := ⟨RX3, "commonFactor", "(JJ)J"⟩
def RX4 : String := "HullBuilderModel"
def TX4 : u_T := fun k => match k with
  | 0 => ("HullBuilderModel", "thrown", "I", false)
  | 1 => ("HullBuilderModel", "points", "I", false)
  | 2 => ("HullBuilderModel", "xs", "[I", true)
  | 3 => ("HullBuilderModel", "ys", "[I", true)
  | 4 => ("HullBuilderModel", "zs", "[I", true)
  | 5 => ("HullBuilderModel", "built", "Z", false)
  | 6 => ("HullBuilderModel", "builds", "I", false)
  | 7 => ("HullBuilderModel", "held", "I", false)
  | 8 => ("HullBuilderModel", "hx", "[J", true)
  | 9 => ("HullBuilderModel", "hy", "[J", true)
  | 10 => ("HullBuilderModel", "hz", "[J", true)
  | 11 => ("HullBuilderModel", "faces", "I", false)
  | 12 => ("HullBuilderModel", "nx", "[J", true)
  | 13 => ("HullBuilderModel", "ny", "[J", true)
  | 14 => ("HullBuilderModel", "nz", "[J", true)
  | 15 => ("HullBuilderModel", "offsets", "[J", true)
  | 16 => ("HullBuilderModel", "sizes", "[I", true)
  | 17 => ("HullBuilderModel", "corners", "[I", true)
  | 18 => ("HullBuilderModel", "order", "[I", true)
  | 19 => ("HullBuilderModel", "edges", "I", false)
  | 20 => ("HullBuilderModel", "ends", "[I", true)
  | 21 => ("HullBuilderModel", "lefts", "[I", true)
  | 22 => ("HullBuilderModel", "rights", "[I", true)
  | 23 => ("HullBuilderModel", "tx", "J", false)
  | 24 => ("HullBuilderModel", "ty", "J", false)
  | 25 => ("HullBuilderModel", "tz", "J", false)
  | _ => ("HullBuilderModel", "far", "[I", true)
def tyX4 : Nat → FieldType := fun k => match k with
  | 0 => .int
  | 1 => .int
  | 2 => .array .int
  | 3 => .array .int
  | 4 => .array .int
  | 5 => .boolean
  | 6 => .int
  | 7 => .int
  | 8 => .array .long
  | 9 => .array .long
  | 10 => .array .long
  | 11 => .int
  | 12 => .array .long
  | 13 => .array .long
  | 14 => .array .long
  | 15 => .array .long
  | 16 => .array .int
  | 17 => .array .int
  | 18 => .array .int
  | 19 => .int
  | 20 => .array .int
  | 21 => .array .int
  | 22 => .array .int
  | 23 => .long
  | 24 => .long
  | 25 => .long
  | _ => .array .int
abbrev wsX40 : List Cond := u_ws RX4 TX4 27
theorem nmX4 : ∀ a, a < 27 → ∀ b, b < 27 → a ≠ b → (TX4 a).2.1 ≠ (TX4 b).2.1 := by decide +kernel
theorem tyX4_ok : ∀ k, k < 27 → parseFieldDescriptor (TX4 k).2.2.1 = some (tyX4 k) := by decide +kernel
abbrev cX4_init : ByteArray := prog_6_method_1_code
def yX4_init : MethodName := ⟨RX4, "<init>", "()V"⟩
abbrev cX4_thrown : ByteArray := prog_6_method_2_code
def yX4_thrown : MethodName := ⟨RX4, "thrown", "()I"⟩
abbrev cX4_goes : ByteArray := prog_6_method_3_code
def yX4_goes : MethodName := ⟨RX4, "goes", "(ZZ)Z"⟩
abbrev cX4_within : ByteArray := prog_6_method_4_code
def yX4_within : MethodName := ⟨RX4, "within", "(II)Z"⟩
abbrev cX4_taken : ByteArray := prog_6_method_5_code
def yX4_taken : MethodName := ⟨RX4, "taken", "(III)Z"⟩
abbrev cX4_point : ByteArray := prog_6_method_6_code
def yX4_point : MethodName := ⟨RX4, "point", "(III)I"⟩
abbrev cX4_take : ByteArray := prog_6_method_7_code
def yX4_take : MethodName := ⟨RX4, "take", "(I)I"⟩
abbrev cX4_across : ByteArray := prog_6_method_8_code
def yX4_across : MethodName := ⟨RX4, "across", "(III)V"⟩
abbrev cX4_above : ByteArray := prog_6_method_9_code
def yX4_above : MethodName := ⟨RX4, "above", "(II)J"⟩
abbrev cX4_common : ByteArray := prog_6_method_10_code
def yX4_common : MethodName := ⟨RX4, "common", "(JJ)J"⟩
abbrev cX4_knownFace : ByteArray := prog_6_method_11_code
def yX4_knownFace : MethodName := ⟨RX4, "knownFace", "(J)Z"⟩
abbrev cX4_tries : ByteArray := prog_6_method_12_code
def yX4_tries : MethodName := ⟨RX4, "tries", "(III)Z"⟩
abbrev cX4_addFace : ByteArray := prog_6_method_13_code
def yX4_addFace : MethodName := ⟨RX4, "addFace", "(J)V"⟩
abbrev cX4_in : ByteArray := prog_6_method_14_code
def yX4_in : MethodName := ⟨RX4, "in", "(II)Z"⟩
abbrev cX4_goesOn : ByteArray := prog_6_method_15_code
def yX4_goesOn : MethodName := ⟨RX4, "goesOn", "(III)Z"⟩
abbrev cX4_behind : ByteArray := prog_6_method_16_code
def yX4_behind : MethodName := ⟨RX4, "behind", "(II)I"⟩
abbrev cX4_walk : ByteArray := prog_6_method_17_code
def yX4_walk : MethodName := ⟨RX4, "walk", "(I)V"⟩
abbrev cX4_earlier : ByteArray := prog_6_method_18_code
def yX4_earlier : MethodName := ⟨RX4, "earlier", "(II)Z"⟩
abbrev cX4_orderFaces : ByteArray := prog_6_method_19_code
def yX4_orderFaces : MethodName := ⟨RX4, "orderFaces", "()V"⟩
abbrev cX4_faceFrom : ByteArray := prog_6_method_20_code
def yX4_faceFrom : MethodName := ⟨RX4, "faceFrom", "(II)I"⟩
abbrev cX4_findEdges : ByteArray := prog_6_method_21_code
def yX4_findEdges : MethodName := ⟨RX4, "findEdges", "()V"⟩
abbrev cX4_solid : ByteArray := prog_6_method_22_code
def yX4_solid : MethodName := ⟨RX4, "solid", "()Z"⟩
abbrev cX4_volumeOf : ByteArray := prog_6_method_23_code
def yX4_volumeOf : MethodName := ⟨RX4, "volumeOf", "(IIII)J"⟩
abbrev cX4_build : ByteArray := prog_6_method_24_code
def yX4_build : MethodName := ⟨RX4, "build", "()I"⟩
abbrev cX4_of : ByteArray := prog_6_method_25_code
def yX4_of : MethodName := ⟨RX4, "of", "(II)I"⟩
abbrev cX4_there : ByteArray := prog_6_method_26_code
def yX4_there : MethodName := ⟨RX4, "there", "(I)Z"⟩
abbrev cX4_face : ByteArray := prog_6_method_27_code
def yX4_face : MethodName := ⟨RX4, "face", "(II)I"⟩
abbrev cX4_offset : ByteArray := prog_6_method_28_code
def yX4_offset : MethodName := ⟨RX4, "offset", "(I)J"⟩
abbrev cX4_corner : ByteArray := prog_6_method_29_code
def yX4_corner : MethodName := ⟨RX4, "corner", "(II)I"⟩
abbrev cX4_edge : ByteArray := prog_6_method_30_code
def yX4_edge : MethodName := ⟨RX4, "edge", "(II)I"⟩
abbrev cX4_isCorner : ByteArray := prog_6_method_31_code
def yX4_isCorner : MethodName := ⟨RX4, "isCorner", "(I)Z"⟩
abbrev cX4_support : ByteArray := prog_6_method_32_code
def yX4_support : MethodName := ⟨RX4, "support", "(III)I"⟩
abbrev cX4_steps : ByteArray := prog_6_method_33_code
def yX4_steps : MethodName := ⟨RX4, "steps", "(II)I"⟩
abbrev cX4_side : ByteArray := prog_6_method_34_code
def yX4_side : MethodName := ⟨RX4, "side", "(III)I"⟩
abbrev cX4_sum : ByteArray := prog_6_method_35_code
def yX4_sum : MethodName := ⟨RX4, "sum", "(I)J"⟩
abbrev cX4_volume : ByteArray := prog_6_method_36_code
def yX4_volume : MethodName := ⟨RX4, "volume", "()J"⟩
abbrev cX4_centre : ByteArray := prog_6_method_37_code
def yX4_centre : MethodName := ⟨RX4, "centre", "(I)J"⟩
abbrev cX4_middle : ByteArray := prog_6_method_38_code
def yX4_middle : MethodName := ⟨RX4, "middle", "(I)D"⟩
abbrev cX4_count : ByteArray := prog_6_method_39_code
def yX4_count : MethodName := ⟨RX4, "count", "(I)I"⟩
def RJ6 : String := "java/lang/Integer"
def TJ6 : u_T := fun k => match k with
  | _ => ("", "", "", false)
def tyJ6 : Nat → FieldType := fun k => match k with
  | _ => .int
abbrev wsJ60 : List Cond := u_ws RJ6 TJ6 0
theorem nmJ6 : ∀ a, a < 0 → ∀ b, b < 0 → a ≠ b → (TJ6 a).2.1 ≠ (TJ6 b).2.1 := by decide +kernel
theorem tyJ6_ok : ∀ k, k < 0 → parseFieldDescriptor (TJ6 k).2.2.1 = some (tyJ6 k) := by decide +kernel
abbrev cJ6_numberOfTrailingZeros_0f7a4 : ByteArray := prog_11_method_48_code
def yJ6_numberOfTrailingZeros_0f7a4 : MethodName := ⟨RJ6, "numberOfTrailingZeros", "(I)I"⟩
abbrev cJ6_bitCount_0f7a4 : ByteArray := prog_11_method_49_code
def yJ6_bitCount_0f7a4 : MethodName := ⟨RJ6, "bitCount", "(I)I"⟩
def RJ0 : String := "java/lang/String"
def TJ0 : u_T := fun k => match k with
  | _ => ("", "", "", false)
def tyJ0 : Nat → FieldType := fun k => match k with
  | _ => .int
abbrev wsJ00 : List Cond := u_ws RJ0 TJ0 0
theorem nmJ0 : ∀ a, a < 0 → ∀ b, b < 0 → a ≠ b → (TJ0 a).2.1 ≠ (TJ0 b).2.1 := by decide +kernel
theorem tyJ0_ok : ∀ k, k < 0 → parseFieldDescriptor (TJ0 k).2.2.1 = some (tyJ0 k) := by decide +kernel
def RJ7 : String := "java/util/Arrays"
def TJ7 : u_T := fun k => match k with
  | _ => ("", "", "", false)
def tyJ7 : Nat → FieldType := fun k => match k with
  | _ => .int
abbrev wsJ70 : List Cond := u_ws RJ7 TJ7 0
theorem nmJ7 : ∀ a, a < 0 → ∀ b, b < 0 → a ≠ b → (TJ7 a).2.1 ≠ (TJ7 b).2.1 := by decide +kernel
theorem tyJ7_ok : ∀ k, k < 0 → parseFieldDescriptor (TJ7 k).2.2.1 = some (tyJ7 k) := by decide +kernel
abbrev cJ7_fill_d0a16 : ByteArray := prog_15_method_101_code
def yJ7_fill_d0a16 : MethodName := ⟨RJ7, "fill", "([JJ)V"⟩
abbrev cJ7_fill_53178 : ByteArray := prog_15_method_103_code
def yJ7_fill_53178 : MethodName := ⟨RJ7, "fill", "([II)V"⟩
def RL : String := "HullBuilderLaw"
abbrev cL_point : ByteArray := method_3_code
def yL_point : MethodName := ⟨RL, "point", "(LHullBuilder;III[J)I"⟩
abbrev cL_take : ByteArray := method_4_code
def yL_take : MethodName := ⟨RL, "take", "(LHullBuilder;I[J)I"⟩
abbrev cL_build : ByteArray := method_5_code
def yL_build : MethodName := ⟨RL, "build", "(LHullBuilder;[J)I"⟩
abbrev cL_of : ByteArray := method_6_code
def yL_of : MethodName := ⟨RL, "of", "(LHullBuilder;II[J)I"⟩
abbrev cL_face : ByteArray := method_7_code
def yL_face : MethodName := ⟨RL, "face", "(LHullBuilder;II[J)I"⟩
abbrev cL_offset : ByteArray := method_8_code
def yL_offset : MethodName := ⟨RL, "offset", "(LHullBuilder;I[J)I"⟩
abbrev cL_corner : ByteArray := method_9_code
def yL_corner : MethodName := ⟨RL, "corner", "(LHullBuilder;II[J)I"⟩
abbrev cL_edge : ByteArray := method_10_code
def yL_edge : MethodName := ⟨RL, "edge", "(LHullBuilder;II[J)I"⟩
abbrev cL_support : ByteArray := method_11_code
def yL_support : MethodName := ⟨RL, "support", "(LHullBuilder;III[J)I"⟩
abbrev cL_steps : ByteArray := method_12_code
def yL_steps : MethodName := ⟨RL, "steps", "(LHullBuilder;II[J)I"⟩
abbrev cL_side : ByteArray := method_13_code
def yL_side : MethodName := ⟨RL, "side", "(LHullBuilder;III[J)I"⟩
abbrev cL_volume : ByteArray := method_14_code
def yL_volume : MethodName := ⟨RL, "volume", "(LHullBuilder;[J)I"⟩
abbrev cL_centre : ByteArray := method_15_code
def yL_centre : MethodName := ⟨RL, "centre", "(LHullBuilder;I[J)I"⟩
abbrev cL_middle : ByteArray := method_16_code
def yL_middle : MethodName := ⟨RL, "middle", "(LHullBuilder;I[D)I"⟩
abbrev cL_count : ByteArray := method_17_code
def yL_count : MethodName := ⟨RL, "count", "(LHullBuilder;I[J)I"⟩
abbrev cL_law : ByteArray := code
def yL_law : MethodName := ⟨RL, "law", "([I)Z"⟩
def wsX0_init : List Cond := .code yX0_init cX0_init 1 none :: ([.methodLink RX0 3 objectInit, .instanceMethod objectInit, .code objectInit ⟨#[0xb1]⟩ 1 none, .arrayClass .int, .fieldLink RX0 9 "HullBuilder$Face" "ring" "[I"] ++ wsX00)
def wsX3_across : List Cond := .code yX3_across cX3_across 5 (some .long) :: ([])
def wsX0_layThrough : List Cond := .code yX0_layThrough cX0_layThrough 5 (some .boolean) :: ([.fieldLink RX0 27 "HullBuilder$Face" "nx" "J", .fieldLink RX0 34 "HullBuilder$Face" "ny" "J", .fieldLink RX0 37 "HullBuilder$Face" "nz" "J", .fieldLink RX0 40 "HullBuilder$Face" "distance" "J", .static yX3_across, .initialized RX3, .code yX3_across cX3_across 5 (some .long)] ++ wsX20 ++ wsX00)
def wsX0_heightOf : List Cond := .code yX0_heightOf cX0_heightOf 7 (some .long) :: ([.fieldLink RX0 27 "HullBuilder$Face" "nx" "J", .fieldLink RX0 34 "HullBuilder$Face" "ny" "J", .fieldLink RX0 37 "HullBuilder$Face" "nz" "J", .fieldLink RX0 40 "HullBuilder$Face" "distance" "J"] ++ wsX00)
def wsX0_holdsAll : List Cond := .code yX0_holdsAll cX0_holdsAll 3 (some .boolean) :: ([.methodLink RX0 47 yX0_heightOf, .instanceMethod yX0_heightOf, .selects RX0 yX0_heightOf yX0_heightOf, .initialized RX0, .code yX0_heightOf cX0_heightOf 7 (some .long), .fieldLink RX0 27 "HullBuilder$Face" "nx" "J", .fieldLink RX0 34 "HullBuilder$Face" "ny" "J", .fieldLink RX0 37 "HullBuilder$Face" "nz" "J", .fieldLink RX0 40 "HullBuilder$Face" "distance" "J"] ++ wsX20 ++ wsX00)
def wsX0_turnOutside : List Cond := .code yX0_turnOutside cX0_turnOutside 7 (some .boolean) :: ([.fieldLink RX0 51 "HullBuilder$Face" "held" "I", .fieldLink RX0 27 "HullBuilder$Face" "nx" "J", .fieldLink RX0 34 "HullBuilder$Face" "ny" "J", .fieldLink RX0 37 "HullBuilder$Face" "nz" "J", .fieldLink RX0 40 "HullBuilder$Face" "distance" "J", .methodLink RX0 47 yX0_heightOf, .instanceMethod yX0_heightOf, .selects RX0 yX0_heightOf yX0_heightOf, .initialized RX0, .code yX0_heightOf cX0_heightOf 7 (some .long)] ++ wsX00 ++ wsX20)
def wsX3_commonFactor : List Cond := .code yX3_commonFactor cX3_commonFactor 7 (some .long) :: ([])
def wsX0_shortenNormal : List Cond := .code yX0_shortenNormal cX0_shortenNormal 3 none :: ([.fieldLink RX0 27 "HullBuilder$Face" "nx" "J", .fieldLink RX0 34 "HullBuilder$Face" "ny" "J", .fieldLink RX0 37 "HullBuilder$Face" "nz" "J", .fieldLink RX0 40 "HullBuilder$Face" "distance" "J", .static yX3_commonFactor, .initialized RX3, .code yX3_commonFactor cX3_commonFactor 7 (some .long)] ++ wsX00)
def wsJ6_numberOfTrailingZeros_0f7a4 : List Cond := .code yJ6_numberOfTrailingZeros_0f7a4 cJ6_numberOfTrailingZeros_0f7a4 2 (some .int) :: ([.constant RJ6 264 (65536)])
def wsJ6_bitCount_0f7a4 : List Cond := .code yJ6_bitCount_0f7a4 cJ6_bitCount_0f7a4 1 (some .int) :: ([.constant RJ6 265 (1431655765), .constant RJ6 266 (858993459), .constant RJ6 267 (252645135)])
def wsX3_holds : List Cond := .code yX3_holds cX3_holds 2 (some .boolean) :: ([])
def wsX0_isRight : List Cond := .code yX0_isRight cX0_isRight 5 (some .boolean) :: ([.fieldLink RX0 27 "HullBuilder$Face" "nx" "J", .fieldLink RX0 34 "HullBuilder$Face" "ny" "J", .fieldLink RX0 37 "HullBuilder$Face" "nz" "J", .static yX3_across, .initialized RX3, .code yX3_across cX3_across 5 (some .long)] ++ wsX00 ++ wsX20)
def wsX0_nextRound : List Cond := .code yX0_nextRound cX0_nextRound 6 (some .int) :: ([.static yX3_holds, .initialized RX3, .code yX3_holds cX3_holds 2 (some .boolean), .methodLink RX0 76 yX0_isRight, .instanceMethod yX0_isRight, .selects RX0 yX0_isRight yX0_isRight, .initialized RX0, .code yX0_isRight cX0_isRight 5 (some .boolean), .fieldLink RX0 27 "HullBuilder$Face" "nx" "J", .fieldLink RX0 34 "HullBuilder$Face" "ny" "J", .fieldLink RX0 37 "HullBuilder$Face" "nz" "J", .static yX3_across, .code yX3_across cX3_across 5 (some .long)] ++ wsX20 ++ wsX00)
def wsX0_goRound_r1 : List Cond := [Cond.fieldLink RX0 51 "HullBuilder$Face" "held" "I", Cond.fieldLink RX0 64 "HullBuilder$Face" "size" "I", Cond.fieldLink RX0 9 "HullBuilder$Face" "ring" "[I", Cond.methodLink RX0 58 yJ6_numberOfTrailingZeros_0f7a4, Cond.static yJ6_numberOfTrailingZeros_0f7a4, Cond.initialized RJ6, Cond.code yJ6_numberOfTrailingZeros_0f7a4 cJ6_numberOfTrailingZeros_0f7a4 2 (some .int), Cond.constant RJ6 264 (65536), Cond.methodLink RX0 65 yJ6_bitCount_0f7a4, Cond.static yJ6_bitCount_0f7a4, Cond.code yJ6_bitCount_0f7a4 cJ6_bitCount_0f7a4 1 (some .int), Cond.constant RJ6 265 (1431655765), Cond.constant RJ6 266 (858993459), Cond.constant RJ6 267 (252645135), Cond.methodLink RX0 68 yX0_nextRound, Cond.instanceMethod yX0_nextRound, Cond.selects RX0 yX0_nextRound yX0_nextRound, Cond.initialized RX0, Cond.code yX0_nextRound cX0_nextRound 6 (some .int), Cond.static yX3_holds, Cond.initialized RX3, Cond.code yX3_holds cX3_holds 2 (some .boolean), Cond.methodLink RX0 76 yX0_isRight, Cond.instanceMethod yX0_isRight]
def wsX0_goRound_r2 : List Cond := [Cond.selects RX0 yX0_isRight yX0_isRight, Cond.code yX0_isRight cX0_isRight 5 (some .boolean), Cond.fieldLink RX0 27 "HullBuilder$Face" "nx" "J", Cond.fieldLink RX0 34 "HullBuilder$Face" "ny" "J", Cond.fieldLink RX0 37 "HullBuilder$Face" "nz" "J", Cond.static yX3_across, Cond.code yX3_across cX3_across 5 (some .long)]
def wsX0_goRound : List Cond := .code yX0_goRound cX0_goRound 6 none :: ((wsX0_goRound_r1 ++ wsX0_goRound_r2) ++ wsX00 ++ wsX20)
def wsX3_way : List Cond := .code yX3_way cX3_way 2 (some .int) :: ([])
def wsX0_rank : List Cond := .code yX0_rank cX0_rank 1 (some .int) :: ([.fieldLink RX0 9 "HullBuilder$Face" "ring" "[I", .static yX3_way, .initialized RX3, .code yX3_way cX3_way 2 (some .int)] ++ wsX00)
def wsX2_init : List Cond := .code yX2_init cX2_init 1 none :: ([.methodLink RX2 3 objectInit, .instanceMethod objectInit, .code objectInit ⟨#[0xb1]⟩ 1 none, .arrayClass .int, .fieldLink RX2 9 "HullBuilder$Points" "xs" "[I", .fieldLink RX2 15 "HullBuilder$Points" "ys" "[I", .fieldLink RX2 18 "HullBuilder$Points" "zs" "[I", .fieldLink RX2 21 "HullBuilder$Points" "size" "I"] ++ wsX20)
def wsX1_init_r1 : List Cond := [Cond.methodLink RX1 3 objectInit, Cond.instanceMethod objectInit, Cond.code objectInit ⟨#[0xb1]⟩ 1 none, Cond.classLink RX1 9 RX2, Cond.instantiable RX2 4, Cond.initialized RX2, Cond.fieldLink RX1 12 "HullBuilder$Hull" "at" "LHullBuilder$Points;", Cond.classLink RX1 18 RX0, Cond.fieldLink RX1 20 "HullBuilder$Hull" "faces" "[LHullBuilder$Face;", Cond.instantiable RX0 7, Cond.initialized RX0, Cond.fieldLink RX1 25 "HullBuilder$Hull" "trial" "LHullBuilder$Face;", Cond.arrayClass .int, Cond.fieldLink RX1 29 "HullBuilder$Hull" "faceAlong" "[I", Cond.fieldLink RX1 33 "HullBuilder$Hull" "edgeLow" "[I", Cond.fieldLink RX1 36 "HullBuilder$Hull" "edgeHigh" "[I", Cond.arrayClass .long, Cond.fieldLink RX1 39 "HullBuilder$Hull" "moments" "[J", Cond.instanceMethod yX2_init, Cond.code yX2_init cX2_init 1 none, Cond.methodLink RX2 3 objectInit, Cond.fieldLink RX2 9 "HullBuilder$Points" "xs" "[I", Cond.fieldLink RX2 15 "HullBuilder$Points" "ys" "[I", Cond.fieldLink RX2 18 "HullBuilder$Points" "zs" "[I"]
def wsX1_init_r2 : List Cond := [Cond.fieldLink RX2 21 "HullBuilder$Points" "size" "I", Cond.instanceMethod yX0_init, Cond.code yX0_init cX0_init 1 none, Cond.methodLink RX0 3 objectInit, Cond.fieldLink RX0 9 "HullBuilder$Face" "ring" "[I"]
def wsX1_init : List Cond := .code yX1_init cX1_init 2 none :: ((wsX1_init_r1 ++ wsX1_init_r2) ++ wsX20 ++ wsX10 ++ wsX00)
def wsX1_wouldBeFlat : List Cond := .code yX1_wouldBeFlat cX1_wouldBeFlat 3 (some .boolean) :: ([.fieldLink RX1 25 "HullBuilder$Hull" "trial" "LHullBuilder$Face;", .instanceMethod yX0_layThrough, .initialized RX0, .selects RX0 yX0_layThrough yX0_layThrough, .code yX0_layThrough cX0_layThrough 5 (some .boolean), .fieldLink RX0 27 "HullBuilder$Face" "nx" "J", .fieldLink RX0 34 "HullBuilder$Face" "ny" "J", .fieldLink RX0 37 "HullBuilder$Face" "nz" "J", .fieldLink RX0 40 "HullBuilder$Face" "distance" "J", .static yX3_across, .initialized RX3, .code yX3_across cX3_across 5 (some .long), .instanceMethod yX0_holdsAll, .selects RX0 yX0_holdsAll yX0_holdsAll, .code yX0_holdsAll cX0_holdsAll 3 (some .boolean), .methodLink RX0 47 yX0_heightOf, .instanceMethod yX0_heightOf, .selects RX0 yX0_heightOf yX0_heightOf, .code yX0_heightOf cX0_heightOf 7 (some .long)] ++ wsX20 ++ wsX10 ++ wsX00)
def wsX2_copyFrom : List Cond := .code yX2_copyFrom cX2_copyFrom 3 none :: ([.fieldLink RX2 21 "HullBuilder$Points" "size" "I", .fieldLink RX2 9 "HullBuilder$Points" "xs" "[I", .fieldLink RX2 15 "HullBuilder$Points" "ys" "[I", .fieldLink RX2 18 "HullBuilder$Points" "zs" "[I"] ++ wsX20)
def wsX1_lieInOneFace : List Cond := .code yX1_lieInOneFace cX1_lieInOneFace 3 (some .boolean) :: ([.fieldLink RX1 65 "HullBuilder$Hull" "faceCount" "I", .fieldLink RX1 20 "HullBuilder$Hull" "faces" "[LHullBuilder$Face;"] ++ wsX10 ++ wsX00)
def wsX1_tryPlane_r1 : List Cond := [Cond.fieldLink RX1 65 "HullBuilder$Hull" "faceCount" "I", Cond.fieldLink RX1 25 "HullBuilder$Hull" "trial" "LHullBuilder$Face;", Cond.fieldLink RX1 12 "HullBuilder$Hull" "at" "LHullBuilder$Points;", Cond.fieldLink RX1 20 "HullBuilder$Hull" "faces" "[LHullBuilder$Face;", Cond.methodLink RX1 88 yX1_lieInOneFace, Cond.instanceMethod yX1_lieInOneFace, Cond.selects RX1 yX1_lieInOneFace yX1_lieInOneFace, Cond.initialized RX1, Cond.code yX1_lieInOneFace cX1_lieInOneFace 3 (some .boolean), Cond.instanceMethod yX0_layThrough, Cond.initialized RX0, Cond.selects RX0 yX0_layThrough yX0_layThrough, Cond.code yX0_layThrough cX0_layThrough 5 (some .boolean), Cond.fieldLink RX0 27 "HullBuilder$Face" "nx" "J", Cond.fieldLink RX0 34 "HullBuilder$Face" "ny" "J", Cond.fieldLink RX0 37 "HullBuilder$Face" "nz" "J", Cond.fieldLink RX0 40 "HullBuilder$Face" "distance" "J", Cond.static yX3_across, Cond.initialized RX3, Cond.code yX3_across cX3_across 5 (some .long), Cond.instanceMethod yX0_turnOutside, Cond.selects RX0 yX0_turnOutside yX0_turnOutside, Cond.code yX0_turnOutside cX0_turnOutside 7 (some .boolean), Cond.fieldLink RX0 51 "HullBuilder$Face" "held" "I"]
def wsX1_tryPlane_r2 : List Cond := [Cond.methodLink RX0 47 yX0_heightOf, Cond.instanceMethod yX0_heightOf, Cond.selects RX0 yX0_heightOf yX0_heightOf, Cond.code yX0_heightOf cX0_heightOf 7 (some .long), Cond.instanceMethod yX0_shortenNormal, Cond.selects RX0 yX0_shortenNormal yX0_shortenNormal, Cond.code yX0_shortenNormal cX0_shortenNormal 3 none, Cond.static yX3_commonFactor, Cond.code yX3_commonFactor cX3_commonFactor 7 (some .long)]
def wsX1_tryPlane : List Cond := .code yX1_tryPlane cX1_tryPlane 5 none :: ((wsX1_tryPlane_r1 ++ wsX1_tryPlane_r2) ++ wsX10 ++ wsX00 ++ wsX20)
def wsX1_findFaces_r1 : List Cond := [Cond.fieldLink RX1 65 "HullBuilder$Hull" "faceCount" "I", Cond.fieldLink RX1 12 "HullBuilder$Hull" "at" "LHullBuilder$Points;", Cond.methodLink RX1 84 yX1_tryPlane, Cond.instanceMethod yX1_tryPlane, Cond.selects RX1 yX1_tryPlane yX1_tryPlane, Cond.initialized RX1, Cond.code yX1_tryPlane cX1_tryPlane 5 none, Cond.fieldLink RX1 25 "HullBuilder$Hull" "trial" "LHullBuilder$Face;", Cond.fieldLink RX1 20 "HullBuilder$Hull" "faces" "[LHullBuilder$Face;", Cond.methodLink RX1 88 yX1_lieInOneFace, Cond.instanceMethod yX1_lieInOneFace, Cond.selects RX1 yX1_lieInOneFace yX1_lieInOneFace, Cond.code yX1_lieInOneFace cX1_lieInOneFace 3 (some .boolean), Cond.instanceMethod yX0_layThrough, Cond.initialized RX0, Cond.selects RX0 yX0_layThrough yX0_layThrough, Cond.code yX0_layThrough cX0_layThrough 5 (some .boolean), Cond.fieldLink RX0 27 "HullBuilder$Face" "nx" "J", Cond.fieldLink RX0 34 "HullBuilder$Face" "ny" "J", Cond.fieldLink RX0 37 "HullBuilder$Face" "nz" "J", Cond.fieldLink RX0 40 "HullBuilder$Face" "distance" "J", Cond.static yX3_across, Cond.initialized RX3, Cond.code yX3_across cX3_across 5 (some .long)]
def wsX1_findFaces_r2 : List Cond := [Cond.instanceMethod yX0_turnOutside, Cond.selects RX0 yX0_turnOutside yX0_turnOutside, Cond.code yX0_turnOutside cX0_turnOutside 7 (some .boolean), Cond.fieldLink RX0 51 "HullBuilder$Face" "held" "I", Cond.methodLink RX0 47 yX0_heightOf, Cond.instanceMethod yX0_heightOf, Cond.selects RX0 yX0_heightOf yX0_heightOf, Cond.code yX0_heightOf cX0_heightOf 7 (some .long), Cond.instanceMethod yX0_shortenNormal, Cond.selects RX0 yX0_shortenNormal yX0_shortenNormal, Cond.code yX0_shortenNormal cX0_shortenNormal 3 none, Cond.static yX3_commonFactor, Cond.code yX3_commonFactor cX3_commonFactor 7 (some .long)]
def wsX1_findFaces : List Cond := .code yX1_findFaces cX1_findFaces 4 none :: ((wsX1_findFaces_r1 ++ wsX1_findFaces_r2) ++ wsX10 ++ wsX20 ++ wsX00)
def wsX1_findCorners : List Cond := .code yX1_findCorners cX1_findCorners 4 none :: ([.fieldLink RX1 68 "HullBuilder$Hull" "corners" "I", .fieldLink RX1 12 "HullBuilder$Hull" "at" "LHullBuilder$Points;", .fieldLink RX1 65 "HullBuilder$Hull" "faceCount" "I", .fieldLink RX1 20 "HullBuilder$Hull" "faces" "[LHullBuilder$Face;", .static yX3_holds, .initialized RX3, .code yX3_holds cX3_holds 2 (some .boolean)] ++ wsX10 ++ wsX20 ++ wsX00)
def wsX1_orderFaces : List Cond := .code yX1_orderFaces cX1_orderFaces 4 none :: ([.fieldLink RX1 65 "HullBuilder$Hull" "faceCount" "I", .fieldLink RX1 20 "HullBuilder$Hull" "faces" "[LHullBuilder$Face;", .instanceMethod yX0_rank, .initialized RX0, .selects RX0 yX0_rank yX0_rank, .code yX0_rank cX0_rank 1 (some .int), .fieldLink RX0 9 "HullBuilder$Face" "ring" "[I", .static yX3_way, .initialized RX3, .code yX3_way cX3_way 2 (some .int)] ++ wsX10 ++ wsX00)
def wsJ7_fill_53178 : List Cond := .code yJ7_fill_53178 cJ7_fill_53178 4 none :: ([])
def wsX1_noteWays : List Cond := .code yX1_noteWays cX1_noteWays 5 none :: ([.fieldLink RX1 29 "HullBuilder$Hull" "faceAlong" "[I", .fieldLink RX1 65 "HullBuilder$Hull" "faceCount" "I", .fieldLink RX1 20 "HullBuilder$Hull" "faces" "[LHullBuilder$Face;", .methodLink RX1 119 yJ7_fill_53178, .static yJ7_fill_53178, .initialized RJ7, .code yJ7_fill_53178 cJ7_fill_53178 4 none, .static yX3_way, .initialized RX3, .code yX3_way cX3_way 2 (some .int)] ++ wsX10 ++ wsX00)
def wsX1_findEdges : List Cond := .code yX1_findEdges cX1_findEdges 3 none :: ([.fieldLink RX1 112 "HullBuilder$Hull" "edgeCount" "I", .fieldLink RX1 12 "HullBuilder$Hull" "at" "LHullBuilder$Points;", .fieldLink RX1 29 "HullBuilder$Hull" "faceAlong" "[I", .fieldLink RX1 33 "HullBuilder$Hull" "edgeLow" "[I", .fieldLink RX1 36 "HullBuilder$Hull" "edgeHigh" "[I", .methodLink RX1 109 yX1_noteWays, .instanceMethod yX1_noteWays, .selects RX1 yX1_noteWays yX1_noteWays, .initialized RX1, .code yX1_noteWays cX1_noteWays 5 none, .fieldLink RX1 65 "HullBuilder$Hull" "faceCount" "I", .fieldLink RX1 20 "HullBuilder$Hull" "faces" "[LHullBuilder$Face;", .methodLink RX1 119 yJ7_fill_53178, .static yJ7_fill_53178, .initialized RJ7, .code yJ7_fill_53178 cJ7_fill_53178 4 none, .static yX3_way, .initialized RX3, .code yX3_way cX3_way 2 (some .int)] ++ wsX10 ++ wsX20 ++ wsX00)
def wsJ7_fill_d0a16 : List Cond := .code yJ7_fill_d0a16 cJ7_fill_d0a16 5 none :: ([])
def wsX1_addTetrahedron : List Cond := .code yX1_addTetrahedron cX1_addTetrahedron 6 none :: ([.fieldLink RX1 12 "HullBuilder$Hull" "at" "LHullBuilder$Points;", .fieldLink RX1 129 "HullBuilder$Hull" "sixVolumes" "J", .fieldLink RX1 39 "HullBuilder$Hull" "moments" "[J"] ++ wsX10 ++ wsX20)
def wsX1_measure : List Cond := .code yX1_measure cX1_measure 4 none :: ([.fieldLink RX1 129 "HullBuilder$Hull" "sixVolumes" "J", .fieldLink RX1 39 "HullBuilder$Hull" "moments" "[J", .fieldLink RX1 65 "HullBuilder$Hull" "faceCount" "I", .fieldLink RX1 20 "HullBuilder$Hull" "faces" "[LHullBuilder$Face;", .methodLink RX1 133 yJ7_fill_d0a16, .static yJ7_fill_d0a16, .initialized RJ7, .code yJ7_fill_d0a16 cJ7_fill_d0a16 5 none, .methodLink RX1 136 yX1_addTetrahedron, .instanceMethod yX1_addTetrahedron, .selects RX1 yX1_addTetrahedron yX1_addTetrahedron, .initialized RX1, .code yX1_addTetrahedron cX1_addTetrahedron 6 none, .fieldLink RX1 12 "HullBuilder$Hull" "at" "LHullBuilder$Points;"] ++ wsX10 ++ wsX00 ++ wsX20)
def wsX1_wrap_r1 : List Cond := [Cond.fieldLink RX1 12 "HullBuilder$Hull" "at" "LHullBuilder$Points;", Cond.fieldLink RX1 65 "HullBuilder$Hull" "faceCount" "I", Cond.fieldLink RX1 20 "HullBuilder$Hull" "faces" "[LHullBuilder$Face;", Cond.fieldLink RX1 68 "HullBuilder$Hull" "corners" "I", Cond.instanceMethod yX2_copyFrom, Cond.initialized RX2, Cond.selects RX2 yX2_copyFrom yX2_copyFrom, Cond.code yX2_copyFrom cX2_copyFrom 3 none, Cond.fieldLink RX2 21 "HullBuilder$Points" "size" "I", Cond.fieldLink RX2 9 "HullBuilder$Points" "xs" "[I", Cond.fieldLink RX2 15 "HullBuilder$Points" "ys" "[I", Cond.fieldLink RX2 18 "HullBuilder$Points" "zs" "[I", Cond.methodLink RX1 59 yX1_findFaces, Cond.instanceMethod yX1_findFaces, Cond.selects RX1 yX1_findFaces yX1_findFaces, Cond.initialized RX1, Cond.code yX1_findFaces cX1_findFaces 4 none, Cond.methodLink RX1 84 yX1_tryPlane, Cond.instanceMethod yX1_tryPlane, Cond.selects RX1 yX1_tryPlane yX1_tryPlane, Cond.code yX1_tryPlane cX1_tryPlane 5 none, Cond.fieldLink RX1 25 "HullBuilder$Hull" "trial" "LHullBuilder$Face;", Cond.methodLink RX1 88 yX1_lieInOneFace, Cond.instanceMethod yX1_lieInOneFace]
def wsX1_wrap_r2 : List Cond := [Cond.selects RX1 yX1_lieInOneFace yX1_lieInOneFace, Cond.code yX1_lieInOneFace cX1_lieInOneFace 3 (some .boolean), Cond.instanceMethod yX0_layThrough, Cond.initialized RX0, Cond.selects RX0 yX0_layThrough yX0_layThrough, Cond.code yX0_layThrough cX0_layThrough 5 (some .boolean), Cond.fieldLink RX0 27 "HullBuilder$Face" "nx" "J", Cond.fieldLink RX0 34 "HullBuilder$Face" "ny" "J", Cond.fieldLink RX0 37 "HullBuilder$Face" "nz" "J", Cond.fieldLink RX0 40 "HullBuilder$Face" "distance" "J", Cond.static yX3_across, Cond.initialized RX3, Cond.code yX3_across cX3_across 5 (some .long), Cond.instanceMethod yX0_turnOutside, Cond.selects RX0 yX0_turnOutside yX0_turnOutside, Cond.code yX0_turnOutside cX0_turnOutside 7 (some .boolean), Cond.fieldLink RX0 51 "HullBuilder$Face" "held" "I", Cond.methodLink RX0 47 yX0_heightOf, Cond.instanceMethod yX0_heightOf, Cond.selects RX0 yX0_heightOf yX0_heightOf, Cond.code yX0_heightOf cX0_heightOf 7 (some .long), Cond.instanceMethod yX0_shortenNormal, Cond.selects RX0 yX0_shortenNormal yX0_shortenNormal, Cond.code yX0_shortenNormal cX0_shortenNormal 3 none]
def wsX1_wrap_r3 : List Cond := [Cond.static yX3_commonFactor, Cond.code yX3_commonFactor cX3_commonFactor 7 (some .long), Cond.methodLink RX1 62 yX1_findCorners, Cond.instanceMethod yX1_findCorners, Cond.selects RX1 yX1_findCorners yX1_findCorners, Cond.code yX1_findCorners cX1_findCorners 4 none, Cond.static yX3_holds, Cond.code yX3_holds cX3_holds 2 (some .boolean), Cond.instanceMethod yX0_goRound, Cond.selects RX0 yX0_goRound yX0_goRound, Cond.code yX0_goRound cX0_goRound 6 none, Cond.fieldLink RX0 64 "HullBuilder$Face" "size" "I", Cond.fieldLink RX0 9 "HullBuilder$Face" "ring" "[I", Cond.methodLink RX0 58 yJ6_numberOfTrailingZeros_0f7a4, Cond.static yJ6_numberOfTrailingZeros_0f7a4, Cond.initialized RJ6, Cond.code yJ6_numberOfTrailingZeros_0f7a4 cJ6_numberOfTrailingZeros_0f7a4 2 (some .int), Cond.constant RJ6 264 (65536), Cond.methodLink RX0 65 yJ6_bitCount_0f7a4, Cond.static yJ6_bitCount_0f7a4, Cond.code yJ6_bitCount_0f7a4 cJ6_bitCount_0f7a4 1 (some .int), Cond.constant RJ6 265 (1431655765), Cond.constant RJ6 266 (858993459), Cond.constant RJ6 267 (252645135)]
def wsX1_wrap_r4 : List Cond := [Cond.methodLink RX0 68 yX0_nextRound, Cond.instanceMethod yX0_nextRound, Cond.selects RX0 yX0_nextRound yX0_nextRound, Cond.code yX0_nextRound cX0_nextRound 6 (some .int), Cond.methodLink RX0 76 yX0_isRight, Cond.instanceMethod yX0_isRight, Cond.selects RX0 yX0_isRight yX0_isRight, Cond.code yX0_isRight cX0_isRight 5 (some .boolean), Cond.methodLink RX1 75 yX1_orderFaces, Cond.instanceMethod yX1_orderFaces, Cond.selects RX1 yX1_orderFaces yX1_orderFaces, Cond.code yX1_orderFaces cX1_orderFaces 4 none, Cond.instanceMethod yX0_rank, Cond.selects RX0 yX0_rank yX0_rank, Cond.code yX0_rank cX0_rank 1 (some .int), Cond.static yX3_way, Cond.code yX3_way cX3_way 2 (some .int), Cond.methodLink RX1 78 yX1_findEdges, Cond.instanceMethod yX1_findEdges, Cond.selects RX1 yX1_findEdges yX1_findEdges, Cond.code yX1_findEdges cX1_findEdges 3 none, Cond.fieldLink RX1 112 "HullBuilder$Hull" "edgeCount" "I", Cond.fieldLink RX1 29 "HullBuilder$Hull" "faceAlong" "[I", Cond.fieldLink RX1 33 "HullBuilder$Hull" "edgeLow" "[I"]
def wsX1_wrap_r5 : List Cond := [Cond.fieldLink RX1 36 "HullBuilder$Hull" "edgeHigh" "[I", Cond.methodLink RX1 109 yX1_noteWays, Cond.instanceMethod yX1_noteWays, Cond.selects RX1 yX1_noteWays yX1_noteWays, Cond.code yX1_noteWays cX1_noteWays 5 none, Cond.methodLink RX1 119 yJ7_fill_53178, Cond.static yJ7_fill_53178, Cond.initialized RJ7, Cond.code yJ7_fill_53178 cJ7_fill_53178 4 none, Cond.methodLink RX1 81 yX1_measure, Cond.instanceMethod yX1_measure, Cond.selects RX1 yX1_measure yX1_measure, Cond.code yX1_measure cX1_measure 4 none, Cond.fieldLink RX1 129 "HullBuilder$Hull" "sixVolumes" "J", Cond.fieldLink RX1 39 "HullBuilder$Hull" "moments" "[J", Cond.methodLink RX1 133 yJ7_fill_d0a16, Cond.static yJ7_fill_d0a16, Cond.code yJ7_fill_d0a16 cJ7_fill_d0a16 5 none, Cond.methodLink RX1 136 yX1_addTetrahedron, Cond.instanceMethod yX1_addTetrahedron, Cond.selects RX1 yX1_addTetrahedron yX1_addTetrahedron, Cond.code yX1_addTetrahedron cX1_addTetrahedron 6 none]
def wsX1_wrap : List Cond := .code yX1_wrap cX1_wrap 3 none :: ((wsX1_wrap_r1 ++ (wsX1_wrap_r2 ++ (wsX1_wrap_r3 ++ (wsX1_wrap_r4 ++ wsX1_wrap_r5)))) ++ wsX10 ++ wsX20 ++ wsX00)
def wsX1_furthest : List Cond := .code yX1_furthest cX1_furthest 13 (some .int) :: ([.fieldLink RX1 12 "HullBuilder$Hull" "at" "LHullBuilder$Points;", .fieldLink RX1 68 "HullBuilder$Hull" "corners" "I", .static yX3_holds, .initialized RX3, .code yX3_holds cX3_holds 2 (some .boolean)] ++ wsX10 ++ wsX20)
def wsX1_stepFrom : List Cond := .code yX1_stepFrom cX1_stepFrom 5 (some .int) :: ([.fieldLink RX1 112 "HullBuilder$Hull" "edgeCount" "I", .fieldLink RX1 33 "HullBuilder$Hull" "edgeLow" "[I", .fieldLink RX1 36 "HullBuilder$Hull" "edgeHigh" "[I"] ++ wsX10)
def wsX1_walk : List Cond := .code yX1_walk cX1_walk 5 (some .int) :: ([.static yX3_holds, .initialized RX3, .code yX3_holds cX3_holds 2 (some .boolean), .methodLink RX1 148 yX1_stepFrom, .instanceMethod yX1_stepFrom, .selects RX1 yX1_stepFrom yX1_stepFrom, .initialized RX1, .code yX1_stepFrom cX1_stepFrom 5 (some .int), .fieldLink RX1 112 "HullBuilder$Hull" "edgeCount" "I", .fieldLink RX1 33 "HullBuilder$Hull" "edgeLow" "[I", .fieldLink RX1 36 "HullBuilder$Hull" "edgeHigh" "[I"] ++ wsX10)
def wsX1_locate : List Cond := .code yX1_locate cX1_locate 8 (some .int) :: ([.fieldLink RX1 65 "HullBuilder$Hull" "faceCount" "I", .fieldLink RX1 20 "HullBuilder$Hull" "faces" "[LHullBuilder$Face;", .instanceMethod yX0_heightOf, .initialized RX0, .selects RX0 yX0_heightOf yX0_heightOf, .code yX0_heightOf cX0_heightOf 7 (some .long), .fieldLink RX0 27 "HullBuilder$Face" "nx" "J", .fieldLink RX0 34 "HullBuilder$Face" "ny" "J", .fieldLink RX0 37 "HullBuilder$Face" "nz" "J", .fieldLink RX0 40 "HullBuilder$Face" "distance" "J"] ++ wsX10 ++ wsX00)
def wsX2_isTaken : List Cond := .code yX2_isTaken cX2_isTaken 5 (some .boolean) :: ([.fieldLink RX2 21 "HullBuilder$Points" "size" "I", .fieldLink RX2 9 "HullBuilder$Points" "xs" "[I", .fieldLink RX2 15 "HullBuilder$Points" "ys" "[I", .fieldLink RX2 18 "HullBuilder$Points" "zs" "[I"] ++ wsX20)
def wsX2_append : List Cond := .code yX2_append cX2_append 4 (some .int) :: ([.fieldLink RX2 21 "HullBuilder$Points" "size" "I", .fieldLink RX2 9 "HullBuilder$Points" "xs" "[I", .fieldLink RX2 15 "HullBuilder$Points" "ys" "[I", .fieldLink RX2 18 "HullBuilder$Points" "zs" "[I"] ++ wsX20)
def wsX2_remove : List Cond := .code yX2_remove cX2_remove 3 none :: ([.fieldLink RX2 21 "HullBuilder$Points" "size" "I", .fieldLink RX2 9 "HullBuilder$Points" "xs" "[I", .fieldLink RX2 15 "HullBuilder$Points" "ys" "[I", .fieldLink RX2 18 "HullBuilder$Points" "zs" "[I"] ++ wsX20)
def wsX2_coordinate : List Cond := .code yX2_coordinate cX2_coordinate 3 (some .int) :: ([.fieldLink RX2 9 "HullBuilder$Points" "xs" "[I", .fieldLink RX2 15 "HullBuilder$Points" "ys" "[I", .fieldLink RX2 18 "HullBuilder$Points" "zs" "[I"] ++ wsX20)
def wsX3_init_r1 : List Cond := [Cond.methodLink RX3 3 objectInit, Cond.instanceMethod objectInit, Cond.code objectInit ⟨#[0xb1]⟩ 1 none, Cond.classLink RX3 9 RX2, Cond.instantiable RX2 4, Cond.initialized RX2, Cond.fieldLink RX3 12 "HullBuilder" "points" "LHullBuilder$Points;", Cond.classLink RX3 16 RX1, Cond.instantiable RX1 11, Cond.initialized RX1, Cond.fieldLink RX3 19 "HullBuilder" "hull" "LHullBuilder$Hull;", Cond.fieldLink RX3 23 "HullBuilder" "hullsBuilt" "I", Cond.instanceMethod yX2_init, Cond.code yX2_init cX2_init 1 none, Cond.methodLink RX2 3 objectInit, Cond.arrayClass .int, Cond.fieldLink RX2 9 "HullBuilder$Points" "xs" "[I", Cond.fieldLink RX2 15 "HullBuilder$Points" "ys" "[I", Cond.fieldLink RX2 18 "HullBuilder$Points" "zs" "[I", Cond.fieldLink RX2 21 "HullBuilder$Points" "size" "I", Cond.instanceMethod yX1_init, Cond.code yX1_init cX1_init 2 none, Cond.methodLink RX1 3 objectInit, Cond.classLink RX1 9 RX2]
def wsX3_init_r2 : List Cond := [Cond.fieldLink RX1 12 "HullBuilder$Hull" "at" "LHullBuilder$Points;", Cond.classLink RX1 18 RX0, Cond.fieldLink RX1 20 "HullBuilder$Hull" "faces" "[LHullBuilder$Face;", Cond.instantiable RX0 7, Cond.initialized RX0, Cond.fieldLink RX1 25 "HullBuilder$Hull" "trial" "LHullBuilder$Face;", Cond.fieldLink RX1 29 "HullBuilder$Hull" "faceAlong" "[I", Cond.fieldLink RX1 33 "HullBuilder$Hull" "edgeLow" "[I", Cond.fieldLink RX1 36 "HullBuilder$Hull" "edgeHigh" "[I", Cond.arrayClass .long, Cond.fieldLink RX1 39 "HullBuilder$Hull" "moments" "[J", Cond.instanceMethod yX0_init, Cond.code yX0_init cX0_init 1 none, Cond.methodLink RX0 3 objectInit, Cond.fieldLink RX0 9 "HullBuilder$Face" "ring" "[I"]
def wsX3_init : List Cond := .code yX3_init cX3_init 1 none :: ((wsX3_init_r1 ++ wsX3_init_r2) ++ wsX20 ++ wsX30 ++ wsX10 ++ wsX00)
def wsX3_isWithin : List Cond := .code yX3_isWithin cX3_isWithin 2 (some .boolean) :: ([])
def wsX3_requireReach : List Cond := .code yX3_requireReach cX3_requireReach 4 none :: ([.classLink RX3 35 "java/lang/IllegalArgumentException", .initialized "java/lang/IllegalArgumentException", .methodLink RX3 168 yX3_isWithin, .static yX3_isWithin, .initialized RX3, .code yX3_isWithin cX3_isWithin 2 (some .boolean)] ++ (vx_atS RX3 39 "java/lang/IllegalArgumentException" ["java/lang/RuntimeException", "java/lang/Exception"]).filter goodWord)
def wsX3_point : List Cond := .code yX3_point cX3_point 4 (some .int) :: ([.classLink RX3 35 "java/lang/IllegalArgumentException", .initialized "java/lang/IllegalArgumentException", .classLink RX3 45 "java/lang/IllegalStateException", .initialized "java/lang/IllegalStateException", .fieldLink RX3 12 "HullBuilder" "points" "LHullBuilder$Points;", .methodLink RX3 27 yX3_requireReach, .static yX3_requireReach, .initialized RX3, .code yX3_requireReach cX3_requireReach 4 none, .methodLink RX3 168 yX3_isWithin, .static yX3_isWithin, .code yX3_isWithin cX3_isWithin 2 (some .boolean), .instanceMethod yX2_isTaken, .initialized RX2, .selects RX2 yX2_isTaken yX2_isTaken, .code yX2_isTaken cX2_isTaken 5 (some .boolean), .fieldLink RX2 21 "HullBuilder$Points" "size" "I", .fieldLink RX2 9 "HullBuilder$Points" "xs" "[I", .fieldLink RX2 15 "HullBuilder$Points" "ys" "[I", .fieldLink RX2 18 "HullBuilder$Points" "zs" "[I", .instanceMethod yX2_append, .selects RX2 yX2_append yX2_append, .code yX2_append cX2_append 4 (some .int)] ++ wsX30 ++ wsX20 ++ (vx_atS RX3 39 "java/lang/IllegalArgumentException" ["java/lang/RuntimeException", "java/lang/Exception"]).filter goodWord ++ (vx_atS RX3 49 "java/lang/IllegalStateException" ["java/lang/RuntimeException", "java/lang/Exception"]).filter goodWord)
def wsX3_requirePlace : List Cond := .code yX3_requirePlace cX3_requirePlace 2 none :: ([.classLink RX3 153 "java/lang/IndexOutOfBoundsException", .initialized "java/lang/IndexOutOfBoundsException"] ++ (vx_atS RX3 157 "java/lang/IndexOutOfBoundsException" ["java/lang/RuntimeException", "java/lang/Exception"]).filter goodWord)
def wsX3_take : List Cond := .code yX3_take cX3_take 2 (some .int) :: ([.fieldLink RX3 12 "HullBuilder" "points" "LHullBuilder$Points;", .methodLink RX3 54 yX3_requirePlace, .static yX3_requirePlace, .initialized RX3, .code yX3_requirePlace cX3_requirePlace 2 none, .classLink RX3 153 "java/lang/IndexOutOfBoundsException", .initialized "java/lang/IndexOutOfBoundsException", .instanceMethod yX2_remove, .initialized RX2, .selects RX2 yX2_remove yX2_remove, .code yX2_remove cX2_remove 3 none, .fieldLink RX2 21 "HullBuilder$Points" "size" "I", .fieldLink RX2 9 "HullBuilder$Points" "xs" "[I", .fieldLink RX2 15 "HullBuilder$Points" "ys" "[I", .fieldLink RX2 18 "HullBuilder$Points" "zs" "[I"] ++ wsX30 ++ wsX20 ++ (vx_atS RX3 157 "java/lang/IndexOutOfBoundsException" ["java/lang/RuntimeException", "java/lang/Exception"]).filter goodWord)
def wsX3_build_r1 : List Cond := [Cond.classLink RX3 45 "java/lang/IllegalStateException", Cond.initialized "java/lang/IllegalStateException", Cond.fieldLink RX3 19 "HullBuilder" "hull" "LHullBuilder$Hull;", Cond.fieldLink RX3 12 "HullBuilder" "points" "LHullBuilder$Points;", Cond.fieldLink RX3 23 "HullBuilder" "hullsBuilt" "I", Cond.instanceMethod yX1_wouldBeFlat, Cond.initialized RX1, Cond.selects RX1 yX1_wouldBeFlat yX1_wouldBeFlat, Cond.code yX1_wouldBeFlat cX1_wouldBeFlat 3 (some .boolean), Cond.fieldLink RX1 25 "HullBuilder$Hull" "trial" "LHullBuilder$Face;", Cond.instanceMethod yX0_layThrough, Cond.initialized RX0, Cond.selects RX0 yX0_layThrough yX0_layThrough, Cond.code yX0_layThrough cX0_layThrough 5 (some .boolean), Cond.fieldLink RX0 27 "HullBuilder$Face" "nx" "J", Cond.fieldLink RX0 34 "HullBuilder$Face" "ny" "J", Cond.fieldLink RX0 37 "HullBuilder$Face" "nz" "J", Cond.fieldLink RX0 40 "HullBuilder$Face" "distance" "J", Cond.static yX3_across, Cond.initialized RX3, Cond.code yX3_across cX3_across 5 (some .long), Cond.instanceMethod yX0_holdsAll, Cond.selects RX0 yX0_holdsAll yX0_holdsAll, Cond.code yX0_holdsAll cX0_holdsAll 3 (some .boolean)]
def wsX3_build_r2 : List Cond := [Cond.methodLink RX0 47 yX0_heightOf, Cond.instanceMethod yX0_heightOf, Cond.selects RX0 yX0_heightOf yX0_heightOf, Cond.code yX0_heightOf cX0_heightOf 7 (some .long), Cond.instanceMethod yX1_wrap, Cond.selects RX1 yX1_wrap yX1_wrap, Cond.code yX1_wrap cX1_wrap 3 none, Cond.fieldLink RX1 12 "HullBuilder$Hull" "at" "LHullBuilder$Points;", Cond.fieldLink RX1 65 "HullBuilder$Hull" "faceCount" "I", Cond.fieldLink RX1 20 "HullBuilder$Hull" "faces" "[LHullBuilder$Face;", Cond.fieldLink RX1 68 "HullBuilder$Hull" "corners" "I", Cond.instanceMethod yX2_copyFrom, Cond.initialized RX2, Cond.selects RX2 yX2_copyFrom yX2_copyFrom, Cond.code yX2_copyFrom cX2_copyFrom 3 none, Cond.fieldLink RX2 21 "HullBuilder$Points" "size" "I", Cond.fieldLink RX2 9 "HullBuilder$Points" "xs" "[I", Cond.fieldLink RX2 15 "HullBuilder$Points" "ys" "[I", Cond.fieldLink RX2 18 "HullBuilder$Points" "zs" "[I", Cond.methodLink RX1 59 yX1_findFaces, Cond.instanceMethod yX1_findFaces, Cond.selects RX1 yX1_findFaces yX1_findFaces, Cond.code yX1_findFaces cX1_findFaces 4 none, Cond.methodLink RX1 84 yX1_tryPlane]
def wsX3_build_r3 : List Cond := [Cond.instanceMethod yX1_tryPlane, Cond.selects RX1 yX1_tryPlane yX1_tryPlane, Cond.code yX1_tryPlane cX1_tryPlane 5 none, Cond.methodLink RX1 88 yX1_lieInOneFace, Cond.instanceMethod yX1_lieInOneFace, Cond.selects RX1 yX1_lieInOneFace yX1_lieInOneFace, Cond.code yX1_lieInOneFace cX1_lieInOneFace 3 (some .boolean), Cond.instanceMethod yX0_turnOutside, Cond.selects RX0 yX0_turnOutside yX0_turnOutside, Cond.code yX0_turnOutside cX0_turnOutside 7 (some .boolean), Cond.fieldLink RX0 51 "HullBuilder$Face" "held" "I", Cond.instanceMethod yX0_shortenNormal, Cond.selects RX0 yX0_shortenNormal yX0_shortenNormal, Cond.code yX0_shortenNormal cX0_shortenNormal 3 none, Cond.static yX3_commonFactor, Cond.code yX3_commonFactor cX3_commonFactor 7 (some .long), Cond.methodLink RX1 62 yX1_findCorners, Cond.instanceMethod yX1_findCorners, Cond.selects RX1 yX1_findCorners yX1_findCorners, Cond.code yX1_findCorners cX1_findCorners 4 none, Cond.static yX3_holds, Cond.code yX3_holds cX3_holds 2 (some .boolean), Cond.instanceMethod yX0_goRound, Cond.selects RX0 yX0_goRound yX0_goRound]
def wsX3_build_r4 : List Cond := [Cond.code yX0_goRound cX0_goRound 6 none, Cond.fieldLink RX0 64 "HullBuilder$Face" "size" "I", Cond.fieldLink RX0 9 "HullBuilder$Face" "ring" "[I", Cond.methodLink RX0 58 yJ6_numberOfTrailingZeros_0f7a4, Cond.static yJ6_numberOfTrailingZeros_0f7a4, Cond.initialized RJ6, Cond.code yJ6_numberOfTrailingZeros_0f7a4 cJ6_numberOfTrailingZeros_0f7a4 2 (some .int), Cond.constant RJ6 264 (65536), Cond.methodLink RX0 65 yJ6_bitCount_0f7a4, Cond.static yJ6_bitCount_0f7a4, Cond.code yJ6_bitCount_0f7a4 cJ6_bitCount_0f7a4 1 (some .int), Cond.constant RJ6 265 (1431655765), Cond.constant RJ6 266 (858993459), Cond.constant RJ6 267 (252645135), Cond.methodLink RX0 68 yX0_nextRound, Cond.instanceMethod yX0_nextRound, Cond.selects RX0 yX0_nextRound yX0_nextRound, Cond.code yX0_nextRound cX0_nextRound 6 (some .int), Cond.methodLink RX0 76 yX0_isRight, Cond.instanceMethod yX0_isRight, Cond.selects RX0 yX0_isRight yX0_isRight, Cond.code yX0_isRight cX0_isRight 5 (some .boolean), Cond.methodLink RX1 75 yX1_orderFaces, Cond.instanceMethod yX1_orderFaces]
def wsX3_build_r5 : List Cond := [Cond.selects RX1 yX1_orderFaces yX1_orderFaces, Cond.code yX1_orderFaces cX1_orderFaces 4 none, Cond.instanceMethod yX0_rank, Cond.selects RX0 yX0_rank yX0_rank, Cond.code yX0_rank cX0_rank 1 (some .int), Cond.static yX3_way, Cond.code yX3_way cX3_way 2 (some .int), Cond.methodLink RX1 78 yX1_findEdges, Cond.instanceMethod yX1_findEdges, Cond.selects RX1 yX1_findEdges yX1_findEdges, Cond.code yX1_findEdges cX1_findEdges 3 none, Cond.fieldLink RX1 112 "HullBuilder$Hull" "edgeCount" "I", Cond.fieldLink RX1 29 "HullBuilder$Hull" "faceAlong" "[I", Cond.fieldLink RX1 33 "HullBuilder$Hull" "edgeLow" "[I", Cond.fieldLink RX1 36 "HullBuilder$Hull" "edgeHigh" "[I", Cond.methodLink RX1 109 yX1_noteWays, Cond.instanceMethod yX1_noteWays, Cond.selects RX1 yX1_noteWays yX1_noteWays, Cond.code yX1_noteWays cX1_noteWays 5 none, Cond.methodLink RX1 119 yJ7_fill_53178, Cond.static yJ7_fill_53178, Cond.initialized RJ7, Cond.code yJ7_fill_53178 cJ7_fill_53178 4 none, Cond.methodLink RX1 81 yX1_measure]
def wsX3_build_r6 : List Cond := [Cond.instanceMethod yX1_measure, Cond.selects RX1 yX1_measure yX1_measure, Cond.code yX1_measure cX1_measure 4 none, Cond.fieldLink RX1 129 "HullBuilder$Hull" "sixVolumes" "J", Cond.fieldLink RX1 39 "HullBuilder$Hull" "moments" "[J", Cond.methodLink RX1 133 yJ7_fill_d0a16, Cond.static yJ7_fill_d0a16, Cond.code yJ7_fill_d0a16 cJ7_fill_d0a16 5 none, Cond.methodLink RX1 136 yX1_addTetrahedron, Cond.instanceMethod yX1_addTetrahedron, Cond.selects RX1 yX1_addTetrahedron yX1_addTetrahedron, Cond.code yX1_addTetrahedron cX1_addTetrahedron 6 none]
def wsX3_build : List Cond := .code yX3_build cX3_build 1 (some .int) :: ((wsX3_build_r1 ++ (wsX3_build_r2 ++ (wsX3_build_r3 ++ (wsX3_build_r4 ++ (wsX3_build_r5 ++ wsX3_build_r6))))) ++ wsX30 ++ wsX10 ++ wsX20 ++ wsX00 ++ (vx_atS RX3 49 "java/lang/IllegalStateException" ["java/lang/RuntimeException", "java/lang/Exception"]).filter goodWord)
def wsX3_of : List Cond := .code yX3_of cX3_of 3 (some .int) :: ([.fieldLink RX3 12 "HullBuilder" "points" "LHullBuilder$Points;", .methodLink RX3 54 yX3_requirePlace, .static yX3_requirePlace, .initialized RX3, .code yX3_requirePlace cX3_requirePlace 2 none, .classLink RX3 153 "java/lang/IndexOutOfBoundsException", .initialized "java/lang/IndexOutOfBoundsException", .instanceMethod yX2_coordinate, .initialized RX2, .selects RX2 yX2_coordinate yX2_coordinate, .code yX2_coordinate cX2_coordinate 3 (some .int), .fieldLink RX2 9 "HullBuilder$Points" "xs" "[I", .fieldLink RX2 15 "HullBuilder$Points" "ys" "[I", .fieldLink RX2 18 "HullBuilder$Points" "zs" "[I"] ++ wsX30 ++ wsX20 ++ (vx_atS RX3 157 "java/lang/IndexOutOfBoundsException" ["java/lang/RuntimeException", "java/lang/Exception"]).filter goodWord)
def wsX3_requireHull : List Cond := .code yX3_requireHull cX3_requireHull 1 none :: ([.classLink RX3 45 "java/lang/IllegalStateException", .initialized "java/lang/IllegalStateException", .fieldLink RX3 19 "HullBuilder" "hull" "LHullBuilder$Hull;"] ++ wsX30 ++ wsX10 ++ (vx_atS RX3 49 "java/lang/IllegalStateException" ["java/lang/RuntimeException", "java/lang/Exception"]).filter goodWord)
def wsX3_face : List Cond := .code yX3_face cX3_face 4 (some .int) :: ([.fieldLink RX3 19 "HullBuilder" "hull" "LHullBuilder$Hull;", .methodLink RX3 79 yX3_requireHull, .instanceMethod yX3_requireHull, .selects RX3 yX3_requireHull yX3_requireHull, .initialized RX3, .code yX3_requireHull cX3_requireHull 1 none, .classLink RX3 45 "java/lang/IllegalStateException", .initialized "java/lang/IllegalStateException", .methodLink RX3 54 yX3_requirePlace, .static yX3_requirePlace, .code yX3_requirePlace cX3_requirePlace 2 none, .classLink RX3 153 "java/lang/IndexOutOfBoundsException", .initialized "java/lang/IndexOutOfBoundsException"] ++ wsX30 ++ wsX10 ++ wsX00 ++ (vx_atS RX3 49 "java/lang/IllegalStateException" ["java/lang/RuntimeException", "java/lang/Exception"]).filter goodWord ++ (vx_atS RX3 157 "java/lang/IndexOutOfBoundsException" ["java/lang/RuntimeException", "java/lang/Exception"]).filter goodWord)
def wsX3_offset : List Cond := .code yX3_offset cX3_offset 2 (some .long) :: ([.fieldLink RX3 19 "HullBuilder" "hull" "LHullBuilder$Hull;", .methodLink RX3 79 yX3_requireHull, .instanceMethod yX3_requireHull, .selects RX3 yX3_requireHull yX3_requireHull, .initialized RX3, .code yX3_requireHull cX3_requireHull 1 none, .classLink RX3 45 "java/lang/IllegalStateException", .initialized "java/lang/IllegalStateException", .methodLink RX3 54 yX3_requirePlace, .static yX3_requirePlace, .code yX3_requirePlace cX3_requirePlace 2 none, .classLink RX3 153 "java/lang/IndexOutOfBoundsException", .initialized "java/lang/IndexOutOfBoundsException"] ++ wsX30 ++ wsX10 ++ wsX00 ++ (vx_atS RX3 49 "java/lang/IllegalStateException" ["java/lang/RuntimeException", "java/lang/Exception"]).filter goodWord ++ (vx_atS RX3 157 "java/lang/IndexOutOfBoundsException" ["java/lang/RuntimeException", "java/lang/Exception"]).filter goodWord)
def wsX3_corner : List Cond := .code yX3_corner cX3_corner 3 (some .int) :: ([.fieldLink RX3 19 "HullBuilder" "hull" "LHullBuilder$Hull;", .methodLink RX3 79 yX3_requireHull, .instanceMethod yX3_requireHull, .selects RX3 yX3_requireHull yX3_requireHull, .initialized RX3, .code yX3_requireHull cX3_requireHull 1 none, .classLink RX3 45 "java/lang/IllegalStateException", .initialized "java/lang/IllegalStateException", .methodLink RX3 54 yX3_requirePlace, .static yX3_requirePlace, .code yX3_requirePlace cX3_requirePlace 2 none, .classLink RX3 153 "java/lang/IndexOutOfBoundsException", .initialized "java/lang/IndexOutOfBoundsException"] ++ wsX30 ++ wsX10 ++ wsX00 ++ (vx_atS RX3 49 "java/lang/IllegalStateException" ["java/lang/RuntimeException", "java/lang/Exception"]).filter goodWord ++ (vx_atS RX3 157 "java/lang/IndexOutOfBoundsException" ["java/lang/RuntimeException", "java/lang/Exception"]).filter goodWord)
def wsX3_edge : List Cond := .code yX3_edge cX3_edge 5 (some .int) :: ([.fieldLink RX3 19 "HullBuilder" "hull" "LHullBuilder$Hull;", .methodLink RX3 79 yX3_requireHull, .instanceMethod yX3_requireHull, .selects RX3 yX3_requireHull yX3_requireHull, .initialized RX3, .code yX3_requireHull cX3_requireHull 1 none, .classLink RX3 45 "java/lang/IllegalStateException", .initialized "java/lang/IllegalStateException", .methodLink RX3 54 yX3_requirePlace, .static yX3_requirePlace, .code yX3_requirePlace cX3_requirePlace 2 none, .classLink RX3 153 "java/lang/IndexOutOfBoundsException", .initialized "java/lang/IndexOutOfBoundsException", .methodLink RX3 118 yX3_way, .static yX3_way, .code yX3_way cX3_way 2 (some .int)] ++ wsX30 ++ wsX10 ++ (vx_atS RX3 49 "java/lang/IllegalStateException" ["java/lang/RuntimeException", "java/lang/Exception"]).filter goodWord ++ (vx_atS RX3 157 "java/lang/IndexOutOfBoundsException" ["java/lang/RuntimeException", "java/lang/Exception"]).filter goodWord)
def wsX3_support_r1 : List Cond := [Cond.constant RX3 121 (65536), Cond.fieldLink RX3 19 "HullBuilder" "hull" "LHullBuilder$Hull;", Cond.methodLink RX3 79 yX3_requireHull, Cond.instanceMethod yX3_requireHull, Cond.selects RX3 yX3_requireHull yX3_requireHull, Cond.initialized RX3, Cond.code yX3_requireHull cX3_requireHull 1 none, Cond.classLink RX3 45 "java/lang/IllegalStateException", Cond.initialized "java/lang/IllegalStateException", Cond.methodLink RX3 27 yX3_requireReach, Cond.static yX3_requireReach, Cond.code yX3_requireReach cX3_requireReach 4 none, Cond.classLink RX3 35 "java/lang/IllegalArgumentException", Cond.initialized "java/lang/IllegalArgumentException", Cond.methodLink RX3 168 yX3_isWithin, Cond.static yX3_isWithin, Cond.code yX3_isWithin cX3_isWithin 2 (some .boolean), Cond.instanceMethod yX1_furthest, Cond.initialized RX1, Cond.selects RX1 yX1_furthest yX1_furthest, Cond.code yX1_furthest cX1_furthest 13 (some .int), Cond.fieldLink RX1 12 "HullBuilder$Hull" "at" "LHullBuilder$Points;", Cond.fieldLink RX1 68 "HullBuilder$Hull" "corners" "I", Cond.static yX3_holds]
def wsX3_support_r2 : List Cond := [Cond.code yX3_holds cX3_holds 2 (some .boolean)]
def wsX3_support : List Cond := .code yX3_support cX3_support 4 (some .int) :: ((wsX3_support_r1 ++ wsX3_support_r2) ++ wsX30 ++ wsX10 ++ wsX20 ++ (vx_atS RX3 49 "java/lang/IllegalStateException" ["java/lang/RuntimeException", "java/lang/Exception"]).filter goodWord ++ (vx_atS RX3 39 "java/lang/IllegalArgumentException" ["java/lang/RuntimeException", "java/lang/Exception"]).filter goodWord)
def wsX3_requireCorner : List Cond := .code yX3_requireCorner cX3_requireCorner 2 none :: ([.classLink RX3 153 "java/lang/IndexOutOfBoundsException", .initialized "java/lang/IndexOutOfBoundsException", .fieldLink RX3 19 "HullBuilder" "hull" "LHullBuilder$Hull;", .methodLink RX3 54 yX3_requirePlace, .static yX3_requirePlace, .initialized RX3, .code yX3_requirePlace cX3_requirePlace 2 none, .methodLink RX3 160 yX3_holds, .static yX3_holds, .code yX3_holds cX3_holds 2 (some .boolean)] ++ wsX30 ++ wsX10 ++ (vx_atS RX3 157 "java/lang/IndexOutOfBoundsException" ["java/lang/RuntimeException", "java/lang/Exception"]).filter goodWord)
def wsX3_steps_r1 : List Cond := [Cond.fieldLink RX3 19 "HullBuilder" "hull" "LHullBuilder$Hull;", Cond.methodLink RX3 79 yX3_requireHull, Cond.instanceMethod yX3_requireHull, Cond.selects RX3 yX3_requireHull yX3_requireHull, Cond.initialized RX3, Cond.code yX3_requireHull cX3_requireHull 1 none, Cond.classLink RX3 45 "java/lang/IllegalStateException", Cond.initialized "java/lang/IllegalStateException", Cond.methodLink RX3 126 yX3_requireCorner, Cond.instanceMethod yX3_requireCorner, Cond.selects RX3 yX3_requireCorner yX3_requireCorner, Cond.code yX3_requireCorner cX3_requireCorner 2 none, Cond.classLink RX3 153 "java/lang/IndexOutOfBoundsException", Cond.initialized "java/lang/IndexOutOfBoundsException", Cond.methodLink RX3 54 yX3_requirePlace, Cond.static yX3_requirePlace, Cond.code yX3_requirePlace cX3_requirePlace 2 none, Cond.methodLink RX3 160 yX3_holds, Cond.static yX3_holds, Cond.code yX3_holds cX3_holds 2 (some .boolean), Cond.instanceMethod yX1_walk, Cond.initialized RX1, Cond.selects RX1 yX1_walk yX1_walk, Cond.code yX1_walk cX1_walk 5 (some .int)]
def wsX3_steps_r2 : List Cond := [Cond.methodLink RX1 148 yX1_stepFrom, Cond.instanceMethod yX1_stepFrom, Cond.selects RX1 yX1_stepFrom yX1_stepFrom, Cond.code yX1_stepFrom cX1_stepFrom 5 (some .int), Cond.fieldLink RX1 112 "HullBuilder$Hull" "edgeCount" "I", Cond.fieldLink RX1 33 "HullBuilder$Hull" "edgeLow" "[I", Cond.fieldLink RX1 36 "HullBuilder$Hull" "edgeHigh" "[I"]
def wsX3_steps : List Cond := .code yX3_steps cX3_steps 3 (some .int) :: ((wsX3_steps_r1 ++ wsX3_steps_r2) ++ wsX30 ++ wsX10 ++ (vx_atS RX3 49 "java/lang/IllegalStateException" ["java/lang/RuntimeException", "java/lang/Exception"]).filter goodWord ++ (vx_atS RX3 157 "java/lang/IndexOutOfBoundsException" ["java/lang/RuntimeException", "java/lang/Exception"]).filter goodWord)
def wsX3_side_r1 : List Cond := [Cond.constant RX3 121 (65536), Cond.fieldLink RX3 19 "HullBuilder" "hull" "LHullBuilder$Hull;", Cond.methodLink RX3 79 yX3_requireHull, Cond.instanceMethod yX3_requireHull, Cond.selects RX3 yX3_requireHull yX3_requireHull, Cond.initialized RX3, Cond.code yX3_requireHull cX3_requireHull 1 none, Cond.classLink RX3 45 "java/lang/IllegalStateException", Cond.initialized "java/lang/IllegalStateException", Cond.methodLink RX3 27 yX3_requireReach, Cond.static yX3_requireReach, Cond.code yX3_requireReach cX3_requireReach 4 none, Cond.classLink RX3 35 "java/lang/IllegalArgumentException", Cond.initialized "java/lang/IllegalArgumentException", Cond.methodLink RX3 168 yX3_isWithin, Cond.static yX3_isWithin, Cond.code yX3_isWithin cX3_isWithin 2 (some .boolean), Cond.instanceMethod yX1_locate, Cond.initialized RX1, Cond.selects RX1 yX1_locate yX1_locate, Cond.code yX1_locate cX1_locate 8 (some .int), Cond.fieldLink RX1 65 "HullBuilder$Hull" "faceCount" "I", Cond.fieldLink RX1 20 "HullBuilder$Hull" "faces" "[LHullBuilder$Face;", Cond.instanceMethod yX0_heightOf]
def wsX3_side_r2 : List Cond := [Cond.initialized RX0, Cond.selects RX0 yX0_heightOf yX0_heightOf, Cond.code yX0_heightOf cX0_heightOf 7 (some .long), Cond.fieldLink RX0 27 "HullBuilder$Face" "nx" "J", Cond.fieldLink RX0 34 "HullBuilder$Face" "ny" "J", Cond.fieldLink RX0 37 "HullBuilder$Face" "nz" "J", Cond.fieldLink RX0 40 "HullBuilder$Face" "distance" "J"]
def wsX3_side : List Cond := .code yX3_side cX3_side 4 (some .int) :: ((wsX3_side_r1 ++ wsX3_side_r2) ++ wsX30 ++ wsX10 ++ wsX00 ++ (vx_atS RX3 49 "java/lang/IllegalStateException" ["java/lang/RuntimeException", "java/lang/Exception"]).filter goodWord ++ (vx_atS RX3 39 "java/lang/IllegalArgumentException" ["java/lang/RuntimeException", "java/lang/Exception"]).filter goodWord)
def wsX3_volume : List Cond := .code yX3_volume cX3_volume 1 (some .long) :: ([.fieldLink RX3 19 "HullBuilder" "hull" "LHullBuilder$Hull;", .methodLink RX3 79 yX3_requireHull, .instanceMethod yX3_requireHull, .selects RX3 yX3_requireHull yX3_requireHull, .initialized RX3, .code yX3_requireHull cX3_requireHull 1 none, .classLink RX3 45 "java/lang/IllegalStateException", .initialized "java/lang/IllegalStateException"] ++ wsX30 ++ wsX10 ++ (vx_atS RX3 49 "java/lang/IllegalStateException" ["java/lang/RuntimeException", "java/lang/Exception"]).filter goodWord)
def wsX3_centre : List Cond := .code yX3_centre cX3_centre 2 (some .long) :: ([.fieldLink RX3 19 "HullBuilder" "hull" "LHullBuilder$Hull;", .methodLink RX3 79 yX3_requireHull, .instanceMethod yX3_requireHull, .selects RX3 yX3_requireHull yX3_requireHull, .initialized RX3, .code yX3_requireHull cX3_requireHull 1 none, .classLink RX3 45 "java/lang/IllegalStateException", .initialized "java/lang/IllegalStateException", .methodLink RX3 54 yX3_requirePlace, .static yX3_requirePlace, .code yX3_requirePlace cX3_requirePlace 2 none, .classLink RX3 153 "java/lang/IndexOutOfBoundsException", .initialized "java/lang/IndexOutOfBoundsException"] ++ wsX30 ++ wsX10 ++ (vx_atS RX3 49 "java/lang/IllegalStateException" ["java/lang/RuntimeException", "java/lang/Exception"]).filter goodWord ++ (vx_atS RX3 157 "java/lang/IndexOutOfBoundsException" ["java/lang/RuntimeException", "java/lang/Exception"]).filter goodWord)
def wsX3_middle : List Cond := .code yX3_middle cX3_middle 4 (some .double) :: ([.constantDouble RX3 142 (4616189618054758400), .fieldLink RX3 19 "HullBuilder" "hull" "LHullBuilder$Hull;", .methodLink RX3 79 yX3_requireHull, .instanceMethod yX3_requireHull, .selects RX3 yX3_requireHull yX3_requireHull, .initialized RX3, .code yX3_requireHull cX3_requireHull 1 none, .classLink RX3 45 "java/lang/IllegalStateException", .initialized "java/lang/IllegalStateException", .methodLink RX3 54 yX3_requirePlace, .static yX3_requirePlace, .code yX3_requirePlace cX3_requirePlace 2 none, .classLink RX3 153 "java/lang/IndexOutOfBoundsException", .initialized "java/lang/IndexOutOfBoundsException"] ++ wsX30 ++ wsX10 ++ (vx_atS RX3 49 "java/lang/IllegalStateException" ["java/lang/RuntimeException", "java/lang/Exception"]).filter goodWord ++ (vx_atS RX3 157 "java/lang/IndexOutOfBoundsException" ["java/lang/RuntimeException", "java/lang/Exception"]).filter goodWord)
def wsX3_count : List Cond := .code yX3_count cX3_count 2 (some .int) :: ([.classLink RX3 153 "java/lang/IndexOutOfBoundsException", .initialized "java/lang/IndexOutOfBoundsException", .fieldLink RX3 12 "HullBuilder" "points" "LHullBuilder$Points;", .fieldLink RX3 19 "HullBuilder" "hull" "LHullBuilder$Hull;", .fieldLink RX3 23 "HullBuilder" "hullsBuilt" "I", .methodLink RX3 147 yJ6_bitCount_0f7a4, .static yJ6_bitCount_0f7a4, .initialized RJ6, .code yJ6_bitCount_0f7a4 cJ6_bitCount_0f7a4 1 (some .int), .constant RJ6 265 (1431655765), .constant RJ6 266 (858993459), .constant RJ6 267 (252645135)] ++ wsX30 ++ wsX20 ++ wsX10 ++ (vx_atS RX3 157 "java/lang/IndexOutOfBoundsException" ["java/lang/RuntimeException", "java/lang/Exception"]).filter goodWord)
def wsX4_init : List Cond := .code yX4_init cX4_init 1 none :: ([.methodLink RX4 1 objectInit, .instanceMethod objectInit, .code objectInit ⟨#[0xb1]⟩ 1 none, .arrayClass .int, .fieldLink RX4 7 "HullBuilderModel" "xs" "[I", .fieldLink RX4 13 "HullBuilderModel" "ys" "[I", .fieldLink RX4 16 "HullBuilderModel" "zs" "[I", .arrayClass .long, .fieldLink RX4 19 "HullBuilderModel" "hx" "[J", .fieldLink RX4 23 "HullBuilderModel" "hy" "[J", .fieldLink RX4 26 "HullBuilderModel" "hz" "[J", .fieldLink RX4 29 "HullBuilderModel" "nx" "[J", .fieldLink RX4 32 "HullBuilderModel" "ny" "[J", .fieldLink RX4 35 "HullBuilderModel" "nz" "[J", .fieldLink RX4 38 "HullBuilderModel" "offsets" "[J", .fieldLink RX4 41 "HullBuilderModel" "sizes" "[I", .fieldLink RX4 44 "HullBuilderModel" "corners" "[I", .fieldLink RX4 47 "HullBuilderModel" "order" "[I", .fieldLink RX4 50 "HullBuilderModel" "ends" "[I", .fieldLink RX4 53 "HullBuilderModel" "lefts" "[I", .fieldLink RX4 56 "HullBuilderModel" "rights" "[I", .fieldLink RX4 59 "HullBuilderModel" "far" "[I"] ++ wsX40)
def wsX4_thrown : List Cond := .code yX4_thrown cX4_thrown 1 (some .int) :: ([.fieldLink RX4 62 "HullBuilderModel" "thrown" "I"] ++ wsX40)
def wsX4_goes : List Cond := .code yX4_goes cX4_goes 3 (some .boolean) :: ([.fieldLink RX4 62 "HullBuilderModel" "thrown" "I"] ++ wsX40)
def wsX4_within : List Cond := .code yX4_within cX4_within 2 (some .boolean) :: ([])
def wsX4_taken : List Cond := .code yX4_taken cX4_taken 6 (some .boolean) :: ([.fieldLink RX4 66 "HullBuilderModel" "points" "I", .fieldLink RX4 7 "HullBuilderModel" "xs" "[I", .fieldLink RX4 13 "HullBuilderModel" "ys" "[I", .fieldLink RX4 16 "HullBuilderModel" "zs" "[I"] ++ wsX40)
def wsX4_point : List Cond := .code yX4_point cX4_point 5 (some .int) :: ([.fieldLink RX4 66 "HullBuilderModel" "points" "I", .fieldLink RX4 7 "HullBuilderModel" "xs" "[I", .fieldLink RX4 13 "HullBuilderModel" "ys" "[I", .fieldLink RX4 16 "HullBuilderModel" "zs" "[I", .methodLink RX4 69 yX4_within, .static yX4_within, .initialized RX4, .code yX4_within cX4_within 2 (some .boolean), .methodLink RX4 73 yX4_taken, .instanceMethod yX4_taken, .selects RX4 yX4_taken yX4_taken, .code yX4_taken cX4_taken 6 (some .boolean), .methodLink RX4 77 yX4_goes, .instanceMethod yX4_goes, .selects RX4 yX4_goes yX4_goes, .code yX4_goes cX4_goes 3 (some .boolean), .fieldLink RX4 62 "HullBuilderModel" "thrown" "I"] ++ wsX40)
def wsX4_take : List Cond := .code yX4_take cX4_take 3 (some .int) :: ([.fieldLink RX4 66 "HullBuilderModel" "points" "I", .fieldLink RX4 7 "HullBuilderModel" "xs" "[I", .fieldLink RX4 13 "HullBuilderModel" "ys" "[I", .fieldLink RX4 16 "HullBuilderModel" "zs" "[I", .methodLink RX4 77 yX4_goes, .instanceMethod yX4_goes, .selects RX4 yX4_goes yX4_goes, .initialized RX4, .code yX4_goes cX4_goes 3 (some .boolean), .fieldLink RX4 62 "HullBuilderModel" "thrown" "I"] ++ wsX40)
def wsX4_across : List Cond := .code yX4_across cX4_across 16 none :: ([.fieldLink RX4 19 "HullBuilderModel" "hx" "[J", .fieldLink RX4 23 "HullBuilderModel" "hy" "[J", .fieldLink RX4 26 "HullBuilderModel" "hz" "[J", .fieldLink RX4 81 "HullBuilderModel" "tx" "J", .fieldLink RX4 85 "HullBuilderModel" "ty" "J", .fieldLink RX4 88 "HullBuilderModel" "tz" "J"] ++ wsX40)
def wsX4_above : List Cond := .code yX4_above cX4_above 3 (some .long) :: ([.fieldLink RX4 81 "HullBuilderModel" "tx" "J", .fieldLink RX4 19 "HullBuilderModel" "hx" "[J", .fieldLink RX4 85 "HullBuilderModel" "ty" "J", .fieldLink RX4 23 "HullBuilderModel" "hy" "[J", .fieldLink RX4 88 "HullBuilderModel" "tz" "J", .fieldLink RX4 26 "HullBuilderModel" "hz" "[J"] ++ wsX40)
def wsX4_common : List Cond := .code yX4_common cX4_common 11 (some .long) :: ([])
def wsX4_knownFace : List Cond := .code yX4_knownFace cX4_knownFace 5 (some .boolean) :: ([.fieldLink RX4 91 "HullBuilderModel" "faces" "I", .fieldLink RX4 29 "HullBuilderModel" "nx" "[J", .fieldLink RX4 81 "HullBuilderModel" "tx" "J", .fieldLink RX4 32 "HullBuilderModel" "ny" "[J", .fieldLink RX4 85 "HullBuilderModel" "ty" "J", .fieldLink RX4 35 "HullBuilderModel" "nz" "[J", .fieldLink RX4 88 "HullBuilderModel" "tz" "J", .fieldLink RX4 38 "HullBuilderModel" "offsets" "[J"] ++ wsX40)
def wsX4_addFace : List Cond := .code yX4_addFace cX4_addFace 3 none :: ([.fieldLink RX4 29 "HullBuilderModel" "nx" "[J", .fieldLink RX4 91 "HullBuilderModel" "faces" "I", .fieldLink RX4 81 "HullBuilderModel" "tx" "J", .fieldLink RX4 32 "HullBuilderModel" "ny" "[J", .fieldLink RX4 85 "HullBuilderModel" "ty" "J", .fieldLink RX4 35 "HullBuilderModel" "nz" "[J", .fieldLink RX4 88 "HullBuilderModel" "tz" "J", .fieldLink RX4 38 "HullBuilderModel" "offsets" "[J", .methodLink RX4 115 yX4_knownFace, .instanceMethod yX4_knownFace, .selects RX4 yX4_knownFace yX4_knownFace, .initialized RX4, .code yX4_knownFace cX4_knownFace 5 (some .boolean)] ++ wsX40)
def wsX4_tries_r1 : List Cond := [Cond.fieldLink RX4 81 "HullBuilderModel" "tx" "J", Cond.fieldLink RX4 85 "HullBuilderModel" "ty" "J", Cond.fieldLink RX4 88 "HullBuilderModel" "tz" "J", Cond.fieldLink RX4 98 "HullBuilderModel" "held" "I", Cond.constantLong RX4 105 (-1), Cond.fieldLink RX4 19 "HullBuilderModel" "hx" "[J", Cond.fieldLink RX4 23 "HullBuilderModel" "hy" "[J", Cond.fieldLink RX4 26 "HullBuilderModel" "hz" "[J", Cond.methodLink RX4 94 yX4_across, Cond.instanceMethod yX4_across, Cond.selects RX4 yX4_across yX4_across, Cond.initialized RX4, Cond.code yX4_across cX4_across 16 none, Cond.methodLink RX4 101 yX4_above, Cond.instanceMethod yX4_above, Cond.selects RX4 yX4_above yX4_above, Cond.code yX4_above cX4_above 3 (some .long), Cond.methodLink RX4 107 yX4_common, Cond.static yX4_common, Cond.code yX4_common cX4_common 11 (some .long), Cond.methodLink RX4 111 yX4_addFace, Cond.instanceMethod yX4_addFace, Cond.selects RX4 yX4_addFace yX4_addFace, Cond.code yX4_addFace cX4_addFace 3 none]
def wsX4_tries_r2 : List Cond := [Cond.fieldLink RX4 29 "HullBuilderModel" "nx" "[J", Cond.fieldLink RX4 91 "HullBuilderModel" "faces" "I", Cond.fieldLink RX4 32 "HullBuilderModel" "ny" "[J", Cond.fieldLink RX4 35 "HullBuilderModel" "nz" "[J", Cond.fieldLink RX4 38 "HullBuilderModel" "offsets" "[J", Cond.methodLink RX4 115 yX4_knownFace, Cond.instanceMethod yX4_knownFace, Cond.selects RX4 yX4_knownFace yX4_knownFace, Cond.code yX4_knownFace cX4_knownFace 5 (some .boolean)]
def wsX4_tries : List Cond := .code yX4_tries cX4_tries 10 (some .boolean) :: ((wsX4_tries_r1 ++ wsX4_tries_r2) ++ wsX40)
def wsX4_in : List Cond := .code yX4_in cX4_in 3 (some .boolean) :: ([.fieldLink RX4 29 "HullBuilderModel" "nx" "[J", .fieldLink RX4 19 "HullBuilderModel" "hx" "[J", .fieldLink RX4 32 "HullBuilderModel" "ny" "[J", .fieldLink RX4 23 "HullBuilderModel" "hy" "[J", .fieldLink RX4 35 "HullBuilderModel" "nz" "[J", .fieldLink RX4 26 "HullBuilderModel" "hz" "[J", .fieldLink RX4 38 "HullBuilderModel" "offsets" "[J"] ++ wsX40)
def wsX4_goesOn : List Cond := .code yX4_goesOn cX4_goesOn 10 (some .boolean) :: ([.fieldLink RX4 98 "HullBuilderModel" "held" "I", .fieldLink RX4 81 "HullBuilderModel" "tx" "J", .fieldLink RX4 29 "HullBuilderModel" "nx" "[J", .fieldLink RX4 85 "HullBuilderModel" "ty" "J", .fieldLink RX4 32 "HullBuilderModel" "ny" "[J", .fieldLink RX4 88 "HullBuilderModel" "tz" "J", .fieldLink RX4 35 "HullBuilderModel" "nz" "[J", .fieldLink RX4 19 "HullBuilderModel" "hx" "[J", .fieldLink RX4 23 "HullBuilderModel" "hy" "[J", .fieldLink RX4 26 "HullBuilderModel" "hz" "[J", .methodLink RX4 119 yX4_in, .instanceMethod yX4_in, .selects RX4 yX4_in yX4_in, .initialized RX4, .code yX4_in cX4_in 3 (some .boolean), .fieldLink RX4 38 "HullBuilderModel" "offsets" "[J", .methodLink RX4 94 yX4_across, .instanceMethod yX4_across, .selects RX4 yX4_across yX4_across, .code yX4_across cX4_across 16 none] ++ wsX40)
def wsX4_behind : List Cond := .code yX4_behind cX4_behind 4 (some .int) :: ([.fieldLink RX4 98 "HullBuilderModel" "held" "I", .methodLink RX4 119 yX4_in, .instanceMethod yX4_in, .selects RX4 yX4_in yX4_in, .initialized RX4, .code yX4_in cX4_in 3 (some .boolean), .fieldLink RX4 29 "HullBuilderModel" "nx" "[J", .fieldLink RX4 19 "HullBuilderModel" "hx" "[J", .fieldLink RX4 32 "HullBuilderModel" "ny" "[J", .fieldLink RX4 23 "HullBuilderModel" "hy" "[J", .fieldLink RX4 35 "HullBuilderModel" "nz" "[J", .fieldLink RX4 26 "HullBuilderModel" "hz" "[J", .fieldLink RX4 38 "HullBuilderModel" "offsets" "[J", .methodLink RX4 122 yX4_goesOn, .instanceMethod yX4_goesOn, .selects RX4 yX4_goesOn yX4_goesOn, .code yX4_goesOn cX4_goesOn 10 (some .boolean), .fieldLink RX4 81 "HullBuilderModel" "tx" "J", .fieldLink RX4 85 "HullBuilderModel" "ty" "J", .fieldLink RX4 88 "HullBuilderModel" "tz" "J", .methodLink RX4 94 yX4_across, .instanceMethod yX4_across, .selects RX4 yX4_across yX4_across, .code yX4_across cX4_across 16 none] ++ wsX40)
def wsX4_walk_r1 : List Cond := [Cond.fieldLink RX4 44 "HullBuilderModel" "corners" "[I", Cond.fieldLink RX4 41 "HullBuilderModel" "sizes" "[I", Cond.methodLink RX4 119 yX4_in, Cond.instanceMethod yX4_in, Cond.selects RX4 yX4_in yX4_in, Cond.initialized RX4, Cond.code yX4_in cX4_in 3 (some .boolean), Cond.fieldLink RX4 29 "HullBuilderModel" "nx" "[J", Cond.fieldLink RX4 19 "HullBuilderModel" "hx" "[J", Cond.fieldLink RX4 32 "HullBuilderModel" "ny" "[J", Cond.fieldLink RX4 23 "HullBuilderModel" "hy" "[J", Cond.fieldLink RX4 35 "HullBuilderModel" "nz" "[J", Cond.fieldLink RX4 26 "HullBuilderModel" "hz" "[J", Cond.fieldLink RX4 38 "HullBuilderModel" "offsets" "[J", Cond.methodLink RX4 125 yX4_behind, Cond.instanceMethod yX4_behind, Cond.selects RX4 yX4_behind yX4_behind, Cond.code yX4_behind cX4_behind 4 (some .int), Cond.fieldLink RX4 98 "HullBuilderModel" "held" "I", Cond.methodLink RX4 122 yX4_goesOn, Cond.instanceMethod yX4_goesOn, Cond.selects RX4 yX4_goesOn yX4_goesOn, Cond.code yX4_goesOn cX4_goesOn 10 (some .boolean), Cond.fieldLink RX4 81 "HullBuilderModel" "tx" "J"]
def wsX4_walk_r2 : List Cond := [Cond.fieldLink RX4 85 "HullBuilderModel" "ty" "J", Cond.fieldLink RX4 88 "HullBuilderModel" "tz" "J", Cond.methodLink RX4 94 yX4_across, Cond.instanceMethod yX4_across, Cond.selects RX4 yX4_across yX4_across, Cond.code yX4_across cX4_across 16 none]
def wsX4_walk : List Cond := .code yX4_walk cX4_walk 6 none :: ((wsX4_walk_r1 ++ wsX4_walk_r2) ++ wsX40)
def wsX4_earlier : List Cond := .code yX4_earlier cX4_earlier 5 (some .boolean) :: ([.fieldLink RX4 44 "HullBuilderModel" "corners" "[I"] ++ wsX40)
def wsX4_orderFaces : List Cond := .code yX4_orderFaces cX4_orderFaces 3 none :: ([.fieldLink RX4 91 "HullBuilderModel" "faces" "I", .fieldLink RX4 47 "HullBuilderModel" "order" "[I", .methodLink RX4 129 yX4_earlier, .instanceMethod yX4_earlier, .selects RX4 yX4_earlier yX4_earlier, .initialized RX4, .code yX4_earlier cX4_earlier 5 (some .boolean), .fieldLink RX4 44 "HullBuilderModel" "corners" "[I"] ++ wsX40)
def wsX4_faceFrom : List Cond := .code yX4_faceFrom cX4_faceFrom 8 (some .int) :: ([.fieldLink RX4 91 "HullBuilderModel" "faces" "I", .fieldLink RX4 47 "HullBuilderModel" "order" "[I", .fieldLink RX4 41 "HullBuilderModel" "sizes" "[I", .fieldLink RX4 44 "HullBuilderModel" "corners" "[I"] ++ wsX40)
def wsX4_findEdges : List Cond := .code yX4_findEdges cX4_findEdges 4 none :: ([.fieldLink RX4 132 "HullBuilderModel" "edges" "I", .fieldLink RX4 98 "HullBuilderModel" "held" "I", .fieldLink RX4 50 "HullBuilderModel" "ends" "[I", .fieldLink RX4 53 "HullBuilderModel" "lefts" "[I", .fieldLink RX4 56 "HullBuilderModel" "rights" "[I", .methodLink RX4 135 yX4_faceFrom, .instanceMethod yX4_faceFrom, .selects RX4 yX4_faceFrom yX4_faceFrom, .initialized RX4, .code yX4_faceFrom cX4_faceFrom 8 (some .int), .fieldLink RX4 91 "HullBuilderModel" "faces" "I", .fieldLink RX4 47 "HullBuilderModel" "order" "[I", .fieldLink RX4 41 "HullBuilderModel" "sizes" "[I", .fieldLink RX4 44 "HullBuilderModel" "corners" "[I"] ++ wsX40)
def wsX4_volumeOf : List Cond := .code yX4_volumeOf cX4_volumeOf 23 (some .long) :: ([.fieldLink RX4 7 "HullBuilderModel" "xs" "[I", .fieldLink RX4 13 "HullBuilderModel" "ys" "[I", .fieldLink RX4 16 "HullBuilderModel" "zs" "[I"] ++ wsX40)
def wsX4_solid : List Cond := .code yX4_solid cX4_solid 6 (some .boolean) :: ([.fieldLink RX4 66 "HullBuilderModel" "points" "I", .methodLink RX4 138 yX4_volumeOf, .instanceMethod yX4_volumeOf, .selects RX4 yX4_volumeOf yX4_volumeOf, .initialized RX4, .code yX4_volumeOf cX4_volumeOf 23 (some .long), .fieldLink RX4 7 "HullBuilderModel" "xs" "[I", .fieldLink RX4 13 "HullBuilderModel" "ys" "[I", .fieldLink RX4 16 "HullBuilderModel" "zs" "[I"] ++ wsX40)
def wsX4_build_r1 : List Cond := [Cond.fieldLink RX4 66 "HullBuilderModel" "points" "I", Cond.fieldLink RX4 98 "HullBuilderModel" "held" "I", Cond.fieldLink RX4 19 "HullBuilderModel" "hx" "[J", Cond.fieldLink RX4 7 "HullBuilderModel" "xs" "[I", Cond.fieldLink RX4 23 "HullBuilderModel" "hy" "[J", Cond.fieldLink RX4 13 "HullBuilderModel" "ys" "[I", Cond.fieldLink RX4 26 "HullBuilderModel" "hz" "[J", Cond.fieldLink RX4 16 "HullBuilderModel" "zs" "[I", Cond.fieldLink RX4 91 "HullBuilderModel" "faces" "I", Cond.fieldLink RX4 159 "HullBuilderModel" "built" "Z", Cond.fieldLink RX4 163 "HullBuilderModel" "builds" "I", Cond.methodLink RX4 142 yX4_solid, Cond.instanceMethod yX4_solid, Cond.selects RX4 yX4_solid yX4_solid, Cond.initialized RX4, Cond.code yX4_solid cX4_solid 6 (some .boolean), Cond.methodLink RX4 138 yX4_volumeOf, Cond.instanceMethod yX4_volumeOf, Cond.selects RX4 yX4_volumeOf yX4_volumeOf, Cond.code yX4_volumeOf cX4_volumeOf 23 (some .long), Cond.methodLink RX4 77 yX4_goes, Cond.instanceMethod yX4_goes, Cond.selects RX4 yX4_goes yX4_goes, Cond.code yX4_goes cX4_goes 3 (some .boolean)]
def wsX4_build_r2 : List Cond := [Cond.fieldLink RX4 62 "HullBuilderModel" "thrown" "I", Cond.methodLink RX4 146 yX4_tries, Cond.instanceMethod yX4_tries, Cond.selects RX4 yX4_tries yX4_tries, Cond.code yX4_tries cX4_tries 10 (some .boolean), Cond.fieldLink RX4 81 "HullBuilderModel" "tx" "J", Cond.fieldLink RX4 85 "HullBuilderModel" "ty" "J", Cond.fieldLink RX4 88 "HullBuilderModel" "tz" "J", Cond.constantLong RX4 105 (-1), Cond.methodLink RX4 94 yX4_across, Cond.instanceMethod yX4_across, Cond.selects RX4 yX4_across yX4_across, Cond.code yX4_across cX4_across 16 none, Cond.methodLink RX4 101 yX4_above, Cond.instanceMethod yX4_above, Cond.selects RX4 yX4_above yX4_above, Cond.code yX4_above cX4_above 3 (some .long), Cond.methodLink RX4 107 yX4_common, Cond.static yX4_common, Cond.code yX4_common cX4_common 11 (some .long), Cond.methodLink RX4 111 yX4_addFace, Cond.instanceMethod yX4_addFace, Cond.selects RX4 yX4_addFace yX4_addFace, Cond.code yX4_addFace cX4_addFace 3 none]
def wsX4_build_r3 : List Cond := [Cond.fieldLink RX4 29 "HullBuilderModel" "nx" "[J", Cond.fieldLink RX4 32 "HullBuilderModel" "ny" "[J", Cond.fieldLink RX4 35 "HullBuilderModel" "nz" "[J", Cond.fieldLink RX4 38 "HullBuilderModel" "offsets" "[J", Cond.methodLink RX4 115 yX4_knownFace, Cond.instanceMethod yX4_knownFace, Cond.selects RX4 yX4_knownFace yX4_knownFace, Cond.code yX4_knownFace cX4_knownFace 5 (some .boolean), Cond.methodLink RX4 149 yX4_walk, Cond.instanceMethod yX4_walk, Cond.selects RX4 yX4_walk yX4_walk, Cond.code yX4_walk cX4_walk 6 none, Cond.fieldLink RX4 44 "HullBuilderModel" "corners" "[I", Cond.fieldLink RX4 41 "HullBuilderModel" "sizes" "[I", Cond.methodLink RX4 119 yX4_in, Cond.instanceMethod yX4_in, Cond.selects RX4 yX4_in yX4_in, Cond.code yX4_in cX4_in 3 (some .boolean), Cond.methodLink RX4 125 yX4_behind, Cond.instanceMethod yX4_behind, Cond.selects RX4 yX4_behind yX4_behind, Cond.code yX4_behind cX4_behind 4 (some .int), Cond.methodLink RX4 122 yX4_goesOn, Cond.instanceMethod yX4_goesOn]
def wsX4_build_r4 : List Cond := [Cond.selects RX4 yX4_goesOn yX4_goesOn, Cond.code yX4_goesOn cX4_goesOn 10 (some .boolean), Cond.methodLink RX4 153 yX4_orderFaces, Cond.instanceMethod yX4_orderFaces, Cond.selects RX4 yX4_orderFaces yX4_orderFaces, Cond.code yX4_orderFaces cX4_orderFaces 3 none, Cond.fieldLink RX4 47 "HullBuilderModel" "order" "[I", Cond.methodLink RX4 129 yX4_earlier, Cond.instanceMethod yX4_earlier, Cond.selects RX4 yX4_earlier yX4_earlier, Cond.code yX4_earlier cX4_earlier 5 (some .boolean), Cond.methodLink RX4 156 yX4_findEdges, Cond.instanceMethod yX4_findEdges, Cond.selects RX4 yX4_findEdges yX4_findEdges, Cond.code yX4_findEdges cX4_findEdges 4 none, Cond.fieldLink RX4 132 "HullBuilderModel" "edges" "I", Cond.fieldLink RX4 50 "HullBuilderModel" "ends" "[I", Cond.fieldLink RX4 53 "HullBuilderModel" "lefts" "[I", Cond.fieldLink RX4 56 "HullBuilderModel" "rights" "[I", Cond.methodLink RX4 135 yX4_faceFrom, Cond.instanceMethod yX4_faceFrom, Cond.selects RX4 yX4_faceFrom yX4_faceFrom, Cond.code yX4_faceFrom cX4_faceFrom 8 (some .int)]
def wsX4_build : List Cond := .code yX4_build cX4_build 5 (some .int) :: ((wsX4_build_r1 ++ (wsX4_build_r2 ++ (wsX4_build_r3 ++ wsX4_build_r4))) ++ wsX40)
def wsX4_of : List Cond := .code yX4_of cX4_of 3 (some .int) :: ([.fieldLink RX4 66 "HullBuilderModel" "points" "I", .fieldLink RX4 7 "HullBuilderModel" "xs" "[I", .fieldLink RX4 13 "HullBuilderModel" "ys" "[I", .fieldLink RX4 16 "HullBuilderModel" "zs" "[I", .methodLink RX4 77 yX4_goes, .instanceMethod yX4_goes, .selects RX4 yX4_goes yX4_goes, .initialized RX4, .code yX4_goes cX4_goes 3 (some .boolean), .fieldLink RX4 62 "HullBuilderModel" "thrown" "I"] ++ wsX40)
def wsX4_there : List Cond := .code yX4_there cX4_there 2 (some .boolean) :: ([.fieldLink RX4 91 "HullBuilderModel" "faces" "I"] ++ wsX40)
def wsX4_face : List Cond := .code yX4_face cX4_face 4 (some .int) :: ([.fieldLink RX4 159 "HullBuilderModel" "built" "Z", .fieldLink RX4 47 "HullBuilderModel" "order" "[I", .fieldLink RX4 41 "HullBuilderModel" "sizes" "[I", .fieldLink RX4 29 "HullBuilderModel" "nx" "[J", .fieldLink RX4 32 "HullBuilderModel" "ny" "[J", .fieldLink RX4 35 "HullBuilderModel" "nz" "[J", .methodLink RX4 166 yX4_there, .instanceMethod yX4_there, .selects RX4 yX4_there yX4_there, .initialized RX4, .code yX4_there cX4_there 2 (some .boolean), .fieldLink RX4 91 "HullBuilderModel" "faces" "I", .methodLink RX4 77 yX4_goes, .instanceMethod yX4_goes, .selects RX4 yX4_goes yX4_goes, .code yX4_goes cX4_goes 3 (some .boolean), .fieldLink RX4 62 "HullBuilderModel" "thrown" "I"] ++ wsX40)
def wsX4_offset : List Cond := .code yX4_offset cX4_offset 2 (some .long) :: ([.fieldLink RX4 159 "HullBuilderModel" "built" "Z", .fieldLink RX4 38 "HullBuilderModel" "offsets" "[J", .fieldLink RX4 47 "HullBuilderModel" "order" "[I", .methodLink RX4 166 yX4_there, .instanceMethod yX4_there, .selects RX4 yX4_there yX4_there, .initialized RX4, .code yX4_there cX4_there 2 (some .boolean), .fieldLink RX4 91 "HullBuilderModel" "faces" "I", .methodLink RX4 77 yX4_goes, .instanceMethod yX4_goes, .selects RX4 yX4_goes yX4_goes, .code yX4_goes cX4_goes 3 (some .boolean), .fieldLink RX4 62 "HullBuilderModel" "thrown" "I"] ++ wsX40)
def wsX4_corner : List Cond := .code yX4_corner cX4_corner 3 (some .int) :: ([.fieldLink RX4 159 "HullBuilderModel" "built" "Z", .fieldLink RX4 41 "HullBuilderModel" "sizes" "[I", .fieldLink RX4 47 "HullBuilderModel" "order" "[I", .fieldLink RX4 44 "HullBuilderModel" "corners" "[I", .methodLink RX4 166 yX4_there, .instanceMethod yX4_there, .selects RX4 yX4_there yX4_there, .initialized RX4, .code yX4_there cX4_there 2 (some .boolean), .fieldLink RX4 91 "HullBuilderModel" "faces" "I", .methodLink RX4 77 yX4_goes, .instanceMethod yX4_goes, .selects RX4 yX4_goes yX4_goes, .code yX4_goes cX4_goes 3 (some .boolean), .fieldLink RX4 62 "HullBuilderModel" "thrown" "I"] ++ wsX40)
def wsX4_edge : List Cond := .code yX4_edge cX4_edge 3 (some .int) :: ([.fieldLink RX4 159 "HullBuilderModel" "built" "Z", .fieldLink RX4 132 "HullBuilderModel" "edges" "I", .fieldLink RX4 50 "HullBuilderModel" "ends" "[I", .fieldLink RX4 53 "HullBuilderModel" "lefts" "[I", .fieldLink RX4 56 "HullBuilderModel" "rights" "[I", .methodLink RX4 77 yX4_goes, .instanceMethod yX4_goes, .selects RX4 yX4_goes yX4_goes, .initialized RX4, .code yX4_goes cX4_goes 3 (some .boolean), .fieldLink RX4 62 "HullBuilderModel" "thrown" "I"] ++ wsX40)
def wsX4_isCorner : List Cond := .code yX4_isCorner cX4_isCorner 4 (some .boolean) :: ([.fieldLink RX4 132 "HullBuilderModel" "edges" "I", .fieldLink RX4 50 "HullBuilderModel" "ends" "[I"] ++ wsX40)
def wsX4_support : List Cond := .code yX4_support cX4_support 10 (some .int) :: ([.fieldLink RX4 159 "HullBuilderModel" "built" "Z", .constant RX4 170 (65536), .fieldLink RX4 98 "HullBuilderModel" "held" "I", .fieldLink RX4 19 "HullBuilderModel" "hx" "[J", .fieldLink RX4 23 "HullBuilderModel" "hy" "[J", .fieldLink RX4 26 "HullBuilderModel" "hz" "[J", .methodLink RX4 69 yX4_within, .static yX4_within, .initialized RX4, .code yX4_within cX4_within 2 (some .boolean), .methodLink RX4 77 yX4_goes, .instanceMethod yX4_goes, .selects RX4 yX4_goes yX4_goes, .code yX4_goes cX4_goes 3 (some .boolean), .fieldLink RX4 62 "HullBuilderModel" "thrown" "I", .methodLink RX4 171 yX4_isCorner, .instanceMethod yX4_isCorner, .selects RX4 yX4_isCorner yX4_isCorner, .code yX4_isCorner cX4_isCorner 4 (some .boolean), .fieldLink RX4 132 "HullBuilderModel" "edges" "I", .fieldLink RX4 50 "HullBuilderModel" "ends" "[I"] ++ wsX40)
def wsX4_steps : List Cond := .code yX4_steps cX4_steps 8 (some .int) :: ([.fieldLink RX4 159 "HullBuilderModel" "built" "Z", .fieldLink RX4 98 "HullBuilderModel" "held" "I", .fieldLink RX4 59 "HullBuilderModel" "far" "[I", .fieldLink RX4 132 "HullBuilderModel" "edges" "I", .fieldLink RX4 50 "HullBuilderModel" "ends" "[I", .methodLink RX4 171 yX4_isCorner, .instanceMethod yX4_isCorner, .selects RX4 yX4_isCorner yX4_isCorner, .initialized RX4, .code yX4_isCorner cX4_isCorner 4 (some .boolean), .methodLink RX4 77 yX4_goes, .instanceMethod yX4_goes, .selects RX4 yX4_goes yX4_goes, .code yX4_goes cX4_goes 3 (some .boolean), .fieldLink RX4 62 "HullBuilderModel" "thrown" "I"] ++ wsX40)
def wsX4_side : List Cond := .code yX4_side cX4_side 8 (some .int) :: ([.fieldLink RX4 159 "HullBuilderModel" "built" "Z", .constant RX4 170 (65536), .fieldLink RX4 91 "HullBuilderModel" "faces" "I", .fieldLink RX4 29 "HullBuilderModel" "nx" "[J", .fieldLink RX4 32 "HullBuilderModel" "ny" "[J", .fieldLink RX4 35 "HullBuilderModel" "nz" "[J", .fieldLink RX4 38 "HullBuilderModel" "offsets" "[J", .methodLink RX4 69 yX4_within, .static yX4_within, .initialized RX4, .code yX4_within cX4_within 2 (some .boolean), .methodLink RX4 77 yX4_goes, .instanceMethod yX4_goes, .selects RX4 yX4_goes yX4_goes, .code yX4_goes cX4_goes 3 (some .boolean), .fieldLink RX4 62 "HullBuilderModel" "thrown" "I"] ++ wsX40)
def wsX4_sum : List Cond := .code yX4_sum cX4_sum 13 (some .long) :: ([.fieldLink RX4 91 "HullBuilderModel" "faces" "I", .fieldLink RX4 44 "HullBuilderModel" "corners" "[I", .fieldLink RX4 41 "HullBuilderModel" "sizes" "[I", .fieldLink RX4 19 "HullBuilderModel" "hx" "[J", .fieldLink RX4 23 "HullBuilderModel" "hy" "[J", .fieldLink RX4 26 "HullBuilderModel" "hz" "[J"] ++ wsX40)
def wsX4_volume : List Cond := .code yX4_volume cX4_volume 1 (some .long) :: ([.fieldLink RX4 159 "HullBuilderModel" "built" "Z", .methodLink RX4 77 yX4_goes, .instanceMethod yX4_goes, .selects RX4 yX4_goes yX4_goes, .initialized RX4, .code yX4_goes cX4_goes 3 (some .boolean), .fieldLink RX4 62 "HullBuilderModel" "thrown" "I", .methodLink RX4 174 yX4_sum, .instanceMethod yX4_sum, .selects RX4 yX4_sum yX4_sum, .code yX4_sum cX4_sum 13 (some .long), .fieldLink RX4 91 "HullBuilderModel" "faces" "I", .fieldLink RX4 44 "HullBuilderModel" "corners" "[I", .fieldLink RX4 41 "HullBuilderModel" "sizes" "[I", .fieldLink RX4 19 "HullBuilderModel" "hx" "[J", .fieldLink RX4 23 "HullBuilderModel" "hy" "[J", .fieldLink RX4 26 "HullBuilderModel" "hz" "[J"] ++ wsX40)
def wsX4_centre : List Cond := .code yX4_centre cX4_centre 2 (some .long) :: ([.fieldLink RX4 159 "HullBuilderModel" "built" "Z", .methodLink RX4 77 yX4_goes, .instanceMethod yX4_goes, .selects RX4 yX4_goes yX4_goes, .initialized RX4, .code yX4_goes cX4_goes 3 (some .boolean), .fieldLink RX4 62 "HullBuilderModel" "thrown" "I", .methodLink RX4 174 yX4_sum, .instanceMethod yX4_sum, .selects RX4 yX4_sum yX4_sum, .code yX4_sum cX4_sum 13 (some .long), .fieldLink RX4 91 "HullBuilderModel" "faces" "I", .fieldLink RX4 44 "HullBuilderModel" "corners" "[I", .fieldLink RX4 41 "HullBuilderModel" "sizes" "[I", .fieldLink RX4 19 "HullBuilderModel" "hx" "[J", .fieldLink RX4 23 "HullBuilderModel" "hy" "[J", .fieldLink RX4 26 "HullBuilderModel" "hz" "[J"] ++ wsX40)
def wsX4_middle : List Cond := .code yX4_middle cX4_middle 6 (some .double) :: ([.fieldLink RX4 159 "HullBuilderModel" "built" "Z", .constantLong RX4 178 (4), .methodLink RX4 77 yX4_goes, .instanceMethod yX4_goes, .selects RX4 yX4_goes yX4_goes, .initialized RX4, .code yX4_goes cX4_goes 3 (some .boolean), .fieldLink RX4 62 "HullBuilderModel" "thrown" "I", .methodLink RX4 174 yX4_sum, .instanceMethod yX4_sum, .selects RX4 yX4_sum yX4_sum, .code yX4_sum cX4_sum 13 (some .long), .fieldLink RX4 91 "HullBuilderModel" "faces" "I", .fieldLink RX4 44 "HullBuilderModel" "corners" "[I", .fieldLink RX4 41 "HullBuilderModel" "sizes" "[I", .fieldLink RX4 19 "HullBuilderModel" "hx" "[J", .fieldLink RX4 23 "HullBuilderModel" "hy" "[J", .fieldLink RX4 26 "HullBuilderModel" "hz" "[J"] ++ wsX40)
def wsX4_count : List Cond := .code yX4_count cX4_count 4 (some .int) :: ([.fieldLink RX4 98 "HullBuilderModel" "held" "I", .fieldLink RX4 66 "HullBuilderModel" "points" "I", .fieldLink RX4 159 "HullBuilderModel" "built" "Z", .fieldLink RX4 91 "HullBuilderModel" "faces" "I", .fieldLink RX4 132 "HullBuilderModel" "edges" "I", .fieldLink RX4 163 "HullBuilderModel" "builds" "I", .methodLink RX4 77 yX4_goes, .instanceMethod yX4_goes, .selects RX4 yX4_goes yX4_goes, .initialized RX4, .code yX4_goes cX4_goes 3 (some .boolean), .fieldLink RX4 62 "HullBuilderModel" "thrown" "I", .methodLink RX4 171 yX4_isCorner, .instanceMethod yX4_isCorner, .selects RX4 yX4_isCorner yX4_isCorner, .code yX4_isCorner cX4_isCorner 4 (some .boolean), .fieldLink RX4 50 "HullBuilderModel" "ends" "[I"] ++ wsX40)
def wsL_point_r1 : List Cond := [Cond.classLink RL 13 "java/lang/IllegalArgumentException", Cond.classLink RL 15 "java/lang/IllegalStateException", Cond.methodLink RL 7 yX3_point, Cond.instanceMethod yX3_point, Cond.selects RX3 yX3_point yX3_point, Cond.initialized RX3, Cond.code yX3_point cX3_point 4 (some .int), Cond.classLink RX3 35 "java/lang/IllegalArgumentException", Cond.initialized "java/lang/IllegalArgumentException", Cond.classLink RX3 45 "java/lang/IllegalStateException", Cond.initialized "java/lang/IllegalStateException", Cond.fieldLink RX3 12 "HullBuilder" "points" "LHullBuilder$Points;", Cond.methodLink RX3 27 yX3_requireReach, Cond.static yX3_requireReach, Cond.code yX3_requireReach cX3_requireReach 4 none, Cond.methodLink RX3 168 yX3_isWithin, Cond.static yX3_isWithin, Cond.code yX3_isWithin cX3_isWithin 2 (some .boolean), Cond.instanceMethod yX2_isTaken, Cond.initialized RX2, Cond.selects RX2 yX2_isTaken yX2_isTaken, Cond.code yX2_isTaken cX2_isTaken 5 (some .boolean), Cond.fieldLink RX2 21 "HullBuilder$Points" "size" "I", Cond.fieldLink RX2 9 "HullBuilder$Points" "xs" "[I"]
def wsL_point_r2 : List Cond := [Cond.fieldLink RX2 15 "HullBuilder$Points" "ys" "[I", Cond.fieldLink RX2 18 "HullBuilder$Points" "zs" "[I", Cond.instanceMethod yX2_append, Cond.selects RX2 yX2_append yX2_append, Cond.code yX2_append cX2_append 4 (some .int)]
def wsL_point : List Cond := .codeWith yL_point cL_point 6 (some .int) [(0, 12, 15, 13), (0, 12, 19, 15)] :: ((wsL_point_r1 ++ wsL_point_r2) ++ wsX30 ++ wsX20 ++ (vx_atS RX3 39 "java/lang/IllegalArgumentException" ["java/lang/RuntimeException", "java/lang/Exception"]).filter goodWord ++ (vx_atS RX3 49 "java/lang/IllegalStateException" ["java/lang/RuntimeException", "java/lang/Exception"]).filter goodWord)
def wsL_take : List Cond := .codeWith yL_take cL_take 4 (some .int) [(0, 9, 12, 21)] :: ([.classLink RL 21 "java/lang/IndexOutOfBoundsException", .methodLink RL 17 yX3_take, .instanceMethod yX3_take, .selects RX3 yX3_take yX3_take, .initialized RX3, .code yX3_take cX3_take 2 (some .int), .fieldLink RX3 12 "HullBuilder" "points" "LHullBuilder$Points;", .methodLink RX3 54 yX3_requirePlace, .static yX3_requirePlace, .code yX3_requirePlace cX3_requirePlace 2 none, .classLink RX3 153 "java/lang/IndexOutOfBoundsException", .initialized "java/lang/IndexOutOfBoundsException", .instanceMethod yX2_remove, .initialized RX2, .selects RX2 yX2_remove yX2_remove, .code yX2_remove cX2_remove 3 none, .fieldLink RX2 21 "HullBuilder$Points" "size" "I", .fieldLink RX2 9 "HullBuilder$Points" "xs" "[I", .fieldLink RX2 15 "HullBuilder$Points" "ys" "[I", .fieldLink RX2 18 "HullBuilder$Points" "zs" "[I"] ++ wsX30 ++ wsX20 ++ (vx_atS RX3 157 "java/lang/IndexOutOfBoundsException" ["java/lang/RuntimeException", "java/lang/Exception"]).filter goodWord)
def wsL_build_r1 : List Cond := [Cond.classLink RL 15 "java/lang/IllegalStateException", Cond.methodLink RL 23 yX3_build, Cond.instanceMethod yX3_build, Cond.selects RX3 yX3_build yX3_build, Cond.initialized RX3, Cond.code yX3_build cX3_build 1 (some .int), Cond.classLink RX3 45 "java/lang/IllegalStateException", Cond.initialized "java/lang/IllegalStateException", Cond.fieldLink RX3 19 "HullBuilder" "hull" "LHullBuilder$Hull;", Cond.fieldLink RX3 12 "HullBuilder" "points" "LHullBuilder$Points;", Cond.fieldLink RX3 23 "HullBuilder" "hullsBuilt" "I", Cond.instanceMethod yX1_wouldBeFlat, Cond.initialized RX1, Cond.selects RX1 yX1_wouldBeFlat yX1_wouldBeFlat, Cond.code yX1_wouldBeFlat cX1_wouldBeFlat 3 (some .boolean), Cond.fieldLink RX1 25 "HullBuilder$Hull" "trial" "LHullBuilder$Face;", Cond.instanceMethod yX0_layThrough, Cond.initialized RX0, Cond.selects RX0 yX0_layThrough yX0_layThrough, Cond.code yX0_layThrough cX0_layThrough 5 (some .boolean), Cond.fieldLink RX0 27 "HullBuilder$Face" "nx" "J", Cond.fieldLink RX0 34 "HullBuilder$Face" "ny" "J", Cond.fieldLink RX0 37 "HullBuilder$Face" "nz" "J", Cond.fieldLink RX0 40 "HullBuilder$Face" "distance" "J"]
def wsL_build_r2 : List Cond := [Cond.static yX3_across, Cond.code yX3_across cX3_across 5 (some .long), Cond.instanceMethod yX0_holdsAll, Cond.selects RX0 yX0_holdsAll yX0_holdsAll, Cond.code yX0_holdsAll cX0_holdsAll 3 (some .boolean), Cond.methodLink RX0 47 yX0_heightOf, Cond.instanceMethod yX0_heightOf, Cond.selects RX0 yX0_heightOf yX0_heightOf, Cond.code yX0_heightOf cX0_heightOf 7 (some .long), Cond.instanceMethod yX1_wrap, Cond.selects RX1 yX1_wrap yX1_wrap, Cond.code yX1_wrap cX1_wrap 3 none, Cond.fieldLink RX1 12 "HullBuilder$Hull" "at" "LHullBuilder$Points;", Cond.fieldLink RX1 65 "HullBuilder$Hull" "faceCount" "I", Cond.fieldLink RX1 20 "HullBuilder$Hull" "faces" "[LHullBuilder$Face;", Cond.fieldLink RX1 68 "HullBuilder$Hull" "corners" "I", Cond.instanceMethod yX2_copyFrom, Cond.initialized RX2, Cond.selects RX2 yX2_copyFrom yX2_copyFrom, Cond.code yX2_copyFrom cX2_copyFrom 3 none, Cond.fieldLink RX2 21 "HullBuilder$Points" "size" "I", Cond.fieldLink RX2 9 "HullBuilder$Points" "xs" "[I", Cond.fieldLink RX2 15 "HullBuilder$Points" "ys" "[I", Cond.fieldLink RX2 18 "HullBuilder$Points" "zs" "[I"]
def wsL_build_r3 : List Cond := [Cond.methodLink RX1 59 yX1_findFaces, Cond.instanceMethod yX1_findFaces, Cond.selects RX1 yX1_findFaces yX1_findFaces, Cond.code yX1_findFaces cX1_findFaces 4 none, Cond.methodLink RX1 84 yX1_tryPlane, Cond.instanceMethod yX1_tryPlane, Cond.selects RX1 yX1_tryPlane yX1_tryPlane, Cond.code yX1_tryPlane cX1_tryPlane 5 none, Cond.methodLink RX1 88 yX1_lieInOneFace, Cond.instanceMethod yX1_lieInOneFace, Cond.selects RX1 yX1_lieInOneFace yX1_lieInOneFace, Cond.code yX1_lieInOneFace cX1_lieInOneFace 3 (some .boolean), Cond.instanceMethod yX0_turnOutside, Cond.selects RX0 yX0_turnOutside yX0_turnOutside, Cond.code yX0_turnOutside cX0_turnOutside 7 (some .boolean), Cond.fieldLink RX0 51 "HullBuilder$Face" "held" "I", Cond.instanceMethod yX0_shortenNormal, Cond.selects RX0 yX0_shortenNormal yX0_shortenNormal, Cond.code yX0_shortenNormal cX0_shortenNormal 3 none, Cond.static yX3_commonFactor, Cond.code yX3_commonFactor cX3_commonFactor 7 (some .long), Cond.methodLink RX1 62 yX1_findCorners, Cond.instanceMethod yX1_findCorners, Cond.selects RX1 yX1_findCorners yX1_findCorners]
def wsL_build_r4 : List Cond := [Cond.code yX1_findCorners cX1_findCorners 4 none, Cond.static yX3_holds, Cond.code yX3_holds cX3_holds 2 (some .boolean), Cond.instanceMethod yX0_goRound, Cond.selects RX0 yX0_goRound yX0_goRound, Cond.code yX0_goRound cX0_goRound 6 none, Cond.fieldLink RX0 64 "HullBuilder$Face" "size" "I", Cond.fieldLink RX0 9 "HullBuilder$Face" "ring" "[I", Cond.methodLink RX0 58 yJ6_numberOfTrailingZeros_0f7a4, Cond.static yJ6_numberOfTrailingZeros_0f7a4, Cond.initialized RJ6, Cond.code yJ6_numberOfTrailingZeros_0f7a4 cJ6_numberOfTrailingZeros_0f7a4 2 (some .int), Cond.constant RJ6 264 (65536), Cond.methodLink RX0 65 yJ6_bitCount_0f7a4, Cond.static yJ6_bitCount_0f7a4, Cond.code yJ6_bitCount_0f7a4 cJ6_bitCount_0f7a4 1 (some .int), Cond.constant RJ6 265 (1431655765), Cond.constant RJ6 266 (858993459), Cond.constant RJ6 267 (252645135), Cond.methodLink RX0 68 yX0_nextRound, Cond.instanceMethod yX0_nextRound, Cond.selects RX0 yX0_nextRound yX0_nextRound, Cond.code yX0_nextRound cX0_nextRound 6 (some .int), Cond.methodLink RX0 76 yX0_isRight]
def wsL_build_r5 : List Cond := [Cond.instanceMethod yX0_isRight, Cond.selects RX0 yX0_isRight yX0_isRight, Cond.code yX0_isRight cX0_isRight 5 (some .boolean), Cond.methodLink RX1 75 yX1_orderFaces, Cond.instanceMethod yX1_orderFaces, Cond.selects RX1 yX1_orderFaces yX1_orderFaces, Cond.code yX1_orderFaces cX1_orderFaces 4 none, Cond.instanceMethod yX0_rank, Cond.selects RX0 yX0_rank yX0_rank, Cond.code yX0_rank cX0_rank 1 (some .int), Cond.static yX3_way, Cond.code yX3_way cX3_way 2 (some .int), Cond.methodLink RX1 78 yX1_findEdges, Cond.instanceMethod yX1_findEdges, Cond.selects RX1 yX1_findEdges yX1_findEdges, Cond.code yX1_findEdges cX1_findEdges 3 none, Cond.fieldLink RX1 112 "HullBuilder$Hull" "edgeCount" "I", Cond.fieldLink RX1 29 "HullBuilder$Hull" "faceAlong" "[I", Cond.fieldLink RX1 33 "HullBuilder$Hull" "edgeLow" "[I", Cond.fieldLink RX1 36 "HullBuilder$Hull" "edgeHigh" "[I", Cond.methodLink RX1 109 yX1_noteWays, Cond.instanceMethod yX1_noteWays, Cond.selects RX1 yX1_noteWays yX1_noteWays, Cond.code yX1_noteWays cX1_noteWays 5 none]
def wsL_build_r6 : List Cond := [Cond.methodLink RX1 119 yJ7_fill_53178, Cond.static yJ7_fill_53178, Cond.initialized RJ7, Cond.code yJ7_fill_53178 cJ7_fill_53178 4 none, Cond.methodLink RX1 81 yX1_measure, Cond.instanceMethod yX1_measure, Cond.selects RX1 yX1_measure yX1_measure, Cond.code yX1_measure cX1_measure 4 none, Cond.fieldLink RX1 129 "HullBuilder$Hull" "sixVolumes" "J", Cond.fieldLink RX1 39 "HullBuilder$Hull" "moments" "[J", Cond.methodLink RX1 133 yJ7_fill_d0a16, Cond.static yJ7_fill_d0a16, Cond.code yJ7_fill_d0a16 cJ7_fill_d0a16 5 none, Cond.methodLink RX1 136 yX1_addTetrahedron, Cond.instanceMethod yX1_addTetrahedron, Cond.selects RX1 yX1_addTetrahedron yX1_addTetrahedron, Cond.code yX1_addTetrahedron cX1_addTetrahedron 6 none]
def wsL_build : List Cond := .codeWith yL_build cL_build 3 (some .int) [(0, 8, 11, 15)] :: ((wsL_build_r1 ++ (wsL_build_r2 ++ (wsL_build_r3 ++ (wsL_build_r4 ++ (wsL_build_r5 ++ wsL_build_r6))))) ++ wsX30 ++ wsX10 ++ wsX20 ++ wsX00 ++ (vx_atS RX3 49 "java/lang/IllegalStateException" ["java/lang/RuntimeException", "java/lang/Exception"]).filter goodWord)
def wsL_of : List Cond := .codeWith yL_of cL_of 5 (some .int) [(0, 10, 13, 21)] :: ([.classLink RL 21 "java/lang/IndexOutOfBoundsException", .methodLink RL 27 yX3_of, .instanceMethod yX3_of, .selects RX3 yX3_of yX3_of, .initialized RX3, .code yX3_of cX3_of 3 (some .int), .fieldLink RX3 12 "HullBuilder" "points" "LHullBuilder$Points;", .methodLink RX3 54 yX3_requirePlace, .static yX3_requirePlace, .code yX3_requirePlace cX3_requirePlace 2 none, .classLink RX3 153 "java/lang/IndexOutOfBoundsException", .initialized "java/lang/IndexOutOfBoundsException", .instanceMethod yX2_coordinate, .initialized RX2, .selects RX2 yX2_coordinate yX2_coordinate, .code yX2_coordinate cX2_coordinate 3 (some .int), .fieldLink RX2 9 "HullBuilder$Points" "xs" "[I", .fieldLink RX2 15 "HullBuilder$Points" "ys" "[I", .fieldLink RX2 18 "HullBuilder$Points" "zs" "[I"] ++ wsX30 ++ wsX20 ++ (vx_atS RX3 157 "java/lang/IndexOutOfBoundsException" ["java/lang/RuntimeException", "java/lang/Exception"]).filter goodWord)
def wsL_face : List Cond := .codeWith yL_face cL_face 5 (some .int) [(0, 10, 13, 15), (0, 10, 17, 21)] :: ([.classLink RL 15 "java/lang/IllegalStateException", .classLink RL 21 "java/lang/IndexOutOfBoundsException", .methodLink RL 31 yX3_face, .instanceMethod yX3_face, .selects RX3 yX3_face yX3_face, .initialized RX3, .code yX3_face cX3_face 4 (some .int), .fieldLink RX3 19 "HullBuilder" "hull" "LHullBuilder$Hull;", .methodLink RX3 79 yX3_requireHull, .instanceMethod yX3_requireHull, .selects RX3 yX3_requireHull yX3_requireHull, .code yX3_requireHull cX3_requireHull 1 none, .classLink RX3 45 "java/lang/IllegalStateException", .initialized "java/lang/IllegalStateException", .methodLink RX3 54 yX3_requirePlace, .static yX3_requirePlace, .code yX3_requirePlace cX3_requirePlace 2 none, .classLink RX3 153 "java/lang/IndexOutOfBoundsException", .initialized "java/lang/IndexOutOfBoundsException"] ++ wsX30 ++ wsX10 ++ wsX00 ++ (vx_atS RX3 49 "java/lang/IllegalStateException" ["java/lang/RuntimeException", "java/lang/Exception"]).filter goodWord ++ (vx_atS RX3 157 "java/lang/IndexOutOfBoundsException" ["java/lang/RuntimeException", "java/lang/Exception"]).filter goodWord)
def wsL_offset : List Cond := .codeWith yL_offset cL_offset 4 (some .int) [(0, 8, 11, 15), (0, 8, 14, 21)] :: ([.classLink RL 15 "java/lang/IllegalStateException", .classLink RL 21 "java/lang/IndexOutOfBoundsException", .methodLink RL 34 yX3_offset, .instanceMethod yX3_offset, .selects RX3 yX3_offset yX3_offset, .initialized RX3, .code yX3_offset cX3_offset 2 (some .long), .fieldLink RX3 19 "HullBuilder" "hull" "LHullBuilder$Hull;", .methodLink RX3 79 yX3_requireHull, .instanceMethod yX3_requireHull, .selects RX3 yX3_requireHull yX3_requireHull, .code yX3_requireHull cX3_requireHull 1 none, .classLink RX3 45 "java/lang/IllegalStateException", .initialized "java/lang/IllegalStateException", .methodLink RX3 54 yX3_requirePlace, .static yX3_requirePlace, .code yX3_requirePlace cX3_requirePlace 2 none, .classLink RX3 153 "java/lang/IndexOutOfBoundsException", .initialized "java/lang/IndexOutOfBoundsException"] ++ wsX30 ++ wsX10 ++ wsX00 ++ (vx_atS RX3 49 "java/lang/IllegalStateException" ["java/lang/RuntimeException", "java/lang/Exception"]).filter goodWord ++ (vx_atS RX3 157 "java/lang/IndexOutOfBoundsException" ["java/lang/RuntimeException", "java/lang/Exception"]).filter goodWord)
def wsL_corner : List Cond := .codeWith yL_corner cL_corner 5 (some .int) [(0, 10, 13, 15), (0, 10, 17, 21)] :: ([.classLink RL 15 "java/lang/IllegalStateException", .classLink RL 21 "java/lang/IndexOutOfBoundsException", .methodLink RL 38 yX3_corner, .instanceMethod yX3_corner, .selects RX3 yX3_corner yX3_corner, .initialized RX3, .code yX3_corner cX3_corner 3 (some .int), .fieldLink RX3 19 "HullBuilder" "hull" "LHullBuilder$Hull;", .methodLink RX3 79 yX3_requireHull, .instanceMethod yX3_requireHull, .selects RX3 yX3_requireHull yX3_requireHull, .code yX3_requireHull cX3_requireHull 1 none, .classLink RX3 45 "java/lang/IllegalStateException", .initialized "java/lang/IllegalStateException", .methodLink RX3 54 yX3_requirePlace, .static yX3_requirePlace, .code yX3_requirePlace cX3_requirePlace 2 none, .classLink RX3 153 "java/lang/IndexOutOfBoundsException", .initialized "java/lang/IndexOutOfBoundsException"] ++ wsX30 ++ wsX10 ++ wsX00 ++ (vx_atS RX3 49 "java/lang/IllegalStateException" ["java/lang/RuntimeException", "java/lang/Exception"]).filter goodWord ++ (vx_atS RX3 157 "java/lang/IndexOutOfBoundsException" ["java/lang/RuntimeException", "java/lang/Exception"]).filter goodWord)
def wsL_edge : List Cond := .codeWith yL_edge cL_edge 5 (some .int) [(0, 10, 13, 15), (0, 10, 17, 21)] :: ([.classLink RL 15 "java/lang/IllegalStateException", .classLink RL 21 "java/lang/IndexOutOfBoundsException", .methodLink RL 41 yX3_edge, .instanceMethod yX3_edge, .selects RX3 yX3_edge yX3_edge, .initialized RX3, .code yX3_edge cX3_edge 5 (some .int), .fieldLink RX3 19 "HullBuilder" "hull" "LHullBuilder$Hull;", .methodLink RX3 79 yX3_requireHull, .instanceMethod yX3_requireHull, .selects RX3 yX3_requireHull yX3_requireHull, .code yX3_requireHull cX3_requireHull 1 none, .classLink RX3 45 "java/lang/IllegalStateException", .initialized "java/lang/IllegalStateException", .methodLink RX3 54 yX3_requirePlace, .static yX3_requirePlace, .code yX3_requirePlace cX3_requirePlace 2 none, .classLink RX3 153 "java/lang/IndexOutOfBoundsException", .initialized "java/lang/IndexOutOfBoundsException", .methodLink RX3 118 yX3_way, .static yX3_way, .code yX3_way cX3_way 2 (some .int)] ++ wsX30 ++ wsX10 ++ (vx_atS RX3 49 "java/lang/IllegalStateException" ["java/lang/RuntimeException", "java/lang/Exception"]).filter goodWord ++ (vx_atS RX3 157 "java/lang/IndexOutOfBoundsException" ["java/lang/RuntimeException", "java/lang/Exception"]).filter goodWord)
def wsL_support_r1 : List Cond := [Cond.classLink RL 15 "java/lang/IllegalStateException", Cond.classLink RL 13 "java/lang/IllegalArgumentException", Cond.methodLink RL 44 yX3_support, Cond.instanceMethod yX3_support, Cond.selects RX3 yX3_support yX3_support, Cond.initialized RX3, Cond.code yX3_support cX3_support 4 (some .int), Cond.constant RX3 121 (65536), Cond.fieldLink RX3 19 "HullBuilder" "hull" "LHullBuilder$Hull;", Cond.methodLink RX3 79 yX3_requireHull, Cond.instanceMethod yX3_requireHull, Cond.selects RX3 yX3_requireHull yX3_requireHull, Cond.code yX3_requireHull cX3_requireHull 1 none, Cond.classLink RX3 45 "java/lang/IllegalStateException", Cond.initialized "java/lang/IllegalStateException", Cond.methodLink RX3 27 yX3_requireReach, Cond.static yX3_requireReach, Cond.code yX3_requireReach cX3_requireReach 4 none, Cond.classLink RX3 35 "java/lang/IllegalArgumentException", Cond.initialized "java/lang/IllegalArgumentException", Cond.methodLink RX3 168 yX3_isWithin, Cond.static yX3_isWithin, Cond.code yX3_isWithin cX3_isWithin 2 (some .boolean), Cond.instanceMethod yX1_furthest]
def wsL_support_r2 : List Cond := [Cond.initialized RX1, Cond.selects RX1 yX1_furthest yX1_furthest, Cond.code yX1_furthest cX1_furthest 13 (some .int), Cond.fieldLink RX1 12 "HullBuilder$Hull" "at" "LHullBuilder$Points;", Cond.fieldLink RX1 68 "HullBuilder$Hull" "corners" "I", Cond.static yX3_holds, Cond.code yX3_holds cX3_holds 2 (some .boolean)]
def wsL_support : List Cond := .codeWith yL_support cL_support 6 (some .int) [(0, 12, 15, 15), (0, 12, 19, 13)] :: ((wsL_support_r1 ++ wsL_support_r2) ++ wsX30 ++ wsX10 ++ wsX20 ++ (vx_atS RX3 49 "java/lang/IllegalStateException" ["java/lang/RuntimeException", "java/lang/Exception"]).filter goodWord ++ (vx_atS RX3 39 "java/lang/IllegalArgumentException" ["java/lang/RuntimeException", "java/lang/Exception"]).filter goodWord)
def wsL_steps_r1 : List Cond := [Cond.classLink RL 15 "java/lang/IllegalStateException", Cond.classLink RL 21 "java/lang/IndexOutOfBoundsException", Cond.methodLink RL 47 yX3_steps, Cond.instanceMethod yX3_steps, Cond.selects RX3 yX3_steps yX3_steps, Cond.initialized RX3, Cond.code yX3_steps cX3_steps 3 (some .int), Cond.fieldLink RX3 19 "HullBuilder" "hull" "LHullBuilder$Hull;", Cond.methodLink RX3 79 yX3_requireHull, Cond.instanceMethod yX3_requireHull, Cond.selects RX3 yX3_requireHull yX3_requireHull, Cond.code yX3_requireHull cX3_requireHull 1 none, Cond.classLink RX3 45 "java/lang/IllegalStateException", Cond.initialized "java/lang/IllegalStateException", Cond.methodLink RX3 126 yX3_requireCorner, Cond.instanceMethod yX3_requireCorner, Cond.selects RX3 yX3_requireCorner yX3_requireCorner, Cond.code yX3_requireCorner cX3_requireCorner 2 none, Cond.classLink RX3 153 "java/lang/IndexOutOfBoundsException", Cond.initialized "java/lang/IndexOutOfBoundsException", Cond.methodLink RX3 54 yX3_requirePlace, Cond.static yX3_requirePlace, Cond.code yX3_requirePlace cX3_requirePlace 2 none, Cond.methodLink RX3 160 yX3_holds]
def wsL_steps_r2 : List Cond := [Cond.static yX3_holds, Cond.code yX3_holds cX3_holds 2 (some .boolean), Cond.instanceMethod yX1_walk, Cond.initialized RX1, Cond.selects RX1 yX1_walk yX1_walk, Cond.code yX1_walk cX1_walk 5 (some .int), Cond.methodLink RX1 148 yX1_stepFrom, Cond.instanceMethod yX1_stepFrom, Cond.selects RX1 yX1_stepFrom yX1_stepFrom, Cond.code yX1_stepFrom cX1_stepFrom 5 (some .int), Cond.fieldLink RX1 112 "HullBuilder$Hull" "edgeCount" "I", Cond.fieldLink RX1 33 "HullBuilder$Hull" "edgeLow" "[I", Cond.fieldLink RX1 36 "HullBuilder$Hull" "edgeHigh" "[I"]
def wsL_steps : List Cond := .codeWith yL_steps cL_steps 5 (some .int) [(0, 10, 13, 15), (0, 10, 17, 21)] :: ((wsL_steps_r1 ++ wsL_steps_r2) ++ wsX30 ++ wsX10 ++ (vx_atS RX3 49 "java/lang/IllegalStateException" ["java/lang/RuntimeException", "java/lang/Exception"]).filter goodWord ++ (vx_atS RX3 157 "java/lang/IndexOutOfBoundsException" ["java/lang/RuntimeException", "java/lang/Exception"]).filter goodWord)
def wsL_side_r1 : List Cond := [Cond.classLink RL 15 "java/lang/IllegalStateException", Cond.classLink RL 13 "java/lang/IllegalArgumentException", Cond.methodLink RL 50 yX3_side, Cond.instanceMethod yX3_side, Cond.selects RX3 yX3_side yX3_side, Cond.initialized RX3, Cond.code yX3_side cX3_side 4 (some .int), Cond.constant RX3 121 (65536), Cond.fieldLink RX3 19 "HullBuilder" "hull" "LHullBuilder$Hull;", Cond.methodLink RX3 79 yX3_requireHull, Cond.instanceMethod yX3_requireHull, Cond.selects RX3 yX3_requireHull yX3_requireHull, Cond.code yX3_requireHull cX3_requireHull 1 none, Cond.classLink RX3 45 "java/lang/IllegalStateException", Cond.initialized "java/lang/IllegalStateException", Cond.methodLink RX3 27 yX3_requireReach, Cond.static yX3_requireReach, Cond.code yX3_requireReach cX3_requireReach 4 none, Cond.classLink RX3 35 "java/lang/IllegalArgumentException", Cond.initialized "java/lang/IllegalArgumentException", Cond.methodLink RX3 168 yX3_isWithin, Cond.static yX3_isWithin, Cond.code yX3_isWithin cX3_isWithin 2 (some .boolean), Cond.instanceMethod yX1_locate]
def wsL_side_r2 : List Cond := [Cond.initialized RX1, Cond.selects RX1 yX1_locate yX1_locate, Cond.code yX1_locate cX1_locate 8 (some .int), Cond.fieldLink RX1 65 "HullBuilder$Hull" "faceCount" "I", Cond.fieldLink RX1 20 "HullBuilder$Hull" "faces" "[LHullBuilder$Face;", Cond.instanceMethod yX0_heightOf, Cond.initialized RX0, Cond.selects RX0 yX0_heightOf yX0_heightOf, Cond.code yX0_heightOf cX0_heightOf 7 (some .long), Cond.fieldLink RX0 27 "HullBuilder$Face" "nx" "J", Cond.fieldLink RX0 34 "HullBuilder$Face" "ny" "J", Cond.fieldLink RX0 37 "HullBuilder$Face" "nz" "J", Cond.fieldLink RX0 40 "HullBuilder$Face" "distance" "J"]
def wsL_side : List Cond := .codeWith yL_side cL_side 6 (some .int) [(0, 12, 15, 15), (0, 12, 19, 13)] :: ((wsL_side_r1 ++ wsL_side_r2) ++ wsX30 ++ wsX10 ++ wsX00 ++ (vx_atS RX3 49 "java/lang/IllegalStateException" ["java/lang/RuntimeException", "java/lang/Exception"]).filter goodWord ++ (vx_atS RX3 39 "java/lang/IllegalArgumentException" ["java/lang/RuntimeException", "java/lang/Exception"]).filter goodWord)
def wsL_volume : List Cond := .codeWith yL_volume cL_volume 3 (some .int) [(0, 7, 10, 15)] :: ([.classLink RL 15 "java/lang/IllegalStateException", .methodLink RL 53 yX3_volume, .instanceMethod yX3_volume, .selects RX3 yX3_volume yX3_volume, .initialized RX3, .code yX3_volume cX3_volume 1 (some .long), .fieldLink RX3 19 "HullBuilder" "hull" "LHullBuilder$Hull;", .methodLink RX3 79 yX3_requireHull, .instanceMethod yX3_requireHull, .selects RX3 yX3_requireHull yX3_requireHull, .code yX3_requireHull cX3_requireHull 1 none, .classLink RX3 45 "java/lang/IllegalStateException", .initialized "java/lang/IllegalStateException"] ++ wsX30 ++ wsX10 ++ (vx_atS RX3 49 "java/lang/IllegalStateException" ["java/lang/RuntimeException", "java/lang/Exception"]).filter goodWord)
def wsL_centre : List Cond := .codeWith yL_centre cL_centre 4 (some .int) [(0, 8, 11, 15), (0, 8, 14, 21)] :: ([.classLink RL 15 "java/lang/IllegalStateException", .classLink RL 21 "java/lang/IndexOutOfBoundsException", .methodLink RL 57 yX3_centre, .instanceMethod yX3_centre, .selects RX3 yX3_centre yX3_centre, .initialized RX3, .code yX3_centre cX3_centre 2 (some .long), .fieldLink RX3 19 "HullBuilder" "hull" "LHullBuilder$Hull;", .methodLink RX3 79 yX3_requireHull, .instanceMethod yX3_requireHull, .selects RX3 yX3_requireHull yX3_requireHull, .code yX3_requireHull cX3_requireHull 1 none, .classLink RX3 45 "java/lang/IllegalStateException", .initialized "java/lang/IllegalStateException", .methodLink RX3 54 yX3_requirePlace, .static yX3_requirePlace, .code yX3_requirePlace cX3_requirePlace 2 none, .classLink RX3 153 "java/lang/IndexOutOfBoundsException", .initialized "java/lang/IndexOutOfBoundsException"] ++ wsX30 ++ wsX10 ++ (vx_atS RX3 49 "java/lang/IllegalStateException" ["java/lang/RuntimeException", "java/lang/Exception"]).filter goodWord ++ (vx_atS RX3 157 "java/lang/IndexOutOfBoundsException" ["java/lang/RuntimeException", "java/lang/Exception"]).filter goodWord)
def wsL_middle : List Cond := .codeWith yL_middle cL_middle 4 (some .int) [(0, 8, 11, 15), (0, 8, 14, 21)] :: ([.classLink RL 15 "java/lang/IllegalStateException", .classLink RL 21 "java/lang/IndexOutOfBoundsException", .methodLink RL 60 yX3_middle, .instanceMethod yX3_middle, .selects RX3 yX3_middle yX3_middle, .initialized RX3, .code yX3_middle cX3_middle 4 (some .double), .constantDouble RX3 142 (4616189618054758400), .fieldLink RX3 19 "HullBuilder" "hull" "LHullBuilder$Hull;", .methodLink RX3 79 yX3_requireHull, .instanceMethod yX3_requireHull, .selects RX3 yX3_requireHull yX3_requireHull, .code yX3_requireHull cX3_requireHull 1 none, .classLink RX3 45 "java/lang/IllegalStateException", .initialized "java/lang/IllegalStateException", .methodLink RX3 54 yX3_requirePlace, .static yX3_requirePlace, .code yX3_requirePlace cX3_requirePlace 2 none, .classLink RX3 153 "java/lang/IndexOutOfBoundsException", .initialized "java/lang/IndexOutOfBoundsException"] ++ wsX30 ++ wsX10 ++ (vx_atS RX3 49 "java/lang/IllegalStateException" ["java/lang/RuntimeException", "java/lang/Exception"]).filter goodWord ++ (vx_atS RX3 157 "java/lang/IndexOutOfBoundsException" ["java/lang/RuntimeException", "java/lang/Exception"]).filter goodWord)
def wsL_count : List Cond := .codeWith yL_count cL_count 4 (some .int) [(0, 9, 12, 21)] :: ([.classLink RL 21 "java/lang/IndexOutOfBoundsException", .methodLink RL 64 yX3_count, .instanceMethod yX3_count, .selects RX3 yX3_count yX3_count, .initialized RX3, .code yX3_count cX3_count 2 (some .int), .classLink RX3 153 "java/lang/IndexOutOfBoundsException", .initialized "java/lang/IndexOutOfBoundsException", .fieldLink RX3 12 "HullBuilder" "points" "LHullBuilder$Points;", .fieldLink RX3 19 "HullBuilder" "hull" "LHullBuilder$Hull;", .fieldLink RX3 23 "HullBuilder" "hullsBuilt" "I", .methodLink RX3 147 yJ6_bitCount_0f7a4, .static yJ6_bitCount_0f7a4, .initialized RJ6, .code yJ6_bitCount_0f7a4 cJ6_bitCount_0f7a4 1 (some .int), .constant RJ6 265 (1431655765), .constant RJ6 266 (858993459), .constant RJ6 267 (252645135)] ++ wsX30 ++ wsX20 ++ wsX10 ++ (vx_atS RX3 157 "java/lang/IndexOutOfBoundsException" ["java/lang/RuntimeException", "java/lang/Exception"]).filter goodWord)
def wsL_law0_r1 : List Cond := [Cond.classLink RL 8 RX3, Cond.instantiable RX3 3, Cond.initialized RX3, Cond.classLink RL 68 RX4, Cond.instantiable RX4 27, Cond.initialized RX4, Cond.arrayClass .long, Cond.arrayClass .double, Cond.methodLink RL 67 yX3_init, Cond.instanceMethod yX3_init, Cond.code yX3_init cX3_init 1 none, Cond.methodLink RX3 3 objectInit, Cond.instanceMethod objectInit, Cond.code objectInit ⟨#[0xb1]⟩ 1 none, Cond.classLink RX3 9 RX2, Cond.instantiable RX2 4, Cond.initialized RX2, Cond.fieldLink RX3 12 "HullBuilder" "points" "LHullBuilder$Points;", Cond.classLink RX3 16 RX1, Cond.instantiable RX1 11, Cond.initialized RX1, Cond.fieldLink RX3 19 "HullBuilder" "hull" "LHullBuilder$Hull;", Cond.fieldLink RX3 23 "HullBuilder" "hullsBuilt" "I", Cond.instanceMethod yX2_init]
def wsL_law0_r2 : List Cond := [Cond.code yX2_init cX2_init 1 none, Cond.methodLink RX2 3 objectInit, Cond.arrayClass .int, Cond.fieldLink RX2 9 "HullBuilder$Points" "xs" "[I", Cond.fieldLink RX2 15 "HullBuilder$Points" "ys" "[I", Cond.fieldLink RX2 18 "HullBuilder$Points" "zs" "[I", Cond.fieldLink RX2 21 "HullBuilder$Points" "size" "I", Cond.instanceMethod yX1_init, Cond.code yX1_init cX1_init 2 none, Cond.methodLink RX1 3 objectInit, Cond.classLink RX1 9 RX2, Cond.fieldLink RX1 12 "HullBuilder$Hull" "at" "LHullBuilder$Points;", Cond.classLink RX1 18 RX0, Cond.fieldLink RX1 20 "HullBuilder$Hull" "faces" "[LHullBuilder$Face;", Cond.instantiable RX0 7, Cond.initialized RX0, Cond.fieldLink RX1 25 "HullBuilder$Hull" "trial" "LHullBuilder$Face;", Cond.fieldLink RX1 29 "HullBuilder$Hull" "faceAlong" "[I", Cond.fieldLink RX1 33 "HullBuilder$Hull" "edgeLow" "[I", Cond.fieldLink RX1 36 "HullBuilder$Hull" "edgeHigh" "[I", Cond.fieldLink RX1 39 "HullBuilder$Hull" "moments" "[J", Cond.instanceMethod yX0_init, Cond.code yX0_init cX0_init 1 none, Cond.methodLink RX0 3 objectInit]
def wsL_law0_r3 : List Cond := [Cond.fieldLink RX0 9 "HullBuilder$Face" "ring" "[I", Cond.methodLink RL 70 yX4_init, Cond.instanceMethod yX4_init, Cond.code yX4_init cX4_init 1 none, Cond.methodLink RX4 1 objectInit, Cond.fieldLink RX4 7 "HullBuilderModel" "xs" "[I", Cond.fieldLink RX4 13 "HullBuilderModel" "ys" "[I", Cond.fieldLink RX4 16 "HullBuilderModel" "zs" "[I", Cond.fieldLink RX4 19 "HullBuilderModel" "hx" "[J", Cond.fieldLink RX4 23 "HullBuilderModel" "hy" "[J", Cond.fieldLink RX4 26 "HullBuilderModel" "hz" "[J", Cond.fieldLink RX4 29 "HullBuilderModel" "nx" "[J", Cond.fieldLink RX4 32 "HullBuilderModel" "ny" "[J", Cond.fieldLink RX4 35 "HullBuilderModel" "nz" "[J", Cond.fieldLink RX4 38 "HullBuilderModel" "offsets" "[J", Cond.fieldLink RX4 41 "HullBuilderModel" "sizes" "[I", Cond.fieldLink RX4 44 "HullBuilderModel" "corners" "[I", Cond.fieldLink RX4 47 "HullBuilderModel" "order" "[I", Cond.fieldLink RX4 50 "HullBuilderModel" "ends" "[I", Cond.fieldLink RX4 53 "HullBuilderModel" "lefts" "[I", Cond.fieldLink RX4 56 "HullBuilderModel" "rights" "[I", Cond.fieldLink RX4 59 "HullBuilderModel" "far" "[I", Cond.methodLink RL 71 yL_point, Cond.static yL_point]
def wsL_law0_r4 : List Cond := [Cond.initialized RL, Cond.codeWith yL_point cL_point 6 (some .int) [(0, 12, 15, 13), (0, 12, 19, 15)], Cond.classLink RL 13 "java/lang/IllegalArgumentException", Cond.classLink RL 15 "java/lang/IllegalStateException", Cond.methodLink RL 7 yX3_point, Cond.instanceMethod yX3_point, Cond.selects RX3 yX3_point yX3_point, Cond.code yX3_point cX3_point 4 (some .int), Cond.classLink RX3 35 "java/lang/IllegalArgumentException", Cond.initialized "java/lang/IllegalArgumentException", Cond.classLink RX3 45 "java/lang/IllegalStateException", Cond.initialized "java/lang/IllegalStateException", Cond.methodLink RX3 27 yX3_requireReach, Cond.static yX3_requireReach, Cond.code yX3_requireReach cX3_requireReach 4 none, Cond.methodLink RX3 168 yX3_isWithin, Cond.static yX3_isWithin, Cond.code yX3_isWithin cX3_isWithin 2 (some .boolean), Cond.instanceMethod yX2_isTaken, Cond.selects RX2 yX2_isTaken yX2_isTaken, Cond.code yX2_isTaken cX2_isTaken 5 (some .boolean), Cond.instanceMethod yX2_append, Cond.selects RX2 yX2_append yX2_append, Cond.code yX2_append cX2_append 4 (some .int)]
def wsL_law0_r5 : List Cond := [Cond.methodLink RL 76 yX4_point, Cond.instanceMethod yX4_point, Cond.selects RX4 yX4_point yX4_point, Cond.code yX4_point cX4_point 5 (some .int), Cond.fieldLink RX4 66 "HullBuilderModel" "points" "I", Cond.methodLink RX4 69 yX4_within, Cond.static yX4_within, Cond.code yX4_within cX4_within 2 (some .boolean), Cond.methodLink RX4 73 yX4_taken, Cond.instanceMethod yX4_taken, Cond.selects RX4 yX4_taken yX4_taken, Cond.code yX4_taken cX4_taken 6 (some .boolean), Cond.methodLink RX4 77 yX4_goes, Cond.instanceMethod yX4_goes, Cond.selects RX4 yX4_goes yX4_goes, Cond.code yX4_goes cX4_goes 3 (some .boolean), Cond.fieldLink RX4 62 "HullBuilderModel" "thrown" "I", Cond.methodLink RL 77 yX4_thrown, Cond.instanceMethod yX4_thrown, Cond.selects RX4 yX4_thrown yX4_thrown, Cond.code yX4_thrown cX4_thrown 1 (some .int), Cond.methodLink RL 80 yL_take, Cond.static yL_take, Cond.codeWith yL_take cL_take 4 (some .int) [(0, 9, 12, 21)]]
def wsL_law0_r6 : List Cond := [Cond.classLink RL 21 "java/lang/IndexOutOfBoundsException", Cond.methodLink RL 17 yX3_take, Cond.instanceMethod yX3_take, Cond.selects RX3 yX3_take yX3_take, Cond.code yX3_take cX3_take 2 (some .int), Cond.methodLink RX3 54 yX3_requirePlace, Cond.static yX3_requirePlace, Cond.code yX3_requirePlace cX3_requirePlace 2 none, Cond.classLink RX3 153 "java/lang/IndexOutOfBoundsException", Cond.initialized "java/lang/IndexOutOfBoundsException", Cond.instanceMethod yX2_remove, Cond.selects RX2 yX2_remove yX2_remove, Cond.code yX2_remove cX2_remove 3 none, Cond.methodLink RL 83 yX4_take, Cond.instanceMethod yX4_take, Cond.selects RX4 yX4_take yX4_take, Cond.code yX4_take cX4_take 3 (some .int), Cond.methodLink RL 84 yL_build, Cond.static yL_build, Cond.codeWith yL_build cL_build 3 (some .int) [(0, 8, 11, 15)], Cond.methodLink RL 23 yX3_build, Cond.instanceMethod yX3_build, Cond.selects RX3 yX3_build yX3_build, Cond.code yX3_build cX3_build 1 (some .int)]
def wsL_law0_r7 : List Cond := [Cond.instanceMethod yX1_wouldBeFlat, Cond.selects RX1 yX1_wouldBeFlat yX1_wouldBeFlat, Cond.code yX1_wouldBeFlat cX1_wouldBeFlat 3 (some .boolean), Cond.instanceMethod yX0_layThrough, Cond.selects RX0 yX0_layThrough yX0_layThrough, Cond.code yX0_layThrough cX0_layThrough 5 (some .boolean), Cond.fieldLink RX0 27 "HullBuilder$Face" "nx" "J", Cond.fieldLink RX0 34 "HullBuilder$Face" "ny" "J", Cond.fieldLink RX0 37 "HullBuilder$Face" "nz" "J", Cond.fieldLink RX0 40 "HullBuilder$Face" "distance" "J", Cond.static yX3_across, Cond.code yX3_across cX3_across 5 (some .long), Cond.instanceMethod yX0_holdsAll, Cond.selects RX0 yX0_holdsAll yX0_holdsAll, Cond.code yX0_holdsAll cX0_holdsAll 3 (some .boolean), Cond.methodLink RX0 47 yX0_heightOf, Cond.instanceMethod yX0_heightOf, Cond.selects RX0 yX0_heightOf yX0_heightOf, Cond.code yX0_heightOf cX0_heightOf 7 (some .long), Cond.instanceMethod yX1_wrap, Cond.selects RX1 yX1_wrap yX1_wrap, Cond.code yX1_wrap cX1_wrap 3 none, Cond.fieldLink RX1 65 "HullBuilder$Hull" "faceCount" "I", Cond.fieldLink RX1 68 "HullBuilder$Hull" "corners" "I"]
def wsL_law0_r8 : List Cond := [Cond.instanceMethod yX2_copyFrom, Cond.selects RX2 yX2_copyFrom yX2_copyFrom, Cond.code yX2_copyFrom cX2_copyFrom 3 none, Cond.methodLink RX1 59 yX1_findFaces, Cond.instanceMethod yX1_findFaces, Cond.selects RX1 yX1_findFaces yX1_findFaces, Cond.code yX1_findFaces cX1_findFaces 4 none, Cond.methodLink RX1 84 yX1_tryPlane, Cond.instanceMethod yX1_tryPlane, Cond.selects RX1 yX1_tryPlane yX1_tryPlane, Cond.code yX1_tryPlane cX1_tryPlane 5 none, Cond.methodLink RX1 88 yX1_lieInOneFace, Cond.instanceMethod yX1_lieInOneFace, Cond.selects RX1 yX1_lieInOneFace yX1_lieInOneFace, Cond.code yX1_lieInOneFace cX1_lieInOneFace 3 (some .boolean), Cond.instanceMethod yX0_turnOutside, Cond.selects RX0 yX0_turnOutside yX0_turnOutside, Cond.code yX0_turnOutside cX0_turnOutside 7 (some .boolean), Cond.fieldLink RX0 51 "HullBuilder$Face" "held" "I", Cond.instanceMethod yX0_shortenNormal, Cond.selects RX0 yX0_shortenNormal yX0_shortenNormal, Cond.code yX0_shortenNormal cX0_shortenNormal 3 none, Cond.static yX3_commonFactor, Cond.code yX3_commonFactor cX3_commonFactor 7 (some .long)]
def wsL_law0_r9 : List Cond := [Cond.methodLink RX1 62 yX1_findCorners, Cond.instanceMethod yX1_findCorners, Cond.selects RX1 yX1_findCorners yX1_findCorners, Cond.code yX1_findCorners cX1_findCorners 4 none, Cond.static yX3_holds, Cond.code yX3_holds cX3_holds 2 (some .boolean), Cond.instanceMethod yX0_goRound, Cond.selects RX0 yX0_goRound yX0_goRound, Cond.code yX0_goRound cX0_goRound 6 none, Cond.fieldLink RX0 64 "HullBuilder$Face" "size" "I", Cond.methodLink RX0 58 yJ6_numberOfTrailingZeros_0f7a4, Cond.static yJ6_numberOfTrailingZeros_0f7a4, Cond.initialized RJ6, Cond.code yJ6_numberOfTrailingZeros_0f7a4 cJ6_numberOfTrailingZeros_0f7a4 2 (some .int), Cond.constant RJ6 264 (65536), Cond.methodLink RX0 65 yJ6_bitCount_0f7a4, Cond.static yJ6_bitCount_0f7a4, Cond.code yJ6_bitCount_0f7a4 cJ6_bitCount_0f7a4 1 (some .int), Cond.constant RJ6 265 (1431655765), Cond.constant RJ6 266 (858993459), Cond.constant RJ6 267 (252645135), Cond.methodLink RX0 68 yX0_nextRound, Cond.instanceMethod yX0_nextRound, Cond.selects RX0 yX0_nextRound yX0_nextRound]
def wsL_law0_r10 : List Cond := [Cond.code yX0_nextRound cX0_nextRound 6 (some .int), Cond.methodLink RX0 76 yX0_isRight, Cond.instanceMethod yX0_isRight, Cond.selects RX0 yX0_isRight yX0_isRight, Cond.code yX0_isRight cX0_isRight 5 (some .boolean), Cond.methodLink RX1 75 yX1_orderFaces, Cond.instanceMethod yX1_orderFaces, Cond.selects RX1 yX1_orderFaces yX1_orderFaces, Cond.code yX1_orderFaces cX1_orderFaces 4 none, Cond.instanceMethod yX0_rank, Cond.selects RX0 yX0_rank yX0_rank, Cond.code yX0_rank cX0_rank 1 (some .int), Cond.static yX3_way, Cond.code yX3_way cX3_way 2 (some .int), Cond.methodLink RX1 78 yX1_findEdges, Cond.instanceMethod yX1_findEdges, Cond.selects RX1 yX1_findEdges yX1_findEdges, Cond.code yX1_findEdges cX1_findEdges 3 none, Cond.fieldLink RX1 112 "HullBuilder$Hull" "edgeCount" "I", Cond.methodLink RX1 109 yX1_noteWays, Cond.instanceMethod yX1_noteWays, Cond.selects RX1 yX1_noteWays yX1_noteWays, Cond.code yX1_noteWays cX1_noteWays 5 none, Cond.methodLink RX1 119 yJ7_fill_53178]
def wsL_law0_r11 : List Cond := [Cond.static yJ7_fill_53178, Cond.initialized RJ7, Cond.code yJ7_fill_53178 cJ7_fill_53178 4 none, Cond.methodLink RX1 81 yX1_measure, Cond.instanceMethod yX1_measure, Cond.selects RX1 yX1_measure yX1_measure, Cond.code yX1_measure cX1_measure 4 none, Cond.fieldLink RX1 129 "HullBuilder$Hull" "sixVolumes" "J", Cond.methodLink RX1 133 yJ7_fill_d0a16, Cond.static yJ7_fill_d0a16, Cond.code yJ7_fill_d0a16 cJ7_fill_d0a16 5 none, Cond.methodLink RX1 136 yX1_addTetrahedron, Cond.instanceMethod yX1_addTetrahedron, Cond.selects RX1 yX1_addTetrahedron yX1_addTetrahedron, Cond.code yX1_addTetrahedron cX1_addTetrahedron 6 none, Cond.methodLink RL 87 yX4_build, Cond.instanceMethod yX4_build, Cond.selects RX4 yX4_build yX4_build, Cond.code yX4_build cX4_build 5 (some .int), Cond.fieldLink RX4 98 "HullBuilderModel" "held" "I", Cond.fieldLink RX4 91 "HullBuilderModel" "faces" "I", Cond.fieldLink RX4 159 "HullBuilderModel" "built" "Z", Cond.fieldLink RX4 163 "HullBuilderModel" "builds" "I", Cond.methodLink RX4 142 yX4_solid]
def wsL_law0_r12 : List Cond := [Cond.instanceMethod yX4_solid, Cond.selects RX4 yX4_solid yX4_solid, Cond.code yX4_solid cX4_solid 6 (some .boolean), Cond.methodLink RX4 138 yX4_volumeOf, Cond.instanceMethod yX4_volumeOf, Cond.selects RX4 yX4_volumeOf yX4_volumeOf, Cond.code yX4_volumeOf cX4_volumeOf 23 (some .long), Cond.methodLink RX4 146 yX4_tries, Cond.instanceMethod yX4_tries, Cond.selects RX4 yX4_tries yX4_tries, Cond.code yX4_tries cX4_tries 10 (some .boolean), Cond.fieldLink RX4 81 "HullBuilderModel" "tx" "J", Cond.fieldLink RX4 85 "HullBuilderModel" "ty" "J", Cond.fieldLink RX4 88 "HullBuilderModel" "tz" "J", Cond.constantLong RX4 105 (-1), Cond.methodLink RX4 94 yX4_across, Cond.instanceMethod yX4_across, Cond.selects RX4 yX4_across yX4_across, Cond.code yX4_across cX4_across 16 none, Cond.methodLink RX4 101 yX4_above, Cond.instanceMethod yX4_above, Cond.selects RX4 yX4_above yX4_above, Cond.code yX4_above cX4_above 3 (some .long), Cond.methodLink RX4 107 yX4_common]
def wsL_law0_r13 : List Cond := [Cond.static yX4_common, Cond.code yX4_common cX4_common 11 (some .long), Cond.methodLink RX4 111 yX4_addFace, Cond.instanceMethod yX4_addFace, Cond.selects RX4 yX4_addFace yX4_addFace, Cond.code yX4_addFace cX4_addFace 3 none, Cond.methodLink RX4 115 yX4_knownFace, Cond.instanceMethod yX4_knownFace, Cond.selects RX4 yX4_knownFace yX4_knownFace, Cond.code yX4_knownFace cX4_knownFace 5 (some .boolean), Cond.methodLink RX4 149 yX4_walk, Cond.instanceMethod yX4_walk, Cond.selects RX4 yX4_walk yX4_walk, Cond.code yX4_walk cX4_walk 6 none, Cond.methodLink RX4 119 yX4_in, Cond.instanceMethod yX4_in, Cond.selects RX4 yX4_in yX4_in, Cond.code yX4_in cX4_in 3 (some .boolean), Cond.methodLink RX4 125 yX4_behind, Cond.instanceMethod yX4_behind, Cond.selects RX4 yX4_behind yX4_behind, Cond.code yX4_behind cX4_behind 4 (some .int), Cond.methodLink RX4 122 yX4_goesOn, Cond.instanceMethod yX4_goesOn]
def wsL_law0_r14 : List Cond := [Cond.selects RX4 yX4_goesOn yX4_goesOn, Cond.code yX4_goesOn cX4_goesOn 10 (some .boolean), Cond.methodLink RX4 153 yX4_orderFaces, Cond.instanceMethod yX4_orderFaces, Cond.selects RX4 yX4_orderFaces yX4_orderFaces, Cond.code yX4_orderFaces cX4_orderFaces 3 none, Cond.methodLink RX4 129 yX4_earlier, Cond.instanceMethod yX4_earlier, Cond.selects RX4 yX4_earlier yX4_earlier, Cond.code yX4_earlier cX4_earlier 5 (some .boolean), Cond.methodLink RX4 156 yX4_findEdges, Cond.instanceMethod yX4_findEdges, Cond.selects RX4 yX4_findEdges yX4_findEdges, Cond.code yX4_findEdges cX4_findEdges 4 none, Cond.fieldLink RX4 132 "HullBuilderModel" "edges" "I", Cond.methodLink RX4 135 yX4_faceFrom, Cond.instanceMethod yX4_faceFrom, Cond.selects RX4 yX4_faceFrom yX4_faceFrom, Cond.code yX4_faceFrom cX4_faceFrom 8 (some .int), Cond.methodLink RL 88 yL_of, Cond.static yL_of, Cond.codeWith yL_of cL_of 5 (some .int) [(0, 10, 13, 21)], Cond.methodLink RL 27 yX3_of, Cond.instanceMethod yX3_of]
def wsL_law0_r15 : List Cond := [Cond.selects RX3 yX3_of yX3_of, Cond.code yX3_of cX3_of 3 (some .int), Cond.instanceMethod yX2_coordinate, Cond.selects RX2 yX2_coordinate yX2_coordinate, Cond.code yX2_coordinate cX2_coordinate 3 (some .int), Cond.methodLink RL 91 yX4_of, Cond.instanceMethod yX4_of, Cond.selects RX4 yX4_of yX4_of, Cond.code yX4_of cX4_of 3 (some .int), Cond.methodLink RL 92 yL_face, Cond.static yL_face, Cond.codeWith yL_face cL_face 5 (some .int) [(0, 10, 13, 15), (0, 10, 17, 21)], Cond.methodLink RL 31 yX3_face, Cond.instanceMethod yX3_face, Cond.selects RX3 yX3_face yX3_face, Cond.code yX3_face cX3_face 4 (some .int), Cond.methodLink RX3 79 yX3_requireHull, Cond.instanceMethod yX3_requireHull, Cond.selects RX3 yX3_requireHull yX3_requireHull, Cond.code yX3_requireHull cX3_requireHull 1 none, Cond.methodLink RL 94 yX4_face, Cond.instanceMethod yX4_face, Cond.selects RX4 yX4_face yX4_face, Cond.code yX4_face cX4_face 4 (some .int)]
def wsL_law0_r16 : List Cond := [Cond.methodLink RX4 166 yX4_there, Cond.instanceMethod yX4_there, Cond.selects RX4 yX4_there yX4_there, Cond.code yX4_there cX4_there 2 (some .boolean), Cond.methodLink RL 95 yL_offset, Cond.static yL_offset, Cond.codeWith yL_offset cL_offset 4 (some .int) [(0, 8, 11, 15), (0, 8, 14, 21)], Cond.methodLink RL 34 yX3_offset, Cond.instanceMethod yX3_offset, Cond.selects RX3 yX3_offset yX3_offset, Cond.code yX3_offset cX3_offset 2 (some .long), Cond.methodLink RL 97 yX4_offset, Cond.instanceMethod yX4_offset, Cond.selects RX4 yX4_offset yX4_offset, Cond.code yX4_offset cX4_offset 2 (some .long), Cond.methodLink RL 98 yL_corner, Cond.static yL_corner, Cond.codeWith yL_corner cL_corner 5 (some .int) [(0, 10, 13, 15), (0, 10, 17, 21)], Cond.methodLink RL 38 yX3_corner, Cond.instanceMethod yX3_corner, Cond.selects RX3 yX3_corner yX3_corner, Cond.code yX3_corner cX3_corner 3 (some .int), Cond.methodLink RL 100 yX4_corner, Cond.instanceMethod yX4_corner]
def wsL_law0_r17 : List Cond := [Cond.selects RX4 yX4_corner yX4_corner, Cond.code yX4_corner cX4_corner 3 (some .int), Cond.methodLink RL 101 yL_edge, Cond.static yL_edge, Cond.codeWith yL_edge cL_edge 5 (some .int) [(0, 10, 13, 15), (0, 10, 17, 21)], Cond.methodLink RL 41 yX3_edge, Cond.instanceMethod yX3_edge, Cond.selects RX3 yX3_edge yX3_edge, Cond.code yX3_edge cX3_edge 5 (some .int), Cond.methodLink RX3 118 yX3_way, Cond.methodLink RL 103 yX4_edge, Cond.instanceMethod yX4_edge, Cond.selects RX4 yX4_edge yX4_edge, Cond.code yX4_edge cX4_edge 3 (some .int), Cond.methodLink RL 104 yL_support, Cond.static yL_support, Cond.codeWith yL_support cL_support 6 (some .int) [(0, 12, 15, 15), (0, 12, 19, 13)], Cond.methodLink RL 44 yX3_support, Cond.instanceMethod yX3_support, Cond.selects RX3 yX3_support yX3_support, Cond.code yX3_support cX3_support 4 (some .int), Cond.constant RX3 121 (65536), Cond.instanceMethod yX1_furthest, Cond.selects RX1 yX1_furthest yX1_furthest]
def wsL_law0_r18 : List Cond := [Cond.code yX1_furthest cX1_furthest 13 (some .int), Cond.methodLink RL 106 yX4_support, Cond.instanceMethod yX4_support, Cond.selects RX4 yX4_support yX4_support, Cond.code yX4_support cX4_support 10 (some .int), Cond.constant RX4 170 (65536), Cond.methodLink RX4 171 yX4_isCorner, Cond.instanceMethod yX4_isCorner, Cond.selects RX4 yX4_isCorner yX4_isCorner, Cond.code yX4_isCorner cX4_isCorner 4 (some .boolean), Cond.methodLink RL 107 yL_steps, Cond.static yL_steps, Cond.codeWith yL_steps cL_steps 5 (some .int) [(0, 10, 13, 15), (0, 10, 17, 21)], Cond.methodLink RL 47 yX3_steps, Cond.instanceMethod yX3_steps, Cond.selects RX3 yX3_steps yX3_steps, Cond.code yX3_steps cX3_steps 3 (some .int), Cond.methodLink RX3 126 yX3_requireCorner, Cond.instanceMethod yX3_requireCorner, Cond.selects RX3 yX3_requireCorner yX3_requireCorner, Cond.code yX3_requireCorner cX3_requireCorner 2 none, Cond.methodLink RX3 160 yX3_holds, Cond.instanceMethod yX1_walk, Cond.selects RX1 yX1_walk yX1_walk]
def wsL_law0_r19 : List Cond := [Cond.code yX1_walk cX1_walk 5 (some .int), Cond.methodLink RX1 148 yX1_stepFrom, Cond.instanceMethod yX1_stepFrom, Cond.selects RX1 yX1_stepFrom yX1_stepFrom, Cond.code yX1_stepFrom cX1_stepFrom 5 (some .int), Cond.methodLink RL 109 yX4_steps, Cond.instanceMethod yX4_steps, Cond.selects RX4 yX4_steps yX4_steps, Cond.code yX4_steps cX4_steps 8 (some .int), Cond.methodLink RL 110 yL_side, Cond.static yL_side, Cond.codeWith yL_side cL_side 6 (some .int) [(0, 12, 15, 15), (0, 12, 19, 13)], Cond.methodLink RL 50 yX3_side, Cond.instanceMethod yX3_side, Cond.selects RX3 yX3_side yX3_side, Cond.code yX3_side cX3_side 4 (some .int), Cond.instanceMethod yX1_locate, Cond.selects RX1 yX1_locate yX1_locate, Cond.code yX1_locate cX1_locate 8 (some .int), Cond.methodLink RL 112 yX4_side, Cond.instanceMethod yX4_side, Cond.selects RX4 yX4_side yX4_side, Cond.code yX4_side cX4_side 8 (some .int), Cond.methodLink RL 113 yL_volume]
def wsL_law0_r20 : List Cond := [Cond.static yL_volume, Cond.codeWith yL_volume cL_volume 3 (some .int) [(0, 7, 10, 15)], Cond.methodLink RL 53 yX3_volume, Cond.instanceMethod yX3_volume, Cond.selects RX3 yX3_volume yX3_volume, Cond.code yX3_volume cX3_volume 1 (some .long), Cond.methodLink RL 115 yX4_volume, Cond.instanceMethod yX4_volume, Cond.selects RX4 yX4_volume yX4_volume, Cond.code yX4_volume cX4_volume 1 (some .long), Cond.methodLink RX4 174 yX4_sum, Cond.instanceMethod yX4_sum, Cond.selects RX4 yX4_sum yX4_sum, Cond.code yX4_sum cX4_sum 13 (some .long), Cond.methodLink RL 116 yL_centre, Cond.static yL_centre, Cond.codeWith yL_centre cL_centre 4 (some .int) [(0, 8, 11, 15), (0, 8, 14, 21)], Cond.methodLink RL 57 yX3_centre, Cond.instanceMethod yX3_centre, Cond.selects RX3 yX3_centre yX3_centre, Cond.code yX3_centre cX3_centre 2 (some .long), Cond.methodLink RL 118 yX4_centre, Cond.instanceMethod yX4_centre, Cond.selects RX4 yX4_centre yX4_centre]
def wsL_law0_r21 : List Cond := [Cond.code yX4_centre cX4_centre 2 (some .long), Cond.methodLink RL 119 yL_middle, Cond.static yL_middle, Cond.codeWith yL_middle cL_middle 4 (some .int) [(0, 8, 11, 15), (0, 8, 14, 21)], Cond.methodLink RL 60 yX3_middle, Cond.instanceMethod yX3_middle, Cond.selects RX3 yX3_middle yX3_middle, Cond.code yX3_middle cX3_middle 4 (some .double), Cond.constantDouble RX3 142 (4616189618054758400), Cond.methodLink RL 122 yX4_middle, Cond.instanceMethod yX4_middle, Cond.selects RX4 yX4_middle yX4_middle, Cond.code yX4_middle cX4_middle 6 (some .double), Cond.constantLong RX4 178 (4), Cond.methodLink RL 123 yL_count, Cond.static yL_count, Cond.codeWith yL_count cL_count 4 (some .int) [(0, 9, 12, 21)], Cond.methodLink RL 64 yX3_count, Cond.instanceMethod yX3_count, Cond.selects RX3 yX3_count yX3_count, Cond.code yX3_count cX3_count 2 (some .int), Cond.methodLink RX3 147 yJ6_bitCount_0f7a4, Cond.methodLink RL 125 yX4_count, Cond.instanceMethod yX4_count]
def wsL_law0_r22 : List Cond := [Cond.selects RX4 yX4_count yX4_count, Cond.code yX4_count cX4_count 4 (some .int)]
def wsL_law0 : List Cond := (wsL_law0_r1 ++ (wsL_law0_r2 ++ (wsL_law0_r3 ++ (wsL_law0_r4 ++ (wsL_law0_r5 ++ (wsL_law0_r6 ++ (wsL_law0_r7 ++ (wsL_law0_r8 ++ (wsL_law0_r9 ++ (wsL_law0_r10 ++ (wsL_law0_r11 ++ (wsL_law0_r12 ++ (wsL_law0_r13 ++ (wsL_law0_r14 ++ (wsL_law0_r15 ++ (wsL_law0_r16 ++ (wsL_law0_r17 ++ (wsL_law0_r18 ++ (wsL_law0_r19 ++ (wsL_law0_r20 ++ (wsL_law0_r21 ++ wsL_law0_r22))))))))))))))))))))) ++ wsX30 ++ wsX40 ++ wsX20 ++ wsX10 ++ wsX00 ++ ([] : List Cond)
def wsL_law : List Cond := wsL_law0 ++ (vx_atS RX3 39 "java/lang/IllegalArgumentException" ["java/lang/RuntimeException", "java/lang/Exception"]).filter goodWord ++ (vx_atS RX3 49 "java/lang/IllegalStateException" ["java/lang/RuntimeException", "java/lang/Exception"]).filter goodWord ++ (vx_atS RX3 157 "java/lang/IndexOutOfBoundsException" ["java/lang/RuntimeException", "java/lang/Exception"]).filter goodWord
theorem inlX0 : ∀ w ∈ wsX00, w ∈ wsL_law := fun _ h => List.mem_append_left _ (List.mem_append_left _ (List.mem_append_left _ (List.mem_append_left _ (List.mem_append_right _ h))))
theorem inlX1 : ∀ w ∈ wsX10, w ∈ wsL_law := fun _ h => List.mem_append_left _ (List.mem_append_left _ (List.mem_append_left _ (List.mem_append_left _ (List.mem_append_left _ (List.mem_append_right _ h)))))
theorem inlX2 : ∀ w ∈ wsX20, w ∈ wsL_law := fun _ h => List.mem_append_left _ (List.mem_append_left _ (List.mem_append_left _ (List.mem_append_left _ (List.mem_append_left _ (List.mem_append_left _ (List.mem_append_right _ h))))))
theorem inlX3 : ∀ w ∈ wsX30, w ∈ wsL_law := fun _ h => List.mem_append_left _ (List.mem_append_left _ (List.mem_append_left _ (List.mem_append_left _ (List.mem_append_left _ (List.mem_append_left _ (List.mem_append_left _ (List.mem_append_left _ (List.mem_append_right _ h))))))))
theorem inlX4 : ∀ w ∈ wsX40, w ∈ wsL_law := fun _ h => List.mem_append_left _ (List.mem_append_left _ (List.mem_append_left _ (List.mem_append_left _ (List.mem_append_left _ (List.mem_append_left _ (List.mem_append_left _ (List.mem_append_right _ h)))))))
theorem dX0_init_0 : decode cX0_init 0 = .ok (.aload_n 0, 1) := by decide +kernel
theorem dX0_init_1 : decode cX0_init 1 = .ok (.invokespecial 3, 3) := by decide +kernel
theorem dX0_init_4 : decode cX0_init 4 = .ok (.aload_n 0, 1) := by decide +kernel
theorem dX0_init_5 : decode cX0_init 5 = .ok (.bipush 24, 2) := by decide +kernel
theorem dX0_init_7 : decode cX0_init 7 = .ok (.newarray .int, 2) := by decide +kernel
theorem dX0_init_9 : decode cX0_init 9 = .ok (.putfield 9, 3) := by decide +kernel
theorem dX0_init_12 : decode cX0_init 12 = .ok (.return_, 1) := by decide +kernel
set_option maxRecDepth 20000 in
theorem ggX0_layThrough_X3_across : GoodIn wsX0_layThrough wsX3_across := goodIn_r _ [7] (by decide +kernel) (by decide +kernel)
set_option maxRecDepth 20000 in
theorem gX0_layThrough_X3_across_n23 : GoodIn wsX0_layThrough (wsX3_across) := ggX0_layThrough_X3_across
theorem dX0_layThrough_0 : decode cX0_layThrough 0 = .ok (.aload_n 0, 1) := by decide +kernel
theorem dX0_layThrough_1 : decode cX0_layThrough 1 = .ok (.aload_n 1, 1) := by decide +kernel
theorem dX0_layThrough_2 : decode cX0_layThrough 2 = .ok (.getfield 15, 3) := by decide +kernel
theorem dX0_layThrough_5 : decode cX0_layThrough 5 = .ok (.aload_n 1, 1) := by decide +kernel
theorem dX0_layThrough_6 : decode cX0_layThrough 6 = .ok (.getfield 20, 3) := by decide +kernel
theorem dX0_layThrough_9 : decode cX0_layThrough 9 = .ok (.iload_n 2, 1) := by decide +kernel
theorem dX0_layThrough_10 : decode cX0_layThrough 10 = .ok (.iload_n 3, 1) := by decide +kernel
theorem dX0_layThrough_11 : decode cX0_layThrough 11 = .ok (.iload 4, 2) := by decide +kernel
theorem dX0_layThrough_13 : decode cX0_layThrough 13 = .ok (.invokestatic 23, 3) := by decide +kernel
theorem dX0_layThrough_16 : decode cX0_layThrough 16 = .ok (.putfield 27, 3) := by decide +kernel
theorem dX0_layThrough_19 : decode cX0_layThrough 19 = .ok (.aload_n 0, 1) := by decide +kernel
theorem dX0_layThrough_20 : decode cX0_layThrough 20 = .ok (.aload_n 1, 1) := by decide +kernel
theorem dX0_layThrough_21 : decode cX0_layThrough 21 = .ok (.getfield 20, 3) := by decide +kernel
theorem dX0_layThrough_24 : decode cX0_layThrough 24 = .ok (.aload_n 1, 1) := by decide +kernel
theorem dX0_layThrough_25 : decode cX0_layThrough 25 = .ok (.getfield 31, 3) := by decide +kernel
theorem dX0_layThrough_28 : decode cX0_layThrough 28 = .ok (.iload_n 2, 1) := by decide +kernel
theorem dX0_layThrough_29 : decode cX0_layThrough 29 = .ok (.iload_n 3, 1) := by decide +kernel
theorem dX0_layThrough_30 : decode cX0_layThrough 30 = .ok (.iload 4, 2) := by decide +kernel
theorem dX0_layThrough_32 : decode cX0_layThrough 32 = .ok (.invokestatic 23, 3) := by decide +kernel
theorem dX0_layThrough_35 : decode cX0_layThrough 35 = .ok (.putfield 34, 3) := by decide +kernel
theorem dX0_layThrough_38 : decode cX0_layThrough 38 = .ok (.aload_n 0, 1) := by decide +kernel
theorem dX0_layThrough_39 : decode cX0_layThrough 39 = .ok (.aload_n 1, 1) := by decide +kernel
theorem dX0_layThrough_40 : decode cX0_layThrough 40 = .ok (.getfield 31, 3) := by decide +kernel
theorem dX0_layThrough_43 : decode cX0_layThrough 43 = .ok (.aload_n 1, 1) := by decide +kernel
theorem dX0_layThrough_44 : decode cX0_layThrough 44 = .ok (.getfield 15, 3) := by decide +kernel
theorem dX0_layThrough_47 : decode cX0_layThrough 47 = .ok (.iload_n 2, 1) := by decide +kernel
theorem dX0_layThrough_48 : decode cX0_layThrough 48 = .ok (.iload_n 3, 1) := by decide +kernel
theorem dX0_layThrough_49 : decode cX0_layThrough 49 = .ok (.iload 4, 2) := by decide +kernel
theorem dX0_layThrough_51 : decode cX0_layThrough 51 = .ok (.invokestatic 23, 3) := by decide +kernel
theorem dX0_layThrough_54 : decode cX0_layThrough 54 = .ok (.putfield 37, 3) := by decide +kernel
theorem dX0_layThrough_57 : decode cX0_layThrough 57 = .ok (.aload_n 0, 1) := by decide +kernel
theorem dX0_layThrough_58 : decode cX0_layThrough 58 = .ok (.aload_n 0, 1) := by decide +kernel
theorem dX0_layThrough_59 : decode cX0_layThrough 59 = .ok (.getfield 27, 3) := by decide +kernel
theorem dX0_layThrough_62 : decode cX0_layThrough 62 = .ok (.aload_n 1, 1) := by decide +kernel
theorem dX0_layThrough_63 : decode cX0_layThrough 63 = .ok (.getfield 31, 3) := by decide +kernel
theorem dX0_layThrough_66 : decode cX0_layThrough 66 = .ok (.iload_n 2, 1) := by decide +kernel
theorem dX0_layThrough_67 : decode cX0_layThrough 67 = .ok (.iaload, 1) := by decide +kernel
theorem dX0_layThrough_68 : decode cX0_layThrough 68 = .ok (.i2l, 1) := by decide +kernel
theorem dX0_layThrough_69 : decode cX0_layThrough 69 = .ok (.lmul, 1) := by decide +kernel
theorem dX0_layThrough_70 : decode cX0_layThrough 70 = .ok (.aload_n 0, 1) := by decide +kernel
theorem dX0_layThrough_71 : decode cX0_layThrough 71 = .ok (.getfield 34, 3) := by decide +kernel
theorem dX0_layThrough_74 : decode cX0_layThrough 74 = .ok (.aload_n 1, 1) := by decide +kernel
theorem dX0_layThrough_75 : decode cX0_layThrough 75 = .ok (.getfield 15, 3) := by decide +kernel
theorem dX0_layThrough_78 : decode cX0_layThrough 78 = .ok (.iload_n 2, 1) := by decide +kernel
theorem dX0_layThrough_79 : decode cX0_layThrough 79 = .ok (.iaload, 1) := by decide +kernel
theorem dX0_layThrough_80 : decode cX0_layThrough 80 = .ok (.i2l, 1) := by decide +kernel
theorem dX0_layThrough_81 : decode cX0_layThrough 81 = .ok (.lmul, 1) := by decide +kernel
theorem dX0_layThrough_82 : decode cX0_layThrough 82 = .ok (.ladd, 1) := by decide +kernel
theorem dX0_layThrough_83 : decode cX0_layThrough 83 = .ok (.aload_n 0, 1) := by decide +kernel
theorem dX0_layThrough_84 : decode cX0_layThrough 84 = .ok (.getfield 37, 3) := by decide +kernel
theorem dX0_layThrough_87 : decode cX0_layThrough 87 = .ok (.aload_n 1, 1) := by decide +kernel
theorem dX0_layThrough_88 : decode cX0_layThrough 88 = .ok (.getfield 20, 3) := by decide +kernel
theorem dX0_layThrough_91 : decode cX0_layThrough 91 = .ok (.iload_n 2, 1) := by decide +kernel
theorem dX0_layThrough_92 : decode cX0_layThrough 92 = .ok (.iaload, 1) := by decide +kernel
theorem dX0_layThrough_93 : decode cX0_layThrough 93 = .ok (.i2l, 1) := by decide +kernel
theorem dX0_layThrough_94 : decode cX0_layThrough 94 = .ok (.lmul, 1) := by decide +kernel
theorem dX0_layThrough_95 : decode cX0_layThrough 95 = .ok (.ladd, 1) := by decide +kernel
theorem dX0_layThrough_96 : decode cX0_layThrough 96 = .ok (.putfield 40, 3) := by decide +kernel
theorem dX0_layThrough_99 : decode cX0_layThrough 99 = .ok (.aload_n 0, 1) := by decide +kernel
theorem dX0_layThrough_100 : decode cX0_layThrough 100 = .ok (.getfield 27, 3) := by decide +kernel
theorem dX0_layThrough_103 : decode cX0_layThrough 103 = .ok (.lconst 0, 1) := by decide +kernel
theorem dX0_layThrough_104 : decode cX0_layThrough 104 = .ok (.lcmp, 1) := by decide +kernel
theorem dX0_layThrough_105 : decode cX0_layThrough 105 = .ok (.ifCond .ne 21, 3) := by decide +kernel
theorem dX0_layThrough_108 : decode cX0_layThrough 108 = .ok (.aload_n 0, 1) := by decide +kernel
theorem dX0_layThrough_109 : decode cX0_layThrough 109 = .ok (.getfield 34, 3) := by decide +kernel
theorem dX0_layThrough_112 : decode cX0_layThrough 112 = .ok (.lconst 0, 1) := by decide +kernel
theorem dX0_layThrough_113 : decode cX0_layThrough 113 = .ok (.lcmp, 1) := by decide +kernel
theorem dX0_layThrough_114 : decode cX0_layThrough 114 = .ok (.ifCond .ne 12, 3) := by decide +kernel
theorem dX0_layThrough_117 : decode cX0_layThrough 117 = .ok (.aload_n 0, 1) := by decide +kernel
theorem dX0_layThrough_118 : decode cX0_layThrough 118 = .ok (.getfield 37, 3) := by decide +kernel
theorem dX0_layThrough_121 : decode cX0_layThrough 121 = .ok (.lconst 0, 1) := by decide +kernel
theorem dX0_layThrough_122 : decode cX0_layThrough 122 = .ok (.lcmp, 1) := by decide +kernel
theorem dX0_layThrough_123 : decode cX0_layThrough 123 = .ok (.ifCond .eq 7, 3) := by decide +kernel
theorem dX0_layThrough_126 : decode cX0_layThrough 126 = .ok (.iconst 1, 1) := by decide +kernel
theorem dX0_layThrough_127 : decode cX0_layThrough 127 = .ok (.goto 4, 3) := by decide +kernel
theorem dX0_layThrough_130 : decode cX0_layThrough 130 = .ok (.iconst 0, 1) := by decide +kernel
theorem dX0_layThrough_131 : decode cX0_layThrough 131 = .ok (.ireturn, 1) := by decide +kernel
theorem dX0_heightOf_0 : decode cX0_heightOf 0 = .ok (.aload_n 0, 1) := by decide +kernel
theorem dX0_heightOf_1 : decode cX0_heightOf 1 = .ok (.getfield 27, 3) := by decide +kernel
theorem dX0_heightOf_4 : decode cX0_heightOf 4 = .ok (.lload_n 1, 1) := by decide +kernel
theorem dX0_heightOf_5 : decode cX0_heightOf 5 = .ok (.lmul, 1) := by decide +kernel
theorem dX0_heightOf_6 : decode cX0_heightOf 6 = .ok (.aload_n 0, 1) := by decide +kernel
theorem dX0_heightOf_7 : decode cX0_heightOf 7 = .ok (.getfield 34, 3) := by decide +kernel
theorem dX0_heightOf_10 : decode cX0_heightOf 10 = .ok (.lload_n 3, 1) := by decide +kernel
theorem dX0_heightOf_11 : decode cX0_heightOf 11 = .ok (.lmul, 1) := by decide +kernel
theorem dX0_heightOf_12 : decode cX0_heightOf 12 = .ok (.ladd, 1) := by decide +kernel
theorem dX0_heightOf_13 : decode cX0_heightOf 13 = .ok (.aload_n 0, 1) := by decide +kernel
theorem dX0_heightOf_14 : decode cX0_heightOf 14 = .ok (.getfield 37, 3) := by decide +kernel
theorem dX0_heightOf_17 : decode cX0_heightOf 17 = .ok (.lload 5, 2) := by decide +kernel
theorem dX0_heightOf_19 : decode cX0_heightOf 19 = .ok (.lmul, 1) := by decide +kernel
theorem dX0_heightOf_20 : decode cX0_heightOf 20 = .ok (.ladd, 1) := by decide +kernel
theorem dX0_heightOf_21 : decode cX0_heightOf 21 = .ok (.aload_n 0, 1) := by decide +kernel
theorem dX0_heightOf_22 : decode cX0_heightOf 22 = .ok (.getfield 40, 3) := by decide +kernel
theorem dX0_heightOf_25 : decode cX0_heightOf 25 = .ok (.lsub, 1) := by decide +kernel
theorem dX0_heightOf_26 : decode cX0_heightOf 26 = .ok (.lreturn, 1) := by decide +kernel
set_option maxRecDepth 20000 in
theorem ggX0_holdsAll_X0_heightOf : GoodIn wsX0_holdsAll wsX0_heightOf := goodIn_r _ [5, 6, 7, 8, 9, 14, 15, 16, 17, 18, 19, 20] (by decide +kernel) (by decide +kernel)
set_option maxRecDepth 20000 in
theorem gX0_holdsAll_X0_heightOf : GoodIn wsX0_holdsAll (wsV RX0 47 RX0 yX0_heightOf wsX0_heightOf) := goodIn_app (goodIn_of _ (by decide +kernel)) ggX0_holdsAll_X0_heightOf
theorem dX0_holdsAll_0 : decode cX0_holdsAll 0 = .ok (.iconst 0, 1) := by decide +kernel
theorem dX0_holdsAll_1 : decode cX0_holdsAll 1 = .ok (.istore_n 2, 1) := by decide +kernel
theorem dX0_holdsAll_2 : decode cX0_holdsAll 2 = .ok (.iload_n 2, 1) := by decide +kernel
theorem dX0_holdsAll_3 : decode cX0_holdsAll 3 = .ok (.aload_n 1, 1) := by decide +kernel
theorem dX0_holdsAll_4 : decode cX0_holdsAll 4 = .ok (.getfield 43, 3) := by decide +kernel
theorem dX0_holdsAll_7 : decode cX0_holdsAll 7 = .ok (.if_icmp .ge 41, 3) := by decide +kernel
theorem dX0_holdsAll_10 : decode cX0_holdsAll 10 = .ok (.aload_n 0, 1) := by decide +kernel
theorem dX0_holdsAll_11 : decode cX0_holdsAll 11 = .ok (.aload_n 1, 1) := by decide +kernel
theorem dX0_holdsAll_12 : decode cX0_holdsAll 12 = .ok (.getfield 31, 3) := by decide +kernel
theorem dX0_holdsAll_15 : decode cX0_holdsAll 15 = .ok (.iload_n 2, 1) := by decide +kernel
theorem dX0_holdsAll_16 : decode cX0_holdsAll 16 = .ok (.iaload, 1) := by decide +kernel
theorem dX0_holdsAll_17 : decode cX0_holdsAll 17 = .ok (.i2l, 1) := by decide +kernel
theorem dX0_holdsAll_18 : decode cX0_holdsAll 18 = .ok (.aload_n 1, 1) := by decide +kernel
theorem dX0_holdsAll_19 : decode cX0_holdsAll 19 = .ok (.getfield 15, 3) := by decide +kernel
theorem dX0_holdsAll_22 : decode cX0_holdsAll 22 = .ok (.iload_n 2, 1) := by decide +kernel
theorem dX0_holdsAll_23 : decode cX0_holdsAll 23 = .ok (.iaload, 1) := by decide +kernel
theorem dX0_holdsAll_24 : decode cX0_holdsAll 24 = .ok (.i2l, 1) := by decide +kernel
theorem dX0_holdsAll_25 : decode cX0_holdsAll 25 = .ok (.aload_n 1, 1) := by decide +kernel
theorem dX0_holdsAll_26 : decode cX0_holdsAll 26 = .ok (.getfield 20, 3) := by decide +kernel
theorem dX0_holdsAll_29 : decode cX0_holdsAll 29 = .ok (.iload_n 2, 1) := by decide +kernel
theorem dX0_holdsAll_30 : decode cX0_holdsAll 30 = .ok (.iaload, 1) := by decide +kernel
theorem dX0_holdsAll_31 : decode cX0_holdsAll 31 = .ok (.i2l, 1) := by decide +kernel
theorem dX0_holdsAll_32 : decode cX0_holdsAll 32 = .ok (.invokevirtual 47, 3) := by decide +kernel
theorem dX0_holdsAll_35 : decode cX0_holdsAll 35 = .ok (.lconst 0, 1) := by decide +kernel
theorem dX0_holdsAll_36 : decode cX0_holdsAll 36 = .ok (.lcmp, 1) := by decide +kernel
theorem dX0_holdsAll_37 : decode cX0_holdsAll 37 = .ok (.ifCond .eq 5, 3) := by decide +kernel
theorem dX0_holdsAll_40 : decode cX0_holdsAll 40 = .ok (.iconst 0, 1) := by decide +kernel
theorem dX0_holdsAll_41 : decode cX0_holdsAll 41 = .ok (.ireturn, 1) := by decide +kernel
theorem dX0_holdsAll_42 : decode cX0_holdsAll 42 = .ok (.iinc 2 1, 3) := by decide +kernel
theorem dX0_holdsAll_45 : decode cX0_holdsAll 45 = .ok (.goto (-43), 3) := by decide +kernel
theorem dX0_holdsAll_48 : decode cX0_holdsAll 48 = .ok (.iconst 1, 1) := by decide +kernel
theorem dX0_holdsAll_49 : decode cX0_holdsAll 49 = .ok (.ireturn, 1) := by decide +kernel
set_option maxRecDepth 20000 in
theorem ggX0_turnOutside_X0_heightOf : GoodIn wsX0_turnOutside wsX0_heightOf := goodIn_r _ [10, 2, 3, 4, 5, 11, 12, 13, 14, 15, 16, 17] (by decide +kernel) (by decide +kernel)
set_option maxRecDepth 20000 in
theorem gX0_turnOutside_X0_heightOf : GoodIn wsX0_turnOutside (wsV RX0 47 RX0 yX0_heightOf wsX0_heightOf) := goodIn_app (goodIn_of _ (by decide +kernel)) ggX0_turnOutside_X0_heightOf
theorem dX0_turnOutside_0 : decode cX0_turnOutside 0 = .ok (.iconst 0, 1) := by decide +kernel
theorem dX0_turnOutside_1 : decode cX0_turnOutside 1 = .ok (.istore_n 2, 1) := by decide +kernel
theorem dX0_turnOutside_2 : decode cX0_turnOutside 2 = .ok (.iconst 0, 1) := by decide +kernel
theorem dX0_turnOutside_3 : decode cX0_turnOutside 3 = .ok (.istore_n 3, 1) := by decide +kernel
theorem dX0_turnOutside_4 : decode cX0_turnOutside 4 = .ok (.aload_n 0, 1) := by decide +kernel
theorem dX0_turnOutside_5 : decode cX0_turnOutside 5 = .ok (.iconst 0, 1) := by decide +kernel
theorem dX0_turnOutside_6 : decode cX0_turnOutside 6 = .ok (.putfield 51, 3) := by decide +kernel
theorem dX0_turnOutside_9 : decode cX0_turnOutside 9 = .ok (.iconst 0, 1) := by decide +kernel
theorem dX0_turnOutside_10 : decode cX0_turnOutside 10 = .ok (.istore 4, 2) := by decide +kernel
theorem dX0_turnOutside_12 : decode cX0_turnOutside 12 = .ok (.iload 4, 2) := by decide +kernel
theorem dX0_turnOutside_14 : decode cX0_turnOutside 14 = .ok (.aload_n 1, 1) := by decide +kernel
theorem dX0_turnOutside_15 : decode cX0_turnOutside 15 = .ok (.getfield 43, 3) := by decide +kernel
theorem dX0_turnOutside_18 : decode cX0_turnOutside 18 = .ok (.if_icmp .ge 86, 3) := by decide +kernel
theorem dX0_turnOutside_21 : decode cX0_turnOutside 21 = .ok (.aload_n 0, 1) := by decide +kernel
theorem dX0_turnOutside_22 : decode cX0_turnOutside 22 = .ok (.aload_n 1, 1) := by decide +kernel
theorem dX0_turnOutside_23 : decode cX0_turnOutside 23 = .ok (.getfield 31, 3) := by decide +kernel
theorem dX0_turnOutside_26 : decode cX0_turnOutside 26 = .ok (.iload 4, 2) := by decide +kernel
theorem dX0_turnOutside_28 : decode cX0_turnOutside 28 = .ok (.iaload, 1) := by decide +kernel
theorem dX0_turnOutside_29 : decode cX0_turnOutside 29 = .ok (.i2l, 1) := by decide +kernel
theorem dX0_turnOutside_30 : decode cX0_turnOutside 30 = .ok (.aload_n 1, 1) := by decide +kernel
theorem dX0_turnOutside_31 : decode cX0_turnOutside 31 = .ok (.getfield 15, 3) := by decide +kernel
theorem dX0_turnOutside_34 : decode cX0_turnOutside 34 = .ok (.iload 4, 2) := by decide +kernel
theorem dX0_turnOutside_36 : decode cX0_turnOutside 36 = .ok (.iaload, 1) := by decide +kernel
theorem dX0_turnOutside_37 : decode cX0_turnOutside 37 = .ok (.i2l, 1) := by decide +kernel
theorem dX0_turnOutside_38 : decode cX0_turnOutside 38 = .ok (.aload_n 1, 1) := by decide +kernel
theorem dX0_turnOutside_39 : decode cX0_turnOutside 39 = .ok (.getfield 20, 3) := by decide +kernel
theorem dX0_turnOutside_42 : decode cX0_turnOutside 42 = .ok (.iload 4, 2) := by decide +kernel
theorem dX0_turnOutside_44 : decode cX0_turnOutside 44 = .ok (.iaload, 1) := by decide +kernel
theorem dX0_turnOutside_45 : decode cX0_turnOutside 45 = .ok (.i2l, 1) := by decide +kernel
theorem dX0_turnOutside_46 : decode cX0_turnOutside 46 = .ok (.invokevirtual 47, 3) := by decide +kernel
theorem dX0_turnOutside_49 : decode cX0_turnOutside 49 = .ok (.lstore 5, 2) := by decide +kernel
theorem dX0_turnOutside_51 : decode cX0_turnOutside 51 = .ok (.lload 5, 2) := by decide +kernel
theorem dX0_turnOutside_53 : decode cX0_turnOutside 53 = .ok (.lconst 0, 1) := by decide +kernel
theorem dX0_turnOutside_54 : decode cX0_turnOutside 54 = .ok (.lcmp, 1) := by decide +kernel
theorem dX0_turnOutside_55 : decode cX0_turnOutside 55 = .ok (.ifCond .le 8, 3) := by decide +kernel
theorem dX0_turnOutside_58 : decode cX0_turnOutside 58 = .ok (.iconst 1, 1) := by decide +kernel
theorem dX0_turnOutside_59 : decode cX0_turnOutside 59 = .ok (.istore_n 2, 1) := by decide +kernel
theorem dX0_turnOutside_60 : decode cX0_turnOutside 60 = .ok (.goto 28, 3) := by decide +kernel
theorem dX0_turnOutside_63 : decode cX0_turnOutside 63 = .ok (.lload 5, 2) := by decide +kernel
theorem dX0_turnOutside_65 : decode cX0_turnOutside 65 = .ok (.lconst 0, 1) := by decide +kernel
theorem dX0_turnOutside_66 : decode cX0_turnOutside 66 = .ok (.lcmp, 1) := by decide +kernel
theorem dX0_turnOutside_67 : decode cX0_turnOutside 67 = .ok (.ifCond .ge 8, 3) := by decide +kernel
theorem dX0_turnOutside_70 : decode cX0_turnOutside 70 = .ok (.iconst 1, 1) := by decide +kernel
theorem dX0_turnOutside_71 : decode cX0_turnOutside 71 = .ok (.istore_n 3, 1) := by decide +kernel
theorem dX0_turnOutside_72 : decode cX0_turnOutside 72 = .ok (.goto 16, 3) := by decide +kernel
theorem dX0_turnOutside_75 : decode cX0_turnOutside 75 = .ok (.aload_n 0, 1) := by decide +kernel
theorem dX0_turnOutside_76 : decode cX0_turnOutside 76 = .ok (.dup, 1) := by decide +kernel
theorem dX0_turnOutside_77 : decode cX0_turnOutside 77 = .ok (.getfield 51, 3) := by decide +kernel
theorem dX0_turnOutside_80 : decode cX0_turnOutside 80 = .ok (.iconst 1, 1) := by decide +kernel
theorem dX0_turnOutside_81 : decode cX0_turnOutside 81 = .ok (.iload 4, 2) := by decide +kernel
theorem dX0_turnOutside_83 : decode cX0_turnOutside 83 = .ok (.ishl, 1) := by decide +kernel
theorem dX0_turnOutside_84 : decode cX0_turnOutside 84 = .ok (.ior, 1) := by decide +kernel
theorem dX0_turnOutside_85 : decode cX0_turnOutside 85 = .ok (.putfield 51, 3) := by decide +kernel
theorem dX0_turnOutside_88 : decode cX0_turnOutside 88 = .ok (.iload_n 2, 1) := by decide +kernel
theorem dX0_turnOutside_89 : decode cX0_turnOutside 89 = .ok (.ifCond .eq 9, 3) := by decide +kernel
theorem dX0_turnOutside_92 : decode cX0_turnOutside 92 = .ok (.iload_n 3, 1) := by decide +kernel
theorem dX0_turnOutside_93 : decode cX0_turnOutside 93 = .ok (.ifCond .eq 5, 3) := by decide +kernel
theorem dX0_turnOutside_96 : decode cX0_turnOutside 96 = .ok (.iconst 0, 1) := by decide +kernel
theorem dX0_turnOutside_97 : decode cX0_turnOutside 97 = .ok (.ireturn, 1) := by decide +kernel
theorem dX0_turnOutside_98 : decode cX0_turnOutside 98 = .ok (.iinc 4 1, 3) := by decide +kernel
theorem dX0_turnOutside_101 : decode cX0_turnOutside 101 = .ok (.goto (-89), 3) := by decide +kernel
theorem dX0_turnOutside_104 : decode cX0_turnOutside 104 = .ok (.iload_n 2, 1) := by decide +kernel
theorem dX0_turnOutside_105 : decode cX0_turnOutside 105 = .ok (.ifCond .eq 39, 3) := by decide +kernel
theorem dX0_turnOutside_108 : decode cX0_turnOutside 108 = .ok (.aload_n 0, 1) := by decide +kernel
theorem dX0_turnOutside_109 : decode cX0_turnOutside 109 = .ok (.aload_n 0, 1) := by decide +kernel
theorem dX0_turnOutside_110 : decode cX0_turnOutside 110 = .ok (.getfield 27, 3) := by decide +kernel
theorem dX0_turnOutside_113 : decode cX0_turnOutside 113 = .ok (.lneg, 1) := by decide +kernel
theorem dX0_turnOutside_114 : decode cX0_turnOutside 114 = .ok (.putfield 27, 3) := by decide +kernel
theorem dX0_turnOutside_117 : decode cX0_turnOutside 117 = .ok (.aload_n 0, 1) := by decide +kernel
theorem dX0_turnOutside_118 : decode cX0_turnOutside 118 = .ok (.aload_n 0, 1) := by decide +kernel
theorem dX0_turnOutside_119 : decode cX0_turnOutside 119 = .ok (.getfield 34, 3) := by decide +kernel
theorem dX0_turnOutside_122 : decode cX0_turnOutside 122 = .ok (.lneg, 1) := by decide +kernel
theorem dX0_turnOutside_123 : decode cX0_turnOutside 123 = .ok (.putfield 34, 3) := by decide +kernel
theorem dX0_turnOutside_126 : decode cX0_turnOutside 126 = .ok (.aload_n 0, 1) := by decide +kernel
theorem dX0_turnOutside_127 : decode cX0_turnOutside 127 = .ok (.aload_n 0, 1) := by decide +kernel
theorem dX0_turnOutside_128 : decode cX0_turnOutside 128 = .ok (.getfield 37, 3) := by decide +kernel
theorem dX0_turnOutside_131 : decode cX0_turnOutside 131 = .ok (.lneg, 1) := by decide +kernel
theorem dX0_turnOutside_132 : decode cX0_turnOutside 132 = .ok (.putfield 37, 3) := by decide +kernel
theorem dX0_turnOutside_135 : decode cX0_turnOutside 135 = .ok (.aload_n 0, 1) := by decide +kernel
theorem dX0_turnOutside_136 : decode cX0_turnOutside 136 = .ok (.aload_n 0, 1) := by decide +kernel
theorem dX0_turnOutside_137 : decode cX0_turnOutside 137 = .ok (.getfield 40, 3) := by decide +kernel
theorem dX0_turnOutside_140 : decode cX0_turnOutside 140 = .ok (.lneg, 1) := by decide +kernel
theorem dX0_turnOutside_141 : decode cX0_turnOutside 141 = .ok (.putfield 40, 3) := by decide +kernel
theorem dX0_turnOutside_144 : decode cX0_turnOutside 144 = .ok (.iconst 1, 1) := by decide +kernel
theorem dX0_turnOutside_145 : decode cX0_turnOutside 145 = .ok (.ireturn, 1) := by decide +kernel
set_option maxRecDepth 20000 in
theorem ggX0_shortenNormal_X3_commonFactor : GoodIn wsX0_shortenNormal wsX3_commonFactor := goodIn_r _ [7] (by decide +kernel) (by decide +kernel)
set_option maxRecDepth 20000 in
theorem gX0_shortenNormal_X3_commonFactor_n54 : GoodIn wsX0_shortenNormal (wsX3_commonFactor) := ggX0_shortenNormal_X3_commonFactor
theorem dX0_shortenNormal_0 : decode cX0_shortenNormal 0 = .ok (.aload_n 0, 1) := by decide +kernel
theorem dX0_shortenNormal_1 : decode cX0_shortenNormal 1 = .ok (.getfield 27, 3) := by decide +kernel
theorem dX0_shortenNormal_4 : decode cX0_shortenNormal 4 = .ok (.aload_n 0, 1) := by decide +kernel
theorem dX0_shortenNormal_5 : decode cX0_shortenNormal 5 = .ok (.getfield 34, 3) := by decide +kernel
theorem dX0_shortenNormal_8 : decode cX0_shortenNormal 8 = .ok (.invokestatic 54, 3) := by decide +kernel
theorem dX0_shortenNormal_11 : decode cX0_shortenNormal 11 = .ok (.aload_n 0, 1) := by decide +kernel
theorem dX0_shortenNormal_12 : decode cX0_shortenNormal 12 = .ok (.getfield 37, 3) := by decide +kernel
theorem dX0_shortenNormal_15 : decode cX0_shortenNormal 15 = .ok (.invokestatic 54, 3) := by decide +kernel
theorem dX0_shortenNormal_18 : decode cX0_shortenNormal 18 = .ok (.lstore_n 1, 1) := by decide +kernel
theorem dX0_shortenNormal_19 : decode cX0_shortenNormal 19 = .ok (.lload_n 1, 1) := by decide +kernel
theorem dX0_shortenNormal_20 : decode cX0_shortenNormal 20 = .ok (.lconst 1, 1) := by decide +kernel
theorem dX0_shortenNormal_21 : decode cX0_shortenNormal 21 = .ok (.lcmp, 1) := by decide +kernel
theorem dX0_shortenNormal_22 : decode cX0_shortenNormal 22 = .ok (.ifCond .le 43, 3) := by decide +kernel
theorem dX0_shortenNormal_25 : decode cX0_shortenNormal 25 = .ok (.aload_n 0, 1) := by decide +kernel
theorem dX0_shortenNormal_26 : decode cX0_shortenNormal 26 = .ok (.dup, 1) := by decide +kernel
theorem dX0_shortenNormal_27 : decode cX0_shortenNormal 27 = .ok (.getfield 27, 3) := by decide +kernel
theorem dX0_shortenNormal_30 : decode cX0_shortenNormal 30 = .ok (.lload_n 1, 1) := by decide +kernel
theorem dX0_shortenNormal_31 : decode cX0_shortenNormal 31 = .ok (.ldiv, 1) := by decide +kernel
theorem dX0_shortenNormal_32 : decode cX0_shortenNormal 32 = .ok (.putfield 27, 3) := by decide +kernel
theorem dX0_shortenNormal_35 : decode cX0_shortenNormal 35 = .ok (.aload_n 0, 1) := by decide +kernel
theorem dX0_shortenNormal_36 : decode cX0_shortenNormal 36 = .ok (.dup, 1) := by decide +kernel
theorem dX0_shortenNormal_37 : decode cX0_shortenNormal 37 = .ok (.getfield 34, 3) := by decide +kernel
theorem dX0_shortenNormal_40 : decode cX0_shortenNormal 40 = .ok (.lload_n 1, 1) := by decide +kernel
theorem dX0_shortenNormal_41 : decode cX0_shortenNormal 41 = .ok (.ldiv, 1) := by decide +kernel
theorem dX0_shortenNormal_42 : decode cX0_shortenNormal 42 = .ok (.putfield 34, 3) := by decide +kernel
theorem dX0_shortenNormal_45 : decode cX0_shortenNormal 45 = .ok (.aload_n 0, 1) := by decide +kernel
theorem dX0_shortenNormal_46 : decode cX0_shortenNormal 46 = .ok (.dup, 1) := by decide +kernel
theorem dX0_shortenNormal_47 : decode cX0_shortenNormal 47 = .ok (.getfield 37, 3) := by decide +kernel
theorem dX0_shortenNormal_50 : decode cX0_shortenNormal 50 = .ok (.lload_n 1, 1) := by decide +kernel
theorem dX0_shortenNormal_51 : decode cX0_shortenNormal 51 = .ok (.ldiv, 1) := by decide +kernel
theorem dX0_shortenNormal_52 : decode cX0_shortenNormal 52 = .ok (.putfield 37, 3) := by decide +kernel
theorem dX0_shortenNormal_55 : decode cX0_shortenNormal 55 = .ok (.aload_n 0, 1) := by decide +kernel
theorem dX0_shortenNormal_56 : decode cX0_shortenNormal 56 = .ok (.dup, 1) := by decide +kernel
theorem dX0_shortenNormal_57 : decode cX0_shortenNormal 57 = .ok (.getfield 40, 3) := by decide +kernel
theorem dX0_shortenNormal_60 : decode cX0_shortenNormal 60 = .ok (.lload_n 1, 1) := by decide +kernel
theorem dX0_shortenNormal_61 : decode cX0_shortenNormal 61 = .ok (.ldiv, 1) := by decide +kernel
theorem dX0_shortenNormal_62 : decode cX0_shortenNormal 62 = .ok (.putfield 40, 3) := by decide +kernel
theorem dX0_shortenNormal_65 : decode cX0_shortenNormal 65 = .ok (.return_, 1) := by decide +kernel
set_option maxRecDepth 20000 in
theorem ggX0_goRound_J6_numberOfTrailingZeros_0f7a4 : GoodIn wsX0_goRound wsJ6_numberOfTrailingZeros_0f7a4 := goodIn_r _ [7, 8] (by decide +kernel) (by decide +kernel)
set_option maxRecDepth 20000 in
theorem gX0_goRound_J6_numberOfTrailingZeros_0f7a4 : GoodIn wsX0_goRound (va_wsS RX0 58 yJ6_numberOfTrailingZeros_0f7a4 wsJ6_numberOfTrailingZeros_0f7a4) := goodIn_app (goodIn_of _ (by decide +kernel)) ggX0_goRound_J6_numberOfTrailingZeros_0f7a4
set_option maxRecDepth 20000 in
theorem ggX0_goRound_J6_bitCount_0f7a4 : GoodIn wsX0_goRound wsJ6_bitCount_0f7a4 := goodIn_r _ [11, 12, 13, 14] (by decide +kernel) (by decide +kernel)
set_option maxRecDepth 20000 in
theorem gX0_goRound_J6_bitCount_0f7a4 : GoodIn wsX0_goRound (va_wsS RX0 65 yJ6_bitCount_0f7a4 wsJ6_bitCount_0f7a4) := goodIn_app (goodIn_of _ (by decide +kernel)) ggX0_goRound_J6_bitCount_0f7a4
set_option maxRecDepth 20000 in
theorem ggX0_goRound_X0_nextRound : GoodIn wsX0_goRound wsX0_nextRound := goodIn_r _ [19, 20, 21, 22, 23, 24, 25, 18, 26, 27, 28, 29, 30, 31, 39, 40, 41, 42, 32, 33, 34, 35, 36, 37, 38] (by decide +kernel) (by decide +kernel)
set_option maxRecDepth 20000 in
theorem gX0_goRound_X0_nextRound : GoodIn wsX0_goRound (wsV RX0 68 RX0 yX0_nextRound wsX0_nextRound) := goodIn_app (goodIn_of _ (by decide +kernel)) ggX0_goRound_X0_nextRound
theorem dX0_goRound_0 : decode cX0_goRound 0 = .ok (.aload_n 0, 1) := by decide +kernel
theorem dX0_goRound_1 : decode cX0_goRound 1 = .ok (.getfield 51, 3) := by decide +kernel
theorem dX0_goRound_4 : decode cX0_goRound 4 = .ok (.iload_n 2, 1) := by decide +kernel
theorem dX0_goRound_5 : decode cX0_goRound 5 = .ok (.iand, 1) := by decide +kernel
theorem dX0_goRound_6 : decode cX0_goRound 6 = .ok (.istore_n 3, 1) := by decide +kernel
theorem dX0_goRound_7 : decode cX0_goRound 7 = .ok (.iload_n 3, 1) := by decide +kernel
theorem dX0_goRound_8 : decode cX0_goRound 8 = .ok (.invokestatic 58, 3) := by decide +kernel
theorem dX0_goRound_11 : decode cX0_goRound 11 = .ok (.istore 4, 2) := by decide +kernel
theorem dX0_goRound_13 : decode cX0_goRound 13 = .ok (.aload_n 0, 1) := by decide +kernel
theorem dX0_goRound_14 : decode cX0_goRound 14 = .ok (.iconst 0, 1) := by decide +kernel
theorem dX0_goRound_15 : decode cX0_goRound 15 = .ok (.putfield 64, 3) := by decide +kernel
theorem dX0_goRound_18 : decode cX0_goRound 18 = .ok (.iconst 0, 1) := by decide +kernel
theorem dX0_goRound_19 : decode cX0_goRound 19 = .ok (.istore 5, 2) := by decide +kernel
theorem dX0_goRound_21 : decode cX0_goRound 21 = .ok (.iload 5, 2) := by decide +kernel
theorem dX0_goRound_23 : decode cX0_goRound 23 = .ok (.bipush 24, 2) := by decide +kernel
theorem dX0_goRound_25 : decode cX0_goRound 25 = .ok (.if_icmp .ge 47, 3) := by decide +kernel
theorem dX0_goRound_28 : decode cX0_goRound 28 = .ok (.iload 5, 2) := by decide +kernel
theorem dX0_goRound_30 : decode cX0_goRound 30 = .ok (.iload_n 3, 1) := by decide +kernel
theorem dX0_goRound_31 : decode cX0_goRound 31 = .ok (.invokestatic 65, 3) := by decide +kernel
theorem dX0_goRound_34 : decode cX0_goRound 34 = .ok (.if_icmp .ge 38, 3) := by decide +kernel
theorem dX0_goRound_37 : decode cX0_goRound 37 = .ok (.aload_n 0, 1) := by decide +kernel
theorem dX0_goRound_38 : decode cX0_goRound 38 = .ok (.getfield 9, 3) := by decide +kernel
theorem dX0_goRound_41 : decode cX0_goRound 41 = .ok (.iload 5, 2) := by decide +kernel
theorem dX0_goRound_43 : decode cX0_goRound 43 = .ok (.iload 4, 2) := by decide +kernel
theorem dX0_goRound_45 : decode cX0_goRound 45 = .ok (.iastore, 1) := by decide +kernel
theorem dX0_goRound_46 : decode cX0_goRound 46 = .ok (.aload_n 0, 1) := by decide +kernel
theorem dX0_goRound_47 : decode cX0_goRound 47 = .ok (.dup, 1) := by decide +kernel
theorem dX0_goRound_48 : decode cX0_goRound 48 = .ok (.getfield 64, 3) := by decide +kernel
theorem dX0_goRound_51 : decode cX0_goRound 51 = .ok (.iconst 1, 1) := by decide +kernel
theorem dX0_goRound_52 : decode cX0_goRound 52 = .ok (.iadd, 1) := by decide +kernel
theorem dX0_goRound_53 : decode cX0_goRound 53 = .ok (.putfield 64, 3) := by decide +kernel
theorem dX0_goRound_56 : decode cX0_goRound 56 = .ok (.aload_n 0, 1) := by decide +kernel
theorem dX0_goRound_57 : decode cX0_goRound 57 = .ok (.aload_n 1, 1) := by decide +kernel
theorem dX0_goRound_58 : decode cX0_goRound 58 = .ok (.iload_n 3, 1) := by decide +kernel
theorem dX0_goRound_59 : decode cX0_goRound 59 = .ok (.iload 4, 2) := by decide +kernel
theorem dX0_goRound_61 : decode cX0_goRound 61 = .ok (.invokevirtual 68, 3) := by decide +kernel
theorem dX0_goRound_64 : decode cX0_goRound 64 = .ok (.istore 4, 2) := by decide +kernel
theorem dX0_goRound_66 : decode cX0_goRound 66 = .ok (.iinc 5 1, 3) := by decide +kernel
theorem dX0_goRound_69 : decode cX0_goRound 69 = .ok (.goto (-48), 3) := by decide +kernel
theorem dX0_goRound_72 : decode cX0_goRound 72 = .ok (.return_, 1) := by decide +kernel
set_option maxRecDepth 20000 in
theorem ggX0_nextRound_X3_holds : GoodIn wsX0_nextRound wsX3_holds := goodIn_r _ [3] (by decide +kernel) (by decide +kernel)
set_option maxRecDepth 20000 in
theorem gX0_nextRound_X3_holds_n72 : GoodIn wsX0_nextRound (wsX3_holds) := ggX0_nextRound_X3_holds
set_option maxRecDepth 20000 in
theorem ggX0_nextRound_X0_isRight : GoodIn wsX0_nextRound wsX0_isRight := goodIn_r _ [8, 9, 10, 11, 12, 2, 13, 18, 19, 20, 21, 22, 23, 24, 14, 15, 16, 17] (by decide +kernel) (by decide +kernel)
set_option maxRecDepth 20000 in
theorem gX0_nextRound_X0_isRight : GoodIn wsX0_nextRound (wsV RX0 76 RX0 yX0_isRight wsX0_isRight) := goodIn_app (goodIn_of _ (by decide +kernel)) ggX0_nextRound_X0_isRight
theorem dX0_nextRound_0 : decode cX0_nextRound 0 = .ok (.iload_n 3, 1) := by decide +kernel
theorem dX0_nextRound_1 : decode cX0_nextRound 1 = .ok (.istore 4, 2) := by decide +kernel
theorem dX0_nextRound_3 : decode cX0_nextRound 3 = .ok (.iconst 0, 1) := by decide +kernel
theorem dX0_nextRound_4 : decode cX0_nextRound 4 = .ok (.istore 5, 2) := by decide +kernel
theorem dX0_nextRound_6 : decode cX0_nextRound 6 = .ok (.iload 5, 2) := by decide +kernel
theorem dX0_nextRound_8 : decode cX0_nextRound 8 = .ok (.aload_n 1, 1) := by decide +kernel
theorem dX0_nextRound_9 : decode cX0_nextRound 9 = .ok (.getfield 43, 3) := by decide +kernel
theorem dX0_nextRound_12 : decode cX0_nextRound 12 = .ok (.if_icmp .ge 47, 3) := by decide +kernel
theorem dX0_nextRound_15 : decode cX0_nextRound 15 = .ok (.iload 5, 2) := by decide +kernel
theorem dX0_nextRound_17 : decode cX0_nextRound 17 = .ok (.iload_n 3, 1) := by decide +kernel
theorem dX0_nextRound_18 : decode cX0_nextRound 18 = .ok (.if_icmp .eq 35, 3) := by decide +kernel
theorem dX0_nextRound_21 : decode cX0_nextRound 21 = .ok (.iload_n 2, 1) := by decide +kernel
theorem dX0_nextRound_22 : decode cX0_nextRound 22 = .ok (.iload 5, 2) := by decide +kernel
theorem dX0_nextRound_24 : decode cX0_nextRound 24 = .ok (.invokestatic 72, 3) := by decide +kernel
theorem dX0_nextRound_27 : decode cX0_nextRound 27 = .ok (.ifCond .eq 26, 3) := by decide +kernel
theorem dX0_nextRound_30 : decode cX0_nextRound 30 = .ok (.iload 4, 2) := by decide +kernel
theorem dX0_nextRound_32 : decode cX0_nextRound 32 = .ok (.iload_n 3, 1) := by decide +kernel
theorem dX0_nextRound_33 : decode cX0_nextRound 33 = .ok (.if_icmp .eq 16, 3) := by decide +kernel
theorem dX0_nextRound_36 : decode cX0_nextRound 36 = .ok (.aload_n 0, 1) := by decide +kernel
theorem dX0_nextRound_37 : decode cX0_nextRound 37 = .ok (.aload_n 1, 1) := by decide +kernel
theorem dX0_nextRound_38 : decode cX0_nextRound 38 = .ok (.iload_n 3, 1) := by decide +kernel
theorem dX0_nextRound_39 : decode cX0_nextRound 39 = .ok (.iload 4, 2) := by decide +kernel
theorem dX0_nextRound_41 : decode cX0_nextRound 41 = .ok (.iload 5, 2) := by decide +kernel
theorem dX0_nextRound_43 : decode cX0_nextRound 43 = .ok (.invokevirtual 76, 3) := by decide +kernel
theorem dX0_nextRound_46 : decode cX0_nextRound 46 = .ok (.ifCond .eq 7, 3) := by decide +kernel
theorem dX0_nextRound_49 : decode cX0_nextRound 49 = .ok (.iload 5, 2) := by decide +kernel
theorem dX0_nextRound_51 : decode cX0_nextRound 51 = .ok (.istore 4, 2) := by decide +kernel
theorem dX0_nextRound_53 : decode cX0_nextRound 53 = .ok (.iinc 5 1, 3) := by decide +kernel
theorem dX0_nextRound_56 : decode cX0_nextRound 56 = .ok (.goto (-50), 3) := by decide +kernel
theorem dX0_nextRound_59 : decode cX0_nextRound 59 = .ok (.iload 4, 2) := by decide +kernel
theorem dX0_nextRound_61 : decode cX0_nextRound 61 = .ok (.ireturn, 1) := by decide +kernel
set_option maxRecDepth 20000 in
theorem ggX0_isRight_X3_across : GoodIn wsX0_isRight wsX3_across := goodIn_r _ [6] (by decide +kernel) (by decide +kernel)
set_option maxRecDepth 20000 in
theorem gX0_isRight_X3_across_n23 : GoodIn wsX0_isRight (wsX3_across) := ggX0_isRight_X3_across
theorem dX0_isRight_0 : decode cX0_isRight 0 = .ok (.aload_n 0, 1) := by decide +kernel
theorem dX0_isRight_1 : decode cX0_isRight 1 = .ok (.getfield 27, 3) := by decide +kernel
theorem dX0_isRight_4 : decode cX0_isRight 4 = .ok (.aload_n 1, 1) := by decide +kernel
theorem dX0_isRight_5 : decode cX0_isRight 5 = .ok (.getfield 15, 3) := by decide +kernel
theorem dX0_isRight_8 : decode cX0_isRight 8 = .ok (.aload_n 1, 1) := by decide +kernel
theorem dX0_isRight_9 : decode cX0_isRight 9 = .ok (.getfield 20, 3) := by decide +kernel
theorem dX0_isRight_12 : decode cX0_isRight 12 = .ok (.iload_n 2, 1) := by decide +kernel
theorem dX0_isRight_13 : decode cX0_isRight 13 = .ok (.iload_n 3, 1) := by decide +kernel
theorem dX0_isRight_14 : decode cX0_isRight 14 = .ok (.iload 4, 2) := by decide +kernel
theorem dX0_isRight_16 : decode cX0_isRight 16 = .ok (.invokestatic 23, 3) := by decide +kernel
theorem dX0_isRight_19 : decode cX0_isRight 19 = .ok (.lmul, 1) := by decide +kernel
theorem dX0_isRight_20 : decode cX0_isRight 20 = .ok (.aload_n 0, 1) := by decide +kernel
theorem dX0_isRight_21 : decode cX0_isRight 21 = .ok (.getfield 34, 3) := by decide +kernel
theorem dX0_isRight_24 : decode cX0_isRight 24 = .ok (.aload_n 1, 1) := by decide +kernel
theorem dX0_isRight_25 : decode cX0_isRight 25 = .ok (.getfield 20, 3) := by decide +kernel
theorem dX0_isRight_28 : decode cX0_isRight 28 = .ok (.aload_n 1, 1) := by decide +kernel
theorem dX0_isRight_29 : decode cX0_isRight 29 = .ok (.getfield 31, 3) := by decide +kernel
theorem dX0_isRight_32 : decode cX0_isRight 32 = .ok (.iload_n 2, 1) := by decide +kernel
theorem dX0_isRight_33 : decode cX0_isRight 33 = .ok (.iload_n 3, 1) := by decide +kernel
theorem dX0_isRight_34 : decode cX0_isRight 34 = .ok (.iload 4, 2) := by decide +kernel
theorem dX0_isRight_36 : decode cX0_isRight 36 = .ok (.invokestatic 23, 3) := by decide +kernel
theorem dX0_isRight_39 : decode cX0_isRight 39 = .ok (.lmul, 1) := by decide +kernel
theorem dX0_isRight_40 : decode cX0_isRight 40 = .ok (.ladd, 1) := by decide +kernel
theorem dX0_isRight_41 : decode cX0_isRight 41 = .ok (.aload_n 0, 1) := by decide +kernel
theorem dX0_isRight_42 : decode cX0_isRight 42 = .ok (.getfield 37, 3) := by decide +kernel
theorem dX0_isRight_45 : decode cX0_isRight 45 = .ok (.aload_n 1, 1) := by decide +kernel
theorem dX0_isRight_46 : decode cX0_isRight 46 = .ok (.getfield 31, 3) := by decide +kernel
theorem dX0_isRight_49 : decode cX0_isRight 49 = .ok (.aload_n 1, 1) := by decide +kernel
theorem dX0_isRight_50 : decode cX0_isRight 50 = .ok (.getfield 15, 3) := by decide +kernel
theorem dX0_isRight_53 : decode cX0_isRight 53 = .ok (.iload_n 2, 1) := by decide +kernel
theorem dX0_isRight_54 : decode cX0_isRight 54 = .ok (.iload_n 3, 1) := by decide +kernel
theorem dX0_isRight_55 : decode cX0_isRight 55 = .ok (.iload 4, 2) := by decide +kernel
theorem dX0_isRight_57 : decode cX0_isRight 57 = .ok (.invokestatic 23, 3) := by decide +kernel
theorem dX0_isRight_60 : decode cX0_isRight 60 = .ok (.lmul, 1) := by decide +kernel
theorem dX0_isRight_61 : decode cX0_isRight 61 = .ok (.ladd, 1) := by decide +kernel
theorem dX0_isRight_62 : decode cX0_isRight 62 = .ok (.lconst 0, 1) := by decide +kernel
theorem dX0_isRight_63 : decode cX0_isRight 63 = .ok (.lcmp, 1) := by decide +kernel
theorem dX0_isRight_64 : decode cX0_isRight 64 = .ok (.ifCond .ge 7, 3) := by decide +kernel
theorem dX0_isRight_67 : decode cX0_isRight 67 = .ok (.iconst 1, 1) := by decide +kernel
theorem dX0_isRight_68 : decode cX0_isRight 68 = .ok (.goto 4, 3) := by decide +kernel
theorem dX0_isRight_71 : decode cX0_isRight 71 = .ok (.iconst 0, 1) := by decide +kernel
theorem dX0_isRight_72 : decode cX0_isRight 72 = .ok (.ireturn, 1) := by decide +kernel
set_option maxRecDepth 20000 in
theorem ggX0_rank_X3_way : GoodIn wsX0_rank wsX3_way := goodIn_r _ [4] (by decide +kernel) (by decide +kernel)
set_option maxRecDepth 20000 in
theorem gX0_rank_X3_way_n80 : GoodIn wsX0_rank (wsX3_way) := ggX0_rank_X3_way
theorem dX0_rank_0 : decode cX0_rank 0 = .ok (.aload_n 0, 1) := by decide +kernel
theorem dX0_rank_1 : decode cX0_rank 1 = .ok (.getfield 9, 3) := by decide +kernel
theorem dX0_rank_4 : decode cX0_rank 4 = .ok (.iconst 0, 1) := by decide +kernel
theorem dX0_rank_5 : decode cX0_rank 5 = .ok (.iaload, 1) := by decide +kernel
theorem dX0_rank_6 : decode cX0_rank 6 = .ok (.aload_n 0, 1) := by decide +kernel
theorem dX0_rank_7 : decode cX0_rank 7 = .ok (.getfield 9, 3) := by decide +kernel
theorem dX0_rank_10 : decode cX0_rank 10 = .ok (.iconst 1, 1) := by decide +kernel
theorem dX0_rank_11 : decode cX0_rank 11 = .ok (.iaload, 1) := by decide +kernel
theorem dX0_rank_12 : decode cX0_rank 12 = .ok (.invokestatic 80, 3) := by decide +kernel
theorem dX0_rank_15 : decode cX0_rank 15 = .ok (.ireturn, 1) := by decide +kernel
set_option maxRecDepth 20000 in
theorem ggX1_init_X2_init : GoodIn wsX1_init wsX2_init := goodIn_r _ [20, 21, 2, 3, 13, 22, 23, 24, 25, 30, 31, 32, 33] (by decide +kernel) (by decide +kernel)
set_option maxRecDepth 20000 in
theorem gX1_init_X2_init_n11 : GoodIn wsX1_init (wsX2_init) := ggX1_init_X2_init
set_option maxRecDepth 20000 in
theorem ggX1_init_X0_init : GoodIn wsX1_init wsX0_init := goodIn_r _ [27, 28, 2, 3, 13, 29, 45, 46, 47, 48, 49, 50, 51] (by decide +kernel) (by decide +kernel)
set_option maxRecDepth 20000 in
theorem gX1_init_X0_init_n24 : GoodIn wsX1_init (wsX0_init) := ggX1_init_X0_init
theorem dX1_init_0 : decode cX1_init 0 = .ok (.aload_n 0, 1) := by decide +kernel
theorem dX1_init_1 : decode cX1_init 1 = .ok (.invokespecial 3, 3) := by decide +kernel
theorem dX1_init_4 : decode cX1_init 4 = .ok (.aload_n 0, 1) := by decide +kernel
theorem dX1_init_5 : decode cX1_init 5 = .ok (.new 9, 3) := by decide +kernel
theorem dX1_init_8 : decode cX1_init 8 = .ok (.dup, 1) := by decide +kernel
theorem dX1_init_9 : decode cX1_init 9 = .ok (.invokespecial 11, 3) := by decide +kernel
theorem dX1_init_12 : decode cX1_init 12 = .ok (.putfield 12, 3) := by decide +kernel
theorem dX1_init_15 : decode cX1_init 15 = .ok (.aload_n 0, 1) := by decide +kernel
theorem dX1_init_16 : decode cX1_init 16 = .ok (.bipush 44, 2) := by decide +kernel
theorem dX1_init_18 : decode cX1_init 18 = .ok (.anewarray 18, 3) := by decide +kernel
theorem dX1_init_21 : decode cX1_init 21 = .ok (.putfield 20, 3) := by decide +kernel
theorem dX1_init_24 : decode cX1_init 24 = .ok (.iconst 0, 1) := by decide +kernel
theorem dX1_init_25 : decode cX1_init 25 = .ok (.istore_n 1, 1) := by decide +kernel
theorem dX1_init_26 : decode cX1_init 26 = .ok (.iload_n 1, 1) := by decide +kernel
theorem dX1_init_27 : decode cX1_init 27 = .ok (.bipush 44, 2) := by decide +kernel
theorem dX1_init_29 : decode cX1_init 29 = .ok (.if_icmp .ge 22, 3) := by decide +kernel
theorem dX1_init_32 : decode cX1_init 32 = .ok (.aload_n 0, 1) := by decide +kernel
theorem dX1_init_33 : decode cX1_init 33 = .ok (.getfield 20, 3) := by decide +kernel
theorem dX1_init_36 : decode cX1_init 36 = .ok (.iload_n 1, 1) := by decide +kernel
theorem dX1_init_37 : decode cX1_init 37 = .ok (.new 18, 3) := by decide +kernel
theorem dX1_init_40 : decode cX1_init 40 = .ok (.dup, 1) := by decide +kernel
theorem dX1_init_41 : decode cX1_init 41 = .ok (.invokespecial 24, 3) := by decide +kernel
theorem dX1_init_44 : decode cX1_init 44 = .ok (.aastore, 1) := by decide +kernel
theorem dX1_init_45 : decode cX1_init 45 = .ok (.iinc 1 1, 3) := by decide +kernel
theorem dX1_init_48 : decode cX1_init 48 = .ok (.goto (-22), 3) := by decide +kernel
theorem dX1_init_51 : decode cX1_init 51 = .ok (.aload_n 0, 1) := by decide +kernel
theorem dX1_init_52 : decode cX1_init 52 = .ok (.new 18, 3) := by decide +kernel
theorem dX1_init_55 : decode cX1_init 55 = .ok (.dup, 1) := by decide +kernel
theorem dX1_init_56 : decode cX1_init 56 = .ok (.invokespecial 24, 3) := by decide +kernel
theorem dX1_init_59 : decode cX1_init 59 = .ok (.putfield 25, 3) := by decide +kernel
theorem dX1_init_62 : decode cX1_init 62 = .ok (.aload_n 0, 1) := by decide +kernel
theorem dX1_init_63 : decode cX1_init 63 = .ok (.sipush 576, 3) := by decide +kernel
theorem dX1_init_66 : decode cX1_init 66 = .ok (.newarray .int, 2) := by decide +kernel
theorem dX1_init_68 : decode cX1_init 68 = .ok (.putfield 29, 3) := by decide +kernel
theorem dX1_init_71 : decode cX1_init 71 = .ok (.aload_n 0, 1) := by decide +kernel
theorem dX1_init_72 : decode cX1_init 72 = .ok (.bipush 66, 2) := by decide +kernel
theorem dX1_init_74 : decode cX1_init 74 = .ok (.newarray .int, 2) := by decide +kernel
theorem dX1_init_76 : decode cX1_init 76 = .ok (.putfield 33, 3) := by decide +kernel
theorem dX1_init_79 : decode cX1_init 79 = .ok (.aload_n 0, 1) := by decide +kernel
theorem dX1_init_80 : decode cX1_init 80 = .ok (.bipush 66, 2) := by decide +kernel
theorem dX1_init_82 : decode cX1_init 82 = .ok (.newarray .int, 2) := by decide +kernel
theorem dX1_init_84 : decode cX1_init 84 = .ok (.putfield 36, 3) := by decide +kernel
theorem dX1_init_87 : decode cX1_init 87 = .ok (.aload_n 0, 1) := by decide +kernel
theorem dX1_init_88 : decode cX1_init 88 = .ok (.iconst 3, 1) := by decide +kernel
theorem dX1_init_89 : decode cX1_init 89 = .ok (.newarray .long, 2) := by decide +kernel
theorem dX1_init_91 : decode cX1_init 91 = .ok (.putfield 39, 3) := by decide +kernel
theorem dX1_init_94 : decode cX1_init 94 = .ok (.return_, 1) := by decide +kernel
set_option maxRecDepth 20000 in
theorem ggX1_wouldBeFlat_X0_layThrough : GoodIn wsX1_wouldBeFlat wsX0_layThrough := goodIn_r _ [5, 6, 7, 8, 9, 10, 11, 12, 20, 21, 22, 23, 35, 36, 37, 38, 39, 40, 41] (by decide +kernel) (by decide +kernel)
set_option maxRecDepth 20000 in
theorem gX1_wouldBeFlat_X0_layThrough_n47 : GoodIn wsX1_wouldBeFlat (wsX0_layThrough) := ggX1_wouldBeFlat_X0_layThrough
set_option maxRecDepth 20000 in
theorem ggX1_wouldBeFlat_X0_holdsAll : GoodIn wsX1_wouldBeFlat wsX0_holdsAll := goodIn_r _ [15, 16, 17, 18, 3, 19, 6, 7, 8, 9, 20, 21, 22, 23, 35, 36, 37, 38, 39, 40, 41] (by decide +kernel) (by decide +kernel)
set_option maxRecDepth 20000 in
theorem gX1_wouldBeFlat_X0_holdsAll_n51 : GoodIn wsX1_wouldBeFlat (wsX0_holdsAll) := ggX1_wouldBeFlat_X0_holdsAll
theorem dX1_wouldBeFlat_0 : decode cX1_wouldBeFlat 0 = .ok (.iconst 2, 1) := by decide +kernel
theorem dX1_wouldBeFlat_1 : decode cX1_wouldBeFlat 1 = .ok (.istore_n 2, 1) := by decide +kernel
theorem dX1_wouldBeFlat_2 : decode cX1_wouldBeFlat 2 = .ok (.iload_n 2, 1) := by decide +kernel
theorem dX1_wouldBeFlat_3 : decode cX1_wouldBeFlat 3 = .ok (.aload_n 1, 1) := by decide +kernel
theorem dX1_wouldBeFlat_4 : decode cX1_wouldBeFlat 4 = .ok (.getfield 43, 3) := by decide +kernel
theorem dX1_wouldBeFlat_7 : decode cX1_wouldBeFlat 7 = .ok (.if_icmp .ge 32, 3) := by decide +kernel
theorem dX1_wouldBeFlat_10 : decode cX1_wouldBeFlat 10 = .ok (.aload_n 0, 1) := by decide +kernel
theorem dX1_wouldBeFlat_11 : decode cX1_wouldBeFlat 11 = .ok (.getfield 25, 3) := by decide +kernel
theorem dX1_wouldBeFlat_14 : decode cX1_wouldBeFlat 14 = .ok (.aload_n 1, 1) := by decide +kernel
theorem dX1_wouldBeFlat_15 : decode cX1_wouldBeFlat 15 = .ok (.iconst 0, 1) := by decide +kernel
theorem dX1_wouldBeFlat_16 : decode cX1_wouldBeFlat 16 = .ok (.iconst 1, 1) := by decide +kernel
theorem dX1_wouldBeFlat_17 : decode cX1_wouldBeFlat 17 = .ok (.iload_n 2, 1) := by decide +kernel
theorem dX1_wouldBeFlat_18 : decode cX1_wouldBeFlat 18 = .ok (.invokevirtual 47, 3) := by decide +kernel
theorem dX1_wouldBeFlat_21 : decode cX1_wouldBeFlat 21 = .ok (.ifCond .eq 12, 3) := by decide +kernel
theorem dX1_wouldBeFlat_24 : decode cX1_wouldBeFlat 24 = .ok (.aload_n 0, 1) := by decide +kernel
theorem dX1_wouldBeFlat_25 : decode cX1_wouldBeFlat 25 = .ok (.getfield 25, 3) := by decide +kernel
theorem dX1_wouldBeFlat_28 : decode cX1_wouldBeFlat 28 = .ok (.aload_n 1, 1) := by decide +kernel
theorem dX1_wouldBeFlat_29 : decode cX1_wouldBeFlat 29 = .ok (.invokevirtual 51, 3) := by decide +kernel
theorem dX1_wouldBeFlat_32 : decode cX1_wouldBeFlat 32 = .ok (.ireturn, 1) := by decide +kernel
theorem dX1_wouldBeFlat_33 : decode cX1_wouldBeFlat 33 = .ok (.iinc 2 1, 3) := by decide +kernel
theorem dX1_wouldBeFlat_36 : decode cX1_wouldBeFlat 36 = .ok (.goto (-34), 3) := by decide +kernel
theorem dX1_wouldBeFlat_39 : decode cX1_wouldBeFlat 39 = .ok (.iconst 1, 1) := by decide +kernel
theorem dX1_wouldBeFlat_40 : decode cX1_wouldBeFlat 40 = .ok (.ireturn, 1) := by decide +kernel
set_option maxRecDepth 20000 in
theorem ggX1_wrap_X2_copyFrom : GoodIn wsX1_wrap wsX2_copyFrom := goodIn_r _ [8, 9, 10, 11, 12, 130, 131, 132, 133] (by decide +kernel) (by decide +kernel)
set_option maxRecDepth 20000 in
theorem gX1_wrap_X2_copyFrom_n55 : GoodIn wsX1_wrap (wsX2_copyFrom) := ggX1_wrap_X2_copyFrom
set_option maxRecDepth 20000 in
theorem ggX1_wrap_X1_findFaces : GoodIn wsX1_wrap wsX1_findFaces := goodIn_r _ [17, 2, 1, 18, 19, 20, 16, 21, 22, 3, 23, 24, 25, 26, 27, 28, 29, 30, 31, 32, 33, 34, 35, 36, 37, 38, 39, 40, 41, 42, 43, 44, 45, 46, 47, 48, 49, 50, 119, 120, 121, 122, 123, 124, 125, 126, 127, 128, 129, 130, 131, 132, 133, 134, 135, 136, 137, 138, 139, 140] (by decide +kernel) (by decide +kernel)
set_option maxRecDepth 20000 in
theorem gX1_wrap_X1_findFaces : GoodIn wsX1_wrap (wsV RX1 59 RX1 yX1_findFaces wsX1_findFaces) := goodIn_app (goodIn_of _ (by decide +kernel)) ggX1_wrap_X1_findFaces
set_option maxRecDepth 20000 in
theorem ggX1_wrap_X1_findCorners : GoodIn wsX1_wrap wsX1_findCorners := goodIn_r _ [54, 4, 1, 2, 3, 55, 36, 56, 119, 120, 121, 122, 123, 124, 125, 126, 127, 128, 129, 130, 131, 132, 133, 134, 135, 136, 137, 138, 139, 140] (by decide +kernel) (by decide +kernel)
set_option maxRecDepth 20000 in
theorem gX1_wrap_X1_findCorners : GoodIn wsX1_wrap (wsV RX1 62 RX1 yX1_findCorners wsX1_findCorners) := goodIn_app (goodIn_of _ (by decide +kernel)) ggX1_wrap_X1_findCorners
set_option maxRecDepth 20000 in
theorem ggX1_wrap_X0_goRound : GoodIn wsX1_wrap wsX0_goRound := goodIn_r _ [59, 41, 60, 61, 62, 63, 64, 65, 66, 67, 68, 69, 70, 71, 72, 73, 74, 75, 28, 76, 55, 36, 56, 77, 78, 79, 80, 31, 32, 33, 35, 37, 134, 135, 136, 137, 138, 139, 140, 130, 131, 132, 133] (by decide +kernel) (by decide +kernel)
set_option maxRecDepth 20000 in
theorem gX1_wrap_X0_goRound_n71 : GoodIn wsX1_wrap (wsX0_goRound) := ggX1_wrap_X0_goRound
set_option maxRecDepth 20000 in
theorem ggX1_wrap_X1_orderFaces : GoodIn wsX1_wrap wsX1_orderFaces := goodIn_r _ [84, 2, 3, 85, 28, 86, 87, 61, 88, 36, 89, 119, 120, 121, 122, 123, 124, 125, 126, 127, 128, 129, 134, 135, 136, 137, 138, 139, 140] (by decide +kernel) (by decide +kernel)
set_option maxRecDepth 20000 in
theorem gX1_wrap_X1_orderFaces : GoodIn wsX1_wrap (wsV RX1 75 RX1 yX1_orderFaces wsX1_orderFaces) := goodIn_app (goodIn_of _ (by decide +kernel)) ggX1_wrap_X1_orderFaces
set_option maxRecDepth 20000 in
theorem ggX1_wrap_X1_findEdges : GoodIn wsX1_wrap wsX1_findEdges := goodIn_r _ [93, 94, 1, 95, 96, 97, 98, 99, 100, 16, 101, 2, 3, 102, 103, 104, 105, 88, 36, 89, 119, 120, 121, 122, 123, 124, 125, 126, 127, 128, 129, 130, 131, 132, 133, 134, 135, 136, 137, 138, 139, 140] (by decide +kernel) (by decide +kernel)
set_option maxRecDepth 20000 in
theorem gX1_wrap_X1_findEdges : GoodIn wsX1_wrap (wsV RX1 78 RX1 yX1_findEdges wsX1_findEdges) := goodIn_app (goodIn_of _ (by decide +kernel)) ggX1_wrap_X1_findEdges
set_option maxRecDepth 20000 in
theorem ggX1_wrap_X1_measure : GoodIn wsX1_wrap wsX1_measure := goodIn_r _ [109, 110, 111, 2, 3, 112, 113, 104, 114, 115, 116, 117, 16, 118, 1, 119, 120, 121, 122, 123, 124, 125, 126, 127, 128, 129, 134, 135, 136, 137, 138, 139, 140, 130, 131, 132, 133] (by decide +kernel) (by decide +kernel)
set_option maxRecDepth 20000 in
theorem gX1_wrap_X1_measure : GoodIn wsX1_wrap (wsV RX1 81 RX1 yX1_measure wsX1_measure) := goodIn_app (goodIn_of _ (by decide +kernel)) ggX1_wrap_X1_measure
theorem dX1_wrap_0 : decode cX1_wrap 0 = .ok (.aload_n 0, 1) := by decide +kernel
theorem dX1_wrap_1 : decode cX1_wrap 1 = .ok (.getfield 12, 3) := by decide +kernel
theorem dX1_wrap_4 : decode cX1_wrap 4 = .ok (.aload_n 1, 1) := by decide +kernel
theorem dX1_wrap_5 : decode cX1_wrap 5 = .ok (.invokevirtual 55, 3) := by decide +kernel
theorem dX1_wrap_8 : decode cX1_wrap 8 = .ok (.aload_n 0, 1) := by decide +kernel
theorem dX1_wrap_9 : decode cX1_wrap 9 = .ok (.invokevirtual 59, 3) := by decide +kernel
theorem dX1_wrap_12 : decode cX1_wrap 12 = .ok (.aload_n 0, 1) := by decide +kernel
theorem dX1_wrap_13 : decode cX1_wrap 13 = .ok (.invokevirtual 62, 3) := by decide +kernel
theorem dX1_wrap_16 : decode cX1_wrap 16 = .ok (.iconst 0, 1) := by decide +kernel
theorem dX1_wrap_17 : decode cX1_wrap 17 = .ok (.istore_n 2, 1) := by decide +kernel
theorem dX1_wrap_18 : decode cX1_wrap 18 = .ok (.iload_n 2, 1) := by decide +kernel
theorem dX1_wrap_19 : decode cX1_wrap 19 = .ok (.aload_n 0, 1) := by decide +kernel
theorem dX1_wrap_20 : decode cX1_wrap 20 = .ok (.getfield 65, 3) := by decide +kernel
theorem dX1_wrap_23 : decode cX1_wrap 23 = .ok (.if_icmp .ge 26, 3) := by decide +kernel
theorem dX1_wrap_26 : decode cX1_wrap 26 = .ok (.aload_n 0, 1) := by decide +kernel
theorem dX1_wrap_27 : decode cX1_wrap 27 = .ok (.getfield 20, 3) := by decide +kernel
theorem dX1_wrap_30 : decode cX1_wrap 30 = .ok (.iload_n 2, 1) := by decide +kernel
theorem dX1_wrap_31 : decode cX1_wrap 31 = .ok (.aaload, 1) := by decide +kernel
theorem dX1_wrap_32 : decode cX1_wrap 32 = .ok (.aload_n 0, 1) := by decide +kernel
theorem dX1_wrap_33 : decode cX1_wrap 33 = .ok (.getfield 12, 3) := by decide +kernel
theorem dX1_wrap_36 : decode cX1_wrap 36 = .ok (.aload_n 0, 1) := by decide +kernel
theorem dX1_wrap_37 : decode cX1_wrap 37 = .ok (.getfield 68, 3) := by decide +kernel
theorem dX1_wrap_40 : decode cX1_wrap 40 = .ok (.invokevirtual 71, 3) := by decide +kernel
theorem dX1_wrap_43 : decode cX1_wrap 43 = .ok (.iinc 2 1, 3) := by decide +kernel
theorem dX1_wrap_46 : decode cX1_wrap 46 = .ok (.goto (-28), 3) := by decide +kernel
theorem dX1_wrap_49 : decode cX1_wrap 49 = .ok (.aload_n 0, 1) := by decide +kernel
theorem dX1_wrap_50 : decode cX1_wrap 50 = .ok (.invokevirtual 75, 3) := by decide +kernel
theorem dX1_wrap_53 : decode cX1_wrap 53 = .ok (.aload_n 0, 1) := by decide +kernel
theorem dX1_wrap_54 : decode cX1_wrap 54 = .ok (.invokevirtual 78, 3) := by decide +kernel
theorem dX1_wrap_57 : decode cX1_wrap 57 = .ok (.aload_n 0, 1) := by decide +kernel
theorem dX1_wrap_58 : decode cX1_wrap 58 = .ok (.invokevirtual 81, 3) := by decide +kernel
theorem dX1_wrap_61 : decode cX1_wrap 61 = .ok (.return_, 1) := by decide +kernel
set_option maxRecDepth 20000 in
theorem ggX1_findFaces_X1_tryPlane : GoodIn wsX1_findFaces wsX1_tryPlane := goodIn_r _ [7, 1, 8, 2, 9, 10, 11, 12, 6, 13, 14, 15, 16, 17, 18, 19, 20, 21, 22, 23, 24, 25, 26, 27, 28, 29, 30, 31, 32, 33, 34, 35, 36, 37, 38, 39, 40, 41, 42, 43, 44, 45, 46, 47, 48, 53, 54, 55, 56, 57, 58, 59, 49, 50, 51, 52] (by decide +kernel) (by decide +kernel)
set_option maxRecDepth 20000 in
theorem gX1_findFaces_X1_tryPlane : GoodIn wsX1_findFaces (wsV RX1 84 RX1 yX1_tryPlane wsX1_tryPlane) := goodIn_app (goodIn_of _ (by decide +kernel)) ggX1_findFaces_X1_tryPlane
theorem dX1_findFaces_0 : decode cX1_findFaces 0 = .ok (.aload_n 0, 1) := by decide +kernel
theorem dX1_findFaces_1 : decode cX1_findFaces 1 = .ok (.iconst 0, 1) := by decide +kernel
theorem dX1_findFaces_2 : decode cX1_findFaces 2 = .ok (.putfield 65, 3) := by decide +kernel
theorem dX1_findFaces_5 : decode cX1_findFaces 5 = .ok (.iconst 0, 1) := by decide +kernel
theorem dX1_findFaces_6 : decode cX1_findFaces 6 = .ok (.istore_n 1, 1) := by decide +kernel
theorem dX1_findFaces_7 : decode cX1_findFaces 7 = .ok (.iload_n 1, 1) := by decide +kernel
theorem dX1_findFaces_8 : decode cX1_findFaces 8 = .ok (.aload_n 0, 1) := by decide +kernel
theorem dX1_findFaces_9 : decode cX1_findFaces 9 = .ok (.getfield 12, 3) := by decide +kernel
theorem dX1_findFaces_12 : decode cX1_findFaces 12 = .ok (.getfield 43, 3) := by decide +kernel
theorem dX1_findFaces_15 : decode cX1_findFaces 15 = .ok (.if_icmp .ge 58, 3) := by decide +kernel
theorem dX1_findFaces_18 : decode cX1_findFaces 18 = .ok (.iload_n 1, 1) := by decide +kernel
theorem dX1_findFaces_19 : decode cX1_findFaces 19 = .ok (.iconst 1, 1) := by decide +kernel
theorem dX1_findFaces_20 : decode cX1_findFaces 20 = .ok (.iadd, 1) := by decide +kernel
theorem dX1_findFaces_21 : decode cX1_findFaces 21 = .ok (.istore_n 2, 1) := by decide +kernel
theorem dX1_findFaces_22 : decode cX1_findFaces 22 = .ok (.iload_n 2, 1) := by decide +kernel
theorem dX1_findFaces_23 : decode cX1_findFaces 23 = .ok (.aload_n 0, 1) := by decide +kernel
theorem dX1_findFaces_24 : decode cX1_findFaces 24 = .ok (.getfield 12, 3) := by decide +kernel
theorem dX1_findFaces_27 : decode cX1_findFaces 27 = .ok (.getfield 43, 3) := by decide +kernel
theorem dX1_findFaces_30 : decode cX1_findFaces 30 = .ok (.if_icmp .ge 37, 3) := by decide +kernel
theorem dX1_findFaces_33 : decode cX1_findFaces 33 = .ok (.iload_n 2, 1) := by decide +kernel
theorem dX1_findFaces_34 : decode cX1_findFaces 34 = .ok (.iconst 1, 1) := by decide +kernel
theorem dX1_findFaces_35 : decode cX1_findFaces 35 = .ok (.iadd, 1) := by decide +kernel
theorem dX1_findFaces_36 : decode cX1_findFaces 36 = .ok (.istore_n 3, 1) := by decide +kernel
theorem dX1_findFaces_37 : decode cX1_findFaces 37 = .ok (.iload_n 3, 1) := by decide +kernel
theorem dX1_findFaces_38 : decode cX1_findFaces 38 = .ok (.aload_n 0, 1) := by decide +kernel
theorem dX1_findFaces_39 : decode cX1_findFaces 39 = .ok (.getfield 12, 3) := by decide +kernel
theorem dX1_findFaces_42 : decode cX1_findFaces 42 = .ok (.getfield 43, 3) := by decide +kernel
theorem dX1_findFaces_45 : decode cX1_findFaces 45 = .ok (.if_icmp .ge 16, 3) := by decide +kernel
theorem dX1_findFaces_48 : decode cX1_findFaces 48 = .ok (.aload_n 0, 1) := by decide +kernel
theorem dX1_findFaces_49 : decode cX1_findFaces 49 = .ok (.iload_n 1, 1) := by decide +kernel
theorem dX1_findFaces_50 : decode cX1_findFaces 50 = .ok (.iload_n 2, 1) := by decide +kernel
theorem dX1_findFaces_51 : decode cX1_findFaces 51 = .ok (.iload_n 3, 1) := by decide +kernel
theorem dX1_findFaces_52 : decode cX1_findFaces 52 = .ok (.invokevirtual 84, 3) := by decide +kernel
theorem dX1_findFaces_55 : decode cX1_findFaces 55 = .ok (.iinc 3 1, 3) := by decide +kernel
theorem dX1_findFaces_58 : decode cX1_findFaces 58 = .ok (.goto (-21), 3) := by decide +kernel
theorem dX1_findFaces_61 : decode cX1_findFaces 61 = .ok (.iinc 2 1, 3) := by decide +kernel
theorem dX1_findFaces_64 : decode cX1_findFaces 64 = .ok (.goto (-42), 3) := by decide +kernel
theorem dX1_findFaces_67 : decode cX1_findFaces 67 = .ok (.iinc 1 1, 3) := by decide +kernel
theorem dX1_findFaces_70 : decode cX1_findFaces 70 = .ok (.goto (-63), 3) := by decide +kernel
theorem dX1_findFaces_73 : decode cX1_findFaces 73 = .ok (.return_, 1) := by decide +kernel
set_option maxRecDepth 20000 in
theorem ggX1_tryPlane_X1_lieInOneFace : GoodIn wsX1_tryPlane wsX1_lieInOneFace := goodIn_r _ [9, 1, 4, 34, 35, 36, 37, 38, 39, 40, 41, 42, 43, 44, 45, 46, 47, 48, 49, 50, 51] (by decide +kernel) (by decide +kernel)
set_option maxRecDepth 20000 in
theorem gX1_tryPlane_X1_lieInOneFace : GoodIn wsX1_tryPlane (wsV RX1 88 RX1 yX1_lieInOneFace wsX1_lieInOneFace) := goodIn_app (goodIn_of _ (by decide +kernel)) ggX1_tryPlane_X1_lieInOneFace
set_option maxRecDepth 20000 in
theorem ggX1_tryPlane_X0_layThrough : GoodIn wsX1_tryPlane wsX0_layThrough := goodIn_r _ [13, 14, 15, 16, 17, 18, 19, 20, 52, 53, 54, 55, 45, 46, 47, 48, 49, 50, 51] (by decide +kernel) (by decide +kernel)
set_option maxRecDepth 20000 in
theorem gX1_tryPlane_X0_layThrough_n47 : GoodIn wsX1_tryPlane (wsX0_layThrough) := ggX1_tryPlane_X0_layThrough
set_option maxRecDepth 20000 in
theorem ggX1_tryPlane_X0_turnOutside : GoodIn wsX1_tryPlane wsX0_turnOutside := goodIn_r _ [23, 24, 14, 15, 16, 17, 25, 26, 27, 11, 28, 45, 46, 47, 48, 49, 50, 51, 52, 53, 54, 55] (by decide +kernel) (by decide +kernel)
set_option maxRecDepth 20000 in
theorem gX1_tryPlane_X0_turnOutside_n92 : GoodIn wsX1_tryPlane (wsX0_turnOutside) := ggX1_tryPlane_X0_turnOutside
set_option maxRecDepth 20000 in
theorem ggX1_tryPlane_X0_shortenNormal : GoodIn wsX1_tryPlane wsX0_shortenNormal := goodIn_r _ [31, 14, 15, 16, 17, 32, 19, 33, 45, 46, 47, 48, 49, 50, 51] (by decide +kernel) (by decide +kernel)
set_option maxRecDepth 20000 in
theorem gX1_tryPlane_X0_shortenNormal_n95 : GoodIn wsX1_tryPlane (wsX0_shortenNormal) := ggX1_tryPlane_X0_shortenNormal
theorem dX1_tryPlane_0 : decode cX1_tryPlane 0 = .ok (.aload_n 0, 1) := by decide +kernel
theorem dX1_tryPlane_1 : decode cX1_tryPlane 1 = .ok (.getfield 65, 3) := by decide +kernel
theorem dX1_tryPlane_4 : decode cX1_tryPlane 4 = .ok (.bipush 44, 2) := by decide +kernel
theorem dX1_tryPlane_6 : decode cX1_tryPlane 6 = .ok (.if_icmp .ge 21, 3) := by decide +kernel
theorem dX1_tryPlane_9 : decode cX1_tryPlane 9 = .ok (.aload_n 0, 1) := by decide +kernel
theorem dX1_tryPlane_10 : decode cX1_tryPlane 10 = .ok (.iconst 1, 1) := by decide +kernel
theorem dX1_tryPlane_11 : decode cX1_tryPlane 11 = .ok (.iload_n 1, 1) := by decide +kernel
theorem dX1_tryPlane_12 : decode cX1_tryPlane 12 = .ok (.ishl, 1) := by decide +kernel
theorem dX1_tryPlane_13 : decode cX1_tryPlane 13 = .ok (.iconst 1, 1) := by decide +kernel
theorem dX1_tryPlane_14 : decode cX1_tryPlane 14 = .ok (.iload_n 2, 1) := by decide +kernel
theorem dX1_tryPlane_15 : decode cX1_tryPlane 15 = .ok (.ishl, 1) := by decide +kernel
theorem dX1_tryPlane_16 : decode cX1_tryPlane 16 = .ok (.ior, 1) := by decide +kernel
theorem dX1_tryPlane_17 : decode cX1_tryPlane 17 = .ok (.iconst 1, 1) := by decide +kernel
theorem dX1_tryPlane_18 : decode cX1_tryPlane 18 = .ok (.iload_n 3, 1) := by decide +kernel
theorem dX1_tryPlane_19 : decode cX1_tryPlane 19 = .ok (.ishl, 1) := by decide +kernel
theorem dX1_tryPlane_20 : decode cX1_tryPlane 20 = .ok (.ior, 1) := by decide +kernel
theorem dX1_tryPlane_21 : decode cX1_tryPlane 21 = .ok (.invokevirtual 88, 3) := by decide +kernel
theorem dX1_tryPlane_24 : decode cX1_tryPlane 24 = .ok (.ifCond .eq 4, 3) := by decide +kernel
theorem dX1_tryPlane_27 : decode cX1_tryPlane 27 = .ok (.return_, 1) := by decide +kernel
theorem dX1_tryPlane_28 : decode cX1_tryPlane 28 = .ok (.aload_n 0, 1) := by decide +kernel
theorem dX1_tryPlane_29 : decode cX1_tryPlane 29 = .ok (.getfield 25, 3) := by decide +kernel
theorem dX1_tryPlane_32 : decode cX1_tryPlane 32 = .ok (.aload_n 0, 1) := by decide +kernel
theorem dX1_tryPlane_33 : decode cX1_tryPlane 33 = .ok (.getfield 12, 3) := by decide +kernel
theorem dX1_tryPlane_36 : decode cX1_tryPlane 36 = .ok (.iload_n 1, 1) := by decide +kernel
theorem dX1_tryPlane_37 : decode cX1_tryPlane 37 = .ok (.iload_n 2, 1) := by decide +kernel
theorem dX1_tryPlane_38 : decode cX1_tryPlane 38 = .ok (.iload_n 3, 1) := by decide +kernel
theorem dX1_tryPlane_39 : decode cX1_tryPlane 39 = .ok (.invokevirtual 47, 3) := by decide +kernel
theorem dX1_tryPlane_42 : decode cX1_tryPlane 42 = .ok (.ifCond .eq 64, 3) := by decide +kernel
theorem dX1_tryPlane_45 : decode cX1_tryPlane 45 = .ok (.aload_n 0, 1) := by decide +kernel
theorem dX1_tryPlane_46 : decode cX1_tryPlane 46 = .ok (.getfield 25, 3) := by decide +kernel
theorem dX1_tryPlane_49 : decode cX1_tryPlane 49 = .ok (.aload_n 0, 1) := by decide +kernel
theorem dX1_tryPlane_50 : decode cX1_tryPlane 50 = .ok (.getfield 12, 3) := by decide +kernel
theorem dX1_tryPlane_53 : decode cX1_tryPlane 53 = .ok (.invokevirtual 92, 3) := by decide +kernel
theorem dX1_tryPlane_56 : decode cX1_tryPlane 56 = .ok (.ifCond .eq 50, 3) := by decide +kernel
theorem dX1_tryPlane_59 : decode cX1_tryPlane 59 = .ok (.aload_n 0, 1) := by decide +kernel
theorem dX1_tryPlane_60 : decode cX1_tryPlane 60 = .ok (.getfield 25, 3) := by decide +kernel
theorem dX1_tryPlane_63 : decode cX1_tryPlane 63 = .ok (.invokevirtual 95, 3) := by decide +kernel
theorem dX1_tryPlane_66 : decode cX1_tryPlane 66 = .ok (.aload_n 0, 1) := by decide +kernel
theorem dX1_tryPlane_67 : decode cX1_tryPlane 67 = .ok (.getfield 20, 3) := by decide +kernel
theorem dX1_tryPlane_70 : decode cX1_tryPlane 70 = .ok (.aload_n 0, 1) := by decide +kernel
theorem dX1_tryPlane_71 : decode cX1_tryPlane 71 = .ok (.getfield 65, 3) := by decide +kernel
theorem dX1_tryPlane_74 : decode cX1_tryPlane 74 = .ok (.aaload, 1) := by decide +kernel
theorem dX1_tryPlane_75 : decode cX1_tryPlane 75 = .ok (.astore 4, 2) := by decide +kernel
theorem dX1_tryPlane_77 : decode cX1_tryPlane 77 = .ok (.aload_n 0, 1) := by decide +kernel
theorem dX1_tryPlane_78 : decode cX1_tryPlane 78 = .ok (.getfield 20, 3) := by decide +kernel
theorem dX1_tryPlane_81 : decode cX1_tryPlane 81 = .ok (.aload_n 0, 1) := by decide +kernel
theorem dX1_tryPlane_82 : decode cX1_tryPlane 82 = .ok (.getfield 65, 3) := by decide +kernel
theorem dX1_tryPlane_85 : decode cX1_tryPlane 85 = .ok (.aload_n 0, 1) := by decide +kernel
theorem dX1_tryPlane_86 : decode cX1_tryPlane 86 = .ok (.getfield 25, 3) := by decide +kernel
theorem dX1_tryPlane_89 : decode cX1_tryPlane 89 = .ok (.aastore, 1) := by decide +kernel
theorem dX1_tryPlane_90 : decode cX1_tryPlane 90 = .ok (.aload_n 0, 1) := by decide +kernel
theorem dX1_tryPlane_91 : decode cX1_tryPlane 91 = .ok (.aload 4, 2) := by decide +kernel
theorem dX1_tryPlane_93 : decode cX1_tryPlane 93 = .ok (.putfield 25, 3) := by decide +kernel
theorem dX1_tryPlane_96 : decode cX1_tryPlane 96 = .ok (.aload_n 0, 1) := by decide +kernel
theorem dX1_tryPlane_97 : decode cX1_tryPlane 97 = .ok (.dup, 1) := by decide +kernel
theorem dX1_tryPlane_98 : decode cX1_tryPlane 98 = .ok (.getfield 65, 3) := by decide +kernel
theorem dX1_tryPlane_101 : decode cX1_tryPlane 101 = .ok (.iconst 1, 1) := by decide +kernel
theorem dX1_tryPlane_102 : decode cX1_tryPlane 102 = .ok (.iadd, 1) := by decide +kernel
theorem dX1_tryPlane_103 : decode cX1_tryPlane 103 = .ok (.putfield 65, 3) := by decide +kernel
theorem dX1_tryPlane_106 : decode cX1_tryPlane 106 = .ok (.return_, 1) := by decide +kernel
theorem dX1_lieInOneFace_0 : decode cX1_lieInOneFace 0 = .ok (.iconst 0, 1) := by decide +kernel
theorem dX1_lieInOneFace_1 : decode cX1_lieInOneFace 1 = .ok (.istore_n 2, 1) := by decide +kernel
theorem dX1_lieInOneFace_2 : decode cX1_lieInOneFace 2 = .ok (.iload_n 2, 1) := by decide +kernel
theorem dX1_lieInOneFace_3 : decode cX1_lieInOneFace 3 = .ok (.aload_n 0, 1) := by decide +kernel
theorem dX1_lieInOneFace_4 : decode cX1_lieInOneFace 4 = .ok (.getfield 65, 3) := by decide +kernel
theorem dX1_lieInOneFace_7 : decode cX1_lieInOneFace 7 = .ok (.if_icmp .ge 26, 3) := by decide +kernel
theorem dX1_lieInOneFace_10 : decode cX1_lieInOneFace 10 = .ok (.aload_n 0, 1) := by decide +kernel
theorem dX1_lieInOneFace_11 : decode cX1_lieInOneFace 11 = .ok (.getfield 20, 3) := by decide +kernel
theorem dX1_lieInOneFace_14 : decode cX1_lieInOneFace 14 = .ok (.iload_n 2, 1) := by decide +kernel
theorem dX1_lieInOneFace_15 : decode cX1_lieInOneFace 15 = .ok (.aaload, 1) := by decide +kernel
theorem dX1_lieInOneFace_16 : decode cX1_lieInOneFace 16 = .ok (.getfield 98, 3) := by decide +kernel
theorem dX1_lieInOneFace_19 : decode cX1_lieInOneFace 19 = .ok (.iload_n 1, 1) := by decide +kernel
theorem dX1_lieInOneFace_20 : decode cX1_lieInOneFace 20 = .ok (.iand, 1) := by decide +kernel
theorem dX1_lieInOneFace_21 : decode cX1_lieInOneFace 21 = .ok (.iload_n 1, 1) := by decide +kernel
theorem dX1_lieInOneFace_22 : decode cX1_lieInOneFace 22 = .ok (.if_icmp .ne 5, 3) := by decide +kernel
theorem dX1_lieInOneFace_25 : decode cX1_lieInOneFace 25 = .ok (.iconst 1, 1) := by decide +kernel
theorem dX1_lieInOneFace_26 : decode cX1_lieInOneFace 26 = .ok (.ireturn, 1) := by decide +kernel
theorem dX1_lieInOneFace_27 : decode cX1_lieInOneFace 27 = .ok (.iinc 2 1, 3) := by decide +kernel
theorem dX1_lieInOneFace_30 : decode cX1_lieInOneFace 30 = .ok (.goto (-28), 3) := by decide +kernel
theorem dX1_lieInOneFace_33 : decode cX1_lieInOneFace 33 = .ok (.iconst 0, 1) := by decide +kernel
theorem dX1_lieInOneFace_34 : decode cX1_lieInOneFace 34 = .ok (.ireturn, 1) := by decide +kernel
set_option maxRecDepth 20000 in
theorem ggX1_findCorners_X3_holds : GoodIn wsX1_findCorners wsX3_holds := goodIn_r _ [7] (by decide +kernel) (by decide +kernel)
set_option maxRecDepth 20000 in
theorem gX1_findCorners_X3_holds_n101 : GoodIn wsX1_findCorners (wsX3_holds) := ggX1_findCorners_X3_holds
theorem dX1_findCorners_0 : decode cX1_findCorners 0 = .ok (.aload_n 0, 1) := by decide +kernel
theorem dX1_findCorners_1 : decode cX1_findCorners 1 = .ok (.iconst 0, 1) := by decide +kernel
theorem dX1_findCorners_2 : decode cX1_findCorners 2 = .ok (.putfield 68, 3) := by decide +kernel
theorem dX1_findCorners_5 : decode cX1_findCorners 5 = .ok (.iconst 0, 1) := by decide +kernel
theorem dX1_findCorners_6 : decode cX1_findCorners 6 = .ok (.istore_n 1, 1) := by decide +kernel
theorem dX1_findCorners_7 : decode cX1_findCorners 7 = .ok (.iload_n 1, 1) := by decide +kernel
theorem dX1_findCorners_8 : decode cX1_findCorners 8 = .ok (.aload_n 0, 1) := by decide +kernel
theorem dX1_findCorners_9 : decode cX1_findCorners 9 = .ok (.getfield 12, 3) := by decide +kernel
theorem dX1_findCorners_12 : decode cX1_findCorners 12 = .ok (.getfield 43, 3) := by decide +kernel
theorem dX1_findCorners_15 : decode cX1_findCorners 15 = .ok (.if_icmp .ge 63, 3) := by decide +kernel
theorem dX1_findCorners_18 : decode cX1_findCorners 18 = .ok (.iconst 0, 1) := by decide +kernel
theorem dX1_findCorners_19 : decode cX1_findCorners 19 = .ok (.istore_n 2, 1) := by decide +kernel
theorem dX1_findCorners_20 : decode cX1_findCorners 20 = .ok (.iconst 0, 1) := by decide +kernel
theorem dX1_findCorners_21 : decode cX1_findCorners 21 = .ok (.istore_n 3, 1) := by decide +kernel
theorem dX1_findCorners_22 : decode cX1_findCorners 22 = .ok (.iload_n 3, 1) := by decide +kernel
theorem dX1_findCorners_23 : decode cX1_findCorners 23 = .ok (.aload_n 0, 1) := by decide +kernel
theorem dX1_findCorners_24 : decode cX1_findCorners 24 = .ok (.getfield 65, 3) := by decide +kernel
theorem dX1_findCorners_27 : decode cX1_findCorners 27 = .ok (.if_icmp .ge 28, 3) := by decide +kernel
theorem dX1_findCorners_30 : decode cX1_findCorners 30 = .ok (.aload_n 0, 1) := by decide +kernel
theorem dX1_findCorners_31 : decode cX1_findCorners 31 = .ok (.getfield 20, 3) := by decide +kernel
theorem dX1_findCorners_34 : decode cX1_findCorners 34 = .ok (.iload_n 3, 1) := by decide +kernel
theorem dX1_findCorners_35 : decode cX1_findCorners 35 = .ok (.aaload, 1) := by decide +kernel
theorem dX1_findCorners_36 : decode cX1_findCorners 36 = .ok (.getfield 98, 3) := by decide +kernel
theorem dX1_findCorners_39 : decode cX1_findCorners 39 = .ok (.iload_n 1, 1) := by decide +kernel
theorem dX1_findCorners_40 : decode cX1_findCorners 40 = .ok (.invokestatic 101, 3) := by decide +kernel
theorem dX1_findCorners_43 : decode cX1_findCorners 43 = .ok (.ifCond .eq 6, 3) := by decide +kernel
theorem dX1_findCorners_46 : decode cX1_findCorners 46 = .ok (.iinc 2 1, 3) := by decide +kernel
theorem dX1_findCorners_49 : decode cX1_findCorners 49 = .ok (.iinc 3 1, 3) := by decide +kernel
theorem dX1_findCorners_52 : decode cX1_findCorners 52 = .ok (.goto (-30), 3) := by decide +kernel
theorem dX1_findCorners_55 : decode cX1_findCorners 55 = .ok (.iload_n 2, 1) := by decide +kernel
theorem dX1_findCorners_56 : decode cX1_findCorners 56 = .ok (.iconst 3, 1) := by decide +kernel
theorem dX1_findCorners_57 : decode cX1_findCorners 57 = .ok (.if_icmp .lt 15, 3) := by decide +kernel
theorem dX1_findCorners_60 : decode cX1_findCorners 60 = .ok (.aload_n 0, 1) := by decide +kernel
theorem dX1_findCorners_61 : decode cX1_findCorners 61 = .ok (.dup, 1) := by decide +kernel
theorem dX1_findCorners_62 : decode cX1_findCorners 62 = .ok (.getfield 68, 3) := by decide +kernel
theorem dX1_findCorners_65 : decode cX1_findCorners 65 = .ok (.iconst 1, 1) := by decide +kernel
theorem dX1_findCorners_66 : decode cX1_findCorners 66 = .ok (.iload_n 1, 1) := by decide +kernel
theorem dX1_findCorners_67 : decode cX1_findCorners 67 = .ok (.ishl, 1) := by decide +kernel
theorem dX1_findCorners_68 : decode cX1_findCorners 68 = .ok (.ior, 1) := by decide +kernel
theorem dX1_findCorners_69 : decode cX1_findCorners 69 = .ok (.putfield 68, 3) := by decide +kernel
theorem dX1_findCorners_72 : decode cX1_findCorners 72 = .ok (.iinc 1 1, 3) := by decide +kernel
theorem dX1_findCorners_75 : decode cX1_findCorners 75 = .ok (.goto (-68), 3) := by decide +kernel
theorem dX1_findCorners_78 : decode cX1_findCorners 78 = .ok (.return_, 1) := by decide +kernel
set_option maxRecDepth 20000 in
theorem ggX1_orderFaces_X0_rank : GoodIn wsX1_orderFaces wsX0_rank := goodIn_r _ [6, 7, 8, 9, 10, 22, 23, 24, 25, 26, 27, 28] (by decide +kernel) (by decide +kernel)
set_option maxRecDepth 20000 in
theorem gX1_orderFaces_X0_rank_n105 : GoodIn wsX1_orderFaces (wsX0_rank) := ggX1_orderFaces_X0_rank
theorem dX1_orderFaces_0 : decode cX1_orderFaces 0 = .ok (.iconst 1, 1) := by decide +kernel
theorem dX1_orderFaces_1 : decode cX1_orderFaces 1 = .ok (.istore_n 1, 1) := by decide +kernel
theorem dX1_orderFaces_2 : decode cX1_orderFaces 2 = .ok (.iload_n 1, 1) := by decide +kernel
theorem dX1_orderFaces_3 : decode cX1_orderFaces 3 = .ok (.aload_n 0, 1) := by decide +kernel
theorem dX1_orderFaces_4 : decode cX1_orderFaces 4 = .ok (.getfield 65, 3) := by decide +kernel
theorem dX1_orderFaces_7 : decode cX1_orderFaces 7 = .ok (.if_icmp .ge 74, 3) := by decide +kernel
theorem dX1_orderFaces_10 : decode cX1_orderFaces 10 = .ok (.iload_n 1, 1) := by decide +kernel
theorem dX1_orderFaces_11 : decode cX1_orderFaces 11 = .ok (.istore_n 2, 1) := by decide +kernel
theorem dX1_orderFaces_12 : decode cX1_orderFaces 12 = .ok (.iload_n 2, 1) := by decide +kernel
theorem dX1_orderFaces_13 : decode cX1_orderFaces 13 = .ok (.ifCond .le 62, 3) := by decide +kernel
theorem dX1_orderFaces_16 : decode cX1_orderFaces 16 = .ok (.aload_n 0, 1) := by decide +kernel
theorem dX1_orderFaces_17 : decode cX1_orderFaces 17 = .ok (.getfield 20, 3) := by decide +kernel
theorem dX1_orderFaces_20 : decode cX1_orderFaces 20 = .ok (.iload_n 2, 1) := by decide +kernel
theorem dX1_orderFaces_21 : decode cX1_orderFaces 21 = .ok (.aaload, 1) := by decide +kernel
theorem dX1_orderFaces_22 : decode cX1_orderFaces 22 = .ok (.invokevirtual 105, 3) := by decide +kernel
theorem dX1_orderFaces_25 : decode cX1_orderFaces 25 = .ok (.aload_n 0, 1) := by decide +kernel
theorem dX1_orderFaces_26 : decode cX1_orderFaces 26 = .ok (.getfield 20, 3) := by decide +kernel
theorem dX1_orderFaces_29 : decode cX1_orderFaces 29 = .ok (.iload_n 2, 1) := by decide +kernel
theorem dX1_orderFaces_30 : decode cX1_orderFaces 30 = .ok (.iconst 1, 1) := by decide +kernel
theorem dX1_orderFaces_31 : decode cX1_orderFaces 31 = .ok (.isub, 1) := by decide +kernel
theorem dX1_orderFaces_32 : decode cX1_orderFaces 32 = .ok (.aaload, 1) := by decide +kernel
theorem dX1_orderFaces_33 : decode cX1_orderFaces 33 = .ok (.invokevirtual 105, 3) := by decide +kernel
theorem dX1_orderFaces_36 : decode cX1_orderFaces 36 = .ok (.if_icmp .ge 39, 3) := by decide +kernel
theorem dX1_orderFaces_39 : decode cX1_orderFaces 39 = .ok (.aload_n 0, 1) := by decide +kernel
theorem dX1_orderFaces_40 : decode cX1_orderFaces 40 = .ok (.getfield 20, 3) := by decide +kernel
theorem dX1_orderFaces_43 : decode cX1_orderFaces 43 = .ok (.iload_n 2, 1) := by decide +kernel
theorem dX1_orderFaces_44 : decode cX1_orderFaces 44 = .ok (.aaload, 1) := by decide +kernel
theorem dX1_orderFaces_45 : decode cX1_orderFaces 45 = .ok (.astore_n 3, 1) := by decide +kernel
theorem dX1_orderFaces_46 : decode cX1_orderFaces 46 = .ok (.aload_n 0, 1) := by decide +kernel
theorem dX1_orderFaces_47 : decode cX1_orderFaces 47 = .ok (.getfield 20, 3) := by decide +kernel
theorem dX1_orderFaces_50 : decode cX1_orderFaces 50 = .ok (.iload_n 2, 1) := by decide +kernel
theorem dX1_orderFaces_51 : decode cX1_orderFaces 51 = .ok (.aload_n 0, 1) := by decide +kernel
theorem dX1_orderFaces_52 : decode cX1_orderFaces 52 = .ok (.getfield 20, 3) := by decide +kernel
theorem dX1_orderFaces_55 : decode cX1_orderFaces 55 = .ok (.iload_n 2, 1) := by decide +kernel
theorem dX1_orderFaces_56 : decode cX1_orderFaces 56 = .ok (.iconst 1, 1) := by decide +kernel
theorem dX1_orderFaces_57 : decode cX1_orderFaces 57 = .ok (.isub, 1) := by decide +kernel
theorem dX1_orderFaces_58 : decode cX1_orderFaces 58 = .ok (.aaload, 1) := by decide +kernel
theorem dX1_orderFaces_59 : decode cX1_orderFaces 59 = .ok (.aastore, 1) := by decide +kernel
theorem dX1_orderFaces_60 : decode cX1_orderFaces 60 = .ok (.aload_n 0, 1) := by decide +kernel
theorem dX1_orderFaces_61 : decode cX1_orderFaces 61 = .ok (.getfield 20, 3) := by decide +kernel
theorem dX1_orderFaces_64 : decode cX1_orderFaces 64 = .ok (.iload_n 2, 1) := by decide +kernel
theorem dX1_orderFaces_65 : decode cX1_orderFaces 65 = .ok (.iconst 1, 1) := by decide +kernel
theorem dX1_orderFaces_66 : decode cX1_orderFaces 66 = .ok (.isub, 1) := by decide +kernel
theorem dX1_orderFaces_67 : decode cX1_orderFaces 67 = .ok (.aload_n 3, 1) := by decide +kernel
theorem dX1_orderFaces_68 : decode cX1_orderFaces 68 = .ok (.aastore, 1) := by decide +kernel
theorem dX1_orderFaces_69 : decode cX1_orderFaces 69 = .ok (.iinc 2 (-1), 3) := by decide +kernel
theorem dX1_orderFaces_72 : decode cX1_orderFaces 72 = .ok (.goto (-60), 3) := by decide +kernel
theorem dX1_orderFaces_75 : decode cX1_orderFaces 75 = .ok (.iinc 1 1, 3) := by decide +kernel
theorem dX1_orderFaces_78 : decode cX1_orderFaces 78 = .ok (.goto (-76), 3) := by decide +kernel
theorem dX1_orderFaces_81 : decode cX1_orderFaces 81 = .ok (.return_, 1) := by decide +kernel
set_option maxRecDepth 20000 in
theorem ggX1_findEdges_X1_noteWays : GoodIn wsX1_findEdges wsX1_noteWays := goodIn_r _ [10, 3, 11, 12, 13, 14, 15, 16, 17, 18, 19, 20, 21, 22, 23, 24, 25, 26, 27, 28, 29, 30, 35, 36, 37, 38, 39, 40, 41] (by decide +kernel) (by decide +kernel)
set_option maxRecDepth 20000 in
theorem gX1_findEdges_X1_noteWays : GoodIn wsX1_findEdges (wsV RX1 109 RX1 yX1_noteWays wsX1_noteWays) := goodIn_app (goodIn_of _ (by decide +kernel)) ggX1_findEdges_X1_noteWays
set_option maxRecDepth 20000 in
theorem ggX1_findEdges_X3_way : GoodIn wsX1_findEdges wsX3_way := goodIn_r _ [19] (by decide +kernel) (by decide +kernel)
set_option maxRecDepth 20000 in
theorem gX1_findEdges_X3_way_n115 : GoodIn wsX1_findEdges (wsX3_way) := ggX1_findEdges_X3_way
theorem dX1_findEdges_0 : decode cX1_findEdges 0 = .ok (.aload_n 0, 1) := by decide +kernel
theorem dX1_findEdges_1 : decode cX1_findEdges 1 = .ok (.invokevirtual 109, 3) := by decide +kernel
theorem dX1_findEdges_4 : decode cX1_findEdges 4 = .ok (.aload_n 0, 1) := by decide +kernel
theorem dX1_findEdges_5 : decode cX1_findEdges 5 = .ok (.iconst 0, 1) := by decide +kernel
theorem dX1_findEdges_6 : decode cX1_findEdges 6 = .ok (.putfield 112, 3) := by decide +kernel
theorem dX1_findEdges_9 : decode cX1_findEdges 9 = .ok (.iconst 0, 1) := by decide +kernel
theorem dX1_findEdges_10 : decode cX1_findEdges 10 = .ok (.istore_n 1, 1) := by decide +kernel
theorem dX1_findEdges_11 : decode cX1_findEdges 11 = .ok (.iload_n 1, 1) := by decide +kernel
theorem dX1_findEdges_12 : decode cX1_findEdges 12 = .ok (.aload_n 0, 1) := by decide +kernel
theorem dX1_findEdges_13 : decode cX1_findEdges 13 = .ok (.getfield 12, 3) := by decide +kernel
theorem dX1_findEdges_16 : decode cX1_findEdges 16 = .ok (.getfield 43, 3) := by decide +kernel
theorem dX1_findEdges_19 : decode cX1_findEdges 19 = .ok (.if_icmp .ge 83, 3) := by decide +kernel
theorem dX1_findEdges_22 : decode cX1_findEdges 22 = .ok (.iload_n 1, 1) := by decide +kernel
theorem dX1_findEdges_23 : decode cX1_findEdges 23 = .ok (.iconst 1, 1) := by decide +kernel
theorem dX1_findEdges_24 : decode cX1_findEdges 24 = .ok (.iadd, 1) := by decide +kernel
theorem dX1_findEdges_25 : decode cX1_findEdges 25 = .ok (.istore_n 2, 1) := by decide +kernel
theorem dX1_findEdges_26 : decode cX1_findEdges 26 = .ok (.iload_n 2, 1) := by decide +kernel
theorem dX1_findEdges_27 : decode cX1_findEdges 27 = .ok (.aload_n 0, 1) := by decide +kernel
theorem dX1_findEdges_28 : decode cX1_findEdges 28 = .ok (.getfield 12, 3) := by decide +kernel
theorem dX1_findEdges_31 : decode cX1_findEdges 31 = .ok (.getfield 43, 3) := by decide +kernel
theorem dX1_findEdges_34 : decode cX1_findEdges 34 = .ok (.if_icmp .ge 62, 3) := by decide +kernel
theorem dX1_findEdges_37 : decode cX1_findEdges 37 = .ok (.aload_n 0, 1) := by decide +kernel
theorem dX1_findEdges_38 : decode cX1_findEdges 38 = .ok (.getfield 29, 3) := by decide +kernel
theorem dX1_findEdges_41 : decode cX1_findEdges 41 = .ok (.iload_n 1, 1) := by decide +kernel
theorem dX1_findEdges_42 : decode cX1_findEdges 42 = .ok (.iload_n 2, 1) := by decide +kernel
theorem dX1_findEdges_43 : decode cX1_findEdges 43 = .ok (.invokestatic 115, 3) := by decide +kernel
theorem dX1_findEdges_46 : decode cX1_findEdges 46 = .ok (.iaload, 1) := by decide +kernel
theorem dX1_findEdges_47 : decode cX1_findEdges 47 = .ok (.iconst (-1), 1) := by decide +kernel
theorem dX1_findEdges_48 : decode cX1_findEdges 48 = .ok (.if_icmp .eq 42, 3) := by decide +kernel
theorem dX1_findEdges_51 : decode cX1_findEdges 51 = .ok (.aload_n 0, 1) := by decide +kernel
theorem dX1_findEdges_52 : decode cX1_findEdges 52 = .ok (.getfield 112, 3) := by decide +kernel
theorem dX1_findEdges_55 : decode cX1_findEdges 55 = .ok (.bipush 66, 2) := by decide +kernel
theorem dX1_findEdges_57 : decode cX1_findEdges 57 = .ok (.if_icmp .ge 33, 3) := by decide +kernel
theorem dX1_findEdges_60 : decode cX1_findEdges 60 = .ok (.aload_n 0, 1) := by decide +kernel
theorem dX1_findEdges_61 : decode cX1_findEdges 61 = .ok (.getfield 33, 3) := by decide +kernel
theorem dX1_findEdges_64 : decode cX1_findEdges 64 = .ok (.aload_n 0, 1) := by decide +kernel
theorem dX1_findEdges_65 : decode cX1_findEdges 65 = .ok (.getfield 112, 3) := by decide +kernel
theorem dX1_findEdges_68 : decode cX1_findEdges 68 = .ok (.iload_n 1, 1) := by decide +kernel
theorem dX1_findEdges_69 : decode cX1_findEdges 69 = .ok (.iastore, 1) := by decide +kernel
theorem dX1_findEdges_70 : decode cX1_findEdges 70 = .ok (.aload_n 0, 1) := by decide +kernel
theorem dX1_findEdges_71 : decode cX1_findEdges 71 = .ok (.getfield 36, 3) := by decide +kernel
theorem dX1_findEdges_74 : decode cX1_findEdges 74 = .ok (.aload_n 0, 1) := by decide +kernel
theorem dX1_findEdges_75 : decode cX1_findEdges 75 = .ok (.getfield 112, 3) := by decide +kernel
theorem dX1_findEdges_78 : decode cX1_findEdges 78 = .ok (.iload_n 2, 1) := by decide +kernel
theorem dX1_findEdges_79 : decode cX1_findEdges 79 = .ok (.iastore, 1) := by decide +kernel
theorem dX1_findEdges_80 : decode cX1_findEdges 80 = .ok (.aload_n 0, 1) := by decide +kernel
theorem dX1_findEdges_81 : decode cX1_findEdges 81 = .ok (.dup, 1) := by decide +kernel
theorem dX1_findEdges_82 : decode cX1_findEdges 82 = .ok (.getfield 112, 3) := by decide +kernel
theorem dX1_findEdges_85 : decode cX1_findEdges 85 = .ok (.iconst 1, 1) := by decide +kernel
theorem dX1_findEdges_86 : decode cX1_findEdges 86 = .ok (.iadd, 1) := by decide +kernel
theorem dX1_findEdges_87 : decode cX1_findEdges 87 = .ok (.putfield 112, 3) := by decide +kernel
theorem dX1_findEdges_90 : decode cX1_findEdges 90 = .ok (.iinc 2 1, 3) := by decide +kernel
theorem dX1_findEdges_93 : decode cX1_findEdges 93 = .ok (.goto (-67), 3) := by decide +kernel
theorem dX1_findEdges_96 : decode cX1_findEdges 96 = .ok (.iinc 1 1, 3) := by decide +kernel
theorem dX1_findEdges_99 : decode cX1_findEdges 99 = .ok (.goto (-88), 3) := by decide +kernel
theorem dX1_findEdges_102 : decode cX1_findEdges 102 = .ok (.return_, 1) := by decide +kernel
set_option maxRecDepth 20000 in
theorem ggX1_noteWays_J7_fill_53178 : GoodIn wsX1_noteWays wsJ7_fill_53178 := goodIn_r _ [7] (by decide +kernel) (by decide +kernel)
set_option maxRecDepth 20000 in
theorem gX1_noteWays_J7_fill_53178 : GoodIn wsX1_noteWays (va_wsS RX1 119 yJ7_fill_53178 wsJ7_fill_53178) := goodIn_app (goodIn_of _ (by decide +kernel)) ggX1_noteWays_J7_fill_53178
set_option maxRecDepth 20000 in
theorem ggX1_noteWays_X3_way : GoodIn wsX1_noteWays wsX3_way := goodIn_r _ [10] (by decide +kernel) (by decide +kernel)
set_option maxRecDepth 20000 in
theorem gX1_noteWays_X3_way_n115 : GoodIn wsX1_noteWays (wsX3_way) := ggX1_noteWays_X3_way
theorem dX1_noteWays_0 : decode cX1_noteWays 0 = .ok (.aload_n 0, 1) := by decide +kernel
theorem dX1_noteWays_1 : decode cX1_noteWays 1 = .ok (.getfield 29, 3) := by decide +kernel
theorem dX1_noteWays_4 : decode cX1_noteWays 4 = .ok (.iconst (-1), 1) := by decide +kernel
theorem dX1_noteWays_5 : decode cX1_noteWays 5 = .ok (.invokestatic 119, 3) := by decide +kernel
theorem dX1_noteWays_8 : decode cX1_noteWays 8 = .ok (.iconst 0, 1) := by decide +kernel
theorem dX1_noteWays_9 : decode cX1_noteWays 9 = .ok (.istore_n 1, 1) := by decide +kernel
theorem dX1_noteWays_10 : decode cX1_noteWays 10 = .ok (.iload_n 1, 1) := by decide +kernel
theorem dX1_noteWays_11 : decode cX1_noteWays 11 = .ok (.aload_n 0, 1) := by decide +kernel
theorem dX1_noteWays_12 : decode cX1_noteWays 12 = .ok (.getfield 65, 3) := by decide +kernel
theorem dX1_noteWays_15 : decode cX1_noteWays 15 = .ok (.if_icmp .ge 73, 3) := by decide +kernel
theorem dX1_noteWays_18 : decode cX1_noteWays 18 = .ok (.aload_n 0, 1) := by decide +kernel
theorem dX1_noteWays_19 : decode cX1_noteWays 19 = .ok (.getfield 20, 3) := by decide +kernel
theorem dX1_noteWays_22 : decode cX1_noteWays 22 = .ok (.iload_n 1, 1) := by decide +kernel
theorem dX1_noteWays_23 : decode cX1_noteWays 23 = .ok (.aaload, 1) := by decide +kernel
theorem dX1_noteWays_24 : decode cX1_noteWays 24 = .ok (.astore_n 2, 1) := by decide +kernel
theorem dX1_noteWays_25 : decode cX1_noteWays 25 = .ok (.iconst 0, 1) := by decide +kernel
theorem dX1_noteWays_26 : decode cX1_noteWays 26 = .ok (.istore_n 3, 1) := by decide +kernel
theorem dX1_noteWays_27 : decode cX1_noteWays 27 = .ok (.iload_n 3, 1) := by decide +kernel
theorem dX1_noteWays_28 : decode cX1_noteWays 28 = .ok (.aload_n 2, 1) := by decide +kernel
theorem dX1_noteWays_29 : decode cX1_noteWays 29 = .ok (.getfield 125, 3) := by decide +kernel
theorem dX1_noteWays_32 : decode cX1_noteWays 32 = .ok (.if_icmp .ge 50, 3) := by decide +kernel
theorem dX1_noteWays_35 : decode cX1_noteWays 35 = .ok (.iload_n 3, 1) := by decide +kernel
theorem dX1_noteWays_36 : decode cX1_noteWays 36 = .ok (.iconst 1, 1) := by decide +kernel
theorem dX1_noteWays_37 : decode cX1_noteWays 37 = .ok (.iadd, 1) := by decide +kernel
theorem dX1_noteWays_38 : decode cX1_noteWays 38 = .ok (.aload_n 2, 1) := by decide +kernel
theorem dX1_noteWays_39 : decode cX1_noteWays 39 = .ok (.getfield 125, 3) := by decide +kernel
theorem dX1_noteWays_42 : decode cX1_noteWays 42 = .ok (.if_icmp .ge 9, 3) := by decide +kernel
theorem dX1_noteWays_45 : decode cX1_noteWays 45 = .ok (.iload_n 3, 1) := by decide +kernel
theorem dX1_noteWays_46 : decode cX1_noteWays 46 = .ok (.iconst 1, 1) := by decide +kernel
theorem dX1_noteWays_47 : decode cX1_noteWays 47 = .ok (.iadd, 1) := by decide +kernel
theorem dX1_noteWays_48 : decode cX1_noteWays 48 = .ok (.goto 4, 3) := by decide +kernel
theorem dX1_noteWays_51 : decode cX1_noteWays 51 = .ok (.iconst 0, 1) := by decide +kernel
theorem dX1_noteWays_52 : decode cX1_noteWays 52 = .ok (.istore 4, 2) := by decide +kernel
theorem dX1_noteWays_54 : decode cX1_noteWays 54 = .ok (.aload_n 0, 1) := by decide +kernel
theorem dX1_noteWays_55 : decode cX1_noteWays 55 = .ok (.getfield 29, 3) := by decide +kernel
theorem dX1_noteWays_58 : decode cX1_noteWays 58 = .ok (.aload_n 2, 1) := by decide +kernel
theorem dX1_noteWays_59 : decode cX1_noteWays 59 = .ok (.getfield 126, 3) := by decide +kernel
theorem dX1_noteWays_62 : decode cX1_noteWays 62 = .ok (.iload_n 3, 1) := by decide +kernel
theorem dX1_noteWays_63 : decode cX1_noteWays 63 = .ok (.iaload, 1) := by decide +kernel
theorem dX1_noteWays_64 : decode cX1_noteWays 64 = .ok (.aload_n 2, 1) := by decide +kernel
theorem dX1_noteWays_65 : decode cX1_noteWays 65 = .ok (.getfield 126, 3) := by decide +kernel
theorem dX1_noteWays_68 : decode cX1_noteWays 68 = .ok (.iload 4, 2) := by decide +kernel
theorem dX1_noteWays_70 : decode cX1_noteWays 70 = .ok (.iaload, 1) := by decide +kernel
theorem dX1_noteWays_71 : decode cX1_noteWays 71 = .ok (.invokestatic 115, 3) := by decide +kernel
theorem dX1_noteWays_74 : decode cX1_noteWays 74 = .ok (.iload_n 1, 1) := by decide +kernel
theorem dX1_noteWays_75 : decode cX1_noteWays 75 = .ok (.iastore, 1) := by decide +kernel
theorem dX1_noteWays_76 : decode cX1_noteWays 76 = .ok (.iinc 3 1, 3) := by decide +kernel
theorem dX1_noteWays_79 : decode cX1_noteWays 79 = .ok (.goto (-52), 3) := by decide +kernel
theorem dX1_noteWays_82 : decode cX1_noteWays 82 = .ok (.iinc 1 1, 3) := by decide +kernel
theorem dX1_noteWays_85 : decode cX1_noteWays 85 = .ok (.goto (-75), 3) := by decide +kernel
theorem dX1_noteWays_88 : decode cX1_noteWays 88 = .ok (.return_, 1) := by decide +kernel
set_option maxRecDepth 20000 in
theorem ggX1_measure_J7_fill_d0a16 : GoodIn wsX1_measure wsJ7_fill_d0a16 := goodIn_r _ [8] (by decide +kernel) (by decide +kernel)
set_option maxRecDepth 20000 in
theorem gX1_measure_J7_fill_d0a16 : GoodIn wsX1_measure (va_wsS RX1 133 yJ7_fill_d0a16 wsJ7_fill_d0a16) := goodIn_app (goodIn_of _ (by decide +kernel)) ggX1_measure_J7_fill_d0a16
set_option maxRecDepth 20000 in
theorem ggX1_measure_X1_addTetrahedron : GoodIn wsX1_measure wsX1_addTetrahedron := goodIn_r _ [13, 14, 1, 2, 15, 16, 17, 18, 19, 20, 21, 22, 23, 24, 25, 33, 34, 35, 36] (by decide +kernel) (by decide +kernel)
set_option maxRecDepth 20000 in
theorem gX1_measure_X1_addTetrahedron : GoodIn wsX1_measure (wsV RX1 136 RX1 yX1_addTetrahedron wsX1_addTetrahedron) := goodIn_app (goodIn_of _ (by decide +kernel)) ggX1_measure_X1_addTetrahedron
theorem dX1_measure_0 : decode cX1_measure 0 = .ok (.aload_n 0, 1) := by decide +kernel
theorem dX1_measure_1 : decode cX1_measure 1 = .ok (.lconst 0, 1) := by decide +kernel
theorem dX1_measure_2 : decode cX1_measure 2 = .ok (.putfield 129, 3) := by decide +kernel
theorem dX1_measure_5 : decode cX1_measure 5 = .ok (.aload_n 0, 1) := by decide +kernel
theorem dX1_measure_6 : decode cX1_measure 6 = .ok (.getfield 39, 3) := by decide +kernel
theorem dX1_measure_9 : decode cX1_measure 9 = .ok (.lconst 0, 1) := by decide +kernel
theorem dX1_measure_10 : decode cX1_measure 10 = .ok (.invokestatic 133, 3) := by decide +kernel
theorem dX1_measure_13 : decode cX1_measure 13 = .ok (.iconst 0, 1) := by decide +kernel
theorem dX1_measure_14 : decode cX1_measure 14 = .ok (.istore_n 1, 1) := by decide +kernel
theorem dX1_measure_15 : decode cX1_measure 15 = .ok (.iload_n 1, 1) := by decide +kernel
theorem dX1_measure_16 : decode cX1_measure 16 = .ok (.aload_n 0, 1) := by decide +kernel
theorem dX1_measure_17 : decode cX1_measure 17 = .ok (.getfield 65, 3) := by decide +kernel
theorem dX1_measure_20 : decode cX1_measure 20 = .ok (.if_icmp .ge 58, 3) := by decide +kernel
theorem dX1_measure_23 : decode cX1_measure 23 = .ok (.aload_n 0, 1) := by decide +kernel
theorem dX1_measure_24 : decode cX1_measure 24 = .ok (.getfield 20, 3) := by decide +kernel
theorem dX1_measure_27 : decode cX1_measure 27 = .ok (.iload_n 1, 1) := by decide +kernel
theorem dX1_measure_28 : decode cX1_measure 28 = .ok (.aaload, 1) := by decide +kernel
theorem dX1_measure_29 : decode cX1_measure 29 = .ok (.astore_n 2, 1) := by decide +kernel
theorem dX1_measure_30 : decode cX1_measure 30 = .ok (.iconst 1, 1) := by decide +kernel
theorem dX1_measure_31 : decode cX1_measure 31 = .ok (.istore_n 3, 1) := by decide +kernel
theorem dX1_measure_32 : decode cX1_measure 32 = .ok (.iload_n 3, 1) := by decide +kernel
theorem dX1_measure_33 : decode cX1_measure 33 = .ok (.iconst 1, 1) := by decide +kernel
theorem dX1_measure_34 : decode cX1_measure 34 = .ok (.iadd, 1) := by decide +kernel
theorem dX1_measure_35 : decode cX1_measure 35 = .ok (.aload_n 2, 1) := by decide +kernel
theorem dX1_measure_36 : decode cX1_measure 36 = .ok (.getfield 125, 3) := by decide +kernel
theorem dX1_measure_39 : decode cX1_measure 39 = .ok (.if_icmp .ge 33, 3) := by decide +kernel
theorem dX1_measure_42 : decode cX1_measure 42 = .ok (.aload_n 0, 1) := by decide +kernel
theorem dX1_measure_43 : decode cX1_measure 43 = .ok (.aload_n 2, 1) := by decide +kernel
theorem dX1_measure_44 : decode cX1_measure 44 = .ok (.getfield 126, 3) := by decide +kernel
theorem dX1_measure_47 : decode cX1_measure 47 = .ok (.iconst 0, 1) := by decide +kernel
theorem dX1_measure_48 : decode cX1_measure 48 = .ok (.iaload, 1) := by decide +kernel
theorem dX1_measure_49 : decode cX1_measure 49 = .ok (.aload_n 2, 1) := by decide +kernel
theorem dX1_measure_50 : decode cX1_measure 50 = .ok (.getfield 126, 3) := by decide +kernel
theorem dX1_measure_53 : decode cX1_measure 53 = .ok (.iload_n 3, 1) := by decide +kernel
theorem dX1_measure_54 : decode cX1_measure 54 = .ok (.iaload, 1) := by decide +kernel
theorem dX1_measure_55 : decode cX1_measure 55 = .ok (.aload_n 2, 1) := by decide +kernel
theorem dX1_measure_56 : decode cX1_measure 56 = .ok (.getfield 126, 3) := by decide +kernel
theorem dX1_measure_59 : decode cX1_measure 59 = .ok (.iload_n 3, 1) := by decide +kernel
theorem dX1_measure_60 : decode cX1_measure 60 = .ok (.iconst 1, 1) := by decide +kernel
theorem dX1_measure_61 : decode cX1_measure 61 = .ok (.iadd, 1) := by decide +kernel
theorem dX1_measure_62 : decode cX1_measure 62 = .ok (.iaload, 1) := by decide +kernel
theorem dX1_measure_63 : decode cX1_measure 63 = .ok (.invokevirtual 136, 3) := by decide +kernel
theorem dX1_measure_66 : decode cX1_measure 66 = .ok (.iinc 3 1, 3) := by decide +kernel
theorem dX1_measure_69 : decode cX1_measure 69 = .ok (.goto (-37), 3) := by decide +kernel
theorem dX1_measure_72 : decode cX1_measure 72 = .ok (.iinc 1 1, 3) := by decide +kernel
theorem dX1_measure_75 : decode cX1_measure 75 = .ok (.goto (-60), 3) := by decide +kernel
theorem dX1_measure_78 : decode cX1_measure 78 = .ok (.return_, 1) := by decide +kernel
theorem dX1_addTetrahedron_0 : decode cX1_addTetrahedron 0 = .ok (.aload_n 0, 1) := by decide +kernel
theorem dX1_addTetrahedron_1 : decode cX1_addTetrahedron 1 = .ok (.getfield 12, 3) := by decide +kernel
theorem dX1_addTetrahedron_4 : decode cX1_addTetrahedron 4 = .ok (.getfield 139, 3) := by decide +kernel
theorem dX1_addTetrahedron_7 : decode cX1_addTetrahedron 7 = .ok (.iload_n 1, 1) := by decide +kernel
theorem dX1_addTetrahedron_8 : decode cX1_addTetrahedron 8 = .ok (.iaload, 1) := by decide +kernel
theorem dX1_addTetrahedron_9 : decode cX1_addTetrahedron 9 = .ok (.i2l, 1) := by decide +kernel
theorem dX1_addTetrahedron_10 : decode cX1_addTetrahedron 10 = .ok (.aload_n 0, 1) := by decide +kernel
theorem dX1_addTetrahedron_11 : decode cX1_addTetrahedron 11 = .ok (.getfield 12, 3) := by decide +kernel
theorem dX1_addTetrahedron_14 : decode cX1_addTetrahedron 14 = .ok (.getfield 142, 3) := by decide +kernel
theorem dX1_addTetrahedron_17 : decode cX1_addTetrahedron 17 = .ok (.iload_n 2, 1) := by decide +kernel
theorem dX1_addTetrahedron_18 : decode cX1_addTetrahedron 18 = .ok (.iaload, 1) := by decide +kernel
theorem dX1_addTetrahedron_19 : decode cX1_addTetrahedron 19 = .ok (.i2l, 1) := by decide +kernel
theorem dX1_addTetrahedron_20 : decode cX1_addTetrahedron 20 = .ok (.aload_n 0, 1) := by decide +kernel
theorem dX1_addTetrahedron_21 : decode cX1_addTetrahedron 21 = .ok (.getfield 12, 3) := by decide +kernel
theorem dX1_addTetrahedron_24 : decode cX1_addTetrahedron 24 = .ok (.getfield 145, 3) := by decide +kernel
theorem dX1_addTetrahedron_27 : decode cX1_addTetrahedron 27 = .ok (.iload_n 3, 1) := by decide +kernel
theorem dX1_addTetrahedron_28 : decode cX1_addTetrahedron 28 = .ok (.iaload, 1) := by decide +kernel
theorem dX1_addTetrahedron_29 : decode cX1_addTetrahedron 29 = .ok (.i2l, 1) := by decide +kernel
theorem dX1_addTetrahedron_30 : decode cX1_addTetrahedron 30 = .ok (.lmul, 1) := by decide +kernel
theorem dX1_addTetrahedron_31 : decode cX1_addTetrahedron 31 = .ok (.aload_n 0, 1) := by decide +kernel
theorem dX1_addTetrahedron_32 : decode cX1_addTetrahedron 32 = .ok (.getfield 12, 3) := by decide +kernel
theorem dX1_addTetrahedron_35 : decode cX1_addTetrahedron 35 = .ok (.getfield 145, 3) := by decide +kernel
theorem dX1_addTetrahedron_38 : decode cX1_addTetrahedron 38 = .ok (.iload_n 2, 1) := by decide +kernel
theorem dX1_addTetrahedron_39 : decode cX1_addTetrahedron 39 = .ok (.iaload, 1) := by decide +kernel
theorem dX1_addTetrahedron_40 : decode cX1_addTetrahedron 40 = .ok (.i2l, 1) := by decide +kernel
theorem dX1_addTetrahedron_41 : decode cX1_addTetrahedron 41 = .ok (.aload_n 0, 1) := by decide +kernel
theorem dX1_addTetrahedron_42 : decode cX1_addTetrahedron 42 = .ok (.getfield 12, 3) := by decide +kernel
theorem dX1_addTetrahedron_45 : decode cX1_addTetrahedron 45 = .ok (.getfield 142, 3) := by decide +kernel
theorem dX1_addTetrahedron_48 : decode cX1_addTetrahedron 48 = .ok (.iload_n 3, 1) := by decide +kernel
theorem dX1_addTetrahedron_49 : decode cX1_addTetrahedron 49 = .ok (.iaload, 1) := by decide +kernel
theorem dX1_addTetrahedron_50 : decode cX1_addTetrahedron 50 = .ok (.i2l, 1) := by decide +kernel
theorem dX1_addTetrahedron_51 : decode cX1_addTetrahedron 51 = .ok (.lmul, 1) := by decide +kernel
theorem dX1_addTetrahedron_52 : decode cX1_addTetrahedron 52 = .ok (.lsub, 1) := by decide +kernel
theorem dX1_addTetrahedron_53 : decode cX1_addTetrahedron 53 = .ok (.lmul, 1) := by decide +kernel
theorem dX1_addTetrahedron_54 : decode cX1_addTetrahedron 54 = .ok (.aload_n 0, 1) := by decide +kernel
theorem dX1_addTetrahedron_55 : decode cX1_addTetrahedron 55 = .ok (.getfield 12, 3) := by decide +kernel
theorem dX1_addTetrahedron_58 : decode cX1_addTetrahedron 58 = .ok (.getfield 142, 3) := by decide +kernel
theorem dX1_addTetrahedron_61 : decode cX1_addTetrahedron 61 = .ok (.iload_n 1, 1) := by decide +kernel
theorem dX1_addTetrahedron_62 : decode cX1_addTetrahedron 62 = .ok (.iaload, 1) := by decide +kernel
theorem dX1_addTetrahedron_63 : decode cX1_addTetrahedron 63 = .ok (.i2l, 1) := by decide +kernel
theorem dX1_addTetrahedron_64 : decode cX1_addTetrahedron 64 = .ok (.aload_n 0, 1) := by decide +kernel
theorem dX1_addTetrahedron_65 : decode cX1_addTetrahedron 65 = .ok (.getfield 12, 3) := by decide +kernel
theorem dX1_addTetrahedron_68 : decode cX1_addTetrahedron 68 = .ok (.getfield 145, 3) := by decide +kernel
theorem dX1_addTetrahedron_71 : decode cX1_addTetrahedron 71 = .ok (.iload_n 2, 1) := by decide +kernel
theorem dX1_addTetrahedron_72 : decode cX1_addTetrahedron 72 = .ok (.iaload, 1) := by decide +kernel
theorem dX1_addTetrahedron_73 : decode cX1_addTetrahedron 73 = .ok (.i2l, 1) := by decide +kernel
theorem dX1_addTetrahedron_74 : decode cX1_addTetrahedron 74 = .ok (.aload_n 0, 1) := by decide +kernel
theorem dX1_addTetrahedron_75 : decode cX1_addTetrahedron 75 = .ok (.getfield 12, 3) := by decide +kernel
theorem dX1_addTetrahedron_78 : decode cX1_addTetrahedron 78 = .ok (.getfield 139, 3) := by decide +kernel
theorem dX1_addTetrahedron_81 : decode cX1_addTetrahedron 81 = .ok (.iload_n 3, 1) := by decide +kernel
theorem dX1_addTetrahedron_82 : decode cX1_addTetrahedron 82 = .ok (.iaload, 1) := by decide +kernel
theorem dX1_addTetrahedron_83 : decode cX1_addTetrahedron 83 = .ok (.i2l, 1) := by decide +kernel
theorem dX1_addTetrahedron_84 : decode cX1_addTetrahedron 84 = .ok (.lmul, 1) := by decide +kernel
theorem dX1_addTetrahedron_85 : decode cX1_addTetrahedron 85 = .ok (.aload_n 0, 1) := by decide +kernel
theorem dX1_addTetrahedron_86 : decode cX1_addTetrahedron 86 = .ok (.getfield 12, 3) := by decide +kernel
theorem dX1_addTetrahedron_89 : decode cX1_addTetrahedron 89 = .ok (.getfield 139, 3) := by decide +kernel
theorem dX1_addTetrahedron_92 : decode cX1_addTetrahedron 92 = .ok (.iload_n 2, 1) := by decide +kernel
theorem dX1_addTetrahedron_93 : decode cX1_addTetrahedron 93 = .ok (.iaload, 1) := by decide +kernel
theorem dX1_addTetrahedron_94 : decode cX1_addTetrahedron 94 = .ok (.i2l, 1) := by decide +kernel
theorem dX1_addTetrahedron_95 : decode cX1_addTetrahedron 95 = .ok (.aload_n 0, 1) := by decide +kernel
theorem dX1_addTetrahedron_96 : decode cX1_addTetrahedron 96 = .ok (.getfield 12, 3) := by decide +kernel
theorem dX1_addTetrahedron_99 : decode cX1_addTetrahedron 99 = .ok (.getfield 145, 3) := by decide +kernel
theorem dX1_addTetrahedron_102 : decode cX1_addTetrahedron 102 = .ok (.iload_n 3, 1) := by decide +kernel
theorem dX1_addTetrahedron_103 : decode cX1_addTetrahedron 103 = .ok (.iaload, 1) := by decide +kernel
theorem dX1_addTetrahedron_104 : decode cX1_addTetrahedron 104 = .ok (.i2l, 1) := by decide +kernel
theorem dX1_addTetrahedron_105 : decode cX1_addTetrahedron 105 = .ok (.lmul, 1) := by decide +kernel
theorem dX1_addTetrahedron_106 : decode cX1_addTetrahedron 106 = .ok (.lsub, 1) := by decide +kernel
theorem dX1_addTetrahedron_107 : decode cX1_addTetrahedron 107 = .ok (.lmul, 1) := by decide +kernel
theorem dX1_addTetrahedron_108 : decode cX1_addTetrahedron 108 = .ok (.ladd, 1) := by decide +kernel
theorem dX1_addTetrahedron_109 : decode cX1_addTetrahedron 109 = .ok (.aload_n 0, 1) := by decide +kernel
theorem dX1_addTetrahedron_110 : decode cX1_addTetrahedron 110 = .ok (.getfield 12, 3) := by decide +kernel
theorem dX1_addTetrahedron_113 : decode cX1_addTetrahedron 113 = .ok (.getfield 145, 3) := by decide +kernel
theorem dX1_addTetrahedron_116 : decode cX1_addTetrahedron 116 = .ok (.iload_n 1, 1) := by decide +kernel
theorem dX1_addTetrahedron_117 : decode cX1_addTetrahedron 117 = .ok (.iaload, 1) := by decide +kernel
theorem dX1_addTetrahedron_118 : decode cX1_addTetrahedron 118 = .ok (.i2l, 1) := by decide +kernel
theorem dX1_addTetrahedron_119 : decode cX1_addTetrahedron 119 = .ok (.aload_n 0, 1) := by decide +kernel
theorem dX1_addTetrahedron_120 : decode cX1_addTetrahedron 120 = .ok (.getfield 12, 3) := by decide +kernel
theorem dX1_addTetrahedron_123 : decode cX1_addTetrahedron 123 = .ok (.getfield 139, 3) := by decide +kernel
theorem dX1_addTetrahedron_126 : decode cX1_addTetrahedron 126 = .ok (.iload_n 2, 1) := by decide +kernel
theorem dX1_addTetrahedron_127 : decode cX1_addTetrahedron 127 = .ok (.iaload, 1) := by decide +kernel
theorem dX1_addTetrahedron_128 : decode cX1_addTetrahedron 128 = .ok (.i2l, 1) := by decide +kernel
theorem dX1_addTetrahedron_129 : decode cX1_addTetrahedron 129 = .ok (.aload_n 0, 1) := by decide +kernel
theorem dX1_addTetrahedron_130 : decode cX1_addTetrahedron 130 = .ok (.getfield 12, 3) := by decide +kernel
theorem dX1_addTetrahedron_133 : decode cX1_addTetrahedron 133 = .ok (.getfield 142, 3) := by decide +kernel
theorem dX1_addTetrahedron_136 : decode cX1_addTetrahedron 136 = .ok (.iload_n 3, 1) := by decide +kernel
theorem dX1_addTetrahedron_137 : decode cX1_addTetrahedron 137 = .ok (.iaload, 1) := by decide +kernel
theorem dX1_addTetrahedron_138 : decode cX1_addTetrahedron 138 = .ok (.i2l, 1) := by decide +kernel
theorem dX1_addTetrahedron_139 : decode cX1_addTetrahedron 139 = .ok (.lmul, 1) := by decide +kernel
theorem dX1_addTetrahedron_140 : decode cX1_addTetrahedron 140 = .ok (.aload_n 0, 1) := by decide +kernel
theorem dX1_addTetrahedron_141 : decode cX1_addTetrahedron 141 = .ok (.getfield 12, 3) := by decide +kernel
theorem dX1_addTetrahedron_144 : decode cX1_addTetrahedron 144 = .ok (.getfield 142, 3) := by decide +kernel
theorem dX1_addTetrahedron_147 : decode cX1_addTetrahedron 147 = .ok (.iload_n 2, 1) := by decide +kernel
theorem dX1_addTetrahedron_148 : decode cX1_addTetrahedron 148 = .ok (.iaload, 1) := by decide +kernel
theorem dX1_addTetrahedron_149 : decode cX1_addTetrahedron 149 = .ok (.i2l, 1) := by decide +kernel
theorem dX1_addTetrahedron_150 : decode cX1_addTetrahedron 150 = .ok (.aload_n 0, 1) := by decide +kernel
theorem dX1_addTetrahedron_151 : decode cX1_addTetrahedron 151 = .ok (.getfield 12, 3) := by decide +kernel
theorem dX1_addTetrahedron_154 : decode cX1_addTetrahedron 154 = .ok (.getfield 139, 3) := by decide +kernel
theorem dX1_addTetrahedron_157 : decode cX1_addTetrahedron 157 = .ok (.iload_n 3, 1) := by decide +kernel
theorem dX1_addTetrahedron_158 : decode cX1_addTetrahedron 158 = .ok (.iaload, 1) := by decide +kernel
theorem dX1_addTetrahedron_159 : decode cX1_addTetrahedron 159 = .ok (.i2l, 1) := by decide +kernel
theorem dX1_addTetrahedron_160 : decode cX1_addTetrahedron 160 = .ok (.lmul, 1) := by decide +kernel
theorem dX1_addTetrahedron_161 : decode cX1_addTetrahedron 161 = .ok (.lsub, 1) := by decide +kernel
theorem dX1_addTetrahedron_162 : decode cX1_addTetrahedron 162 = .ok (.lmul, 1) := by decide +kernel
theorem dX1_addTetrahedron_163 : decode cX1_addTetrahedron 163 = .ok (.ladd, 1) := by decide +kernel
theorem dX1_addTetrahedron_164 : decode cX1_addTetrahedron 164 = .ok (.lstore 4, 2) := by decide +kernel
theorem dX1_addTetrahedron_166 : decode cX1_addTetrahedron 166 = .ok (.aload_n 0, 1) := by decide +kernel
theorem dX1_addTetrahedron_167 : decode cX1_addTetrahedron 167 = .ok (.dup, 1) := by decide +kernel
theorem dX1_addTetrahedron_168 : decode cX1_addTetrahedron 168 = .ok (.getfield 129, 3) := by decide +kernel
theorem dX1_addTetrahedron_171 : decode cX1_addTetrahedron 171 = .ok (.lload 4, 2) := by decide +kernel
theorem dX1_addTetrahedron_173 : decode cX1_addTetrahedron 173 = .ok (.ladd, 1) := by decide +kernel
theorem dX1_addTetrahedron_174 : decode cX1_addTetrahedron 174 = .ok (.putfield 129, 3) := by decide +kernel
theorem dX1_addTetrahedron_177 : decode cX1_addTetrahedron 177 = .ok (.aload_n 0, 1) := by decide +kernel
theorem dX1_addTetrahedron_178 : decode cX1_addTetrahedron 178 = .ok (.getfield 39, 3) := by decide +kernel
theorem dX1_addTetrahedron_181 : decode cX1_addTetrahedron 181 = .ok (.iconst 0, 1) := by decide +kernel
theorem dX1_addTetrahedron_182 : decode cX1_addTetrahedron 182 = .ok (.dup2, 1) := by decide +kernel
theorem dX1_addTetrahedron_183 : decode cX1_addTetrahedron 183 = .ok (.laload, 1) := by decide +kernel
theorem dX1_addTetrahedron_184 : decode cX1_addTetrahedron 184 = .ok (.lload 4, 2) := by decide +kernel
theorem dX1_addTetrahedron_186 : decode cX1_addTetrahedron 186 = .ok (.aload_n 0, 1) := by decide +kernel
theorem dX1_addTetrahedron_187 : decode cX1_addTetrahedron 187 = .ok (.getfield 12, 3) := by decide +kernel
theorem dX1_addTetrahedron_190 : decode cX1_addTetrahedron 190 = .ok (.getfield 139, 3) := by decide +kernel
theorem dX1_addTetrahedron_193 : decode cX1_addTetrahedron 193 = .ok (.iload_n 1, 1) := by decide +kernel
theorem dX1_addTetrahedron_194 : decode cX1_addTetrahedron 194 = .ok (.iaload, 1) := by decide +kernel
theorem dX1_addTetrahedron_195 : decode cX1_addTetrahedron 195 = .ok (.aload_n 0, 1) := by decide +kernel
theorem dX1_addTetrahedron_196 : decode cX1_addTetrahedron 196 = .ok (.getfield 12, 3) := by decide +kernel
theorem dX1_addTetrahedron_199 : decode cX1_addTetrahedron 199 = .ok (.getfield 139, 3) := by decide +kernel
