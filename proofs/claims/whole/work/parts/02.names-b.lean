/-! ===== BEGIN printed: names, fields, word lists, decode rows ===== -/
def RX0 : String := "JoinBlocks$Ranking"
def TX0 : u_T := fun k => match k with
  | 0 => ("JoinBlocks$Ranking", "numbers", "[I", true)
  | 1 => ("JoinBlocks$Ranking", "merged", "[I", true)
  | _ => ("JoinBlocks$Ranking", "size", "I", false)
def tyX0 : Nat → FieldType := fun k => match k with
  | 0 => .array .int
  | 1 => .array .int
  | _ => .int
abbrev wsX00 : List Cond := u_ws RX0 TX0 3
theorem nmX0 : ∀ a, a < 3 → ∀ b, b < 3 → a ≠ b → (TX0 a).2.1 ≠ (TX0 b).2.1 := by decide +kernel
theorem tyX0_ok : ∀ k, k < 3 → parseFieldDescriptor (TX0 k).2.2.1 = some (tyX0 k) := by decide +kernel
abbrev cX0_init : ByteArray := prog_2_method_1_code
def yX0_init : MethodName := ⟨RX0, "<init>", "()V"⟩
abbrev cX0_rank : ByteArray := prog_2_method_2_code
def yX0_rank : MethodName := ⟨RX0, "rank", "(LJoinBlocks$ScoredSet;II)V"⟩
abbrev cX0_mergeRuns : ByteArray := prog_2_method_3_code
def yX0_mergeRuns : MethodName := ⟨RX0, "mergeRuns", "(LJoinBlocks$ScoredSet;I)V"⟩
abbrev cX0_mergeTwo : ByteArray := prog_2_method_4_code
def yX0_mergeTwo : MethodName := ⟨RX0, "mergeTwo", "(LJoinBlocks$ScoredSet;III)V"⟩
def RX1 : String := "JoinBlocks$Row"
def TX1 : u_T := fun k => match k with
  | 0 => ("JoinBlocks$Row", "levels", "[I", true)
  | 1 => ("JoinBlocks$Row", "values", "[I", true)
  | 2 => ("JoinBlocks$Row", "tags", "[I", true)
  | 3 => ("JoinBlocks$Row", "links", "[I", true)
  | 4 => ("JoinBlocks$Row", "keys", "[I", true)
  | 5 => ("JoinBlocks$Row", "living", "[Z", true)
  | _ => ("JoinBlocks$Row", "size", "I", false)
def tyX1 : Nat → FieldType := fun k => match k with
  | 0 => .array .int
  | 1 => .array .int
  | 2 => .array .int
  | 3 => .array .int
  | 4 => .array .int
  | 5 => .array .boolean
  | _ => .int
abbrev wsX10 : List Cond := u_ws RX1 TX1 7
theorem nmX1 : ∀ a, a < 7 → ∀ b, b < 7 → a ≠ b → (TX1 a).2.1 ≠ (TX1 b).2.1 := by decide +kernel
theorem tyX1_ok : ∀ k, k < 7 → parseFieldDescriptor (TX1 k).2.2.1 = some (tyX1 k) := by decide +kernel
abbrev cX1_init : ByteArray := prog_3_method_1_code
def yX1_init : MethodName := ⟨RX1, "<init>", "(I)V"⟩
abbrev cX1_holds : ByteArray := prog_3_method_2_code
def yX1_holds : MethodName := ⟨RX1, "holds", "(I)Z"⟩
abbrev cX1_isRoot : ByteArray := prog_3_method_3_code
def yX1_isRoot : MethodName := ⟨RX1, "isRoot", "(I)Z"⟩
abbrev cX1_append : ByteArray := prog_3_method_4_code
def yX1_append : MethodName := ⟨RX1, "append", "(IIIII)V"⟩
abbrev cX1_appendFrom : ByteArray := prog_3_method_5_code
def yX1_appendFrom : MethodName := ⟨RX1, "appendFrom", "(LJoinBlocks$Row;I)V"⟩
abbrev cX1_appendAll : ByteArray := prog_3_method_6_code
def yX1_appendAll : MethodName := ⟨RX1, "appendAll", "(LJoinBlocks$Row;)V"⟩
abbrev cX1_keepLiving : ByteArray := prog_3_method_7_code
def yX1_keepLiving : MethodName := ⟨RX1, "keepLiving", "()V"⟩
abbrev cX1_livingRoot : ByteArray := prog_3_method_8_code
def yX1_livingRoot : MethodName := ⟨RX1, "livingRoot", "(I)I"⟩
abbrev cX1_killBlock : ByteArray := prog_3_method_9_code
def yX1_killBlock : MethodName := ⟨RX1, "killBlock", "(I)I"⟩
abbrev cX1_countLiving : ByteArray := prog_3_method_10_code
def yX1_countLiving : MethodName := ⟨RX1, "countLiving", "(I)I"⟩
abbrev cX1_parentOf : ByteArray := prog_3_method_11_code
def yX1_parentOf : MethodName := ⟨RX1, "parentOf", "(I)I"⟩
abbrev cX1_firstBelow : ByteArray := prog_3_method_12_code
def yX1_firstBelow : MethodName := ⟨RX1, "firstBelow", "(I)I"⟩
def RX2 : String := "JoinBlocks$ScoredSet"
def TX2 : u_T := fun k => match k with
  | 0 => ("JoinBlocks$ScoredSet", "members", "[Z", true)
  | 1 => ("JoinBlocks$ScoredSet", "scores", "[J", true)
  | _ => ("JoinBlocks$ScoredSet", "size", "I", false)
def tyX2 : Nat → FieldType := fun k => match k with
  | 0 => .array .boolean
  | 1 => .array .long
  | _ => .int
abbrev wsX20 : List Cond := u_ws RX2 TX2 3
theorem nmX2 : ∀ a, a < 3 → ∀ b, b < 3 → a ≠ b → (TX2 a).2.1 ≠ (TX2 b).2.1 := by decide +kernel
theorem tyX2_ok : ∀ k, k < 3 → parseFieldDescriptor (TX2 k).2.2.1 = some (tyX2 k) := by decide +kernel
abbrev cX2_init : ByteArray := prog_4_method_1_code
def yX2_init : MethodName := ⟨RX2, "<init>", "()V"⟩
abbrev cX2_has : ByteArray := prog_4_method_2_code
def yX2_has : MethodName := ⟨RX2, "has", "(I)Z"⟩
abbrev cX2_clear : ByteArray := prog_4_method_3_code
def yX2_clear : MethodName := ⟨RX2, "clear", "()V"⟩
abbrev cX2_put : ByteArray := prog_4_method_4_code
def yX2_put : MethodName := ⟨RX2, "put", "(IJ)V"⟩
abbrev cX2_add : ByteArray := prog_4_method_5_code
def yX2_add : MethodName := ⟨RX2, "add", "(IJ)V"⟩
abbrev cX2_remove : ByteArray := prog_4_method_6_code
def yX2_remove : MethodName := ⟨RX2, "remove", "(I)V"⟩
abbrev cX2_addAll : ByteArray := prog_4_method_7_code
def yX2_addAll : MethodName := ⟨RX2, "addAll", "(LJoinBlocks$ScoredSet;)V"⟩
abbrev cX2_removeAll : ByteArray := prog_4_method_8_code
def yX2_removeAll : MethodName := ⟨RX2, "removeAll", "(LJoinBlocks$ScoredSet;)V"⟩
abbrev cX2_keepCommon : ByteArray := prog_4_method_9_code
def yX2_keepCommon : MethodName := ⟨RX2, "keepCommon", "(LJoinBlocks$ScoredSet;)V"⟩
abbrev cX2_moveTo : ByteArray := prog_4_method_10_code
def yX2_moveTo : MethodName := ⟨RX2, "moveTo", "(LJoinBlocks$ScoredSet;)V"⟩
def RX3 : String := "JoinBlocks"
def TX3 : u_T := fun k => match k with
  | 0 => ("JoinBlocks", "open", "LJoinBlocks$Row;", true)
  | 1 => ("JoinBlocks", "row", "LJoinBlocks$Row;", true)
  | 2 => ("JoinBlocks", "stack", "[LJoinBlocks$ScoredSet;", true)
  | 3 => ("JoinBlocks", "taken", "LJoinBlocks$ScoredSet;", true)
  | 4 => ("JoinBlocks", "kin", "LJoinBlocks$ScoredSet;", true)
  | 5 => ("JoinBlocks", "ranking", "LJoinBlocks$Ranking;", true)
  | 6 => ("JoinBlocks", "depth", "I", false)
  | _ => ("JoinBlocks", "wentUp", "Z", false)
def tyX3 : Nat → FieldType := fun k => match k with
  | 0 => .object "JoinBlocks$Row"
  | 1 => .object "JoinBlocks$Row"
  | 2 => .array (.object "JoinBlocks$ScoredSet")
  | 3 => .object "JoinBlocks$ScoredSet"
  | 4 => .object "JoinBlocks$ScoredSet"
  | 5 => .object "JoinBlocks$Ranking"
  | 6 => .int
  | _ => .boolean
abbrev wsX30 : List Cond := u_ws RX3 TX3 8
theorem nmX3 : ∀ a, a < 8 → ∀ b, b < 8 → a ≠ b → (TX3 a).2.1 ≠ (TX3 b).2.1 := by decide +kernel
theorem tyX3_ok : ∀ k, k < 8 → parseFieldDescriptor (TX3 k).2.2.1 = some (tyX3 k) := by decide +kernel
abbrev cX3_init : ByteArray := prog_1_method_1_code
def yX3_init : MethodName := ⟨RX3, "<init>", "()V"⟩
abbrev cX3_child : ByteArray := prog_1_method_2_code
def yX3_child : MethodName := ⟨RX3, "child", "(IIII)I"⟩
abbrev cX3_close : ByteArray := prog_1_method_3_code
def yX3_close : MethodName := ⟨RX3, "close", "(IIII)I"⟩
abbrev cX3_drop : ByteArray := prog_1_method_4_code
def yX3_drop : MethodName := ⟨RX3, "drop", "()I"⟩
abbrev cX3_kill : ByteArray := prog_1_method_5_code
def yX3_kill : MethodName := ⟨RX3, "kill", "(I)I"⟩
abbrev cX3_merge : ByteArray := prog_1_method_6_code
def yX3_merge : MethodName := ⟨RX3, "merge", "()I"⟩
abbrev cX3_object : ByteArray := prog_1_method_7_code
def yX3_object : MethodName := ⟨RX3, "object", "(II)I"⟩
abbrev cX3_count : ByteArray := prog_1_method_8_code
def yX3_count : MethodName := ⟨RX3, "count", "(I)I"⟩
abbrev cX3_root : ByteArray := prog_1_method_9_code
def yX3_root : MethodName := ⟨RX3, "root", "(I)I"⟩
abbrev cX3_find : ByteArray := prog_1_method_10_code
def yX3_find : MethodName := ⟨RX3, "find", "(III)I"⟩
abbrev cX3_join : ByteArray := prog_1_method_11_code
def yX3_join : MethodName := ⟨RX3, "join", "(I)I"⟩
abbrev cX3_up : ByteArray := prog_1_method_12_code
def yX3_up : MethodName := ⟨RX3, "up", "(II)I"⟩
abbrev cX3_down : ByteArray := prog_1_method_13_code
def yX3_down : MethodName := ⟨RX3, "down", "(I)I"⟩
abbrev cX3_over : ByteArray := prog_1_method_14_code
def yX3_over : MethodName := ⟨RX3, "over", "()I"⟩
abbrev cX3_again : ByteArray := prog_1_method_15_code
def yX3_again : MethodName := ⟨RX3, "again", "()I"⟩
abbrev cX3_pop : ByteArray := prog_1_method_16_code
def yX3_pop : MethodName := ⟨RX3, "pop", "()I"⟩
abbrev cX3_hit : ByteArray := prog_1_method_17_code
def yX3_hit : MethodName := ⟨RX3, "hit", "(I)I"⟩
abbrev cX3_score : ByteArray := prog_1_method_18_code
def yX3_score : MethodName := ⟨RX3, "score", "(I)J"⟩
abbrev cX3_family : ByteArray := prog_1_method_19_code
def yX3_family : MethodName := ⟨RX3, "family", "(II)I"⟩
abbrev cX3_share : ByteArray := prog_1_method_20_code
def yX3_share : MethodName := ⟨RX3, "share", "()J"⟩
abbrev cX3_isWithin : ByteArray := prog_1_method_21_code
def yX3_isWithin : MethodName := ⟨RX3, "isWithin", "(III)Z"⟩
abbrev cX3_isKey : ByteArray := prog_1_method_22_code
def yX3_isKey : MethodName := ⟨RX3, "isKey", "(I)Z"⟩
abbrev cX3_isValue : ByteArray := prog_1_method_23_code
def yX3_isValue : MethodName := ⟨RX3, "isValue", "(I)Z"⟩
abbrev cX3_areTold : ByteArray := prog_1_method_24_code
def yX3_areTold : MethodName := ⟨RX3, "areTold", "(III)Z"⟩
abbrev cX3_forgetSets : ByteArray := prog_1_method_25_code
def yX3_forgetSets : MethodName := ⟨RX3, "forgetSets", "()V"⟩
abbrev cX3_canBeFound : ByteArray := prog_1_method_26_code
def yX3_canBeFound : MethodName := ⟨RX3, "canBeFound", "(III)Z"⟩
abbrev cX3_isFound : ByteArray := prog_1_method_27_code
def yX3_isFound : MethodName := ⟨RX3, "isFound", "(IIII)Z"⟩
abbrev cX3_scoreFound : ByteArray := prog_1_method_28_code
def yX3_scoreFound : MethodName := ⟨RX3, "scoreFound", "(III)J"⟩
abbrev cX3_gatherBelow : ByteArray := prog_1_method_29_code
def yX3_gatherBelow : MethodName := ⟨RX3, "gatherBelow", "(IILJoinBlocks$ScoredSet;)V"⟩
abbrev cX3_combine : ByteArray := prog_1_method_30_code
def yX3_combine : MethodName := ⟨RX3, "combine", "(IJJ)J"⟩
abbrev cX3_spreadBelow : ByteArray := prog_1_method_31_code
def yX3_spreadBelow : MethodName := ⟨RX3, "spreadBelow", "(IILJoinBlocks$ScoredSet;)V"⟩
abbrev cX3_spreadToLinked : ByteArray := prog_1_method_32_code
def yX3_spreadToLinked : MethodName := ⟨RX3, "spreadToLinked", "(ILJoinBlocks$ScoredSet;)V"⟩
abbrev cX3_answerRanked : ByteArray := prog_1_method_33_code
def yX3_answerRanked : MethodName := ⟨RX3, "answerRanked", "(I)I"⟩
def RX4 : String := "JoinBlocksModel"
def TX4 : u_T := fun k => match k with
  | 0 => ("JoinBlocksModel", "thrown", "I", false)
  | 1 => ("JoinBlocksModel", "objects", "I", false)
  | 2 => ("JoinBlocksModel", "level", "[I", true)
  | 3 => ("JoinBlocksModel", "value", "[I", true)
  | 4 => ("JoinBlocksModel", "tags", "[I", true)
  | 5 => ("JoinBlocksModel", "link", "[I", true)
  | 6 => ("JoinBlocksModel", "key", "[I", true)
  | 7 => ("JoinBlocksModel", "lives", "[Z", true)
  | 8 => ("JoinBlocksModel", "opened", "I", false)
  | 9 => ("JoinBlocksModel", "open", "[I", true)
  | 10 => ("JoinBlocksModel", "sets", "I", false)
  | 11 => ("JoinBlocksModel", "in", "[Z", true)
  | 12 => ("JoinBlocksModel", "scores", "[J", true)
  | 13 => ("JoinBlocksModel", "hasFamily", "Z", false)
  | 14 => ("JoinBlocksModel", "was", "[Z", true)
  | _ => ("JoinBlocksModel", "had", "[J", true)
def tyX4 : Nat → FieldType := fun k => match k with
  | 0 => .int
  | 1 => .int
  | 2 => .array .int
  | 3 => .array .int
  | 4 => .array .int
  | 5 => .array .int
  | 6 => .array .int
  | 7 => .array .boolean
  | 8 => .int
  | 9 => .array .int
  | 10 => .int
  | 11 => .array .boolean
  | 12 => .array .long
  | 13 => .boolean
  | 14 => .array .boolean
  | _ => .array .long
abbrev wsX40 : List Cond := u_ws RX4 TX4 16
theorem nmX4 : ∀ a, a < 16 → ∀ b, b < 16 → a ≠ b → (TX4 a).2.1 ≠ (TX4 b).2.1 := by decide +kernel
theorem tyX4_ok : ∀ k, k < 16 → parseFieldDescriptor (TX4 k).2.2.1 = some (tyX4 k) := by decide +kernel
abbrev cX4_init : ByteArray := prog_6_method_1_code
def yX4_init : MethodName := ⟨RX4, "<init>", "()V"⟩
abbrev cX4_thrown : ByteArray := prog_6_method_2_code
def yX4_thrown : MethodName := ⟨RX4, "thrown", "()I"⟩
abbrev cX4_isIn : ByteArray := prog_6_method_3_code
def yX4_isIn : MethodName := ⟨RX4, "isIn", "(III)Z"⟩
abbrev cX4_isObject : ByteArray := prog_6_method_4_code
def yX4_isObject : MethodName := ⟨RX4, "isObject", "(I)Z"⟩
abbrev cX4_child : ByteArray := prog_6_method_5_code
def yX4_child : MethodName := ⟨RX4, "child", "(IIII)I"⟩
abbrev cX4_stand : ByteArray := prog_6_method_6_code
def yX4_stand : MethodName := ⟨RX4, "stand", "(IIIII)V"⟩
abbrev cX4_rootOf : ByteArray := prog_6_method_7_code
def yX4_rootOf : MethodName := ⟨RX4, "rootOf", "(I)I"⟩
abbrev cX4_empty : ByteArray := prog_6_method_8_code
def yX4_empty : MethodName := ⟨RX4, "empty", "()V"⟩
abbrev cX4_die : ByteArray := prog_6_method_9_code
def yX4_die : MethodName := ⟨RX4, "die", "(I)I"⟩
abbrev cX4_close : ByteArray := prog_6_method_10_code
def yX4_close : MethodName := ⟨RX4, "close", "(IIII)I"⟩
abbrev cX4_drop : ByteArray := prog_6_method_11_code
def yX4_drop : MethodName := ⟨RX4, "drop", "()I"⟩
abbrev cX4_kill : ByteArray := prog_6_method_12_code
def yX4_kill : MethodName := ⟨RX4, "kill", "(I)I"⟩
abbrev cX4_merge : ByteArray := prog_6_method_13_code
def yX4_merge : MethodName := ⟨RX4, "merge", "()I"⟩
abbrev cX4_parent : ByteArray := prog_6_method_14_code
def yX4_parent : MethodName := ⟨RX4, "parent", "(I)I"⟩
abbrev cX4_isAbove : ByteArray := prog_6_method_15_code
def yX4_isAbove : MethodName := ⟨RX4, "isAbove", "(II)Z"⟩
abbrev cX4_belowOf : ByteArray := prog_6_method_16_code
def yX4_belowOf : MethodName := ⟨RX4, "belowOf", "(I)I"⟩
abbrev cX4_object : ByteArray := prog_6_method_17_code
def yX4_object : MethodName := ⟨RX4, "object", "(II)I"⟩
abbrev cX4_count : ByteArray := prog_6_method_18_code
def yX4_count : MethodName := ⟨RX4, "count", "(I)I"⟩
abbrev cX4_root : ByteArray := prog_6_method_19_code
def yX4_root : MethodName := ⟨RX4, "root", "(I)I"⟩
abbrev cX4_sizeOf : ByteArray := prog_6_method_20_code
def yX4_sizeOf : MethodName := ⟨RX4, "sizeOf", "(I)I"⟩
abbrev cX4_bits : ByteArray := prog_6_method_21_code
def yX4_bits : MethodName := ⟨RX4, "bits", "(I)I"⟩
abbrev cX4_mayBeFound : ByteArray := prog_6_method_22_code
def yX4_mayBeFound : MethodName := ⟨RX4, "mayBeFound", "(III)Z"⟩
abbrev cX4_isFound : ByteArray := prog_6_method_23_code
def yX4_isFound : MethodName := ⟨RX4, "isFound", "(IIII)Z"⟩
abbrev cX4_find : ByteArray := prog_6_method_24_code
def yX4_find : MethodName := ⟨RX4, "find", "(III)I"⟩
abbrev cX4_join : ByteArray := prog_6_method_25_code
def yX4_join : MethodName := ⟨RX4, "join", "(I)I"⟩
abbrev cX4_takeLast : ByteArray := prog_6_method_26_code
def yX4_takeLast : MethodName := ⟨RX4, "takeLast", "()V"⟩
abbrev cX4_up : ByteArray := prog_6_method_27_code
def yX4_up : MethodName := ⟨RX4, "up", "(II)I"⟩
abbrev cX4_down : ByteArray := prog_6_method_28_code
def yX4_down : MethodName := ⟨RX4, "down", "(I)I"⟩
abbrev cX4_over : ByteArray := prog_6_method_29_code
def yX4_over : MethodName := ⟨RX4, "over", "()I"⟩
abbrev cX4_again : ByteArray := prog_6_method_30_code
def yX4_again : MethodName := ⟨RX4, "again", "()I"⟩
abbrev cX4_pop : ByteArray := prog_6_method_31_code
def yX4_pop : MethodName := ⟨RX4, "pop", "()I"⟩
abbrev cX4_kth : ByteArray := prog_6_method_32_code
def yX4_kth : MethodName := ⟨RX4, "kth", "(III)I"⟩
abbrev cX4_hit : ByteArray := prog_6_method_33_code
def yX4_hit : MethodName := ⟨RX4, "hit", "(I)I"⟩
abbrev cX4_score : ByteArray := prog_6_method_34_code
def yX4_score : MethodName := ⟨RX4, "score", "(I)J"⟩
abbrev cX4_family : ByteArray := prog_6_method_35_code
def yX4_family : MethodName := ⟨RX4, "family", "(II)I"⟩
abbrev cX4_share : ByteArray := prog_6_method_36_code
def yX4_share : MethodName := ⟨RX4, "share", "()J"⟩
def RJ6 : String := "java/lang/Integer"
def TJ6 : u_T := fun k => match k with
  | _ => ("", "", "", false)
def tyJ6 : Nat → FieldType := fun k => match k with
  | _ => .int
abbrev wsJ60 : List Cond := u_ws RJ6 TJ6 0
theorem nmJ6 : ∀ a, a < 0 → ∀ b, b < 0 → a ≠ b → (TJ6 a).2.1 ≠ (TJ6 b).2.1 := by decide +kernel
theorem tyJ6_ok : ∀ k, k < 0 → parseFieldDescriptor (TJ6 k).2.2.1 = some (tyJ6 k) := by decide +kernel
abbrev cJ6_bitCount_0f7a4 : ByteArray := prog_9_method_49_code
def yJ6_bitCount_0f7a4 : MethodName := ⟨RJ6, "bitCount", "(I)I"⟩
def RJ9 : String := "java/lang/Math"
def TJ9 : u_T := fun k => match k with
  | _ => ("", "", "", false)
def tyJ9 : Nat → FieldType := fun k => match k with
  | _ => .int
abbrev wsJ90 : List Cond := u_ws RJ9 TJ9 0
theorem nmJ9 : ∀ a, a < 0 → ∀ b, b < 0 → a ≠ b → (TJ9 a).2.1 ≠ (TJ9 b).2.1 := by decide +kernel
theorem tyJ9_ok : ∀ k, k < 0 → parseFieldDescriptor (TJ9 k).2.2.1 = some (tyJ9 k) := by decide +kernel
abbrev cJ9_max_f86c9 : ByteArray := prog_10_method_66_code
def yJ9_max_f86c9 : MethodName := ⟨RJ9, "max", "(JJ)J"⟩
abbrev cJ9_min_7cf53 : ByteArray := prog_10_method_69_code
def yJ9_min_7cf53 : MethodName := ⟨RJ9, "min", "(II)I"⟩
abbrev cJ9_min_f86c9 : ByteArray := prog_10_method_70_code
def yJ9_min_f86c9 : MethodName := ⟨RJ9, "min", "(JJ)J"⟩
def RJ0 : String := "java/lang/String"
def TJ0 : u_T := fun k => match k with
  | _ => ("", "", "", false)
def tyJ0 : Nat → FieldType := fun k => match k with
  | _ => .int
abbrev wsJ00 : List Cond := u_ws RJ0 TJ0 0
theorem nmJ0 : ∀ a, a < 0 → ∀ b, b < 0 → a ≠ b → (TJ0 a).2.1 ≠ (TJ0 b).2.1 := by decide +kernel
theorem tyJ0_ok : ∀ k, k < 0 → parseFieldDescriptor (TJ0 k).2.2.1 = some (tyJ0 k) := by decide +kernel
def RJ10 : String := "java/lang/System"
def TJ10 : u_T := fun k => match k with
  | _ => ("", "", "", false)
def tyJ10 : Nat → FieldType := fun k => match k with
  | _ => .int
abbrev wsJ100 : List Cond := u_ws RJ10 TJ10 0
theorem nmJ10 : ∀ a, a < 0 → ∀ b, b < 0 → a ≠ b → (TJ10 a).2.1 ≠ (TJ10 b).2.1 := by decide +kernel
theorem tyJ10_ok : ∀ k, k < 0 → parseFieldDescriptor (TJ10 k).2.2.1 = some (tyJ10 k) := by decide +kernel
def RL : String := "JoinBlocksLaw"
abbrev cL_share : ByteArray := method_3_code
def yL_share : MethodName := ⟨RL, "share", "(LJoinBlocks;[J)I"⟩
abbrev cL_law : ByteArray := code
def yL_law : MethodName := ⟨RL, "law", "([I)Z"⟩
def wsX0_init : List Cond := .code yX0_init cX0_init 1 none :: ([.methodLink RX0 3 objectInit, .instanceMethod objectInit, .code objectInit ⟨#[0xb1]⟩ 1 none, .arrayClass .int, .fieldLink RX0 9 "JoinBlocks$Ranking" "numbers" "[I", .fieldLink RX0 15 "JoinBlocks$Ranking" "merged" "[I", .fieldLink RX0 18 "JoinBlocks$Ranking" "size" "I"] ++ wsX00)
def wsX2_has : List Cond := .code yX2_has cX2_has 2 (some .boolean) :: ([.fieldLink RX2 9 "JoinBlocks$ScoredSet" "members" "[Z"] ++ wsX20)
def wsX0_mergeTwo : List Cond := .code yX0_mergeTwo cX0_mergeTwo 9 none :: ([.fieldLink RX0 48 "JoinBlocks$ScoredSet" "scores" "[J", .fieldLink RX0 9 "JoinBlocks$Ranking" "numbers" "[I", .fieldLink RX0 15 "JoinBlocks$Ranking" "merged" "[I"] ++ wsX20 ++ wsX00)
def wsX0_mergeRuns : List Cond := .code yX0_mergeRuns cX0_mergeRuns 6 none :: ([.fieldLink RX0 18 "JoinBlocks$Ranking" "size" "I", .methodLink RX0 32 Lib.Math.min.name, .static Lib.Math.min.name, .initialized "java/lang/Math", .code Lib.Math.min.name Lib.Math.min.code 2 (some .int), .fieldLink RX0 15 "JoinBlocks$Ranking" "merged" "[I", .fieldLink RX0 9 "JoinBlocks$Ranking" "numbers" "[I", .methodLink RX0 42 arraycopyName, .native arraycopyName, .static arraycopyName, .initialized "java/lang/System", .methodLink RX0 38 yX0_mergeTwo, .instanceMethod yX0_mergeTwo, .selects RX0 yX0_mergeTwo yX0_mergeTwo, .initialized RX0, .code yX0_mergeTwo cX0_mergeTwo 9 none, .fieldLink RX0 48 "JoinBlocks$ScoredSet" "scores" "[J"] ++ wsX00 ++ wsX20)
def wsX0_rank_r1 : List Cond := [Cond.fieldLink RX0 18 "JoinBlocks$Ranking" "size" "I", Cond.fieldLink RX0 9 "JoinBlocks$Ranking" "numbers" "[I", Cond.methodLink RX0 22 yX2_has, Cond.instanceMethod yX2_has, Cond.selects RX2 yX2_has yX2_has, Cond.initialized RX2, Cond.code yX2_has cX2_has 2 (some .boolean), Cond.fieldLink RX2 9 "JoinBlocks$ScoredSet" "members" "[Z", Cond.methodLink RX0 28 yX0_mergeRuns, Cond.instanceMethod yX0_mergeRuns, Cond.selects RX0 yX0_mergeRuns yX0_mergeRuns, Cond.initialized RX0, Cond.code yX0_mergeRuns cX0_mergeRuns 6 none, Cond.methodLink RX0 32 Lib.Math.min.name, Cond.static Lib.Math.min.name, Cond.initialized "java/lang/Math", Cond.code Lib.Math.min.name Lib.Math.min.code 2 (some .int), Cond.fieldLink RX0 15 "JoinBlocks$Ranking" "merged" "[I", Cond.methodLink RX0 42 arraycopyName, Cond.native arraycopyName, Cond.static arraycopyName, Cond.initialized "java/lang/System", Cond.methodLink RX0 38 yX0_mergeTwo, Cond.instanceMethod yX0_mergeTwo]
def wsX0_rank_r2 : List Cond := [Cond.selects RX0 yX0_mergeTwo yX0_mergeTwo, Cond.code yX0_mergeTwo cX0_mergeTwo 9 none, Cond.fieldLink RX0 48 "JoinBlocks$ScoredSet" "scores" "[J"]
def wsX0_rank : List Cond := .code yX0_rank cX0_rank 5 none :: ((wsX0_rank_r1 ++ wsX0_rank_r2) ++ wsX00 ++ wsX20)
def wsX1_init : List Cond := .code yX1_init cX1_init 2 none :: ([.methodLink RX1 3 objectInit, .instanceMethod objectInit, .code objectInit ⟨#[0xb1]⟩ 1 none, .arrayClass .int, .fieldLink RX1 9 "JoinBlocks$Row" "levels" "[I", .fieldLink RX1 15 "JoinBlocks$Row" "values" "[I", .fieldLink RX1 18 "JoinBlocks$Row" "tags" "[I", .fieldLink RX1 21 "JoinBlocks$Row" "links" "[I", .fieldLink RX1 24 "JoinBlocks$Row" "keys" "[I", .arrayClass .boolean, .fieldLink RX1 27 "JoinBlocks$Row" "living" "[Z", .fieldLink RX1 31 "JoinBlocks$Row" "size" "I"] ++ wsX10)
def wsX1_holds : List Cond := .code yX1_holds cX1_holds 2 (some .boolean) :: ([.fieldLink RX1 31 "JoinBlocks$Row" "size" "I"] ++ wsX10)
def wsX1_isRoot : List Cond := .code yX1_isRoot cX1_isRoot 2 (some .boolean) :: ([.fieldLink RX1 9 "JoinBlocks$Row" "levels" "[I"] ++ wsX10)
def wsX1_append : List Cond := .code yX1_append cX1_append 6 none :: ([.fieldLink RX1 9 "JoinBlocks$Row" "levels" "[I", .fieldLink RX1 31 "JoinBlocks$Row" "size" "I", .fieldLink RX1 15 "JoinBlocks$Row" "values" "[I", .fieldLink RX1 18 "JoinBlocks$Row" "tags" "[I", .fieldLink RX1 21 "JoinBlocks$Row" "links" "[I", .fieldLink RX1 24 "JoinBlocks$Row" "keys" "[I", .fieldLink RX1 27 "JoinBlocks$Row" "living" "[Z"] ++ wsX10)
def wsX1_appendFrom : List Cond := .code yX1_appendFrom cX1_appendFrom 3 none :: ([.fieldLink RX1 9 "JoinBlocks$Row" "levels" "[I", .fieldLink RX1 15 "JoinBlocks$Row" "values" "[I", .fieldLink RX1 18 "JoinBlocks$Row" "tags" "[I", .fieldLink RX1 21 "JoinBlocks$Row" "links" "[I", .fieldLink RX1 24 "JoinBlocks$Row" "keys" "[I", .methodLink RX1 35 yX1_append, .instanceMethod yX1_append, .selects RX1 yX1_append yX1_append, .initialized RX1, .code yX1_append cX1_append 6 none, .fieldLink RX1 31 "JoinBlocks$Row" "size" "I", .fieldLink RX1 27 "JoinBlocks$Row" "living" "[Z"] ++ wsX10)
def wsX1_appendAll : List Cond := .code yX1_appendAll cX1_appendAll 3 none :: ([.fieldLink RX1 31 "JoinBlocks$Row" "size" "I", .methodLink RX1 39 yX1_appendFrom, .instanceMethod yX1_appendFrom, .selects RX1 yX1_appendFrom yX1_appendFrom, .initialized RX1, .code yX1_appendFrom cX1_appendFrom 3 none, .fieldLink RX1 9 "JoinBlocks$Row" "levels" "[I", .fieldLink RX1 15 "JoinBlocks$Row" "values" "[I", .fieldLink RX1 18 "JoinBlocks$Row" "tags" "[I", .fieldLink RX1 21 "JoinBlocks$Row" "links" "[I", .fieldLink RX1 24 "JoinBlocks$Row" "keys" "[I", .methodLink RX1 35 yX1_append, .instanceMethod yX1_append, .selects RX1 yX1_append yX1_append, .code yX1_append cX1_append 6 none, .fieldLink RX1 27 "JoinBlocks$Row" "living" "[Z"] ++ wsX10)
def wsX1_keepLiving : List Cond := .code yX1_keepLiving cX1_keepLiving 3 none :: ([.fieldLink RX1 31 "JoinBlocks$Row" "size" "I", .fieldLink RX1 27 "JoinBlocks$Row" "living" "[Z", .methodLink RX1 39 yX1_appendFrom, .instanceMethod yX1_appendFrom, .selects RX1 yX1_appendFrom yX1_appendFrom, .initialized RX1, .code yX1_appendFrom cX1_appendFrom 3 none, .fieldLink RX1 9 "JoinBlocks$Row" "levels" "[I", .fieldLink RX1 15 "JoinBlocks$Row" "values" "[I", .fieldLink RX1 18 "JoinBlocks$Row" "tags" "[I", .fieldLink RX1 21 "JoinBlocks$Row" "links" "[I", .fieldLink RX1 24 "JoinBlocks$Row" "keys" "[I", .methodLink RX1 35 yX1_append, .instanceMethod yX1_append, .selects RX1 yX1_append yX1_append, .code yX1_append cX1_append 6 none] ++ wsX10)
def wsX1_livingRoot : List Cond := .code yX1_livingRoot cX1_livingRoot 3 (some .int) :: ([.fieldLink RX1 31 "JoinBlocks$Row" "size" "I", .fieldLink RX1 27 "JoinBlocks$Row" "living" "[Z", .fieldLink RX1 24 "JoinBlocks$Row" "keys" "[I", .methodLink RX1 43 yX1_isRoot, .instanceMethod yX1_isRoot, .selects RX1 yX1_isRoot yX1_isRoot, .initialized RX1, .code yX1_isRoot cX1_isRoot 2 (some .boolean), .fieldLink RX1 9 "JoinBlocks$Row" "levels" "[I"] ++ wsX10)
def wsX1_firstBelow : List Cond := .code yX1_firstBelow cX1_firstBelow 3 (some .int) :: ([.fieldLink RX1 9 "JoinBlocks$Row" "levels" "[I"] ++ wsX10)
def wsX1_killBlock : List Cond := .code yX1_killBlock cX1_killBlock 4 (some .int) :: ([.fieldLink RX1 27 "JoinBlocks$Row" "living" "[Z", .methodLink RX1 47 yX1_firstBelow, .instanceMethod yX1_firstBelow, .selects RX1 yX1_firstBelow yX1_firstBelow, .initialized RX1, .code yX1_firstBelow cX1_firstBelow 3 (some .int), .fieldLink RX1 9 "JoinBlocks$Row" "levels" "[I"] ++ wsX10)
def wsX1_countLiving : List Cond := .code yX1_countLiving cX1_countLiving 4 (some .int) :: ([.fieldLink RX1 31 "JoinBlocks$Row" "size" "I", .fieldLink RX1 27 "JoinBlocks$Row" "living" "[Z", .fieldLink RX1 9 "JoinBlocks$Row" "levels" "[I"] ++ wsX10)
def wsX1_parentOf : List Cond := .code yX1_parentOf cX1_parentOf 3 (some .int) :: ([.fieldLink RX1 31 "JoinBlocks$Row" "size" "I", .fieldLink RX1 9 "JoinBlocks$Row" "levels" "[I"] ++ wsX10)
def wsX2_init : List Cond := .code yX2_init cX2_init 1 none :: ([.methodLink RX2 3 objectInit, .instanceMethod objectInit, .code objectInit ⟨#[0xb1]⟩ 1 none, .arrayClass .boolean, .fieldLink RX2 9 "JoinBlocks$ScoredSet" "members" "[Z", .arrayClass .long, .fieldLink RX2 15 "JoinBlocks$ScoredSet" "scores" "[J", .fieldLink RX2 19 "JoinBlocks$ScoredSet" "size" "I"] ++ wsX20)
def wsX2_clear : List Cond := .code yX2_clear cX2_clear 2 none :: ([.fieldLink RX2 9 "JoinBlocks$ScoredSet" "members" "[Z", .fieldLink RX2 19 "JoinBlocks$ScoredSet" "size" "I"] ++ wsX20)
def wsX2_put : List Cond := .code yX2_put cX2_put 4 none :: ([.fieldLink RX2 9 "JoinBlocks$ScoredSet" "members" "[Z", .fieldLink RX2 19 "JoinBlocks$ScoredSet" "size" "I", .fieldLink RX2 15 "JoinBlocks$ScoredSet" "scores" "[J"] ++ wsX20)
def wsX2_add : List Cond := .code yX2_add cX2_add 4 none :: ([.fieldLink RX2 9 "JoinBlocks$ScoredSet" "members" "[Z", .fieldLink RX2 15 "JoinBlocks$ScoredSet" "scores" "[J", .methodLink RX2 23 yX2_put, .instanceMethod yX2_put, .selects RX2 yX2_put yX2_put, .initialized RX2, .code yX2_put cX2_put 4 none, .fieldLink RX2 19 "JoinBlocks$ScoredSet" "size" "I"] ++ wsX20)
def wsX2_remove : List Cond := .code yX2_remove cX2_remove 2 none :: ([.fieldLink RX2 9 "JoinBlocks$ScoredSet" "members" "[Z", .fieldLink RX2 19 "JoinBlocks$ScoredSet" "size" "I"] ++ wsX20)
def wsX2_addAll : List Cond := .code yX2_addAll cX2_addAll 3 none :: ([.fieldLink RX2 9 "JoinBlocks$ScoredSet" "members" "[Z", .fieldLink RX2 15 "JoinBlocks$ScoredSet" "scores" "[J", .methodLink RX2 27 yX2_add, .instanceMethod yX2_add, .selects RX2 yX2_add yX2_add, .initialized RX2, .code yX2_add cX2_add 4 none, .methodLink RX2 23 yX2_put, .instanceMethod yX2_put, .selects RX2 yX2_put yX2_put, .code yX2_put cX2_put 4 none, .fieldLink RX2 19 "JoinBlocks$ScoredSet" "size" "I"] ++ wsX20)
def wsX2_removeAll : List Cond := .code yX2_removeAll cX2_removeAll 3 none :: ([.fieldLink RX2 9 "JoinBlocks$ScoredSet" "members" "[Z", .methodLink RX2 30 yX2_remove, .instanceMethod yX2_remove, .selects RX2 yX2_remove yX2_remove, .initialized RX2, .code yX2_remove cX2_remove 2 none, .fieldLink RX2 19 "JoinBlocks$ScoredSet" "size" "I"] ++ wsX20)
def wsX2_keepCommon : List Cond := .code yX2_keepCommon cX2_keepCommon 3 none :: ([.fieldLink RX2 9 "JoinBlocks$ScoredSet" "members" "[Z", .fieldLink RX2 15 "JoinBlocks$ScoredSet" "scores" "[J", .methodLink RX2 30 yX2_remove, .instanceMethod yX2_remove, .selects RX2 yX2_remove yX2_remove, .initialized RX2, .code yX2_remove cX2_remove 2 none, .fieldLink RX2 19 "JoinBlocks$ScoredSet" "size" "I", .methodLink RX2 27 yX2_add, .instanceMethod yX2_add, .selects RX2 yX2_add yX2_add, .code yX2_add cX2_add 4 none, .methodLink RX2 23 yX2_put, .instanceMethod yX2_put, .selects RX2 yX2_put yX2_put, .code yX2_put cX2_put 4 none] ++ wsX20)
def wsX2_moveTo : List Cond := .code yX2_moveTo cX2_moveTo 2 none :: ([.methodLink RX2 34 yX2_clear, .instanceMethod yX2_clear, .selects RX2 yX2_clear yX2_clear, .initialized RX2, .code yX2_clear cX2_clear 2 none, .fieldLink RX2 9 "JoinBlocks$ScoredSet" "members" "[Z", .fieldLink RX2 19 "JoinBlocks$ScoredSet" "size" "I", .methodLink RX2 37 yX2_addAll, .instanceMethod yX2_addAll, .selects RX2 yX2_addAll yX2_addAll, .code yX2_addAll cX2_addAll 3 none, .fieldLink RX2 15 "JoinBlocks$ScoredSet" "scores" "[J", .methodLink RX2 27 yX2_add, .instanceMethod yX2_add, .selects RX2 yX2_add yX2_add, .code yX2_add cX2_add 4 none, .methodLink RX2 23 yX2_put, .instanceMethod yX2_put, .selects RX2 yX2_put yX2_put, .code yX2_put cX2_put 4 none] ++ wsX20)
def wsX3_init_r1 : List Cond := [Cond.methodLink RX3 3 objectInit, Cond.instanceMethod objectInit, Cond.code objectInit ⟨#[0xb1]⟩ 1 none, Cond.classLink RX3 9 RX1, Cond.instantiable RX1 7, Cond.initialized RX1, Cond.fieldLink RX3 16 "JoinBlocks" "open" "LJoinBlocks$Row;", Cond.fieldLink RX3 20 "JoinBlocks" "row" "LJoinBlocks$Row;", Cond.classLink RX3 23 RX2, Cond.fieldLink RX3 25 "JoinBlocks" "stack" "[LJoinBlocks$ScoredSet;", Cond.instantiable RX2 3, Cond.initialized RX2, Cond.fieldLink RX3 30 "JoinBlocks" "taken" "LJoinBlocks$ScoredSet;", Cond.fieldLink RX3 34 "JoinBlocks" "kin" "LJoinBlocks$ScoredSet;", Cond.classLink RX3 37 RX0, Cond.instantiable RX0 3, Cond.initialized RX0, Cond.fieldLink RX3 40 "JoinBlocks" "ranking" "LJoinBlocks$Ranking;", Cond.fieldLink RX3 44 "JoinBlocks" "depth" "I", Cond.fieldLink RX3 48 "JoinBlocks" "wentUp" "Z", Cond.methodLink RX3 13 yX1_init, Cond.instanceMethod yX1_init, Cond.code yX1_init cX1_init 2 none, Cond.methodLink RX1 3 objectInit]
def wsX3_init_r2 : List Cond := [Cond.arrayClass .int, Cond.fieldLink RX1 9 "JoinBlocks$Row" "levels" "[I", Cond.fieldLink RX1 15 "JoinBlocks$Row" "values" "[I", Cond.fieldLink RX1 18 "JoinBlocks$Row" "tags" "[I", Cond.fieldLink RX1 21 "JoinBlocks$Row" "links" "[I", Cond.fieldLink RX1 24 "JoinBlocks$Row" "keys" "[I", Cond.arrayClass .boolean, Cond.fieldLink RX1 27 "JoinBlocks$Row" "living" "[Z", Cond.fieldLink RX1 31 "JoinBlocks$Row" "size" "I", Cond.methodLink RX3 29 yX2_init, Cond.instanceMethod yX2_init, Cond.code yX2_init cX2_init 1 none, Cond.methodLink RX2 3 objectInit, Cond.fieldLink RX2 9 "JoinBlocks$ScoredSet" "members" "[Z", Cond.arrayClass .long, Cond.fieldLink RX2 15 "JoinBlocks$ScoredSet" "scores" "[J", Cond.fieldLink RX2 19 "JoinBlocks$ScoredSet" "size" "I", Cond.methodLink RX3 39 yX0_init, Cond.instanceMethod yX0_init, Cond.code yX0_init cX0_init 1 none, Cond.methodLink RX0 3 objectInit, Cond.fieldLink RX0 9 "JoinBlocks$Ranking" "numbers" "[I", Cond.fieldLink RX0 15 "JoinBlocks$Ranking" "merged" "[I", Cond.fieldLink RX0 18 "JoinBlocks$Ranking" "size" "I"]
def wsX3_init : List Cond := .code yX3_init cX3_init 2 none :: ((wsX3_init_r1 ++ wsX3_init_r2) ++ wsX10 ++ wsX30 ++ wsX20 ++ wsX00)
def wsX3_isWithin : List Cond := .code yX3_isWithin cX3_isWithin 3 (some .boolean) :: ([])
def wsX3_isValue : List Cond := .code yX3_isValue cX3_isValue 1 (some .boolean) :: ([.methodLink RX3 52 yX3_isWithin, .static yX3_isWithin, .initialized RX3, .code yX3_isWithin cX3_isWithin 3 (some .boolean)])
def wsX3_areTold : List Cond := .code yX3_areTold cX3_areTold 3 (some .boolean) :: ([.methodLink RX3 190 yX3_isValue, .static yX3_isValue, .initialized RX3, .code yX3_isValue cX3_isValue 1 (some .boolean), .methodLink RX3 52 yX3_isWithin, .static yX3_isWithin, .code yX3_isWithin cX3_isWithin 3 (some .boolean)])
def wsX3_child : List Cond := .code yX3_child cX3_child 5 (some .int) :: ([.fieldLink RX3 16 "JoinBlocks" "open" "LJoinBlocks$Row;", .fieldLink RX3 59 "JoinBlocks$Row" "size" "I", .methodLink RX3 52 yX3_isWithin, .static yX3_isWithin, .initialized RX3, .code yX3_isWithin cX3_isWithin 3 (some .boolean), .methodLink RX3 56 yX3_areTold, .static yX3_areTold, .code yX3_areTold cX3_areTold 3 (some .boolean), .methodLink RX3 190 yX3_isValue, .static yX3_isValue, .code yX3_isValue cX3_isValue 1 (some .boolean), .methodLink RX3 62 yX1_append, .instanceMethod yX1_append, .selects RX1 yX1_append yX1_append, .initialized RX1, .code yX1_append cX1_append 6 none, .fieldLink RX1 9 "JoinBlocks$Row" "levels" "[I", .fieldLink RX1 31 "JoinBlocks$Row" "size" "I", .fieldLink RX1 15 "JoinBlocks$Row" "values" "[I", .fieldLink RX1 18 "JoinBlocks$Row" "tags" "[I", .fieldLink RX1 21 "JoinBlocks$Row" "links" "[I", .fieldLink RX1 24 "JoinBlocks$Row" "keys" "[I", .fieldLink RX1 27 "JoinBlocks$Row" "living" "[Z"] ++ wsX30 ++ wsX10)
def wsX3_isKey : List Cond := .code yX3_isKey cX3_isKey 1 (some .boolean) :: ([.methodLink RX3 52 yX3_isWithin, .static yX3_isWithin, .initialized RX3, .code yX3_isWithin cX3_isWithin 3 (some .boolean)])
def wsX3_forgetSets : List Cond := .code yX3_forgetSets cX3_forgetSets 1 none :: ([.fieldLink RX3 44 "JoinBlocks" "depth" "I", .fieldLink RX3 48 "JoinBlocks" "wentUp" "Z"] ++ wsX30)
def wsX3_close_r1 : List Cond := [Cond.fieldLink RX3 20 "JoinBlocks" "row" "LJoinBlocks$Row;", Cond.fieldLink RX3 59 "JoinBlocks$Row" "size" "I", Cond.fieldLink RX3 16 "JoinBlocks" "open" "LJoinBlocks$Row;", Cond.methodLink RX3 66 yX3_isKey, Cond.static yX3_isKey, Cond.initialized RX3, Cond.code yX3_isKey cX3_isKey 1 (some .boolean), Cond.methodLink RX3 52 yX3_isWithin, Cond.static yX3_isWithin, Cond.code yX3_isWithin cX3_isWithin 3 (some .boolean), Cond.methodLink RX3 56 yX3_areTold, Cond.static yX3_areTold, Cond.code yX3_areTold cX3_areTold 3 (some .boolean), Cond.methodLink RX3 190 yX3_isValue, Cond.static yX3_isValue, Cond.code yX3_isValue cX3_isValue 1 (some .boolean), Cond.methodLink RX3 70 yX1_livingRoot, Cond.instanceMethod yX1_livingRoot, Cond.selects RX1 yX1_livingRoot yX1_livingRoot, Cond.initialized RX1, Cond.code yX1_livingRoot cX1_livingRoot 3 (some .int), Cond.fieldLink RX1 31 "JoinBlocks$Row" "size" "I", Cond.fieldLink RX1 27 "JoinBlocks$Row" "living" "[Z", Cond.fieldLink RX1 24 "JoinBlocks$Row" "keys" "[I"]
def wsX3_close_r2 : List Cond := [Cond.methodLink RX1 43 yX1_isRoot, Cond.instanceMethod yX1_isRoot, Cond.selects RX1 yX1_isRoot yX1_isRoot, Cond.code yX1_isRoot cX1_isRoot 2 (some .boolean), Cond.fieldLink RX1 9 "JoinBlocks$Row" "levels" "[I", Cond.methodLink RX3 74 yX1_killBlock, Cond.instanceMethod yX1_killBlock, Cond.selects RX1 yX1_killBlock yX1_killBlock, Cond.code yX1_killBlock cX1_killBlock 4 (some .int), Cond.methodLink RX1 47 yX1_firstBelow, Cond.instanceMethod yX1_firstBelow, Cond.selects RX1 yX1_firstBelow yX1_firstBelow, Cond.code yX1_firstBelow cX1_firstBelow 3 (some .int), Cond.methodLink RX3 77 yX3_forgetSets, Cond.instanceMethod yX3_forgetSets, Cond.selects RX3 yX3_forgetSets yX3_forgetSets, Cond.code yX3_forgetSets cX3_forgetSets 1 none, Cond.fieldLink RX3 44 "JoinBlocks" "depth" "I", Cond.fieldLink RX3 48 "JoinBlocks" "wentUp" "Z", Cond.methodLink RX3 80 yX1_appendAll, Cond.instanceMethod yX1_appendAll, Cond.selects RX1 yX1_appendAll yX1_appendAll, Cond.code yX1_appendAll cX1_appendAll 3 none, Cond.methodLink RX1 39 yX1_appendFrom]
def wsX3_close_r3 : List Cond := [Cond.instanceMethod yX1_appendFrom, Cond.selects RX1 yX1_appendFrom yX1_appendFrom, Cond.code yX1_appendFrom cX1_appendFrom 3 none, Cond.fieldLink RX1 15 "JoinBlocks$Row" "values" "[I", Cond.fieldLink RX1 18 "JoinBlocks$Row" "tags" "[I", Cond.fieldLink RX1 21 "JoinBlocks$Row" "links" "[I", Cond.methodLink RX1 35 yX1_append, Cond.instanceMethod yX1_append, Cond.selects RX1 yX1_append yX1_append, Cond.code yX1_append cX1_append 6 none, Cond.methodLink RX3 62 yX1_append]
def wsX3_close : List Cond := .code yX3_close cX3_close 6 (some .int) :: ((wsX3_close_r1 ++ (wsX3_close_r2 ++ wsX3_close_r3)) ++ wsX30 ++ wsX10)
def wsX3_drop : List Cond := .code yX3_drop cX3_drop 2 (some .int) :: ([.fieldLink RX3 16 "JoinBlocks" "open" "LJoinBlocks$Row;", .fieldLink RX3 59 "JoinBlocks$Row" "size" "I"] ++ wsX30 ++ wsX10)
def wsX3_kill_r1 : List Cond := [Cond.fieldLink RX3 20 "JoinBlocks" "row" "LJoinBlocks$Row;", Cond.methodLink RX3 70 yX1_livingRoot, Cond.instanceMethod yX1_livingRoot, Cond.selects RX1 yX1_livingRoot yX1_livingRoot, Cond.initialized RX1, Cond.code yX1_livingRoot cX1_livingRoot 3 (some .int), Cond.fieldLink RX1 31 "JoinBlocks$Row" "size" "I", Cond.fieldLink RX1 27 "JoinBlocks$Row" "living" "[Z", Cond.fieldLink RX1 24 "JoinBlocks$Row" "keys" "[I", Cond.methodLink RX1 43 yX1_isRoot, Cond.instanceMethod yX1_isRoot, Cond.selects RX1 yX1_isRoot yX1_isRoot, Cond.code yX1_isRoot cX1_isRoot 2 (some .boolean), Cond.fieldLink RX1 9 "JoinBlocks$Row" "levels" "[I", Cond.methodLink RX3 77 yX3_forgetSets, Cond.instanceMethod yX3_forgetSets, Cond.selects RX3 yX3_forgetSets yX3_forgetSets, Cond.initialized RX3, Cond.code yX3_forgetSets cX3_forgetSets 1 none, Cond.fieldLink RX3 44 "JoinBlocks" "depth" "I", Cond.fieldLink RX3 48 "JoinBlocks" "wentUp" "Z", Cond.methodLink RX3 74 yX1_killBlock, Cond.instanceMethod yX1_killBlock, Cond.selects RX1 yX1_killBlock yX1_killBlock]
def wsX3_kill_r2 : List Cond := [Cond.code yX1_killBlock cX1_killBlock 4 (some .int), Cond.methodLink RX1 47 yX1_firstBelow, Cond.instanceMethod yX1_firstBelow, Cond.selects RX1 yX1_firstBelow yX1_firstBelow, Cond.code yX1_firstBelow cX1_firstBelow 3 (some .int)]
def wsX3_kill : List Cond := .code yX3_kill cX3_kill 3 (some .int) :: ((wsX3_kill_r1 ++ wsX3_kill_r2) ++ wsX30 ++ wsX10)
def wsX3_merge_r1 : List Cond := [Cond.fieldLink RX3 20 "JoinBlocks" "row" "LJoinBlocks$Row;", Cond.fieldLink RX3 59 "JoinBlocks$Row" "size" "I", Cond.methodLink RX3 84 yX1_keepLiving, Cond.instanceMethod yX1_keepLiving, Cond.selects RX1 yX1_keepLiving yX1_keepLiving, Cond.initialized RX1, Cond.code yX1_keepLiving cX1_keepLiving 3 none, Cond.fieldLink RX1 31 "JoinBlocks$Row" "size" "I", Cond.fieldLink RX1 27 "JoinBlocks$Row" "living" "[Z", Cond.methodLink RX1 39 yX1_appendFrom, Cond.instanceMethod yX1_appendFrom, Cond.selects RX1 yX1_appendFrom yX1_appendFrom, Cond.code yX1_appendFrom cX1_appendFrom 3 none, Cond.fieldLink RX1 9 "JoinBlocks$Row" "levels" "[I", Cond.fieldLink RX1 15 "JoinBlocks$Row" "values" "[I", Cond.fieldLink RX1 18 "JoinBlocks$Row" "tags" "[I", Cond.fieldLink RX1 21 "JoinBlocks$Row" "links" "[I", Cond.fieldLink RX1 24 "JoinBlocks$Row" "keys" "[I", Cond.methodLink RX1 35 yX1_append, Cond.instanceMethod yX1_append, Cond.selects RX1 yX1_append yX1_append, Cond.code yX1_append cX1_append 6 none, Cond.methodLink RX3 77 yX3_forgetSets, Cond.instanceMethod yX3_forgetSets]
def wsX3_merge_r2 : List Cond := [Cond.selects RX3 yX3_forgetSets yX3_forgetSets, Cond.initialized RX3, Cond.code yX3_forgetSets cX3_forgetSets 1 none, Cond.fieldLink RX3 44 "JoinBlocks" "depth" "I", Cond.fieldLink RX3 48 "JoinBlocks" "wentUp" "Z"]
def wsX3_merge : List Cond := .code yX3_merge cX3_merge 1 (some .int) :: ((wsX3_merge_r1 ++ wsX3_merge_r2) ++ wsX30 ++ wsX10)
def wsX3_object_r1 : List Cond := [Cond.fieldLink RX3 20 "JoinBlocks" "row" "LJoinBlocks$Row;", Cond.fieldLink RX3 90 "JoinBlocks$Row" "levels" "[I", Cond.fieldLink RX3 94 "JoinBlocks$Row" "values" "[I", Cond.fieldLink RX3 97 "JoinBlocks$Row" "tags" "[I", Cond.fieldLink RX3 100 "JoinBlocks$Row" "links" "[I", Cond.fieldLink RX3 106 "JoinBlocks$Row" "keys" "[I", Cond.fieldLink RX3 112 "JoinBlocks$Row" "living" "[Z", Cond.methodLink RX3 87 yX1_holds, Cond.instanceMethod yX1_holds, Cond.selects RX1 yX1_holds yX1_holds, Cond.initialized RX1, Cond.code yX1_holds cX1_holds 2 (some .boolean), Cond.fieldLink RX1 31 "JoinBlocks$Row" "size" "I", Cond.methodLink RX3 103 yX1_isRoot, Cond.instanceMethod yX1_isRoot, Cond.selects RX1 yX1_isRoot yX1_isRoot, Cond.code yX1_isRoot cX1_isRoot 2 (some .boolean), Cond.fieldLink RX1 9 "JoinBlocks$Row" "levels" "[I", Cond.methodLink RX3 109 yX1_parentOf, Cond.instanceMethod yX1_parentOf, Cond.selects RX1 yX1_parentOf yX1_parentOf, Cond.code yX1_parentOf cX1_parentOf 3 (some .int), Cond.methodLink RX3 116 yX1_firstBelow, Cond.instanceMethod yX1_firstBelow]
def wsX3_object_r2 : List Cond := [Cond.selects RX1 yX1_firstBelow yX1_firstBelow, Cond.code yX1_firstBelow cX1_firstBelow 3 (some .int)]
def wsX3_object : List Cond := .code yX3_object cX3_object 3 (some .int) :: ((wsX3_object_r1 ++ wsX3_object_r2) ++ wsX30 ++ wsX10)
def wsX3_count : List Cond := .code yX3_count cX3_count 2 (some .int) :: ([.fieldLink RX3 20 "JoinBlocks" "row" "LJoinBlocks$Row;", .fieldLink RX3 59 "JoinBlocks$Row" "size" "I", .fieldLink RX3 16 "JoinBlocks" "open" "LJoinBlocks$Row;", .fieldLink RX3 44 "JoinBlocks" "depth" "I", .methodLink RX3 119 yX1_countLiving, .instanceMethod yX1_countLiving, .selects RX1 yX1_countLiving yX1_countLiving, .initialized RX1, .code yX1_countLiving cX1_countLiving 4 (some .int), .fieldLink RX1 31 "JoinBlocks$Row" "size" "I", .fieldLink RX1 27 "JoinBlocks$Row" "living" "[Z", .fieldLink RX1 9 "JoinBlocks$Row" "levels" "[I"] ++ wsX30 ++ wsX10)
def wsX3_root : List Cond := .code yX3_root cX3_root 3 (some .int) :: ([.fieldLink RX3 20 "JoinBlocks" "row" "LJoinBlocks$Row;", .methodLink RX3 70 yX1_livingRoot, .instanceMethod yX1_livingRoot, .selects RX1 yX1_livingRoot yX1_livingRoot, .initialized RX1, .code yX1_livingRoot cX1_livingRoot 3 (some .int), .fieldLink RX1 31 "JoinBlocks$Row" "size" "I", .fieldLink RX1 27 "JoinBlocks$Row" "living" "[Z", .fieldLink RX1 24 "JoinBlocks$Row" "keys" "[I", .methodLink RX1 43 yX1_isRoot, .instanceMethod yX1_isRoot, .selects RX1 yX1_isRoot yX1_isRoot, .code yX1_isRoot cX1_isRoot 2 (some .boolean), .fieldLink RX1 9 "JoinBlocks$Row" "levels" "[I"] ++ wsX30 ++ wsX10)
def wsX3_canBeFound : List Cond := .code yX3_canBeFound cX3_canBeFound 3 (some .boolean) :: ([.methodLink RX3 52 yX3_isWithin, .static yX3_isWithin, .initialized RX3, .code yX3_isWithin cX3_isWithin 3 (some .boolean), .methodLink RX3 190 yX3_isValue, .static yX3_isValue, .code yX3_isValue cX3_isValue 1 (some .boolean), .methodLink RX3 66 yX3_isKey, .static yX3_isKey, .code yX3_isKey cX3_isKey 1 (some .boolean)])
def wsX3_isFound : List Cond := .code yX3_isFound cX3_isFound 5 (some .boolean) :: ([.fieldLink RX3 20 "JoinBlocks" "row" "LJoinBlocks$Row;", .fieldLink RX3 97 "JoinBlocks$Row" "tags" "[I", .fieldLink RX3 94 "JoinBlocks$Row" "values" "[I", .fieldLink RX3 90 "JoinBlocks$Row" "levels" "[I", .fieldLink RX3 106 "JoinBlocks$Row" "keys" "[I", .fieldLink RX3 100 "JoinBlocks$Row" "links" "[I", .methodLink RX3 52 yX3_isWithin, .static yX3_isWithin, .initialized RX3, .code yX3_isWithin cX3_isWithin 3 (some .boolean), .methodLink RX3 103 yX1_isRoot, .instanceMethod yX1_isRoot, .selects RX1 yX1_isRoot yX1_isRoot, .initialized RX1, .code yX1_isRoot cX1_isRoot 2 (some .boolean), .fieldLink RX1 9 "JoinBlocks$Row" "levels" "[I"] ++ wsX30 ++ wsX10)
def wsJ6_bitCount_0f7a4 : List Cond := .code yJ6_bitCount_0f7a4 cJ6_bitCount_0f7a4 1 (some .int) :: ([.constant RJ6 265 (1431655765), .constant RJ6 266 (858993459), .constant RJ6 267 (252645135)])
def wsX3_scoreFound : List Cond := .code yX3_scoreFound cX3_scoreFound 4 (some .long) :: ([.fieldLink RX3 20 "JoinBlocks" "row" "LJoinBlocks$Row;", .fieldLink RX3 94 "JoinBlocks$Row" "values" "[I", .methodLink RX3 193 yJ6_bitCount_0f7a4, .static yJ6_bitCount_0f7a4, .initialized RJ6, .code yJ6_bitCount_0f7a4 cJ6_bitCount_0f7a4 1 (some .int), .constant RJ6 265 (1431655765), .constant RJ6 266 (858993459), .constant RJ6 267 (252645135)] ++ wsX30 ++ wsX10)
def wsX3_find_r1 : List Cond := [Cond.fieldLink RX3 44 "JoinBlocks" "depth" "I", Cond.fieldLink RX3 25 "JoinBlocks" "stack" "[LJoinBlocks$ScoredSet;", Cond.fieldLink RX3 20 "JoinBlocks" "row" "LJoinBlocks$Row;", Cond.fieldLink RX3 59 "JoinBlocks$Row" "size" "I", Cond.fieldLink RX3 112 "JoinBlocks$Row" "living" "[Z", Cond.fieldLink RX3 140 "JoinBlocks$ScoredSet" "size" "I", Cond.methodLink RX3 122 yX3_canBeFound, Cond.static yX3_canBeFound, Cond.initialized RX3, Cond.code yX3_canBeFound cX3_canBeFound 3 (some .boolean), Cond.methodLink RX3 52 yX3_isWithin, Cond.static yX3_isWithin, Cond.code yX3_isWithin cX3_isWithin 3 (some .boolean), Cond.methodLink RX3 190 yX3_isValue, Cond.static yX3_isValue, Cond.code yX3_isValue cX3_isValue 1 (some .boolean), Cond.methodLink RX3 66 yX3_isKey, Cond.static yX3_isKey, Cond.code yX3_isKey cX3_isKey 1 (some .boolean), Cond.methodLink RX3 125 yX2_clear, Cond.instanceMethod yX2_clear, Cond.selects RX2 yX2_clear yX2_clear, Cond.initialized RX2, Cond.code yX2_clear cX2_clear 2 none]
def wsX3_find_r2 : List Cond := [Cond.fieldLink RX2 9 "JoinBlocks$ScoredSet" "members" "[Z", Cond.fieldLink RX2 19 "JoinBlocks$ScoredSet" "size" "I", Cond.methodLink RX3 128 yX3_isFound, Cond.instanceMethod yX3_isFound, Cond.selects RX3 yX3_isFound yX3_isFound, Cond.code yX3_isFound cX3_isFound 5 (some .boolean), Cond.fieldLink RX3 97 "JoinBlocks$Row" "tags" "[I", Cond.fieldLink RX3 94 "JoinBlocks$Row" "values" "[I", Cond.fieldLink RX3 90 "JoinBlocks$Row" "levels" "[I", Cond.fieldLink RX3 106 "JoinBlocks$Row" "keys" "[I", Cond.fieldLink RX3 100 "JoinBlocks$Row" "links" "[I", Cond.methodLink RX3 103 yX1_isRoot, Cond.instanceMethod yX1_isRoot, Cond.selects RX1 yX1_isRoot yX1_isRoot, Cond.initialized RX1, Cond.code yX1_isRoot cX1_isRoot 2 (some .boolean), Cond.fieldLink RX1 9 "JoinBlocks$Row" "levels" "[I", Cond.methodLink RX3 132 yX3_scoreFound, Cond.instanceMethod yX3_scoreFound, Cond.selects RX3 yX3_scoreFound yX3_scoreFound, Cond.code yX3_scoreFound cX3_scoreFound 4 (some .long), Cond.methodLink RX3 193 yJ6_bitCount_0f7a4, Cond.static yJ6_bitCount_0f7a4, Cond.initialized RJ6]
def wsX3_find_r3 : List Cond := [Cond.code yJ6_bitCount_0f7a4 cJ6_bitCount_0f7a4 1 (some .int), Cond.constant RJ6 265 (1431655765), Cond.constant RJ6 266 (858993459), Cond.constant RJ6 267 (252645135), Cond.methodLink RX3 136 yX2_put, Cond.instanceMethod yX2_put, Cond.selects RX2 yX2_put yX2_put, Cond.code yX2_put cX2_put 4 none, Cond.fieldLink RX2 15 "JoinBlocks$ScoredSet" "scores" "[J"]
def wsX3_find : List Cond := .code yX3_find cX3_find 6 (some .int) :: ((wsX3_find_r1 ++ (wsX3_find_r2 ++ wsX3_find_r3)) ++ wsX30 ++ wsX10 ++ wsX20)
def wsX3_join_r1 : List Cond := [Cond.fieldLink RX3 44 "JoinBlocks" "depth" "I", Cond.fieldLink RX3 25 "JoinBlocks" "stack" "[LJoinBlocks$ScoredSet;", Cond.fieldLink RX3 140 "JoinBlocks$ScoredSet" "size" "I", Cond.methodLink RX3 52 yX3_isWithin, Cond.static yX3_isWithin, Cond.initialized RX3, Cond.code yX3_isWithin cX3_isWithin 3 (some .boolean), Cond.methodLink RX3 141 yX2_keepCommon, Cond.instanceMethod yX2_keepCommon, Cond.selects RX2 yX2_keepCommon yX2_keepCommon, Cond.initialized RX2, Cond.code yX2_keepCommon cX2_keepCommon 3 none, Cond.fieldLink RX2 9 "JoinBlocks$ScoredSet" "members" "[Z", Cond.fieldLink RX2 15 "JoinBlocks$ScoredSet" "scores" "[J", Cond.methodLink RX2 30 yX2_remove, Cond.instanceMethod yX2_remove, Cond.selects RX2 yX2_remove yX2_remove, Cond.code yX2_remove cX2_remove 2 none, Cond.fieldLink RX2 19 "JoinBlocks$ScoredSet" "size" "I", Cond.methodLink RX2 27 yX2_add, Cond.instanceMethod yX2_add, Cond.selects RX2 yX2_add yX2_add, Cond.code yX2_add cX2_add 4 none, Cond.methodLink RX2 23 yX2_put]
def wsX3_join_r2 : List Cond := [Cond.instanceMethod yX2_put, Cond.selects RX2 yX2_put yX2_put, Cond.code yX2_put cX2_put 4 none, Cond.methodLink RX3 145 yX2_addAll, Cond.instanceMethod yX2_addAll, Cond.selects RX2 yX2_addAll yX2_addAll, Cond.code yX2_addAll cX2_addAll 3 none, Cond.methodLink RX3 148 yX2_removeAll, Cond.instanceMethod yX2_removeAll, Cond.selects RX2 yX2_removeAll yX2_removeAll, Cond.code yX2_removeAll cX2_removeAll 3 none]
def wsX3_join : List Cond := .code yX3_join cX3_join 4 (some .int) :: ((wsX3_join_r1 ++ wsX3_join_r2) ++ wsX30 ++ wsX20)
def wsX3_combine : List Cond := .code yX3_combine cX3_combine 5 (some .long) :: ([.methodLink RX3 202 Lib.MathLoose.max_long.x, .static Lib.MathLoose.max_long.x, .initialized "java/lang/Math", .code Lib.MathLoose.max_long.x Lib.MathLoose.max_long.code 4 (some .long), .methodLink RX3 208 Lib.MathLoose.min_long.x, .static Lib.MathLoose.min_long.x, .code Lib.MathLoose.min_long.x Lib.MathLoose.min_long.code 4 (some .long)])
def wsX3_gatherBelow_r1 : List Cond := [Cond.fieldLink RX3 20 "JoinBlocks" "row" "LJoinBlocks$Row;", Cond.fieldLink RX3 34 "JoinBlocks" "kin" "LJoinBlocks$ScoredSet;", Cond.fieldLink RX3 177 "JoinBlocks$ScoredSet" "scores" "[J", Cond.methodLink RX3 116 yX1_firstBelow, Cond.instanceMethod yX1_firstBelow, Cond.selects RX1 yX1_firstBelow yX1_firstBelow, Cond.initialized RX1, Cond.code yX1_firstBelow cX1_firstBelow 3 (some .int), Cond.fieldLink RX1 9 "JoinBlocks$Row" "levels" "[I", Cond.methodLink RX3 158 yX2_has, Cond.instanceMethod yX2_has, Cond.selects RX2 yX2_has yX2_has, Cond.initialized RX2, Cond.code yX2_has cX2_has 2 (some .boolean), Cond.fieldLink RX2 9 "JoinBlocks$ScoredSet" "members" "[Z", Cond.methodLink RX3 198 yX3_combine, Cond.static yX3_combine, Cond.initialized RX3, Cond.code yX3_combine cX3_combine 5 (some .long), Cond.methodLink RX3 202 Lib.MathLoose.max_long.x, Cond.static Lib.MathLoose.max_long.x, Cond.initialized "java/lang/Math", Cond.code Lib.MathLoose.max_long.x Lib.MathLoose.max_long.code 4 (some .long), Cond.methodLink RX3 208 Lib.MathLoose.min_long.x]
def wsX3_gatherBelow_r2 : List Cond := [Cond.static Lib.MathLoose.min_long.x, Cond.code Lib.MathLoose.min_long.x Lib.MathLoose.min_long.code 4 (some .long), Cond.methodLink RX3 136 yX2_put, Cond.instanceMethod yX2_put, Cond.selects RX2 yX2_put yX2_put, Cond.code yX2_put cX2_put 4 none, Cond.fieldLink RX2 19 "JoinBlocks$ScoredSet" "size" "I", Cond.fieldLink RX2 15 "JoinBlocks$ScoredSet" "scores" "[J"]
def wsX3_gatherBelow : List Cond := .code yX3_gatherBelow cX3_gatherBelow 10 none :: ((wsX3_gatherBelow_r1 ++ wsX3_gatherBelow_r2) ++ wsX30 ++ wsX20 ++ wsX10)
def wsX3_up_r1 : List Cond := [Cond.fieldLink RX3 44 "JoinBlocks" "depth" "I", Cond.fieldLink RX3 25 "JoinBlocks" "stack" "[LJoinBlocks$ScoredSet;", Cond.fieldLink RX3 34 "JoinBlocks" "kin" "LJoinBlocks$ScoredSet;", Cond.fieldLink RX3 48 "JoinBlocks" "wentUp" "Z", Cond.fieldLink RX3 20 "JoinBlocks" "row" "LJoinBlocks$Row;", Cond.fieldLink RX3 59 "JoinBlocks$Row" "size" "I", Cond.fieldLink RX3 90 "JoinBlocks$Row" "levels" "[I", Cond.fieldLink RX3 140 "JoinBlocks$ScoredSet" "size" "I", Cond.methodLink RX3 52 yX3_isWithin, Cond.static yX3_isWithin, Cond.initialized RX3, Cond.code yX3_isWithin cX3_isWithin 3 (some .boolean), Cond.methodLink RX3 151 yX2_moveTo, Cond.instanceMethod yX2_moveTo, Cond.selects RX2 yX2_moveTo yX2_moveTo, Cond.initialized RX2, Cond.code yX2_moveTo cX2_moveTo 2 none, Cond.methodLink RX2 34 yX2_clear, Cond.instanceMethod yX2_clear, Cond.selects RX2 yX2_clear yX2_clear, Cond.code yX2_clear cX2_clear 2 none, Cond.fieldLink RX2 9 "JoinBlocks$ScoredSet" "members" "[Z", Cond.fieldLink RX2 19 "JoinBlocks$ScoredSet" "size" "I", Cond.methodLink RX2 37 yX2_addAll]
def wsX3_up_r2 : List Cond := [Cond.instanceMethod yX2_addAll, Cond.selects RX2 yX2_addAll yX2_addAll, Cond.code yX2_addAll cX2_addAll 3 none, Cond.fieldLink RX2 15 "JoinBlocks$ScoredSet" "scores" "[J", Cond.methodLink RX2 27 yX2_add, Cond.instanceMethod yX2_add, Cond.selects RX2 yX2_add yX2_add, Cond.code yX2_add cX2_add 4 none, Cond.methodLink RX2 23 yX2_put, Cond.instanceMethod yX2_put, Cond.selects RX2 yX2_put yX2_put, Cond.code yX2_put cX2_put 4 none, Cond.methodLink RX3 154 yX3_gatherBelow, Cond.instanceMethod yX3_gatherBelow, Cond.selects RX3 yX3_gatherBelow yX3_gatherBelow, Cond.code yX3_gatherBelow cX3_gatherBelow 10 none, Cond.fieldLink RX3 177 "JoinBlocks$ScoredSet" "scores" "[J", Cond.methodLink RX3 116 yX1_firstBelow, Cond.instanceMethod yX1_firstBelow, Cond.selects RX1 yX1_firstBelow yX1_firstBelow, Cond.initialized RX1, Cond.code yX1_firstBelow cX1_firstBelow 3 (some .int), Cond.fieldLink RX1 9 "JoinBlocks$Row" "levels" "[I", Cond.methodLink RX3 158 yX2_has]
def wsX3_up_r3 : List Cond := [Cond.instanceMethod yX2_has, Cond.selects RX2 yX2_has yX2_has, Cond.code yX2_has cX2_has 2 (some .boolean), Cond.methodLink RX3 198 yX3_combine, Cond.static yX3_combine, Cond.code yX3_combine cX3_combine 5 (some .long), Cond.methodLink RX3 202 Lib.MathLoose.max_long.x, Cond.static Lib.MathLoose.max_long.x, Cond.initialized "java/lang/Math", Cond.code Lib.MathLoose.max_long.x Lib.MathLoose.max_long.code 4 (some .long), Cond.methodLink RX3 208 Lib.MathLoose.min_long.x, Cond.static Lib.MathLoose.min_long.x, Cond.code Lib.MathLoose.min_long.x Lib.MathLoose.min_long.code 4 (some .long), Cond.methodLink RX3 136 yX2_put]
def wsX3_up : List Cond := .code yX3_up cX3_up 5 (some .int) :: ((wsX3_up_r1 ++ (wsX3_up_r2 ++ wsX3_up_r3)) ++ wsX30 ++ wsX10 ++ wsX20)
def wsX3_spreadBelow : List Cond := .code yX3_spreadBelow cX3_spreadBelow 5 none :: ([.fieldLink RX3 20 "JoinBlocks" "row" "LJoinBlocks$Row;", .fieldLink RX3 90 "JoinBlocks$Row" "levels" "[I", .fieldLink RX3 30 "JoinBlocks" "taken" "LJoinBlocks$ScoredSet;", .fieldLink RX3 177 "JoinBlocks$ScoredSet" "scores" "[J", .methodLink RX3 116 yX1_firstBelow, .instanceMethod yX1_firstBelow, .selects RX1 yX1_firstBelow yX1_firstBelow, .initialized RX1, .code yX1_firstBelow cX1_firstBelow 3 (some .int), .fieldLink RX1 9 "JoinBlocks$Row" "levels" "[I", .methodLink RX3 211 yX2_add, .instanceMethod yX2_add, .selects RX2 yX2_add yX2_add, .initialized RX2, .code yX2_add cX2_add 4 none, .fieldLink RX2 9 "JoinBlocks$ScoredSet" "members" "[Z", .fieldLink RX2 15 "JoinBlocks$ScoredSet" "scores" "[J", .methodLink RX2 23 yX2_put, .instanceMethod yX2_put, .selects RX2 yX2_put yX2_put, .code yX2_put cX2_put 4 none, .fieldLink RX2 19 "JoinBlocks$ScoredSet" "size" "I"] ++ wsX30 ++ wsX10 ++ wsX20)
def wsX3_down_r1 : List Cond := [Cond.fieldLink RX3 44 "JoinBlocks" "depth" "I", Cond.fieldLink RX3 25 "JoinBlocks" "stack" "[LJoinBlocks$ScoredSet;", Cond.fieldLink RX3 30 "JoinBlocks" "taken" "LJoinBlocks$ScoredSet;", Cond.fieldLink RX3 20 "JoinBlocks" "row" "LJoinBlocks$Row;", Cond.fieldLink RX3 59 "JoinBlocks$Row" "size" "I", Cond.fieldLink RX3 140 "JoinBlocks$ScoredSet" "size" "I", Cond.methodLink RX3 52 yX3_isWithin, Cond.static yX3_isWithin, Cond.initialized RX3, Cond.code yX3_isWithin cX3_isWithin 3 (some .boolean), Cond.methodLink RX3 151 yX2_moveTo, Cond.instanceMethod yX2_moveTo, Cond.selects RX2 yX2_moveTo yX2_moveTo, Cond.initialized RX2, Cond.code yX2_moveTo cX2_moveTo 2 none, Cond.methodLink RX2 34 yX2_clear, Cond.instanceMethod yX2_clear, Cond.selects RX2 yX2_clear yX2_clear, Cond.code yX2_clear cX2_clear 2 none, Cond.fieldLink RX2 9 "JoinBlocks$ScoredSet" "members" "[Z", Cond.fieldLink RX2 19 "JoinBlocks$ScoredSet" "size" "I", Cond.methodLink RX2 37 yX2_addAll, Cond.instanceMethod yX2_addAll, Cond.selects RX2 yX2_addAll yX2_addAll]
def wsX3_down_r2 : List Cond := [Cond.code yX2_addAll cX2_addAll 3 none, Cond.fieldLink RX2 15 "JoinBlocks$ScoredSet" "scores" "[J", Cond.methodLink RX2 27 yX2_add, Cond.instanceMethod yX2_add, Cond.selects RX2 yX2_add yX2_add, Cond.code yX2_add cX2_add 4 none, Cond.methodLink RX2 23 yX2_put, Cond.instanceMethod yX2_put, Cond.selects RX2 yX2_put yX2_put, Cond.code yX2_put cX2_put 4 none, Cond.methodLink RX3 158 yX2_has, Cond.instanceMethod yX2_has, Cond.selects RX2 yX2_has yX2_has, Cond.code yX2_has cX2_has 2 (some .boolean), Cond.methodLink RX3 161 yX3_spreadBelow, Cond.instanceMethod yX3_spreadBelow, Cond.selects RX3 yX3_spreadBelow yX3_spreadBelow, Cond.code yX3_spreadBelow cX3_spreadBelow 5 none, Cond.fieldLink RX3 90 "JoinBlocks$Row" "levels" "[I", Cond.fieldLink RX3 177 "JoinBlocks$ScoredSet" "scores" "[J", Cond.methodLink RX3 116 yX1_firstBelow, Cond.instanceMethod yX1_firstBelow, Cond.selects RX1 yX1_firstBelow yX1_firstBelow, Cond.initialized RX1]
def wsX3_down_r3 : List Cond := [Cond.code yX1_firstBelow cX1_firstBelow 3 (some .int), Cond.fieldLink RX1 9 "JoinBlocks$Row" "levels" "[I", Cond.methodLink RX3 211 yX2_add]
def wsX3_down : List Cond := .code yX3_down cX3_down 4 (some .int) :: ((wsX3_down_r1 ++ (wsX3_down_r2 ++ wsX3_down_r3)) ++ wsX30 ++ wsX10 ++ wsX20)
def wsX3_spreadToLinked : List Cond := .code yX3_spreadToLinked cX3_spreadToLinked 4 none :: ([.fieldLink RX3 20 "JoinBlocks" "row" "LJoinBlocks$Row;", .fieldLink RX3 59 "JoinBlocks$Row" "size" "I", .fieldLink RX3 112 "JoinBlocks$Row" "living" "[Z", .fieldLink RX3 100 "JoinBlocks$Row" "links" "[I", .fieldLink RX3 106 "JoinBlocks$Row" "keys" "[I", .fieldLink RX3 30 "JoinBlocks" "taken" "LJoinBlocks$ScoredSet;", .fieldLink RX3 177 "JoinBlocks$ScoredSet" "scores" "[J", .methodLink RX3 136 yX2_put, .instanceMethod yX2_put, .selects RX2 yX2_put yX2_put, .initialized RX2, .code yX2_put cX2_put 4 none, .fieldLink RX2 9 "JoinBlocks$ScoredSet" "members" "[Z", .fieldLink RX2 19 "JoinBlocks$ScoredSet" "size" "I", .fieldLink RX2 15 "JoinBlocks$ScoredSet" "scores" "[J"] ++ wsX30 ++ wsX10 ++ wsX20)
def wsX3_over_r1 : List Cond := [Cond.fieldLink RX3 44 "JoinBlocks" "depth" "I", Cond.fieldLink RX3 25 "JoinBlocks" "stack" "[LJoinBlocks$ScoredSet;", Cond.fieldLink RX3 30 "JoinBlocks" "taken" "LJoinBlocks$ScoredSet;", Cond.fieldLink RX3 20 "JoinBlocks" "row" "LJoinBlocks$Row;", Cond.fieldLink RX3 59 "JoinBlocks$Row" "size" "I", Cond.fieldLink RX3 140 "JoinBlocks$ScoredSet" "size" "I", Cond.methodLink RX3 151 yX2_moveTo, Cond.instanceMethod yX2_moveTo, Cond.selects RX2 yX2_moveTo yX2_moveTo, Cond.initialized RX2, Cond.code yX2_moveTo cX2_moveTo 2 none, Cond.methodLink RX2 34 yX2_clear, Cond.instanceMethod yX2_clear, Cond.selects RX2 yX2_clear yX2_clear, Cond.code yX2_clear cX2_clear 2 none, Cond.fieldLink RX2 9 "JoinBlocks$ScoredSet" "members" "[Z", Cond.fieldLink RX2 19 "JoinBlocks$ScoredSet" "size" "I", Cond.methodLink RX2 37 yX2_addAll, Cond.instanceMethod yX2_addAll, Cond.selects RX2 yX2_addAll yX2_addAll, Cond.code yX2_addAll cX2_addAll 3 none, Cond.fieldLink RX2 15 "JoinBlocks$ScoredSet" "scores" "[J", Cond.methodLink RX2 27 yX2_add, Cond.instanceMethod yX2_add]
def wsX3_over_r2 : List Cond := [Cond.selects RX2 yX2_add yX2_add, Cond.code yX2_add cX2_add 4 none, Cond.methodLink RX2 23 yX2_put, Cond.instanceMethod yX2_put, Cond.selects RX2 yX2_put yX2_put, Cond.code yX2_put cX2_put 4 none, Cond.methodLink RX3 158 yX2_has, Cond.instanceMethod yX2_has, Cond.selects RX2 yX2_has yX2_has, Cond.code yX2_has cX2_has 2 (some .boolean), Cond.methodLink RX3 103 yX1_isRoot, Cond.instanceMethod yX1_isRoot, Cond.selects RX1 yX1_isRoot yX1_isRoot, Cond.initialized RX1, Cond.code yX1_isRoot cX1_isRoot 2 (some .boolean), Cond.fieldLink RX1 9 "JoinBlocks$Row" "levels" "[I", Cond.methodLink RX3 164 yX3_spreadToLinked, Cond.instanceMethod yX3_spreadToLinked, Cond.selects RX3 yX3_spreadToLinked yX3_spreadToLinked, Cond.initialized RX3, Cond.code yX3_spreadToLinked cX3_spreadToLinked 4 none, Cond.fieldLink RX3 112 "JoinBlocks$Row" "living" "[Z", Cond.fieldLink RX3 100 "JoinBlocks$Row" "links" "[I", Cond.fieldLink RX3 106 "JoinBlocks$Row" "keys" "[I"]
def wsX3_over_r3 : List Cond := [Cond.fieldLink RX3 177 "JoinBlocks$ScoredSet" "scores" "[J", Cond.methodLink RX3 136 yX2_put]
def wsX3_over : List Cond := .code yX3_over cX3_over 3 (some .int) :: ((wsX3_over_r1 ++ (wsX3_over_r2 ++ wsX3_over_r3)) ++ wsX30 ++ wsX10 ++ wsX20)
def wsX3_again : List Cond := .code yX3_again cX3_again 2 (some .int) :: ([.fieldLink RX3 44 "JoinBlocks" "depth" "I", .fieldLink RX3 25 "JoinBlocks" "stack" "[LJoinBlocks$ScoredSet;", .methodLink RX3 125 yX2_clear, .instanceMethod yX2_clear, .selects RX2 yX2_clear yX2_clear, .initialized RX2, .code yX2_clear cX2_clear 2 none, .fieldLink RX2 9 "JoinBlocks$ScoredSet" "members" "[Z", .fieldLink RX2 19 "JoinBlocks$ScoredSet" "size" "I", .methodLink RX3 145 yX2_addAll, .instanceMethod yX2_addAll, .selects RX2 yX2_addAll yX2_addAll, .code yX2_addAll cX2_addAll 3 none, .fieldLink RX2 15 "JoinBlocks$ScoredSet" "scores" "[J", .methodLink RX2 27 yX2_add, .instanceMethod yX2_add, .selects RX2 yX2_add yX2_add, .code yX2_add cX2_add 4 none, .methodLink RX2 23 yX2_put, .instanceMethod yX2_put, .selects RX2 yX2_put yX2_put, .code yX2_put cX2_put 4 none] ++ wsX30 ++ wsX20)
def wsX3_pop : List Cond := .code yX3_pop cX3_pop 1 (some .int) :: ([.fieldLink RX3 44 "JoinBlocks" "depth" "I"] ++ wsX30)
def wsX3_answerRanked : List Cond := .code yX3_answerRanked cX3_answerRanked 2 (some .int) :: ([.fieldLink RX3 40 "JoinBlocks" "ranking" "LJoinBlocks$Ranking;", .fieldLink RX3 214 "JoinBlocks$Ranking" "size" "I", .fieldLink RX3 215 "JoinBlocks$Ranking" "numbers" "[I"] ++ wsX30 ++ wsX00)
def wsX3_hit_r1 : List Cond := [Cond.fieldLink RX3 44 "JoinBlocks" "depth" "I", Cond.fieldLink RX3 40 "JoinBlocks" "ranking" "LJoinBlocks$Ranking;", Cond.fieldLink RX3 25 "JoinBlocks" "stack" "[LJoinBlocks$ScoredSet;", Cond.fieldLink RX3 20 "JoinBlocks" "row" "LJoinBlocks$Row;", Cond.fieldLink RX3 59 "JoinBlocks$Row" "size" "I", Cond.methodLink RX3 168 yX0_rank, Cond.instanceMethod yX0_rank, Cond.selects RX0 yX0_rank yX0_rank, Cond.initialized RX0, Cond.code yX0_rank cX0_rank 5 none, Cond.fieldLink RX0 18 "JoinBlocks$Ranking" "size" "I", Cond.fieldLink RX0 9 "JoinBlocks$Ranking" "numbers" "[I", Cond.methodLink RX0 22 yX2_has, Cond.instanceMethod yX2_has, Cond.selects RX2 yX2_has yX2_has, Cond.initialized RX2, Cond.code yX2_has cX2_has 2 (some .boolean), Cond.fieldLink RX2 9 "JoinBlocks$ScoredSet" "members" "[Z", Cond.methodLink RX0 28 yX0_mergeRuns, Cond.instanceMethod yX0_mergeRuns, Cond.selects RX0 yX0_mergeRuns yX0_mergeRuns, Cond.code yX0_mergeRuns cX0_mergeRuns 6 none, Cond.methodLink RX0 32 Lib.Math.min.name, Cond.static Lib.Math.min.name]
def wsX3_hit_r2 : List Cond := [Cond.initialized "java/lang/Math", Cond.code Lib.Math.min.name Lib.Math.min.code 2 (some .int), Cond.fieldLink RX0 15 "JoinBlocks$Ranking" "merged" "[I", Cond.methodLink RX0 42 arraycopyName, Cond.native arraycopyName, Cond.static arraycopyName, Cond.initialized "java/lang/System", Cond.methodLink RX0 38 yX0_mergeTwo, Cond.instanceMethod yX0_mergeTwo, Cond.selects RX0 yX0_mergeTwo yX0_mergeTwo, Cond.code yX0_mergeTwo cX0_mergeTwo 9 none, Cond.fieldLink RX0 48 "JoinBlocks$ScoredSet" "scores" "[J", Cond.methodLink RX3 172 yX3_answerRanked, Cond.instanceMethod yX3_answerRanked, Cond.selects RX3 yX3_answerRanked yX3_answerRanked, Cond.initialized RX3, Cond.code yX3_answerRanked cX3_answerRanked 2 (some .int), Cond.fieldLink RX3 214 "JoinBlocks$Ranking" "size" "I", Cond.fieldLink RX3 215 "JoinBlocks$Ranking" "numbers" "[I"]
def wsX3_hit : List Cond := .code yX3_hit cX3_hit 2 (some .int) :: ((wsX3_hit_r1 ++ wsX3_hit_r2) ++ wsX30 ++ wsX10 ++ wsX00 ++ wsX20)
def wsX3_score : List Cond := .code yX3_score cX3_score 3 (some .long) :: ([.fieldLink RX3 44 "JoinBlocks" "depth" "I", .constantLong RX3 175 (-9223372036854775808), .fieldLink RX3 25 "JoinBlocks" "stack" "[LJoinBlocks$ScoredSet;", .fieldLink RX3 177 "JoinBlocks$ScoredSet" "scores" "[J", .methodLink RX3 158 yX2_has, .instanceMethod yX2_has, .selects RX2 yX2_has yX2_has, .initialized RX2, .code yX2_has cX2_has 2 (some .boolean), .fieldLink RX2 9 "JoinBlocks$ScoredSet" "members" "[Z"] ++ wsX30 ++ wsX20)
def wsX3_family_r1 : List Cond := [Cond.fieldLink RX3 48 "JoinBlocks" "wentUp" "Z", Cond.fieldLink RX3 20 "JoinBlocks" "row" "LJoinBlocks$Row;", Cond.fieldLink RX3 40 "JoinBlocks" "ranking" "LJoinBlocks$Ranking;", Cond.fieldLink RX3 34 "JoinBlocks" "kin" "LJoinBlocks$ScoredSet;", Cond.methodLink RX3 87 yX1_holds, Cond.instanceMethod yX1_holds, Cond.selects RX1 yX1_holds yX1_holds, Cond.initialized RX1, Cond.code yX1_holds cX1_holds 2 (some .boolean), Cond.fieldLink RX1 31 "JoinBlocks$Row" "size" "I", Cond.methodLink RX3 116 yX1_firstBelow, Cond.instanceMethod yX1_firstBelow, Cond.selects RX1 yX1_firstBelow yX1_firstBelow, Cond.code yX1_firstBelow cX1_firstBelow 3 (some .int), Cond.fieldLink RX1 9 "JoinBlocks$Row" "levels" "[I", Cond.methodLink RX3 168 yX0_rank, Cond.instanceMethod yX0_rank, Cond.selects RX0 yX0_rank yX0_rank, Cond.initialized RX0, Cond.code yX0_rank cX0_rank 5 none, Cond.fieldLink RX0 18 "JoinBlocks$Ranking" "size" "I", Cond.fieldLink RX0 9 "JoinBlocks$Ranking" "numbers" "[I", Cond.methodLink RX0 22 yX2_has, Cond.instanceMethod yX2_has]
def wsX3_family_r2 : List Cond := [Cond.selects RX2 yX2_has yX2_has, Cond.initialized RX2, Cond.code yX2_has cX2_has 2 (some .boolean), Cond.fieldLink RX2 9 "JoinBlocks$ScoredSet" "members" "[Z", Cond.methodLink RX0 28 yX0_mergeRuns, Cond.instanceMethod yX0_mergeRuns, Cond.selects RX0 yX0_mergeRuns yX0_mergeRuns, Cond.code yX0_mergeRuns cX0_mergeRuns 6 none, Cond.methodLink RX0 32 Lib.Math.min.name, Cond.static Lib.Math.min.name, Cond.initialized "java/lang/Math", Cond.code Lib.Math.min.name Lib.Math.min.code 2 (some .int), Cond.fieldLink RX0 15 "JoinBlocks$Ranking" "merged" "[I", Cond.methodLink RX0 42 arraycopyName, Cond.native arraycopyName, Cond.static arraycopyName, Cond.initialized "java/lang/System", Cond.methodLink RX0 38 yX0_mergeTwo, Cond.instanceMethod yX0_mergeTwo, Cond.selects RX0 yX0_mergeTwo yX0_mergeTwo, Cond.code yX0_mergeTwo cX0_mergeTwo 9 none, Cond.fieldLink RX0 48 "JoinBlocks$ScoredSet" "scores" "[J", Cond.methodLink RX3 172 yX3_answerRanked, Cond.instanceMethod yX3_answerRanked]
def wsX3_family_r3 : List Cond := [Cond.selects RX3 yX3_answerRanked yX3_answerRanked, Cond.initialized RX3, Cond.code yX3_answerRanked cX3_answerRanked 2 (some .int), Cond.fieldLink RX3 214 "JoinBlocks$Ranking" "size" "I", Cond.fieldLink RX3 215 "JoinBlocks$Ranking" "numbers" "[I"]
def wsX3_family : List Cond := .code yX3_family cX3_family 3 (some .int) :: ((wsX3_family_r1 ++ (wsX3_family_r2 ++ wsX3_family_r3)) ++ wsX30 ++ wsX10 ++ wsX00 ++ wsX20)
def wsX3_share : List Cond := .code yX3_share cX3_share 2 (some .long) :: ([.classLink RX3 181 "java/lang/ArithmeticException", .initialized "java/lang/ArithmeticException", .fieldLink RX3 44 "JoinBlocks" "depth" "I", .constantLong RX3 175 (-9223372036854775808), .fieldLink RX3 25 "JoinBlocks" "stack" "[LJoinBlocks$ScoredSet;", .fieldLink RX3 140 "JoinBlocks$ScoredSet" "size" "I", .constantLong RX3 188 (1000)] ++ wsX30 ++ wsX20 ++ (vx_atS RX3 185 "java/lang/ArithmeticException" ["java/lang/RuntimeException", "java/lang/Exception"]).filter goodWord)
def wsX4_init : List Cond := .code yX4_init cX4_init 1 none :: ([.methodLink RX4 1 objectInit, .instanceMethod objectInit, .code objectInit ⟨#[0xb1]⟩ 1 none, .arrayClass .int, .fieldLink RX4 7 "JoinBlocksModel" "level" "[I", .fieldLink RX4 13 "JoinBlocksModel" "value" "[I", .fieldLink RX4 16 "JoinBlocksModel" "tags" "[I", .fieldLink RX4 19 "JoinBlocksModel" "link" "[I", .fieldLink RX4 22 "JoinBlocksModel" "key" "[I", .arrayClass .boolean, .fieldLink RX4 25 "JoinBlocksModel" "lives" "[Z", .fieldLink RX4 29 "JoinBlocksModel" "open" "[I", .fieldLink RX4 32 "JoinBlocksModel" "in" "[Z", .arrayClass .long, .fieldLink RX4 35 "JoinBlocksModel" "scores" "[J", .fieldLink RX4 39 "JoinBlocksModel" "was" "[Z", .fieldLink RX4 42 "JoinBlocksModel" "had" "[J"] ++ wsX40)
def wsX4_thrown : List Cond := .code yX4_thrown cX4_thrown 1 (some .int) :: ([.fieldLink RX4 45 "JoinBlocksModel" "thrown" "I"] ++ wsX40)
def wsX4_isIn : List Cond := .code yX4_isIn cX4_isIn 3 (some .boolean) :: ([])
def wsX4_isObject : List Cond := .code yX4_isObject cX4_isObject 2 (some .boolean) :: ([.fieldLink RX4 49 "JoinBlocksModel" "objects" "I", .methodLink RX4 52 yX4_isIn, .static yX4_isIn, .initialized RX4, .code yX4_isIn cX4_isIn 3 (some .boolean)] ++ wsX40)
def wsX4_child : List Cond := .code yX4_child cX4_child 5 (some .int) :: ([.fieldLink RX4 45 "JoinBlocksModel" "thrown" "I", .fieldLink RX4 56 "JoinBlocksModel" "opened" "I", .fieldLink RX4 29 "JoinBlocksModel" "open" "[I", .methodLink RX4 52 yX4_isIn, .static yX4_isIn, .initialized RX4, .code yX4_isIn cX4_isIn 3 (some .boolean)] ++ wsX40)
def wsX4_stand : List Cond := .code yX4_stand cX4_stand 7 none :: ([.fieldLink RX4 7 "JoinBlocksModel" "level" "[I", .fieldLink RX4 49 "JoinBlocksModel" "objects" "I", .fieldLink RX4 13 "JoinBlocksModel" "value" "[I", .fieldLink RX4 16 "JoinBlocksModel" "tags" "[I", .fieldLink RX4 19 "JoinBlocksModel" "link" "[I", .fieldLink RX4 22 "JoinBlocksModel" "key" "[I", .fieldLink RX4 25 "JoinBlocksModel" "lives" "[Z", .fieldLink RX4 32 "JoinBlocksModel" "in" "[Z"] ++ wsX40)
def wsX4_rootOf : List Cond := .code yX4_rootOf cX4_rootOf 3 (some .int) :: ([.fieldLink RX4 49 "JoinBlocksModel" "objects" "I", .fieldLink RX4 25 "JoinBlocksModel" "lives" "[Z", .fieldLink RX4 7 "JoinBlocksModel" "level" "[I", .fieldLink RX4 22 "JoinBlocksModel" "key" "[I"] ++ wsX40)
def wsX4_empty : List Cond := .code yX4_empty cX4_empty 1 none :: ([.fieldLink RX4 59 "JoinBlocksModel" "sets" "I", .fieldLink RX4 62 "JoinBlocksModel" "hasFamily" "Z"] ++ wsX40)
def wsX4_die : List Cond := .code yX4_die cX4_die 4 (some .int) :: ([.fieldLink RX4 7 "JoinBlocksModel" "level" "[I", .fieldLink RX4 25 "JoinBlocksModel" "lives" "[Z", .methodLink RX4 66 yX4_empty, .instanceMethod yX4_empty, .selects RX4 yX4_empty yX4_empty, .initialized RX4, .code yX4_empty cX4_empty 1 none, .fieldLink RX4 59 "JoinBlocksModel" "sets" "I", .fieldLink RX4 62 "JoinBlocksModel" "hasFamily" "Z"] ++ wsX40)
def wsX4_close_r1 : List Cond := [Cond.fieldLink RX4 45 "JoinBlocksModel" "thrown" "I", Cond.fieldLink RX4 49 "JoinBlocksModel" "objects" "I", Cond.fieldLink RX4 56 "JoinBlocksModel" "opened" "I", Cond.fieldLink RX4 29 "JoinBlocksModel" "open" "[I", Cond.methodLink RX4 52 yX4_isIn, Cond.static yX4_isIn, Cond.initialized RX4, Cond.code yX4_isIn cX4_isIn 3 (some .boolean), Cond.methodLink RX4 69 yX4_rootOf, Cond.instanceMethod yX4_rootOf, Cond.selects RX4 yX4_rootOf yX4_rootOf, Cond.code yX4_rootOf cX4_rootOf 3 (some .int), Cond.fieldLink RX4 25 "JoinBlocksModel" "lives" "[Z", Cond.fieldLink RX4 7 "JoinBlocksModel" "level" "[I", Cond.fieldLink RX4 22 "JoinBlocksModel" "key" "[I", Cond.methodLink RX4 73 yX4_die, Cond.instanceMethod yX4_die, Cond.selects RX4 yX4_die yX4_die, Cond.code yX4_die cX4_die 4 (some .int), Cond.methodLink RX4 66 yX4_empty, Cond.instanceMethod yX4_empty, Cond.selects RX4 yX4_empty yX4_empty, Cond.code yX4_empty cX4_empty 1 none, Cond.fieldLink RX4 59 "JoinBlocksModel" "sets" "I"]
def wsX4_close_r2 : List Cond := [Cond.fieldLink RX4 62 "JoinBlocksModel" "hasFamily" "Z", Cond.methodLink RX4 76 yX4_stand, Cond.instanceMethod yX4_stand, Cond.selects RX4 yX4_stand yX4_stand, Cond.code yX4_stand cX4_stand 7 none, Cond.fieldLink RX4 13 "JoinBlocksModel" "value" "[I", Cond.fieldLink RX4 16 "JoinBlocksModel" "tags" "[I", Cond.fieldLink RX4 19 "JoinBlocksModel" "link" "[I", Cond.fieldLink RX4 32 "JoinBlocksModel" "in" "[Z"]
def wsX4_close : List Cond := .code yX4_close cX4_close 7 (some .int) :: ((wsX4_close_r1 ++ wsX4_close_r2) ++ wsX40)
def wsX4_drop : List Cond := .code yX4_drop cX4_drop 2 (some .int) :: ([.fieldLink RX4 45 "JoinBlocksModel" "thrown" "I", .fieldLink RX4 56 "JoinBlocksModel" "opened" "I"] ++ wsX40)
def wsX4_kill : List Cond := .code yX4_kill cX4_kill 3 (some .int) :: ([.fieldLink RX4 45 "JoinBlocksModel" "thrown" "I", .methodLink RX4 69 yX4_rootOf, .instanceMethod yX4_rootOf, .selects RX4 yX4_rootOf yX4_rootOf, .initialized RX4, .code yX4_rootOf cX4_rootOf 3 (some .int), .fieldLink RX4 49 "JoinBlocksModel" "objects" "I", .fieldLink RX4 25 "JoinBlocksModel" "lives" "[Z", .fieldLink RX4 7 "JoinBlocksModel" "level" "[I", .fieldLink RX4 22 "JoinBlocksModel" "key" "[I", .methodLink RX4 73 yX4_die, .instanceMethod yX4_die, .selects RX4 yX4_die yX4_die, .code yX4_die cX4_die 4 (some .int), .methodLink RX4 66 yX4_empty, .instanceMethod yX4_empty, .selects RX4 yX4_empty yX4_empty, .code yX4_empty cX4_empty 1 none, .fieldLink RX4 59 "JoinBlocksModel" "sets" "I", .fieldLink RX4 62 "JoinBlocksModel" "hasFamily" "Z"] ++ wsX40)
def wsX4_merge : List Cond := .code yX4_merge cX4_merge 3 (some .int) :: ([.fieldLink RX4 45 "JoinBlocksModel" "thrown" "I", .fieldLink RX4 49 "JoinBlocksModel" "objects" "I", .fieldLink RX4 25 "JoinBlocksModel" "lives" "[Z", .fieldLink RX4 7 "JoinBlocksModel" "level" "[I", .fieldLink RX4 13 "JoinBlocksModel" "value" "[I", .fieldLink RX4 16 "JoinBlocksModel" "tags" "[I", .fieldLink RX4 19 "JoinBlocksModel" "link" "[I", .fieldLink RX4 22 "JoinBlocksModel" "key" "[I", .methodLink RX4 66 yX4_empty, .instanceMethod yX4_empty, .selects RX4 yX4_empty yX4_empty, .initialized RX4, .code yX4_empty cX4_empty 1 none, .fieldLink RX4 59 "JoinBlocksModel" "sets" "I", .fieldLink RX4 62 "JoinBlocksModel" "hasFamily" "Z"] ++ wsX40)
def wsX4_parent : List Cond := .code yX4_parent cX4_parent 3 (some .int) :: ([.fieldLink RX4 7 "JoinBlocksModel" "level" "[I"] ++ wsX40)
def wsX4_isAbove : List Cond := .code yX4_isAbove cX4_isAbove 4 (some .boolean) :: ([.methodLink RX4 80 yX4_parent, .instanceMethod yX4_parent, .selects RX4 yX4_parent yX4_parent, .initialized RX4, .code yX4_parent cX4_parent 3 (some .int), .fieldLink RX4 7 "JoinBlocksModel" "level" "[I"] ++ wsX40)
def wsX4_belowOf : List Cond := .code yX4_belowOf cX4_belowOf 4 (some .int) :: ([.fieldLink RX4 49 "JoinBlocksModel" "objects" "I", .methodLink RX4 83 yX4_isAbove, .instanceMethod yX4_isAbove, .selects RX4 yX4_isAbove yX4_isAbove, .initialized RX4, .code yX4_isAbove cX4_isAbove 4 (some .boolean), .methodLink RX4 80 yX4_parent, .instanceMethod yX4_parent, .selects RX4 yX4_parent yX4_parent, .code yX4_parent cX4_parent 3 (some .int), .fieldLink RX4 7 "JoinBlocksModel" "level" "[I"] ++ wsX40)
def wsX4_object_r1 : List Cond := [Cond.fieldLink RX4 45 "JoinBlocksModel" "thrown" "I", Cond.fieldLink RX4 7 "JoinBlocksModel" "level" "[I", Cond.fieldLink RX4 13 "JoinBlocksModel" "value" "[I", Cond.fieldLink RX4 16 "JoinBlocksModel" "tags" "[I", Cond.fieldLink RX4 19 "JoinBlocksModel" "link" "[I", Cond.fieldLink RX4 22 "JoinBlocksModel" "key" "[I", Cond.fieldLink RX4 25 "JoinBlocksModel" "lives" "[Z", Cond.methodLink RX4 87 yX4_isObject, Cond.instanceMethod yX4_isObject, Cond.selects RX4 yX4_isObject yX4_isObject, Cond.initialized RX4, Cond.code yX4_isObject cX4_isObject 2 (some .boolean), Cond.fieldLink RX4 49 "JoinBlocksModel" "objects" "I", Cond.methodLink RX4 52 yX4_isIn, Cond.static yX4_isIn, Cond.code yX4_isIn cX4_isIn 3 (some .boolean), Cond.methodLink RX4 80 yX4_parent, Cond.instanceMethod yX4_parent, Cond.selects RX4 yX4_parent yX4_parent, Cond.code yX4_parent cX4_parent 3 (some .int), Cond.methodLink RX4 91 yX4_belowOf, Cond.instanceMethod yX4_belowOf, Cond.selects RX4 yX4_belowOf yX4_belowOf, Cond.code yX4_belowOf cX4_belowOf 4 (some .int)]
def wsX4_object_r2 : List Cond := [Cond.methodLink RX4 83 yX4_isAbove, Cond.instanceMethod yX4_isAbove, Cond.selects RX4 yX4_isAbove yX4_isAbove, Cond.code yX4_isAbove cX4_isAbove 4 (some .boolean)]
def wsX4_object : List Cond := .code yX4_object cX4_object 3 (some .int) :: ((wsX4_object_r1 ++ wsX4_object_r2) ++ wsX40)
def wsX4_count : List Cond := .code yX4_count cX4_count 5 (some .int) :: ([.fieldLink RX4 45 "JoinBlocksModel" "thrown" "I", .fieldLink RX4 49 "JoinBlocksModel" "objects" "I", .fieldLink RX4 25 "JoinBlocksModel" "lives" "[Z", .fieldLink RX4 7 "JoinBlocksModel" "level" "[I", .fieldLink RX4 56 "JoinBlocksModel" "opened" "I", .fieldLink RX4 59 "JoinBlocksModel" "sets" "I", .methodLink RX4 52 yX4_isIn, .static yX4_isIn, .initialized RX4, .code yX4_isIn cX4_isIn 3 (some .boolean)] ++ wsX40)
def wsX4_root : List Cond := .code yX4_root cX4_root 2 (some .int) :: ([.fieldLink RX4 45 "JoinBlocksModel" "thrown" "I", .methodLink RX4 69 yX4_rootOf, .instanceMethod yX4_rootOf, .selects RX4 yX4_rootOf yX4_rootOf, .initialized RX4, .code yX4_rootOf cX4_rootOf 3 (some .int), .fieldLink RX4 49 "JoinBlocksModel" "objects" "I", .fieldLink RX4 25 "JoinBlocksModel" "lives" "[Z", .fieldLink RX4 7 "JoinBlocksModel" "level" "[I", .fieldLink RX4 22 "JoinBlocksModel" "key" "[I"] ++ wsX40)
def wsX4_sizeOf : List Cond := .code yX4_sizeOf cX4_sizeOf 4 (some .int) :: ([.fieldLink RX4 49 "JoinBlocksModel" "objects" "I", .fieldLink RX4 32 "JoinBlocksModel" "in" "[Z"] ++ wsX40)
def wsX4_bits : List Cond := .code yX4_bits cX4_bits 3 (some .int) :: ([])
def wsX4_mayBeFound : List Cond := .code yX4_mayBeFound cX4_mayBeFound 3 (some .boolean) :: ([.methodLink RX4 52 yX4_isIn, .static yX4_isIn, .initialized RX4, .code yX4_isIn cX4_isIn 3 (some .boolean)])
def wsX4_isFound : List Cond := .code yX4_isFound cX4_isFound 5 (some .boolean) :: ([.fieldLink RX4 16 "JoinBlocksModel" "tags" "[I", .fieldLink RX4 13 "JoinBlocksModel" "value" "[I", .fieldLink RX4 7 "JoinBlocksModel" "level" "[I", .fieldLink RX4 22 "JoinBlocksModel" "key" "[I", .fieldLink RX4 19 "JoinBlocksModel" "link" "[I", .methodLink RX4 52 yX4_isIn, .static yX4_isIn, .initialized RX4, .code yX4_isIn cX4_isIn 3 (some .boolean)] ++ wsX40)
def wsX4_find_r1 : List Cond := [Cond.fieldLink RX4 45 "JoinBlocksModel" "thrown" "I", Cond.fieldLink RX4 59 "JoinBlocksModel" "sets" "I", Cond.fieldLink RX4 49 "JoinBlocksModel" "objects" "I", Cond.fieldLink RX4 32 "JoinBlocksModel" "in" "[Z", Cond.fieldLink RX4 25 "JoinBlocksModel" "lives" "[Z", Cond.fieldLink RX4 35 "JoinBlocksModel" "scores" "[J", Cond.fieldLink RX4 13 "JoinBlocksModel" "value" "[I", Cond.methodLink RX4 94 yX4_mayBeFound, Cond.static yX4_mayBeFound, Cond.initialized RX4, Cond.code yX4_mayBeFound cX4_mayBeFound 3 (some .boolean), Cond.methodLink RX4 52 yX4_isIn, Cond.static yX4_isIn, Cond.code yX4_isIn cX4_isIn 3 (some .boolean), Cond.methodLink RX4 97 yX4_isFound, Cond.instanceMethod yX4_isFound, Cond.selects RX4 yX4_isFound yX4_isFound, Cond.code yX4_isFound cX4_isFound 5 (some .boolean), Cond.fieldLink RX4 16 "JoinBlocksModel" "tags" "[I", Cond.fieldLink RX4 7 "JoinBlocksModel" "level" "[I", Cond.fieldLink RX4 22 "JoinBlocksModel" "key" "[I", Cond.fieldLink RX4 19 "JoinBlocksModel" "link" "[I", Cond.methodLink RX4 101 yX4_bits, Cond.static yX4_bits]
def wsX4_find_r2 : List Cond := [Cond.code yX4_bits cX4_bits 3 (some .int), Cond.methodLink RX4 104 yX4_sizeOf, Cond.instanceMethod yX4_sizeOf, Cond.selects RX4 yX4_sizeOf yX4_sizeOf, Cond.code yX4_sizeOf cX4_sizeOf 4 (some .int)]
def wsX4_find : List Cond := .code yX4_find cX4_find 5 (some .int) :: ((wsX4_find_r1 ++ wsX4_find_r2) ++ wsX40)
def wsX4_join : List Cond := .code yX4_join cX4_join 7 (some .int) :: ([.fieldLink RX4 45 "JoinBlocksModel" "thrown" "I", .fieldLink RX4 59 "JoinBlocksModel" "sets" "I", .fieldLink RX4 49 "JoinBlocksModel" "objects" "I", .fieldLink RX4 32 "JoinBlocksModel" "in" "[Z", .fieldLink RX4 35 "JoinBlocksModel" "scores" "[J", .methodLink RX4 52 yX4_isIn, .static yX4_isIn, .initialized RX4, .code yX4_isIn cX4_isIn 3 (some .boolean), .methodLink RX4 104 yX4_sizeOf, .instanceMethod yX4_sizeOf, .selects RX4 yX4_sizeOf yX4_sizeOf, .code yX4_sizeOf cX4_sizeOf 4 (some .int)] ++ wsX40)
def wsX4_takeLast : List Cond := .code yX4_takeLast cX4_takeLast 3 none :: ([.fieldLink RX4 59 "JoinBlocksModel" "sets" "I", .fieldLink RX4 49 "JoinBlocksModel" "objects" "I", .fieldLink RX4 39 "JoinBlocksModel" "was" "[Z", .fieldLink RX4 32 "JoinBlocksModel" "in" "[Z", .fieldLink RX4 42 "JoinBlocksModel" "had" "[J", .fieldLink RX4 35 "JoinBlocksModel" "scores" "[J"] ++ wsX40)
def wsX4_up_r1 : List Cond := [Cond.fieldLink RX4 45 "JoinBlocksModel" "thrown" "I", Cond.fieldLink RX4 59 "JoinBlocksModel" "sets" "I", Cond.fieldLink RX4 62 "JoinBlocksModel" "hasFamily" "Z", Cond.fieldLink RX4 49 "JoinBlocksModel" "objects" "I", Cond.fieldLink RX4 32 "JoinBlocksModel" "in" "[Z", Cond.fieldLink RX4 39 "JoinBlocksModel" "was" "[Z", Cond.fieldLink RX4 35 "JoinBlocksModel" "scores" "[J", Cond.fieldLink RX4 42 "JoinBlocksModel" "had" "[J", Cond.fieldLink RX4 7 "JoinBlocksModel" "level" "[I", Cond.methodLink RX4 52 yX4_isIn, Cond.static yX4_isIn, Cond.initialized RX4, Cond.code yX4_isIn cX4_isIn 3 (some .boolean), Cond.methodLink RX4 107 yX4_takeLast, Cond.instanceMethod yX4_takeLast, Cond.selects RX4 yX4_takeLast yX4_takeLast, Cond.code yX4_takeLast cX4_takeLast 3 none, Cond.methodLink RX4 83 yX4_isAbove, Cond.instanceMethod yX4_isAbove, Cond.selects RX4 yX4_isAbove yX4_isAbove, Cond.code yX4_isAbove cX4_isAbove 4 (some .boolean), Cond.methodLink RX4 80 yX4_parent, Cond.instanceMethod yX4_parent, Cond.selects RX4 yX4_parent yX4_parent]
def wsX4_up_r2 : List Cond := [Cond.code yX4_parent cX4_parent 3 (some .int), Cond.methodLink RX4 104 yX4_sizeOf, Cond.instanceMethod yX4_sizeOf, Cond.selects RX4 yX4_sizeOf yX4_sizeOf, Cond.code yX4_sizeOf cX4_sizeOf 4 (some .int)]
def wsX4_up : List Cond := .code yX4_up cX4_up 13 (some .int) :: ((wsX4_up_r1 ++ wsX4_up_r2) ++ wsX40)
def wsX4_down : List Cond := .code yX4_down cX4_down 5 (some .int) :: ([.fieldLink RX4 45 "JoinBlocksModel" "thrown" "I", .fieldLink RX4 59 "JoinBlocksModel" "sets" "I", .fieldLink RX4 49 "JoinBlocksModel" "objects" "I", .fieldLink RX4 7 "JoinBlocksModel" "level" "[I", .fieldLink RX4 39 "JoinBlocksModel" "was" "[Z", .fieldLink RX4 32 "JoinBlocksModel" "in" "[Z", .fieldLink RX4 35 "JoinBlocksModel" "scores" "[J", .fieldLink RX4 42 "JoinBlocksModel" "had" "[J", .methodLink RX4 52 yX4_isIn, .static yX4_isIn, .initialized RX4, .code yX4_isIn cX4_isIn 3 (some .boolean), .methodLink RX4 107 yX4_takeLast, .instanceMethod yX4_takeLast, .selects RX4 yX4_takeLast yX4_takeLast, .code yX4_takeLast cX4_takeLast 3 none, .methodLink RX4 80 yX4_parent, .instanceMethod yX4_parent, .selects RX4 yX4_parent yX4_parent, .code yX4_parent cX4_parent 3 (some .int), .methodLink RX4 104 yX4_sizeOf, .instanceMethod yX4_sizeOf, .selects RX4 yX4_sizeOf yX4_sizeOf, .code yX4_sizeOf cX4_sizeOf 4 (some .int)] ++ wsX40)
def wsX4_over : List Cond := .code yX4_over cX4_over 4 (some .int) :: ([.fieldLink RX4 45 "JoinBlocksModel" "thrown" "I", .fieldLink RX4 59 "JoinBlocksModel" "sets" "I", .fieldLink RX4 49 "JoinBlocksModel" "objects" "I", .fieldLink RX4 39 "JoinBlocksModel" "was" "[Z", .fieldLink RX4 7 "JoinBlocksModel" "level" "[I", .fieldLink RX4 25 "JoinBlocksModel" "lives" "[Z", .fieldLink RX4 19 "JoinBlocksModel" "link" "[I", .fieldLink RX4 22 "JoinBlocksModel" "key" "[I", .fieldLink RX4 32 "JoinBlocksModel" "in" "[Z", .fieldLink RX4 35 "JoinBlocksModel" "scores" "[J", .fieldLink RX4 42 "JoinBlocksModel" "had" "[J", .methodLink RX4 107 yX4_takeLast, .instanceMethod yX4_takeLast, .selects RX4 yX4_takeLast yX4_takeLast, .initialized RX4, .code yX4_takeLast cX4_takeLast 3 none, .methodLink RX4 104 yX4_sizeOf, .instanceMethod yX4_sizeOf, .selects RX4 yX4_sizeOf yX4_sizeOf, .code yX4_sizeOf cX4_sizeOf 4 (some .int)] ++ wsX40)
def wsX4_again : List Cond := .code yX4_again cX4_again 2 (some .int) :: ([.fieldLink RX4 45 "JoinBlocksModel" "thrown" "I", .fieldLink RX4 59 "JoinBlocksModel" "sets" "I", .fieldLink RX4 49 "JoinBlocksModel" "objects" "I", .fieldLink RX4 32 "JoinBlocksModel" "in" "[Z", .fieldLink RX4 35 "JoinBlocksModel" "scores" "[J"] ++ wsX40)
def wsX4_pop : List Cond := .code yX4_pop cX4_pop 1 (some .int) :: ([.fieldLink RX4 45 "JoinBlocksModel" "thrown" "I", .fieldLink RX4 59 "JoinBlocksModel" "sets" "I"] ++ wsX40)
def wsX4_kth : List Cond := .code yX4_kth cX4_kth 13 (some .int) :: ([.fieldLink RX4 49 "JoinBlocksModel" "objects" "I", .fieldLink RX4 32 "JoinBlocksModel" "in" "[Z", .fieldLink RX4 35 "JoinBlocksModel" "scores" "[J", .methodLink RX4 83 yX4_isAbove, .instanceMethod yX4_isAbove, .selects RX4 yX4_isAbove yX4_isAbove, .initialized RX4, .code yX4_isAbove cX4_isAbove 4 (some .boolean), .methodLink RX4 80 yX4_parent, .instanceMethod yX4_parent, .selects RX4 yX4_parent yX4_parent, .code yX4_parent cX4_parent 3 (some .int), .fieldLink RX4 7 "JoinBlocksModel" "level" "[I"] ++ wsX40)
def wsX4_hit : List Cond := .code yX4_hit cX4_hit 2 (some .int) :: ([.fieldLink RX4 45 "JoinBlocksModel" "thrown" "I", .fieldLink RX4 59 "JoinBlocksModel" "sets" "I", .methodLink RX4 110 yX4_kth, .instanceMethod yX4_kth, .selects RX4 yX4_kth yX4_kth, .initialized RX4, .code yX4_kth cX4_kth 13 (some .int), .fieldLink RX4 49 "JoinBlocksModel" "objects" "I", .fieldLink RX4 32 "JoinBlocksModel" "in" "[Z", .fieldLink RX4 35 "JoinBlocksModel" "scores" "[J", .methodLink RX4 83 yX4_isAbove, .instanceMethod yX4_isAbove, .selects RX4 yX4_isAbove yX4_isAbove, .code yX4_isAbove cX4_isAbove 4 (some .boolean), .methodLink RX4 80 yX4_parent, .instanceMethod yX4_parent, .selects RX4 yX4_parent yX4_parent, .code yX4_parent cX4_parent 3 (some .int), .fieldLink RX4 7 "JoinBlocksModel" "level" "[I"] ++ wsX40)
def wsX4_score : List Cond := .code yX4_score cX4_score 2 (some .long) :: ([.fieldLink RX4 45 "JoinBlocksModel" "thrown" "I", .fieldLink RX4 59 "JoinBlocksModel" "sets" "I", .fieldLink RX4 32 "JoinBlocksModel" "in" "[Z", .constantLong RX4 114 (-9223372036854775808), .fieldLink RX4 35 "JoinBlocksModel" "scores" "[J", .methodLink RX4 87 yX4_isObject, .instanceMethod yX4_isObject, .selects RX4 yX4_isObject yX4_isObject, .initialized RX4, .code yX4_isObject cX4_isObject 2 (some .boolean), .fieldLink RX4 49 "JoinBlocksModel" "objects" "I", .methodLink RX4 52 yX4_isIn, .static yX4_isIn, .code yX4_isIn cX4_isIn 3 (some .boolean)] ++ wsX40)
def wsX4_family_r1 : List Cond := [Cond.fieldLink RX4 45 "JoinBlocksModel" "thrown" "I", Cond.fieldLink RX4 62 "JoinBlocksModel" "hasFamily" "Z", Cond.methodLink RX4 87 yX4_isObject, Cond.instanceMethod yX4_isObject, Cond.selects RX4 yX4_isObject yX4_isObject, Cond.initialized RX4, Cond.code yX4_isObject cX4_isObject 2 (some .boolean), Cond.fieldLink RX4 49 "JoinBlocksModel" "objects" "I", Cond.methodLink RX4 52 yX4_isIn, Cond.static yX4_isIn, Cond.code yX4_isIn cX4_isIn 3 (some .boolean), Cond.methodLink RX4 110 yX4_kth, Cond.instanceMethod yX4_kth, Cond.selects RX4 yX4_kth yX4_kth, Cond.code yX4_kth cX4_kth 13 (some .int), Cond.fieldLink RX4 32 "JoinBlocksModel" "in" "[Z", Cond.fieldLink RX4 35 "JoinBlocksModel" "scores" "[J", Cond.methodLink RX4 83 yX4_isAbove, Cond.instanceMethod yX4_isAbove, Cond.selects RX4 yX4_isAbove yX4_isAbove, Cond.code yX4_isAbove cX4_isAbove 4 (some .boolean), Cond.methodLink RX4 80 yX4_parent, Cond.instanceMethod yX4_parent, Cond.selects RX4 yX4_parent yX4_parent]
def wsX4_family_r2 : List Cond := [Cond.code yX4_parent cX4_parent 3 (some .int), Cond.fieldLink RX4 7 "JoinBlocksModel" "level" "[I"]
def wsX4_family : List Cond := .code yX4_family cX4_family 3 (some .int) :: ((wsX4_family_r1 ++ wsX4_family_r2) ++ wsX40)
def wsX4_share : List Cond := .code yX4_share cX4_share 2 (some .long) :: ([.fieldLink RX4 45 "JoinBlocksModel" "thrown" "I", .fieldLink RX4 59 "JoinBlocksModel" "sets" "I", .constantLong RX4 114 (-9223372036854775808), .constantLong RX4 116 (1000), .methodLink RX4 104 yX4_sizeOf, .instanceMethod yX4_sizeOf, .selects RX4 yX4_sizeOf yX4_sizeOf, .initialized RX4, .code yX4_sizeOf cX4_sizeOf 4 (some .int), .fieldLink RX4 49 "JoinBlocksModel" "objects" "I", .fieldLink RX4 32 "JoinBlocksModel" "in" "[Z"] ++ wsX40)
def wsJ9_max_f86c9 : List Cond := .code yJ9_max_f86c9 cJ9_max_f86c9 4 (some .long) :: ([])
def wsJ9_min_7cf53 : List Cond := .code yJ9_min_7cf53 cJ9_min_7cf53 2 (some .int) :: ([])
def wsJ9_min_f86c9 : List Cond := .code yJ9_min_f86c9 cJ9_min_f86c9 4 (some .long) :: ([])
def wsL_share : List Cond := .codeWith yL_share cL_share 3 (some .int) [(0, 7, 10, 13)] :: ([.classLink RL 13 "java/lang/ArithmeticException", .methodLink RL 7 yX3_share, .instanceMethod yX3_share, .selects RX3 yX3_share yX3_share, .initialized RX3, .code yX3_share cX3_share 2 (some .long), .classLink RX3 181 "java/lang/ArithmeticException", .initialized "java/lang/ArithmeticException", .fieldLink RX3 44 "JoinBlocks" "depth" "I", .constantLong RX3 175 (-9223372036854775808), .fieldLink RX3 25 "JoinBlocks" "stack" "[LJoinBlocks$ScoredSet;", .fieldLink RX3 140 "JoinBlocks$ScoredSet" "size" "I", .constantLong RX3 188 (1000)] ++ wsX30 ++ wsX20 ++ (vx_atS RX3 185 "java/lang/ArithmeticException" ["java/lang/RuntimeException", "java/lang/Exception"]).filter goodWord)
theorem inJ6 : ∀ w ∈ wsJ60, w ∈ lw_tbl := by decide +kernel
theorem inJ9 : ∀ w ∈ wsJ90, w ∈ lw_tbl := by decide +kernel
theorem inJ0 : ∀ w ∈ wsJ00, w ∈ lw_tbl := by decide +kernel
theorem inJ10 : ∀ w ∈ wsJ100, w ∈ lw_tbl := by decide +kernel
theorem dX0_init_0 : decode cX0_init 0 = .ok (.aload_n 0, 1) := by decide +kernel
theorem dX0_init_1 : decode cX0_init 1 = .ok (.invokespecial 3, 3) := by decide +kernel
theorem dX0_init_4 : decode cX0_init 4 = .ok (.aload_n 0, 1) := by decide +kernel
theorem dX0_init_5 : decode cX0_init 5 = .ok (.sipush 200, 3) := by decide +kernel
theorem dX0_init_8 : decode cX0_init 8 = .ok (.newarray .int, 2) := by decide +kernel
theorem dX0_init_10 : decode cX0_init 10 = .ok (.putfield 9, 3) := by decide +kernel
theorem dX0_init_13 : decode cX0_init 13 = .ok (.aload_n 0, 1) := by decide +kernel
theorem dX0_init_14 : decode cX0_init 14 = .ok (.sipush 200, 3) := by decide +kernel
theorem dX0_init_17 : decode cX0_init 17 = .ok (.newarray .int, 2) := by decide +kernel
theorem dX0_init_19 : decode cX0_init 19 = .ok (.putfield 15, 3) := by decide +kernel
theorem dX0_init_22 : decode cX0_init 22 = .ok (.aload_n 0, 1) := by decide +kernel
theorem dX0_init_23 : decode cX0_init 23 = .ok (.iconst 0, 1) := by decide +kernel
theorem dX0_init_24 : decode cX0_init 24 = .ok (.putfield 18, 3) := by decide +kernel
theorem dX0_init_27 : decode cX0_init 27 = .ok (.return_, 1) := by decide +kernel
set_option maxRecDepth 20000 in
theorem ggX0_rank_X2_has : GoodIn wsX0_rank wsX2_has := goodIn_r _ [7, 8, 31, 32, 33] (by decide +kernel) (by decide +kernel)
set_option maxRecDepth 20000 in
theorem gX0_rank_X2_has : GoodIn wsX0_rank (wsV RX0 22 RX2 yX2_has wsX2_has) := goodIn_app (goodIn_of _ (by decide +kernel)) ggX0_rank_X2_has
set_option maxRecDepth 20000 in
theorem ggX0_rank_X0_mergeRuns : GoodIn wsX0_rank wsX0_mergeRuns := goodIn_r _ [13, 1, 14, 15, 16, 17, 18, 2, 19, 20, 21, 22, 23, 24, 25, 12, 26, 27, 28, 29, 30, 31, 32, 33] (by decide +kernel) (by decide +kernel)
set_option maxRecDepth 20000 in
theorem gX0_rank_X0_mergeRuns : GoodIn wsX0_rank (wsV RX0 28 RX0 yX0_mergeRuns wsX0_mergeRuns) := goodIn_app (goodIn_of _ (by decide +kernel)) ggX0_rank_X0_mergeRuns
theorem dX0_rank_0 : decode cX0_rank 0 = .ok (.aload_n 0, 1) := by decide +kernel
theorem dX0_rank_1 : decode cX0_rank 1 = .ok (.iconst 0, 1) := by decide +kernel
theorem dX0_rank_2 : decode cX0_rank 2 = .ok (.putfield 18, 3) := by decide +kernel
theorem dX0_rank_5 : decode cX0_rank 5 = .ok (.iload_n 2, 1) := by decide +kernel
theorem dX0_rank_6 : decode cX0_rank 6 = .ok (.istore 4, 2) := by decide +kernel
theorem dX0_rank_8 : decode cX0_rank 8 = .ok (.iload 4, 2) := by decide +kernel
theorem dX0_rank_10 : decode cX0_rank 10 = .ok (.iload_n 3, 1) := by decide +kernel
theorem dX0_rank_11 : decode cX0_rank 11 = .ok (.if_icmp .ge 39, 3) := by decide +kernel
theorem dX0_rank_14 : decode cX0_rank 14 = .ok (.aload_n 1, 1) := by decide +kernel
theorem dX0_rank_15 : decode cX0_rank 15 = .ok (.iload 4, 2) := by decide +kernel
theorem dX0_rank_17 : decode cX0_rank 17 = .ok (.invokevirtual 22, 3) := by decide +kernel
theorem dX0_rank_20 : decode cX0_rank 20 = .ok (.ifCond .eq 24, 3) := by decide +kernel
theorem dX0_rank_23 : decode cX0_rank 23 = .ok (.aload_n 0, 1) := by decide +kernel
theorem dX0_rank_24 : decode cX0_rank 24 = .ok (.getfield 9, 3) := by decide +kernel
theorem dX0_rank_27 : decode cX0_rank 27 = .ok (.aload_n 0, 1) := by decide +kernel
theorem dX0_rank_28 : decode cX0_rank 28 = .ok (.getfield 18, 3) := by decide +kernel
theorem dX0_rank_31 : decode cX0_rank 31 = .ok (.iload 4, 2) := by decide +kernel
theorem dX0_rank_33 : decode cX0_rank 33 = .ok (.iastore, 1) := by decide +kernel
theorem dX0_rank_34 : decode cX0_rank 34 = .ok (.aload_n 0, 1) := by decide +kernel
theorem dX0_rank_35 : decode cX0_rank 35 = .ok (.dup, 1) := by decide +kernel
theorem dX0_rank_36 : decode cX0_rank 36 = .ok (.getfield 18, 3) := by decide +kernel
theorem dX0_rank_39 : decode cX0_rank 39 = .ok (.iconst 1, 1) := by decide +kernel
theorem dX0_rank_40 : decode cX0_rank 40 = .ok (.iadd, 1) := by decide +kernel
theorem dX0_rank_41 : decode cX0_rank 41 = .ok (.putfield 18, 3) := by decide +kernel
theorem dX0_rank_44 : decode cX0_rank 44 = .ok (.iinc 4 1, 3) := by decide +kernel
theorem dX0_rank_47 : decode cX0_rank 47 = .ok (.goto (-39), 3) := by decide +kernel
theorem dX0_rank_50 : decode cX0_rank 50 = .ok (.iconst 1, 1) := by decide +kernel
theorem dX0_rank_51 : decode cX0_rank 51 = .ok (.istore 4, 2) := by decide +kernel
theorem dX0_rank_53 : decode cX0_rank 53 = .ok (.iload 4, 2) := by decide +kernel
theorem dX0_rank_55 : decode cX0_rank 55 = .ok (.aload_n 0, 1) := by decide +kernel
theorem dX0_rank_56 : decode cX0_rank 56 = .ok (.getfield 18, 3) := by decide +kernel
theorem dX0_rank_59 : decode cX0_rank 59 = .ok (.if_icmp .ge 19, 3) := by decide +kernel
theorem dX0_rank_62 : decode cX0_rank 62 = .ok (.aload_n 0, 1) := by decide +kernel
theorem dX0_rank_63 : decode cX0_rank 63 = .ok (.aload_n 1, 1) := by decide +kernel
theorem dX0_rank_64 : decode cX0_rank 64 = .ok (.iload 4, 2) := by decide +kernel
theorem dX0_rank_66 : decode cX0_rank 66 = .ok (.invokevirtual 28, 3) := by decide +kernel
theorem dX0_rank_69 : decode cX0_rank 69 = .ok (.iload 4, 2) := by decide +kernel
theorem dX0_rank_71 : decode cX0_rank 71 = .ok (.iconst 2, 1) := by decide +kernel
theorem dX0_rank_72 : decode cX0_rank 72 = .ok (.imul, 1) := by decide +kernel
theorem dX0_rank_73 : decode cX0_rank 73 = .ok (.istore 4, 2) := by decide +kernel
theorem dX0_rank_75 : decode cX0_rank 75 = .ok (.goto (-22), 3) := by decide +kernel
theorem dX0_rank_78 : decode cX0_rank 78 = .ok (.return_, 1) := by decide +kernel
set_option maxRecDepth 20000 in
theorem ggX0_mergeRuns_X0_mergeTwo : GoodIn wsX0_mergeRuns wsX0_mergeTwo := goodIn_r _ [16, 17, 7, 6, 21, 22, 23, 18, 19, 20] (by decide +kernel) (by decide +kernel)
set_option maxRecDepth 20000 in
theorem gX0_mergeRuns_X0_mergeTwo : GoodIn wsX0_mergeRuns (wsV RX0 38 RX0 yX0_mergeTwo wsX0_mergeTwo) := goodIn_app (goodIn_of _ (by decide +kernel)) ggX0_mergeRuns_X0_mergeTwo
theorem dX0_mergeRuns_0 : decode cX0_mergeRuns 0 = .ok (.iconst 0, 1) := by decide +kernel
theorem dX0_mergeRuns_1 : decode cX0_mergeRuns 1 = .ok (.istore_n 3, 1) := by decide +kernel
theorem dX0_mergeRuns_2 : decode cX0_mergeRuns 2 = .ok (.iload_n 3, 1) := by decide +kernel
theorem dX0_mergeRuns_3 : decode cX0_mergeRuns 3 = .ok (.aload_n 0, 1) := by decide +kernel
theorem dX0_mergeRuns_4 : decode cX0_mergeRuns 4 = .ok (.getfield 18, 3) := by decide +kernel
theorem dX0_mergeRuns_7 : decode cX0_mergeRuns 7 = .ok (.if_icmp .ge 48, 3) := by decide +kernel
theorem dX0_mergeRuns_10 : decode cX0_mergeRuns 10 = .ok (.iload_n 3, 1) := by decide +kernel
theorem dX0_mergeRuns_11 : decode cX0_mergeRuns 11 = .ok (.iload_n 2, 1) := by decide +kernel
theorem dX0_mergeRuns_12 : decode cX0_mergeRuns 12 = .ok (.iadd, 1) := by decide +kernel
theorem dX0_mergeRuns_13 : decode cX0_mergeRuns 13 = .ok (.aload_n 0, 1) := by decide +kernel
theorem dX0_mergeRuns_14 : decode cX0_mergeRuns 14 = .ok (.getfield 18, 3) := by decide +kernel
theorem dX0_mergeRuns_17 : decode cX0_mergeRuns 17 = .ok (.invokestatic 32, 3) := by decide +kernel
theorem dX0_mergeRuns_20 : decode cX0_mergeRuns 20 = .ok (.istore 4, 2) := by decide +kernel
theorem dX0_mergeRuns_22 : decode cX0_mergeRuns 22 = .ok (.iload_n 3, 1) := by decide +kernel
theorem dX0_mergeRuns_23 : decode cX0_mergeRuns 23 = .ok (.iconst 2, 1) := by decide +kernel
theorem dX0_mergeRuns_24 : decode cX0_mergeRuns 24 = .ok (.iload_n 2, 1) := by decide +kernel
theorem dX0_mergeRuns_25 : decode cX0_mergeRuns 25 = .ok (.imul, 1) := by decide +kernel
theorem dX0_mergeRuns_26 : decode cX0_mergeRuns 26 = .ok (.iadd, 1) := by decide +kernel
theorem dX0_mergeRuns_27 : decode cX0_mergeRuns 27 = .ok (.aload_n 0, 1) := by decide +kernel
theorem dX0_mergeRuns_28 : decode cX0_mergeRuns 28 = .ok (.getfield 18, 3) := by decide +kernel
theorem dX0_mergeRuns_31 : decode cX0_mergeRuns 31 = .ok (.invokestatic 32, 3) := by decide +kernel
theorem dX0_mergeRuns_34 : decode cX0_mergeRuns 34 = .ok (.istore 5, 2) := by decide +kernel
theorem dX0_mergeRuns_36 : decode cX0_mergeRuns 36 = .ok (.aload_n 0, 1) := by decide +kernel
theorem dX0_mergeRuns_37 : decode cX0_mergeRuns 37 = .ok (.aload_n 1, 1) := by decide +kernel
theorem dX0_mergeRuns_38 : decode cX0_mergeRuns 38 = .ok (.iload_n 3, 1) := by decide +kernel
theorem dX0_mergeRuns_39 : decode cX0_mergeRuns 39 = .ok (.iload 4, 2) := by decide +kernel
theorem dX0_mergeRuns_41 : decode cX0_mergeRuns 41 = .ok (.iload 5, 2) := by decide +kernel
theorem dX0_mergeRuns_43 : decode cX0_mergeRuns 43 = .ok (.invokevirtual 38, 3) := by decide +kernel
theorem dX0_mergeRuns_46 : decode cX0_mergeRuns 46 = .ok (.iload_n 3, 1) := by decide +kernel
theorem dX0_mergeRuns_47 : decode cX0_mergeRuns 47 = .ok (.iconst 2, 1) := by decide +kernel
theorem dX0_mergeRuns_48 : decode cX0_mergeRuns 48 = .ok (.iload_n 2, 1) := by decide +kernel
theorem dX0_mergeRuns_49 : decode cX0_mergeRuns 49 = .ok (.imul, 1) := by decide +kernel
theorem dX0_mergeRuns_50 : decode cX0_mergeRuns 50 = .ok (.iadd, 1) := by decide +kernel
theorem dX0_mergeRuns_51 : decode cX0_mergeRuns 51 = .ok (.istore_n 3, 1) := by decide +kernel
theorem dX0_mergeRuns_52 : decode cX0_mergeRuns 52 = .ok (.goto (-50), 3) := by decide +kernel
theorem dX0_mergeRuns_55 : decode cX0_mergeRuns 55 = .ok (.aload_n 0, 1) := by decide +kernel
theorem dX0_mergeRuns_56 : decode cX0_mergeRuns 56 = .ok (.getfield 15, 3) := by decide +kernel
theorem dX0_mergeRuns_59 : decode cX0_mergeRuns 59 = .ok (.iconst 0, 1) := by decide +kernel
theorem dX0_mergeRuns_60 : decode cX0_mergeRuns 60 = .ok (.aload_n 0, 1) := by decide +kernel
theorem dX0_mergeRuns_61 : decode cX0_mergeRuns 61 = .ok (.getfield 9, 3) := by decide +kernel
theorem dX0_mergeRuns_64 : decode cX0_mergeRuns 64 = .ok (.iconst 0, 1) := by decide +kernel
theorem dX0_mergeRuns_65 : decode cX0_mergeRuns 65 = .ok (.aload_n 0, 1) := by decide +kernel
theorem dX0_mergeRuns_66 : decode cX0_mergeRuns 66 = .ok (.getfield 18, 3) := by decide +kernel
theorem dX0_mergeRuns_69 : decode cX0_mergeRuns 69 = .ok (.invokestatic 42, 3) := by decide +kernel
theorem dX0_mergeRuns_72 : decode cX0_mergeRuns 72 = .ok (.return_, 1) := by decide +kernel
theorem dX0_mergeTwo_0 : decode cX0_mergeTwo 0 = .ok (.iload_n 2, 1) := by decide +kernel
theorem dX0_mergeTwo_1 : decode cX0_mergeTwo 1 = .ok (.istore 5, 2) := by decide +kernel
theorem dX0_mergeTwo_3 : decode cX0_mergeTwo 3 = .ok (.iload_n 3, 1) := by decide +kernel
theorem dX0_mergeTwo_4 : decode cX0_mergeTwo 4 = .ok (.istore 6, 2) := by decide +kernel
theorem dX0_mergeTwo_6 : decode cX0_mergeTwo 6 = .ok (.iload_n 2, 1) := by decide +kernel
theorem dX0_mergeTwo_7 : decode cX0_mergeTwo 7 = .ok (.istore 7, 2) := by decide +kernel
theorem dX0_mergeTwo_9 : decode cX0_mergeTwo 9 = .ok (.iload 7, 2) := by decide +kernel
theorem dX0_mergeTwo_11 : decode cX0_mergeTwo 11 = .ok (.iload 4, 2) := by decide +kernel
theorem dX0_mergeTwo_13 : decode cX0_mergeTwo 13 = .ok (.if_icmp .ge 100, 3) := by decide +kernel
theorem dX0_mergeTwo_16 : decode cX0_mergeTwo 16 = .ok (.iload 6, 2) := by decide +kernel
theorem dX0_mergeTwo_18 : decode cX0_mergeTwo 18 = .ok (.iload 4, 2) := by decide +kernel
theorem dX0_mergeTwo_20 : decode cX0_mergeTwo 20 = .ok (.if_icmp .ge 37, 3) := by decide +kernel
theorem dX0_mergeTwo_23 : decode cX0_mergeTwo 23 = .ok (.iload 5, 2) := by decide +kernel
theorem dX0_mergeTwo_25 : decode cX0_mergeTwo 25 = .ok (.iload_n 3, 1) := by decide +kernel
theorem dX0_mergeTwo_26 : decode cX0_mergeTwo 26 = .ok (.if_icmp .ge 35, 3) := by decide +kernel
theorem dX0_mergeTwo_29 : decode cX0_mergeTwo 29 = .ok (.aload_n 1, 1) := by decide +kernel
theorem dX0_mergeTwo_30 : decode cX0_mergeTwo 30 = .ok (.getfield 48, 3) := by decide +kernel
theorem dX0_mergeTwo_33 : decode cX0_mergeTwo 33 = .ok (.aload_n 0, 1) := by decide +kernel
theorem dX0_mergeTwo_34 : decode cX0_mergeTwo 34 = .ok (.getfield 9, 3) := by decide +kernel
theorem dX0_mergeTwo_37 : decode cX0_mergeTwo 37 = .ok (.iload 5, 2) := by decide +kernel
theorem dX0_mergeTwo_39 : decode cX0_mergeTwo 39 = .ok (.iaload, 1) := by decide +kernel
theorem dX0_mergeTwo_40 : decode cX0_mergeTwo 40 = .ok (.laload, 1) := by decide +kernel
theorem dX0_mergeTwo_41 : decode cX0_mergeTwo 41 = .ok (.aload_n 1, 1) := by decide +kernel
theorem dX0_mergeTwo_42 : decode cX0_mergeTwo 42 = .ok (.getfield 48, 3) := by decide +kernel
theorem dX0_mergeTwo_45 : decode cX0_mergeTwo 45 = .ok (.aload_n 0, 1) := by decide +kernel
theorem dX0_mergeTwo_46 : decode cX0_mergeTwo 46 = .ok (.getfield 9, 3) := by decide +kernel
theorem dX0_mergeTwo_49 : decode cX0_mergeTwo 49 = .ok (.iload 6, 2) := by decide +kernel
theorem dX0_mergeTwo_51 : decode cX0_mergeTwo 51 = .ok (.iaload, 1) := by decide +kernel
theorem dX0_mergeTwo_52 : decode cX0_mergeTwo 52 = .ok (.laload, 1) := by decide +kernel
theorem dX0_mergeTwo_53 : decode cX0_mergeTwo 53 = .ok (.lcmp, 1) := by decide +kernel
theorem dX0_mergeTwo_54 : decode cX0_mergeTwo 54 = .ok (.ifCond .lt 7, 3) := by decide +kernel
theorem dX0_mergeTwo_57 : decode cX0_mergeTwo 57 = .ok (.iconst 1, 1) := by decide +kernel
theorem dX0_mergeTwo_58 : decode cX0_mergeTwo 58 = .ok (.goto 4, 3) := by decide +kernel
theorem dX0_mergeTwo_61 : decode cX0_mergeTwo 61 = .ok (.iconst 0, 1) := by decide +kernel
theorem dX0_mergeTwo_62 : decode cX0_mergeTwo 62 = .ok (.istore 8, 2) := by decide +kernel
theorem dX0_mergeTwo_64 : decode cX0_mergeTwo 64 = .ok (.aload_n 0, 1) := by decide +kernel
theorem dX0_mergeTwo_65 : decode cX0_mergeTwo 65 = .ok (.getfield 15, 3) := by decide +kernel
theorem dX0_mergeTwo_68 : decode cX0_mergeTwo 68 = .ok (.iload 7, 2) := by decide +kernel
theorem dX0_mergeTwo_70 : decode cX0_mergeTwo 70 = .ok (.iload 8, 2) := by decide +kernel
theorem dX0_mergeTwo_72 : decode cX0_mergeTwo 72 = .ok (.ifCond .eq 13, 3) := by decide +kernel
theorem dX0_mergeTwo_75 : decode cX0_mergeTwo 75 = .ok (.aload_n 0, 1) := by decide +kernel
theorem dX0_mergeTwo_76 : decode cX0_mergeTwo 76 = .ok (.getfield 9, 3) := by decide +kernel
theorem dX0_mergeTwo_79 : decode cX0_mergeTwo 79 = .ok (.iload 5, 2) := by decide +kernel
theorem dX0_mergeTwo_81 : decode cX0_mergeTwo 81 = .ok (.iaload, 1) := by decide +kernel
theorem dX0_mergeTwo_82 : decode cX0_mergeTwo 82 = .ok (.goto 10, 3) := by decide +kernel
theorem dX0_mergeTwo_85 : decode cX0_mergeTwo 85 = .ok (.aload_n 0, 1) := by decide +kernel
theorem dX0_mergeTwo_86 : decode cX0_mergeTwo 86 = .ok (.getfield 9, 3) := by decide +kernel
theorem dX0_mergeTwo_89 : decode cX0_mergeTwo 89 = .ok (.iload 6, 2) := by decide +kernel
theorem dX0_mergeTwo_91 : decode cX0_mergeTwo 91 = .ok (.iaload, 1) := by decide +kernel
theorem dX0_mergeTwo_92 : decode cX0_mergeTwo 92 = .ok (.iastore, 1) := by decide +kernel
theorem dX0_mergeTwo_93 : decode cX0_mergeTwo 93 = .ok (.iload 8, 2) := by decide +kernel
theorem dX0_mergeTwo_95 : decode cX0_mergeTwo 95 = .ok (.ifCond .eq 9, 3) := by decide +kernel
theorem dX0_mergeTwo_98 : decode cX0_mergeTwo 98 = .ok (.iinc 5 1, 3) := by decide +kernel
theorem dX0_mergeTwo_101 : decode cX0_mergeTwo 101 = .ok (.goto 6, 3) := by decide +kernel
theorem dX0_mergeTwo_104 : decode cX0_mergeTwo 104 = .ok (.iinc 6 1, 3) := by decide +kernel
theorem dX0_mergeTwo_107 : decode cX0_mergeTwo 107 = .ok (.iinc 7 1, 3) := by decide +kernel
theorem dX0_mergeTwo_110 : decode cX0_mergeTwo 110 = .ok (.goto (-101), 3) := by decide +kernel
theorem dX0_mergeTwo_113 : decode cX0_mergeTwo 113 = .ok (.return_, 1) := by decide +kernel
theorem dX1_init_0 : decode cX1_init 0 = .ok (.aload_n 0, 1) := by decide +kernel
theorem dX1_init_1 : decode cX1_init 1 = .ok (.invokespecial 3, 3) := by decide +kernel
theorem dX1_init_4 : decode cX1_init 4 = .ok (.aload_n 0, 1) := by decide +kernel
theorem dX1_init_5 : decode cX1_init 5 = .ok (.iload_n 1, 1) := by decide +kernel
theorem dX1_init_6 : decode cX1_init 6 = .ok (.newarray .int, 2) := by decide +kernel
theorem dX1_init_8 : decode cX1_init 8 = .ok (.putfield 9, 3) := by decide +kernel
theorem dX1_init_11 : decode cX1_init 11 = .ok (.aload_n 0, 1) := by decide +kernel
theorem dX1_init_12 : decode cX1_init 12 = .ok (.iload_n 1, 1) := by decide +kernel
theorem dX1_init_13 : decode cX1_init 13 = .ok (.newarray .int, 2) := by decide +kernel
theorem dX1_init_15 : decode cX1_init 15 = .ok (.putfield 15, 3) := by decide +kernel
theorem dX1_init_18 : decode cX1_init 18 = .ok (.aload_n 0, 1) := by decide +kernel
theorem dX1_init_19 : decode cX1_init 19 = .ok (.iload_n 1, 1) := by decide +kernel
theorem dX1_init_20 : decode cX1_init 20 = .ok (.newarray .int, 2) := by decide +kernel
theorem dX1_init_22 : decode cX1_init 22 = .ok (.putfield 18, 3) := by decide +kernel
theorem dX1_init_25 : decode cX1_init 25 = .ok (.aload_n 0, 1) := by decide +kernel
theorem dX1_init_26 : decode cX1_init 26 = .ok (.iload_n 1, 1) := by decide +kernel
theorem dX1_init_27 : decode cX1_init 27 = .ok (.newarray .int, 2) := by decide +kernel
theorem dX1_init_29 : decode cX1_init 29 = .ok (.putfield 21, 3) := by decide +kernel
theorem dX1_init_32 : decode cX1_init 32 = .ok (.aload_n 0, 1) := by decide +kernel
theorem dX1_init_33 : decode cX1_init 33 = .ok (.iload_n 1, 1) := by decide +kernel
theorem dX1_init_34 : decode cX1_init 34 = .ok (.newarray .int, 2) := by decide +kernel
theorem dX1_init_36 : decode cX1_init 36 = .ok (.putfield 24, 3) := by decide +kernel
theorem dX1_init_39 : decode cX1_init 39 = .ok (.aload_n 0, 1) := by decide +kernel
theorem dX1_init_40 : decode cX1_init 40 = .ok (.iload_n 1, 1) := by decide +kernel
theorem dX1_init_41 : decode cX1_init 41 = .ok (.newarray .boolean, 2) := by decide +kernel
theorem dX1_init_43 : decode cX1_init 43 = .ok (.putfield 27, 3) := by decide +kernel
theorem dX1_init_46 : decode cX1_init 46 = .ok (.aload_n 0, 1) := by decide +kernel
theorem dX1_init_47 : decode cX1_init 47 = .ok (.iconst 0, 1) := by decide +kernel
theorem dX1_init_48 : decode cX1_init 48 = .ok (.putfield 31, 3) := by decide +kernel
theorem dX1_init_51 : decode cX1_init 51 = .ok (.return_, 1) := by decide +kernel
theorem dX1_holds_0 : decode cX1_holds 0 = .ok (.iload_n 1, 1) := by decide +kernel
theorem dX1_holds_1 : decode cX1_holds 1 = .ok (.ifCond .lt 15, 3) := by decide +kernel
theorem dX1_holds_4 : decode cX1_holds 4 = .ok (.iload_n 1, 1) := by decide +kernel
theorem dX1_holds_5 : decode cX1_holds 5 = .ok (.aload_n 0, 1) := by decide +kernel
theorem dX1_holds_6 : decode cX1_holds 6 = .ok (.getfield 31, 3) := by decide +kernel
theorem dX1_holds_9 : decode cX1_holds 9 = .ok (.if_icmp .ge 7, 3) := by decide +kernel
theorem dX1_holds_12 : decode cX1_holds 12 = .ok (.iconst 1, 1) := by decide +kernel
theorem dX1_holds_13 : decode cX1_holds 13 = .ok (.goto 4, 3) := by decide +kernel
theorem dX1_holds_16 : decode cX1_holds 16 = .ok (.iconst 0, 1) := by decide +kernel
theorem dX1_holds_17 : decode cX1_holds 17 = .ok (.ireturn, 1) := by decide +kernel
theorem dX1_isRoot_0 : decode cX1_isRoot 0 = .ok (.aload_n 0, 1) := by decide +kernel
theorem dX1_isRoot_1 : decode cX1_isRoot 1 = .ok (.getfield 9, 3) := by decide +kernel
theorem dX1_isRoot_4 : decode cX1_isRoot 4 = .ok (.iload_n 1, 1) := by decide +kernel
theorem dX1_isRoot_5 : decode cX1_isRoot 5 = .ok (.iaload, 1) := by decide +kernel
theorem dX1_isRoot_6 : decode cX1_isRoot 6 = .ok (.iconst 2, 1) := by decide +kernel
theorem dX1_isRoot_7 : decode cX1_isRoot 7 = .ok (.if_icmp .ne 7, 3) := by decide +kernel
theorem dX1_isRoot_10 : decode cX1_isRoot 10 = .ok (.iconst 1, 1) := by decide +kernel
theorem dX1_isRoot_11 : decode cX1_isRoot 11 = .ok (.goto 4, 3) := by decide +kernel
theorem dX1_isRoot_14 : decode cX1_isRoot 14 = .ok (.iconst 0, 1) := by decide +kernel
theorem dX1_isRoot_15 : decode cX1_isRoot 15 = .ok (.ireturn, 1) := by decide +kernel
theorem dX1_append_0 : decode cX1_append 0 = .ok (.aload_n 0, 1) := by decide +kernel
theorem dX1_append_1 : decode cX1_append 1 = .ok (.getfield 9, 3) := by decide +kernel
theorem dX1_append_4 : decode cX1_append 4 = .ok (.aload_n 0, 1) := by decide +kernel
theorem dX1_append_5 : decode cX1_append 5 = .ok (.getfield 31, 3) := by decide +kernel
theorem dX1_append_8 : decode cX1_append 8 = .ok (.iload_n 1, 1) := by decide +kernel
theorem dX1_append_9 : decode cX1_append 9 = .ok (.iastore, 1) := by decide +kernel
theorem dX1_append_10 : decode cX1_append 10 = .ok (.aload_n 0, 1) := by decide +kernel
theorem dX1_append_11 : decode cX1_append 11 = .ok (.getfield 15, 3) := by decide +kernel
theorem dX1_append_14 : decode cX1_append 14 = .ok (.aload_n 0, 1) := by decide +kernel
theorem dX1_append_15 : decode cX1_append 15 = .ok (.getfield 31, 3) := by decide +kernel
theorem dX1_append_18 : decode cX1_append 18 = .ok (.iload_n 2, 1) := by decide +kernel
theorem dX1_append_19 : decode cX1_append 19 = .ok (.iastore, 1) := by decide +kernel
theorem dX1_append_20 : decode cX1_append 20 = .ok (.aload_n 0, 1) := by decide +kernel
theorem dX1_append_21 : decode cX1_append 21 = .ok (.getfield 18, 3) := by decide +kernel
theorem dX1_append_24 : decode cX1_append 24 = .ok (.aload_n 0, 1) := by decide +kernel
theorem dX1_append_25 : decode cX1_append 25 = .ok (.getfield 31, 3) := by decide +kernel
theorem dX1_append_28 : decode cX1_append 28 = .ok (.iload_n 3, 1) := by decide +kernel
theorem dX1_append_29 : decode cX1_append 29 = .ok (.iastore, 1) := by decide +kernel
theorem dX1_append_30 : decode cX1_append 30 = .ok (.aload_n 0, 1) := by decide +kernel
theorem dX1_append_31 : decode cX1_append 31 = .ok (.getfield 21, 3) := by decide +kernel
theorem dX1_append_34 : decode cX1_append 34 = .ok (.aload_n 0, 1) := by decide +kernel
theorem dX1_append_35 : decode cX1_append 35 = .ok (.getfield 31, 3) := by decide +kernel
theorem dX1_append_38 : decode cX1_append 38 = .ok (.iload 4, 2) := by decide +kernel
theorem dX1_append_40 : decode cX1_append 40 = .ok (.iastore, 1) := by decide +kernel
theorem dX1_append_41 : decode cX1_append 41 = .ok (.aload_n 0, 1) := by decide +kernel
