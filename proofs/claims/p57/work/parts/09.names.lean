/-! names, fields, codes and decode rows (the printed text of the program, as CHECK.md's command printed it) -/
def RX0 : String := "StrataRepo$Commit"
def TX0 : u_T := fun k => match k with
  | 0 => ("StrataRepo$Commit", "tree", "LStrataRepo$Tree;", true)
  | 1 => ("StrataRepo$Commit", "word", "I", true)
  | 2 => ("StrataRepo$Commit", "first", "I", true)
  | 3 => ("StrataRepo$Commit", "second", "I", true)
  | 4 => ("StrataRepo$Commit", "depth", "I", true)
  | _ => ("StrataRepo$Commit", "ancestors", "J", true)
def tyX0 : Nat → FieldType := fun k => match k with
  | 0 => .object "StrataRepo$Tree"
  | 1 => .int
  | 2 => .int
  | 3 => .int
  | 4 => .int
  | _ => .long
theorem nmX0 : ∀ a, a < 6 → ∀ b, b < 6 → a ≠ b → (TX0 a).2.1 ≠ (TX0 b).2.1 := by decide +kernel
theorem tyX0_ok : ∀ k, k < 6 → parseFieldDescriptor (TX0 k).2.2.1 = some (tyX0 k) := by decide +kernel
abbrev cX0_init : ByteArray := prog_2_method_1_code
def yX0_init : MethodName := ⟨RX0, "<init>", "(LStrataRepo$Tree;IIIIJ)V"⟩
abbrev cX0_descendsFrom : ByteArray := prog_2_method_2_code
def yX0_descendsFrom : MethodName := ⟨RX0, "descendsFrom", "(I)Z"⟩
def RX1 : String := "StrataRepo$History"
def TX1 : u_T := fun k => match k with
  | 0 => ("StrataRepo$History", "made", "[LStrataRepo$Commit;", true)
  | 1 => ("StrataRepo$History", "none", "LStrataRepo$Commit;", true)
  | 2 => ("StrataRepo$History", "count", "I", false)
  | _ => ("StrataRepo$History", "gone", "J", false)
def tyX1 : Nat → FieldType := fun k => match k with
  | 0 => .array (.object "StrataRepo$Commit")
  | 1 => .object "StrataRepo$Commit"
  | 2 => .int
  | _ => .long
theorem nmX1 : ∀ a, a < 4 → ∀ b, b < 4 → a ≠ b → (TX1 a).2.1 ≠ (TX1 b).2.1 := by decide +kernel
theorem tyX1_ok : ∀ k, k < 4 → parseFieldDescriptor (TX1 k).2.2.1 = some (tyX1 k) := by decide +kernel
abbrev cX1_init : ByteArray := prog_3_method_1_code
def yX1_init : MethodName := ⟨RX1, "<init>", "()V"⟩
abbrev cX1_at : ByteArray := prog_3_method_2_code
def yX1_at : MethodName := ⟨RX1, "at", "(I)LStrataRepo$Commit;"⟩
abbrev cX1_keeps : ByteArray := prog_3_method_3_code
def yX1_keeps : MethodName := ⟨RX1, "keeps", "(I)Z"⟩
abbrev cX1_add : ByteArray := prog_3_method_4_code
def yX1_add : MethodName := ⟨RX1, "add", "(LStrataRepo$Tree;III)I"⟩
abbrev cX1_baseOf : ByteArray := prog_3_method_5_code
def yX1_baseOf : MethodName := ⟨RX1, "baseOf", "(II)I"⟩
abbrev cX1_withoutMerges : ByteArray := prog_3_method_6_code
def yX1_withoutMerges : MethodName := ⟨RX1, "withoutMerges", "(J)J"⟩
abbrev cX1_keepOnly : ByteArray := prog_3_method_7_code
def yX1_keepOnly : MethodName := ⟨RX1, "keepOnly", "(J)I"⟩
def RX2 : String := "StrataRepo$Match"
def TX2 : u_T := fun k => match k with
  | 0 => ("StrataRepo$Match", "longest", "[I", true)
  | 1 => ("StrataRepo$Match", "placesInB", "[I", true)
  | 2 => ("StrataRepo$Match", "placesInA", "[I", true)
  | _ => ("StrataRepo$Match", "pairs", "I", false)
def tyX2 : Nat → FieldType := fun k => match k with
  | 0 => .array .int
  | 1 => .array .int
  | 2 => .array .int
  | _ => .int
theorem nmX2 : ∀ a, a < 4 → ∀ b, b < 4 → a ≠ b → (TX2 a).2.1 ≠ (TX2 b).2.1 := by decide +kernel
theorem tyX2_ok : ∀ k, k < 4 → parseFieldDescriptor (TX2 k).2.2.1 = some (tyX2 k) := by decide +kernel
abbrev cX2_init : ByteArray := prog_4_method_1_code
def yX2_init : MethodName := ⟨RX2, "<init>", "()V"⟩
abbrev cX2_run : ByteArray := prog_4_method_2_code
def yX2_run : MethodName := ⟨RX2, "run", "(LStrataRepo$Tree;LStrataRepo$Tree;I)V"⟩
abbrev cX2_placeInB : ByteArray := prog_4_method_3_code
def yX2_placeInB : MethodName := ⟨RX2, "placeInB", "(I)I"⟩
abbrev cX2_placeInA : ByteArray := prog_4_method_4_code
def yX2_placeInA : MethodName := ⟨RX2, "placeInA", "(I)I"⟩
abbrev cX2_pair : ByteArray := prog_4_method_5_code
def yX2_pair : MethodName := ⟨RX2, "pair", "(II)V"⟩
abbrev cX2_measure : ByteArray := prog_4_method_6_code
def yX2_measure : MethodName := ⟨RX2, "measure", "(LStrataRepo$Tree;LStrataRepo$Tree;II)V"⟩
abbrev cX2_longestFrom : ByteArray := prog_4_method_7_code
def yX2_longestFrom : MethodName := ⟨RX2, "longestFrom", "(II)I"⟩
abbrev cX2_setLongest : ByteArray := prog_4_method_8_code
def yX2_setLongest : MethodName := ⟨RX2, "setLongest", "(III)V"⟩
def RX3 : String := "StrataRepo$Merging"
def TX3 : u_T := fun k => match k with
  | 0 => ("StrataRepo$Merging", "toOurs", "LStrataRepo$Match;", true)
  | 1 => ("StrataRepo$Merging", "toTheirs", "LStrataRepo$Match;", true)
  | 2 => ("StrataRepo$Merging", "result", "LStrataRepo$Tree;", true)
  | 3 => ("StrataRepo$Merging", "base", "LStrataRepo$Tree;", false)
  | 4 => ("StrataRepo$Merging", "ours", "LStrataRepo$Tree;", false)
  | 5 => ("StrataRepo$Merging", "theirs", "LStrataRepo$Tree;", false)
  | 6 => ("StrataRepo$Merging", "files", "[I", true)
  | 7 => ("StrataRepo$Merging", "tops", "[I", true)
  | 8 => ("StrataRepo$Merging", "sizes", "[I", true)
  | 9 => ("StrataRepo$Merging", "ways", "[I", true)
  | 10 => ("StrataRepo$Merging", "pieces", "I", false)
  | 11 => ("StrataRepo$Merging", "next", "[I", true)
  | 12 => ("StrataRepo$Merging", "conflictPieces", "[I", true)
  | _ => ("StrataRepo$Merging", "conflictCount", "I", false)
def tyX3 : Nat → FieldType := fun k => match k with
  | 0 => .object "StrataRepo$Match"
  | 1 => .object "StrataRepo$Match"
  | 2 => .object "StrataRepo$Tree"
  | 3 => .object "StrataRepo$Tree"
  | 4 => .object "StrataRepo$Tree"
  | 5 => .object "StrataRepo$Tree"
  | 6 => .array .int
  | 7 => .array .int
  | 8 => .array .int
  | 9 => .array .int
  | 10 => .int
  | 11 => .array .int
  | 12 => .array .int
  | _ => .int
theorem nmX3 : ∀ a, a < 14 → ∀ b, b < 14 → a ≠ b → (TX3 a).2.1 ≠ (TX3 b).2.1 := by decide +kernel
theorem tyX3_ok : ∀ k, k < 14 → parseFieldDescriptor (TX3 k).2.2.1 = some (tyX3 k) := by decide +kernel
abbrev cX3_init : ByteArray := prog_5_method_1_code
def yX3_init : MethodName := ⟨RX3, "<init>", "()V"⟩
abbrev cX3_start : ByteArray := prog_5_method_2_code
def yX3_start : MethodName := ⟨RX3, "start", "(LStrataRepo$Tree;LStrataRepo$Tree;LStrataRepo$Tree;)V"⟩
abbrev cX3_conflictCount : ByteArray := prog_5_method_3_code
def yX3_conflictCount : MethodName := ⟨RX3, "conflictCount", "()I"⟩
abbrev cX3_openCount : ByteArray := prog_5_method_4_code
def yX3_openCount : MethodName := ⟨RX3, "openCount", "()I"⟩
abbrev cX3_setWay : ByteArray := prog_5_method_5_code
def yX3_setWay : MethodName := ⟨RX3, "setWay", "(II)V"⟩
abbrev cX3_build : ByteArray := prog_5_method_6_code
def yX3_build : MethodName := ⟨RX3, "build", "()V"⟩
abbrev cX3_pieceOf : ByteArray := prog_5_method_7_code
def yX3_pieceOf : MethodName := ⟨RX3, "pieceOf", "(I)I"⟩
abbrev cX3_fileOf : ByteArray := prog_5_method_8_code
def yX3_fileOf : MethodName := ⟨RX3, "fileOf", "(I)I"⟩
abbrev cX3_sizeOf : ByteArray := prog_5_method_9_code
def yX3_sizeOf : MethodName := ⟨RX3, "sizeOf", "(II)I"⟩
abbrev cX3_lineOf : ByteArray := prog_5_method_10_code
def yX3_lineOf : MethodName := ⟨RX3, "lineOf", "(III)I"⟩
abbrev cX3_isPiece : ByteArray := prog_5_method_11_code
def yX3_isPiece : MethodName := ⟨RX3, "isPiece", "(I)Z"⟩
abbrev cX3_topOf : ByteArray := prog_5_method_12_code
def yX3_topOf : MethodName := ⟨RX3, "topOf", "(II)I"⟩
abbrev cX3_wayOf : ByteArray := prog_5_method_13_code
def yX3_wayOf : MethodName := ⟨RX3, "wayOf", "(I)I"⟩
abbrev cX3_treeOfSide : ByteArray := prog_5_method_14_code
def yX3_treeOfSide : MethodName := ⟨RX3, "treeOfSide", "(I)LStrataRepo$Tree;"⟩
abbrev cX3_cutFile : ByteArray := prog_5_method_15_code
def yX3_cutFile : MethodName := ⟨RX3, "cutFile", "(I)V"⟩
abbrev cX3_addPiece : ByteArray := prog_5_method_16_code
def yX3_addPiece : MethodName := ⟨RX3, "addPiece", "(IIII)V"⟩
abbrev cX3_addSpan : ByteArray := prog_5_method_17_code
def yX3_addSpan : MethodName := ⟨RX3, "addSpan", "(II)V"⟩
abbrev cX3_choose : ByteArray := prog_5_method_18_code
def yX3_choose : MethodName := ⟨RX3, "choose", "(I)V"⟩
abbrev cX3_isSame : ByteArray := prog_5_method_19_code
def yX3_isSame : MethodName := ⟨RX3, "isSame", "(III)Z"⟩
abbrev cX3_append : ByteArray := prog_5_method_20_code
def yX3_append : MethodName := ⟨RX3, "append", "(II)V"⟩
abbrev cX3_appendHeldLine : ByteArray := prog_5_method_21_code
def yX3_appendHeldLine : MethodName := ⟨RX3, "appendHeldLine", "(I)V"⟩
def RX4 : String := "StrataRepo$Tree"
def TX4 : u_T := fun k => match k with
  | 0 => ("StrataRepo$Tree", "sizes", "[I", true)
  | _ => ("StrataRepo$Tree", "cells", "[I", true)
def tyX4 : Nat → FieldType := fun k => match k with
  | 0 => .array .int
  | _ => .array .int
theorem nmX4 : ∀ a, a < 2 → ∀ b, b < 2 → a ≠ b → (TX4 a).2.1 ≠ (TX4 b).2.1 := by decide +kernel
theorem tyX4_ok : ∀ k, k < 2 → parseFieldDescriptor (TX4 k).2.2.1 = some (tyX4 k) := by decide +kernel
abbrev cX4_init : ByteArray := prog_6_method_1_code
def yX4_init : MethodName := ⟨RX4, "<init>", "()V"⟩
abbrev cX4_sizeOf : ByteArray := prog_6_method_2_code
def yX4_sizeOf : MethodName := ⟨RX4, "sizeOf", "(I)I"⟩
abbrev cX4_countOf : ByteArray := prog_6_method_3_code
def yX4_countOf : MethodName := ⟨RX4, "countOf", "(I)I"⟩
abbrev cX4_has : ByteArray := prog_6_method_4_code
def yX4_has : MethodName := ⟨RX4, "has", "(I)Z"⟩
abbrev cX4_lineOf : ByteArray := prog_6_method_5_code
def yX4_lineOf : MethodName := ⟨RX4, "lineOf", "(II)I"⟩
abbrev cX4_fileCount : ByteArray := prog_6_method_6_code
def yX4_fileCount : MethodName := ⟨RX4, "fileCount", "()I"⟩
abbrev cX4_putFile : ByteArray := prog_6_method_8_code
def yX4_putFile : MethodName := ⟨RX4, "putFile", "(I)V"⟩
abbrev cX4_takeFile : ByteArray := prog_6_method_9_code
def yX4_takeFile : MethodName := ⟨RX4, "takeFile", "(I)V"⟩
abbrev cX4_clear : ByteArray := prog_6_method_10_code
def yX4_clear : MethodName := ⟨RX4, "clear", "()V"⟩
abbrev cX4_setLine : ByteArray := prog_6_method_11_code
def yX4_setLine : MethodName := ⟨RX4, "setLine", "(III)V"⟩
abbrev cX4_putLine : ByteArray := prog_6_method_12_code
def yX4_putLine : MethodName := ⟨RX4, "putLine", "(III)V"⟩
abbrev cX4_takeLine : ByteArray := prog_6_method_13_code
def yX4_takeLine : MethodName := ⟨RX4, "takeLine", "(II)V"⟩
abbrev cX4_addLine : ByteArray := prog_6_method_14_code
def yX4_addLine : MethodName := ⟨RX4, "addLine", "(II)V"⟩
abbrev cX4_become : ByteArray := prog_6_method_15_code
def yX4_become : MethodName := ⟨RX4, "become", "(LStrataRepo$Tree;)V"⟩
abbrev cX4_othersThan : ByteArray := prog_6_method_16_code
def yX4_othersThan : MethodName := ⟨RX4, "othersThan", "(LStrataRepo$Tree;)I"⟩
abbrev cX4_hasSame : ByteArray := prog_6_method_17_code
def yX4_hasSame : MethodName := ⟨RX4, "hasSame", "(ILStrataRepo$Tree;)Z"⟩
def RX5 : String := "StrataRepo"
def TX5 : u_T := fun k => match k with
  | 0 => ("StrataRepo", "desk", "LStrataRepo$Tree;", true)
  | 1 => ("StrataRepo", "history", "LStrataRepo$History;", true)
  | 2 => ("StrataRepo", "tips", "[I", true)
  | 3 => ("StrataRepo", "head", "I", false)
  | 4 => ("StrataRepo", "match", "LStrataRepo$Match;", true)
  | 5 => ("StrataRepo", "merging", "LStrataRepo$Merging;", true)
  | 6 => ("StrataRepo", "suspects", "J", false)
  | 7 => ("StrataRepo", "workKind", "I", false)
  | 8 => ("StrataRepo", "workStart", "I", false)
  | 9 => ("StrataRepo", "workSource", "I", false)
  | 10 => ("StrataRepo", "workQueue", "J", false)
  | _ => ("StrataRepo", "workMade", "Z", false)
def tyX5 : Nat → FieldType := fun k => match k with
  | 0 => .object "StrataRepo$Tree"
  | 1 => .object "StrataRepo$History"
  | 2 => .array .int
  | 3 => .int
  | 4 => .object "StrataRepo$Match"
  | 5 => .object "StrataRepo$Merging"
  | 6 => .long
  | 7 => .int
  | 8 => .int
  | 9 => .int
  | 10 => .long
  | _ => .boolean
theorem nmX5 : ∀ a, a < 12 → ∀ b, b < 12 → a ≠ b → (TX5 a).2.1 ≠ (TX5 b).2.1 := by decide +kernel
theorem tyX5_ok : ∀ k, k < 12 → parseFieldDescriptor (TX5 k).2.2.1 = some (tyX5 k) := by decide +kernel
abbrev cX5_init : ByteArray := prog_1_method_1_code
def yX5_init : MethodName := ⟨RX5, "<init>", "()V"⟩
abbrev cX5_create : ByteArray := prog_1_method_2_code
def yX5_create : MethodName := ⟨RX5, "create", "(I)I"⟩
abbrev cX5_delete : ByteArray := prog_1_method_3_code
def yX5_delete : MethodName := ⟨RX5, "delete", "(I)I"⟩
abbrev cX5_insert : ByteArray := prog_1_method_4_code
def yX5_insert : MethodName := ⟨RX5, "insert", "(III)I"⟩
abbrev cX5_erase : ByteArray := prog_1_method_5_code
def yX5_erase : MethodName := ⟨RX5, "erase", "(II)I"⟩
abbrev cX5_replace : ByteArray := prog_1_method_6_code
def yX5_replace : MethodName := ⟨RX5, "replace", "(III)I"⟩
abbrev cX5_discard : ByteArray := prog_1_method_7_code
def yX5_discard : MethodName := ⟨RX5, "discard", "()I"⟩
abbrev cX5_commit : ByteArray := prog_1_method_8_code
def yX5_commit : MethodName := ⟨RX5, "commit", "(I)I"⟩
abbrev cX5_branch : ByteArray := prog_1_method_9_code
def yX5_branch : MethodName := ⟨RX5, "branch", "(I)I"⟩
abbrev cX5_go : ByteArray := prog_1_method_10_code
def yX5_go : MethodName := ⟨RX5, "go", "(I)I"⟩
abbrev cX5_drop : ByteArray := prog_1_method_11_code
def yX5_drop : MethodName := ⟨RX5, "drop", "(I)I"⟩
abbrev cX5_reset : ByteArray := prog_1_method_12_code
def yX5_reset : MethodName := ⟨RX5, "reset", "(I)I"⟩
abbrev cX5_sweep : ByteArray := prog_1_method_13_code
def yX5_sweep : MethodName := ⟨RX5, "sweep", "()I"⟩
abbrev cX5_merge : ByteArray := prog_1_method_14_code
def yX5_merge : MethodName := ⟨RX5, "merge", "(I)I"⟩
abbrev cX5_carry : ByteArray := prog_1_method_15_code
def yX5_carry : MethodName := ⟨RX5, "carry", "(I)I"⟩
abbrev cX5_takeBack : ByteArray := prog_1_method_16_code
def yX5_takeBack : MethodName := ⟨RX5, "takeBack", "(I)I"⟩
abbrev cX5_replay : ByteArray := prog_1_method_17_code
def yX5_replay : MethodName := ⟨RX5, "replay", "(I)I"⟩
abbrev cX5_settle : ByteArray := prog_1_method_18_code
def yX5_settle : MethodName := ⟨RX5, "settle", "(II)I"⟩
abbrev cX5_goOn : ByteArray := prog_1_method_19_code
def yX5_goOn : MethodName := ⟨RX5, "goOn", "()I"⟩
abbrev cX5_giveUp : ByteArray := prog_1_method_20_code
def yX5_giveUp : MethodName := ⟨RX5, "giveUp", "()I"⟩
abbrev cX5_pending : ByteArray := prog_1_method_21_code
def yX5_pending : MethodName := ⟨RX5, "pending", "()I"⟩
abbrev cX5_conflicts : ByteArray := prog_1_method_22_code
def yX5_conflicts : MethodName := ⟨RX5, "conflicts", "()I"⟩
abbrev cX5_unsettled : ByteArray := prog_1_method_23_code
def yX5_unsettled : MethodName := ⟨RX5, "unsettled", "()I"⟩
abbrev cX5_left : ByteArray := prog_1_method_24_code
def yX5_left : MethodName := ⟨RX5, "left", "()I"⟩
abbrev cX5_conflictFile : ByteArray := prog_1_method_25_code
def yX5_conflictFile : MethodName := ⟨RX5, "conflictFile", "(I)I"⟩
abbrev cX5_pieceSize : ByteArray := prog_1_method_26_code
def yX5_pieceSize : MethodName := ⟨RX5, "pieceSize", "(II)I"⟩
abbrev cX5_deskLines : ByteArray := prog_1_method_28_code
def yX5_deskLines : MethodName := ⟨RX5, "deskLines", "(I)I"⟩
abbrev cX5_isClean : ByteArray := prog_1_method_30_code
def yX5_isClean : MethodName := ⟨RX5, "isClean", "()Z"⟩
abbrev cX5_commits : ByteArray := prog_1_method_31_code
def yX5_commits : MethodName := ⟨RX5, "commits", "()I"⟩
abbrev cX5_isThere : ByteArray := prog_1_method_32_code
def yX5_isThere : MethodName := ⟨RX5, "isThere", "(I)Z"⟩
abbrev cX5_isReached : ByteArray := prog_1_method_33_code
def yX5_isReached : MethodName := ⟨RX5, "isReached", "(I)Z"⟩
abbrev cX5_parent : ByteArray := prog_1_method_34_code
def yX5_parent : MethodName := ⟨RX5, "parent", "(IZ)I"⟩
abbrev cX5_wordOf : ByteArray := prog_1_method_35_code
def yX5_wordOf : MethodName := ⟨RX5, "wordOf", "(I)I"⟩
abbrev cX5_lines : ByteArray := prog_1_method_36_code
def yX5_lines : MethodName := ⟨RX5, "lines", "(II)I"⟩
abbrev cX5_head : ByteArray := prog_1_method_38_code
def yX5_head : MethodName := ⟨RX5, "head", "()I"⟩
abbrev cX5_commitOf : ByteArray := prog_1_method_39_code
def yX5_commitOf : MethodName := ⟨RX5, "commitOf", "(I)I"⟩
abbrev cX5_isAncestor : ByteArray := prog_1_method_40_code
def yX5_isAncestor : MethodName := ⟨RX5, "isAncestor", "(II)Z"⟩
abbrev cX5_base : ByteArray := prog_1_method_41_code
def yX5_base : MethodName := ⟨RX5, "base", "(II)I"⟩
abbrev cX5_ahead : ByteArray := prog_1_method_42_code
def yX5_ahead : MethodName := ⟨RX5, "ahead", "(II)I"⟩
abbrev cX5_touched : ByteArray := prog_1_method_43_code
def yX5_touched : MethodName := ⟨RX5, "touched", "(II)I"⟩
abbrev cX5_added : ByteArray := prog_1_method_44_code
def yX5_added : MethodName := ⟨RX5, "added", "(III)I"⟩
abbrev cX5_pairOf : ByteArray := prog_1_method_45_code
def yX5_pairOf : MethodName := ⟨RX5, "pairOf", "(IIII)I"⟩
abbrev cX5_blame : ByteArray := prog_1_method_46_code
def yX5_blame : MethodName := ⟨RX5, "blame", "(III)I"⟩
abbrev cX5_depthOf : ByteArray := prog_1_method_47_code
def yX5_depthOf : MethodName := ⟨RX5, "depthOf", "(I)I"⟩
abbrev cX5_seek : ByteArray := prog_1_method_48_code
def yX5_seek : MethodName := ⟨RX5, "seek", "(II)I"⟩
abbrev cX5_probe : ByteArray := prog_1_method_49_code
def yX5_probe : MethodName := ⟨RX5, "probe", "()I"⟩
abbrev cX5_tell : ByteArray := prog_1_method_50_code
def yX5_tell : MethodName := ⟨RX5, "tell", "(Z)I"⟩
abbrev cX5_culprit : ByteArray := prog_1_method_51_code
def yX5_culprit : MethodName := ⟨RX5, "culprit", "()I"⟩
abbrev cX5_wouldMerge : ByteArray := prog_1_method_52_code
def yX5_wouldMerge : MethodName := ⟨RX5, "wouldMerge", "(I)I"⟩
abbrev cX5_wouldConflict : ByteArray := prog_1_method_53_code
def yX5_wouldConflict : MethodName := ⟨RX5, "wouldConflict", "(I)I"⟩
abbrev cX5_digest : ByteArray := prog_1_method_55_code
def yX5_digest : MethodName := ⟨RX5, "digest", "()J"⟩
abbrev cX5_withCommit : ByteArray := prog_1_method_56_code
def yX5_withCommit : MethodName := ⟨RX5, "withCommit", "(JI)J"⟩
abbrev cX5_withTree : ByteArray := prog_1_method_57_code
def yX5_withTree : MethodName := ⟨RX5, "withTree", "(JLStrataRepo$Tree;)J"⟩
abbrev cX5_withConflicts : ByteArray := prog_1_method_58_code
def yX5_withConflicts : MethodName := ⟨RX5, "withConflicts", "(J)J"⟩
abbrev cX5_needFile : ByteArray := prog_1_method_59_code
def yX5_needFile : MethodName := ⟨RX5, "needFile", "(I)V"⟩
abbrev cX5_needNumber : ByteArray := prog_1_method_60_code
def yX5_needNumber : MethodName := ⟨RX5, "needNumber", "(I)V"⟩
abbrev cX5_needPlace : ByteArray := prog_1_method_61_code
def yX5_needPlace : MethodName := ⟨RX5, "needPlace", "(II)V"⟩
abbrev cX5_needSide : ByteArray := prog_1_method_62_code
def yX5_needSide : MethodName := ⟨RX5, "needSide", "(I)V"⟩
abbrev cX5_needDeskPlace : ByteArray := prog_1_method_63_code
def yX5_needDeskPlace : MethodName := ⟨RX5, "needDeskPlace", "(II)V"⟩
abbrev cX5_needThere : ByteArray := prog_1_method_64_code
def yX5_needThere : MethodName := ⟨RX5, "needThere", "(I)V"⟩
abbrev cX5_needBoth : ByteArray := prog_1_method_65_code
def yX5_needBoth : MethodName := ⟨RX5, "needBoth", "(II)V"⟩
abbrev cX5_needLine : ByteArray := prog_1_method_66_code
def yX5_needLine : MethodName := ⟨RX5, "needLine", "(III)V"⟩
abbrev cX5_needBranch : ByteArray := prog_1_method_67_code
def yX5_needBranch : MethodName := ⟨RX5, "needBranch", "(I)V"⟩
abbrev cX5_needConflict : ByteArray := prog_1_method_68_code
def yX5_needConflict : MethodName := ⟨RX5, "needConflict", "(I)V"⟩
abbrev cX5_needNoWork : ByteArray := prog_1_method_69_code
def yX5_needNoWork : MethodName := ⟨RX5, "needNoWork", "()V"⟩
abbrev cX5_needWork : ByteArray := prog_1_method_70_code
def yX5_needWork : MethodName := ⟨RX5, "needWork", "()V"⟩
abbrev cX5_needRoom : ByteArray := prog_1_method_71_code
def yX5_needRoom : MethodName := ⟨RX5, "needRoom", "(I)V"⟩
abbrev cX5_needReady : ByteArray := prog_1_method_72_code
def yX5_needReady : MethodName := ⟨RX5, "needReady", "()V"⟩
abbrev cX5_needReadyFor : ByteArray := prog_1_method_73_code
def yX5_needReadyFor : MethodName := ⟨RX5, "needReadyFor", "(I)V"⟩
abbrev cX5_greatestOf : ByteArray := prog_1_method_74_code
def yX5_greatestOf : MethodName := ⟨RX5, "greatestOf", "(J)I"⟩
abbrev cX5_headCommit : ByteArray := prog_1_method_75_code
def yX5_headCommit : MethodName := ⟨RX5, "headCommit", "()I"⟩
abbrev cX5_treeOf : ByteArray := prog_1_method_76_code
def yX5_treeOf : MethodName := ⟨RX5, "treeOf", "(I)LStrataRepo$Tree;"⟩
abbrev cX5_parentTreeOf : ByteArray := prog_1_method_77_code
def yX5_parentTreeOf : MethodName := ⟨RX5, "parentTreeOf", "(I)LStrataRepo$Tree;"⟩
abbrev cX5_setTip : ByteArray := prog_1_method_78_code
def yX5_setTip : MethodName := ⟨RX5, "setTip", "(II)V"⟩
abbrev cX5_moveHead : ByteArray := prog_1_method_79_code
def yX5_moveHead : MethodName := ⟨RX5, "moveHead", "(I)V"⟩
abbrev cX5_branchCount : ByteArray := prog_1_method_80_code
def yX5_branchCount : MethodName := ⟨RX5, "branchCount", "()I"⟩
abbrev cX5_reached : ByteArray := prog_1_method_81_code
def yX5_reached : MethodName := ⟨RX5, "reached", "()J"⟩
abbrev cX5_placeBefore : ByteArray := prog_1_method_82_code
def yX5_placeBefore : MethodName := ⟨RX5, "placeBefore", "(ILStrataRepo$Commit;II)I"⟩
abbrev cX5_tryMerge : ByteArray := prog_1_method_83_code
def yX5_tryMerge : MethodName := ⟨RX5, "tryMerge", "(I)I"⟩
abbrev cX5_keepMerge : ByteArray := prog_1_method_84_code
def yX5_keepMerge : MethodName := ⟨RX5, "keepMerge", "(I)V"⟩
abbrev cX5_waitWith : ByteArray := prog_1_method_85_code
def yX5_waitWith : MethodName := ⟨RX5, "waitWith", "(II)V"⟩
abbrev cX5_keepOrWait : ByteArray := prog_1_method_86_code
def yX5_keepOrWait : MethodName := ⟨RX5, "keepOrWait", "(II)I"⟩
abbrev cX5_keepIfOther : ByteArray := prog_1_method_87_code
def yX5_keepIfOther : MethodName := ⟨RX5, "keepIfOther", "(I)Z"⟩
abbrev cX5_carryQueue : ByteArray := prog_1_method_88_code
def yX5_carryQueue : MethodName := ⟨RX5, "carryQueue", "()I"⟩
def RX6 : String := "StrataRepoModel"
def TX6 : u_T := fun k => match k with
  | _ => ("", "", "", false)
def tyX6 : Nat → FieldType := fun k => match k with
  | _ => .int
theorem nmX6 : ∀ a, a < 0 → ∀ b, b < 0 → a ≠ b → (TX6 a).2.1 ≠ (TX6 b).2.1 := by decide +kernel
theorem tyX6_ok : ∀ k, k < 0 → parseFieldDescriptor (TX6 k).2.2.1 = some (tyX6 k) := by decide +kernel
def RJx145de : String := "java/io/Serializable"
def TJx145de : u_T := fun k => match k with
  | _ => ("", "", "", false)
def tyJx145de : Nat → FieldType := fun k => match k with
  | _ => .int
theorem nmJx145de : ∀ a, a < 0 → ∀ b, b < 0 → a ≠ b → (TJx145de a).2.1 ≠ (TJx145de b).2.1 := by decide +kernel
theorem tyJx145de_ok : ∀ k, k < 0 → parseFieldDescriptor (TJx145de k).2.2.1 = some (tyJx145de k) := by decide +kernel
def RJ13 : String := "java/lang/Long"
def TJ13 : u_T := fun k => match k with
  | _ => ("", "", "", false)
def tyJ13 : Nat → FieldType := fun k => match k with
  | _ => .int
theorem nmJ13 : ∀ a, a < 0 → ∀ b, b < 0 → a ≠ b → (TJ13 a).2.1 ≠ (TJ13 b).2.1 := by decide +kernel
theorem tyJ13_ok : ∀ k, k < 0 → parseFieldDescriptor (TJ13 k).2.2.1 = some (tyJ13 k) := by decide +kernel
abbrev cJ13_bitCount_95d88 : ByteArray := prog_13_method_50_code
def yJ13_bitCount_95d88 : MethodName := ⟨RJ13, "bitCount", "(J)I"⟩
def RJ9 : String := "java/lang/Math"
def TJ9 : u_T := fun k => match k with
  | _ => ("", "", "", false)
def tyJ9 : Nat → FieldType := fun k => match k with
  | _ => .int
theorem nmJ9 : ∀ a, a < 0 → ∀ b, b < 0 → a ≠ b → (TJ9 a).2.1 ≠ (TJ9 b).2.1 := by decide +kernel
theorem tyJ9_ok : ∀ k, k < 0 → parseFieldDescriptor (TJ9 k).2.2.1 = some (tyJ9 k) := by decide +kernel
def yJ9_max_7cf53 : MethodName := ⟨RJ9, "max", "(II)I"⟩
def yJ9_min_7cf53 : MethodName := ⟨RJ9, "min", "(II)I"⟩
def RJ0 : String := "java/lang/String"
def TJ0 : u_T := fun k => match k with
  | _ => ("", "", "", false)
def tyJ0 : Nat → FieldType := fun k => match k with
  | _ => .int
theorem nmJ0 : ∀ a, a < 0 → ∀ b, b < 0 → a ≠ b → (TJ0 a).2.1 ≠ (TJ0 b).2.1 := by decide +kernel
theorem tyJ0_ok : ∀ k, k < 0 → parseFieldDescriptor (TJ0 k).2.2.1 = some (tyJ0 k) := by decide +kernel
def RJ10 : String := "java/lang/System"
def TJ10 : u_T := fun k => match k with
  | _ => ("", "", "", false)
def tyJ10 : Nat → FieldType := fun k => match k with
  | _ => .int
theorem nmJ10 : ∀ a, a < 0 → ∀ b, b < 0 → a ≠ b → (TJ10 a).2.1 ≠ (TJ10 b).2.1 := by decide +kernel
theorem tyJ10_ok : ∀ k, k < 0 → parseFieldDescriptor (TJ10 k).2.2.1 = some (tyJ10 k) := by decide +kernel
def RJ7 : String := "java/util/Arrays"
def TJ7 : u_T := fun k => match k with
  | _ => ("", "", "", false)
def tyJ7 : Nat → FieldType := fun k => match k with
  | _ => .int
theorem nmJ7 : ∀ a, a < 0 → ∀ b, b < 0 → a ≠ b → (TJ7 a).2.1 ≠ (TJ7 b).2.1 := by decide +kernel
theorem tyJ7_ok : ∀ k, k < 0 → parseFieldDescriptor (TJ7 k).2.2.1 = some (tyJ7 k) := by decide +kernel
abbrev cJ7_fill_53178 : ByteArray := prog_19_method_103_code
def yJ7_fill_53178 : MethodName := ⟨RJ7, "fill", "([II)V"⟩
def RL : String := "StrataRepoLaw"
abbrev cL_below : ByteArray := method_2_code
abbrev cL_cell : ByteArray := method_3_code
abbrev cL_law : ByteArray := code
abbrev cL_act : ByteArray := method_5_code
abbrev cL_isSound : ByteArray := method_6_code
abbrev vwCl : List vw_C := [(RX0, TX0, 6), (RX1, TX1, 4), (RX2, TX2, 4), (RX3, TX3, 14), (RX4, TX4, 2), (RX5, TX5, 12)]
theorem dX0_init_0 : decode cX0_init 0 = .ok (.aload_n 0, 1) := by decide +kernel
theorem dX0_init_1 : decode cX0_init 1 = .ok (.invokespecial 3, 3) := by decide +kernel
theorem dX0_init_4 : decode cX0_init 4 = .ok (.aload_n 0, 1) := by decide +kernel
theorem dX0_init_5 : decode cX0_init 5 = .ok (.aload_n 1, 1) := by decide +kernel
theorem dX0_init_6 : decode cX0_init 6 = .ok (.putfield 9, 3) := by decide +kernel
theorem dX0_init_9 : decode cX0_init 9 = .ok (.aload_n 0, 1) := by decide +kernel
theorem dX0_init_10 : decode cX0_init 10 = .ok (.iload_n 2, 1) := by decide +kernel
theorem dX0_init_11 : decode cX0_init 11 = .ok (.putfield 15, 3) := by decide +kernel
theorem dX0_init_14 : decode cX0_init 14 = .ok (.aload_n 0, 1) := by decide +kernel
theorem dX0_init_15 : decode cX0_init 15 = .ok (.iload_n 3, 1) := by decide +kernel
theorem dX0_init_16 : decode cX0_init 16 = .ok (.putfield 19, 3) := by decide +kernel
theorem dX0_init_19 : decode cX0_init 19 = .ok (.aload_n 0, 1) := by decide +kernel
theorem dX0_init_20 : decode cX0_init 20 = .ok (.iload 4, 2) := by decide +kernel
theorem dX0_init_22 : decode cX0_init 22 = .ok (.putfield 22, 3) := by decide +kernel
theorem dX0_init_25 : decode cX0_init 25 = .ok (.aload_n 0, 1) := by decide +kernel
theorem dX0_init_26 : decode cX0_init 26 = .ok (.iload 5, 2) := by decide +kernel
theorem dX0_init_28 : decode cX0_init 28 = .ok (.putfield 25, 3) := by decide +kernel
theorem dX0_init_31 : decode cX0_init 31 = .ok (.aload_n 0, 1) := by decide +kernel
theorem dX0_init_32 : decode cX0_init 32 = .ok (.lload 6, 2) := by decide +kernel
theorem dX0_init_34 : decode cX0_init 34 = .ok (.putfield 28, 3) := by decide +kernel
theorem dX0_init_37 : decode cX0_init 37 = .ok (.return_, 1) := by decide +kernel
theorem dX0_descendsFrom_0 : decode cX0_descendsFrom 0 = .ok (.iload_n 1, 1) := by decide +kernel
theorem dX0_descendsFrom_1 : decode cX0_descendsFrom 1 = .ok (.ifCond .lt 26, 3) := by decide +kernel
theorem dX0_descendsFrom_4 : decode cX0_descendsFrom 4 = .ok (.iload_n 1, 1) := by decide +kernel
theorem dX0_descendsFrom_5 : decode cX0_descendsFrom 5 = .ok (.bipush 60, 2) := by decide +kernel
theorem dX0_descendsFrom_7 : decode cX0_descendsFrom 7 = .ok (.if_icmp .ge 20, 3) := by decide +kernel
theorem dX0_descendsFrom_10 : decode cX0_descendsFrom 10 = .ok (.aload_n 0, 1) := by decide +kernel
theorem dX0_descendsFrom_11 : decode cX0_descendsFrom 11 = .ok (.getfield 28, 3) := by decide +kernel
theorem dX0_descendsFrom_14 : decode cX0_descendsFrom 14 = .ok (.lconst 1, 1) := by decide +kernel
theorem dX0_descendsFrom_15 : decode cX0_descendsFrom 15 = .ok (.iload_n 1, 1) := by decide +kernel
theorem dX0_descendsFrom_16 : decode cX0_descendsFrom 16 = .ok (.lshl, 1) := by decide +kernel
theorem dX0_descendsFrom_17 : decode cX0_descendsFrom 17 = .ok (.land, 1) := by decide +kernel
theorem dX0_descendsFrom_18 : decode cX0_descendsFrom 18 = .ok (.lconst 0, 1) := by decide +kernel
theorem dX0_descendsFrom_19 : decode cX0_descendsFrom 19 = .ok (.lcmp, 1) := by decide +kernel
theorem dX0_descendsFrom_20 : decode cX0_descendsFrom 20 = .ok (.ifCond .eq 7, 3) := by decide +kernel
theorem dX0_descendsFrom_23 : decode cX0_descendsFrom 23 = .ok (.iconst 1, 1) := by decide +kernel
theorem dX0_descendsFrom_24 : decode cX0_descendsFrom 24 = .ok (.goto 4, 3) := by decide +kernel
theorem dX0_descendsFrom_27 : decode cX0_descendsFrom 27 = .ok (.iconst 0, 1) := by decide +kernel
theorem dX0_descendsFrom_28 : decode cX0_descendsFrom 28 = .ok (.ireturn, 1) := by decide +kernel
theorem dX1_init_0 : decode cX1_init 0 = .ok (.aload_n 0, 1) := by decide +kernel
theorem dX1_init_1 : decode cX1_init 1 = .ok (.invokespecial 3, 3) := by decide +kernel
theorem dX1_init_4 : decode cX1_init 4 = .ok (.aload_n 0, 1) := by decide +kernel
theorem dX1_init_5 : decode cX1_init 5 = .ok (.bipush 60, 2) := by decide +kernel
theorem dX1_init_7 : decode cX1_init 7 = .ok (.anewarray 9, 3) := by decide +kernel
theorem dX1_init_10 : decode cX1_init 10 = .ok (.putfield 11, 3) := by decide +kernel
theorem dX1_init_13 : decode cX1_init 13 = .ok (.aload_n 0, 1) := by decide +kernel
theorem dX1_init_14 : decode cX1_init 14 = .ok (.new 9, 3) := by decide +kernel
theorem dX1_init_17 : decode cX1_init 17 = .ok (.dup, 1) := by decide +kernel
theorem dX1_init_18 : decode cX1_init 18 = .ok (.new 17, 3) := by decide +kernel
theorem dX1_init_21 : decode cX1_init 21 = .ok (.dup, 1) := by decide +kernel
theorem dX1_init_22 : decode cX1_init 22 = .ok (.invokespecial 19, 3) := by decide +kernel
theorem dX1_init_25 : decode cX1_init 25 = .ok (.iconst (-1), 1) := by decide +kernel
theorem dX1_init_26 : decode cX1_init 26 = .ok (.iconst (-1), 1) := by decide +kernel
theorem dX1_init_27 : decode cX1_init 27 = .ok (.iconst (-1), 1) := by decide +kernel
theorem dX1_init_28 : decode cX1_init 28 = .ok (.iconst 0, 1) := by decide +kernel
theorem dX1_init_29 : decode cX1_init 29 = .ok (.lconst 0, 1) := by decide +kernel
theorem dX1_init_30 : decode cX1_init 30 = .ok (.invokespecial 20, 3) := by decide +kernel
theorem dX1_init_33 : decode cX1_init 33 = .ok (.putfield 23, 3) := by decide +kernel
theorem dX1_init_36 : decode cX1_init 36 = .ok (.aload_n 0, 1) := by decide +kernel
theorem dX1_init_37 : decode cX1_init 37 = .ok (.iconst 0, 1) := by decide +kernel
theorem dX1_init_38 : decode cX1_init 38 = .ok (.putfield 27, 3) := by decide +kernel
theorem dX1_init_41 : decode cX1_init 41 = .ok (.aload_n 0, 1) := by decide +kernel
theorem dX1_init_42 : decode cX1_init 42 = .ok (.lconst 0, 1) := by decide +kernel
theorem dX1_init_43 : decode cX1_init 43 = .ok (.putfield 31, 3) := by decide +kernel
theorem dX1_init_46 : decode cX1_init 46 = .ok (.return_, 1) := by decide +kernel
theorem dX1_at_0 : decode cX1_at 0 = .ok (.iload_n 1, 1) := by decide +kernel
theorem dX1_at_1 : decode cX1_at 1 = .ok (.ifCond .lt 9, 3) := by decide +kernel
theorem dX1_at_4 : decode cX1_at 4 = .ok (.iload_n 1, 1) := by decide +kernel
theorem dX1_at_5 : decode cX1_at 5 = .ok (.bipush 60, 2) := by decide +kernel
theorem dX1_at_7 : decode cX1_at 7 = .ok (.if_icmp .lt 8, 3) := by decide +kernel
theorem dX1_at_10 : decode cX1_at 10 = .ok (.aload_n 0, 1) := by decide +kernel
theorem dX1_at_11 : decode cX1_at 11 = .ok (.getfield 23, 3) := by decide +kernel
theorem dX1_at_14 : decode cX1_at 14 = .ok (.areturn, 1) := by decide +kernel
theorem dX1_at_15 : decode cX1_at 15 = .ok (.aload_n 0, 1) := by decide +kernel
theorem dX1_at_16 : decode cX1_at 16 = .ok (.getfield 11, 3) := by decide +kernel
theorem dX1_at_19 : decode cX1_at 19 = .ok (.iload_n 1, 1) := by decide +kernel
theorem dX1_at_20 : decode cX1_at 20 = .ok (.aaload, 1) := by decide +kernel
theorem dX1_at_21 : decode cX1_at 21 = .ok (.astore_n 2, 1) := by decide +kernel
theorem dX1_at_22 : decode cX1_at 22 = .ok (.aload_n 2, 1) := by decide +kernel
theorem dX1_at_23 : decode cX1_at 23 = .ok (.ifnonnull 10, 3) := by decide +kernel
theorem dX1_at_26 : decode cX1_at 26 = .ok (.aload_n 0, 1) := by decide +kernel
theorem dX1_at_27 : decode cX1_at 27 = .ok (.getfield 23, 3) := by decide +kernel
theorem dX1_at_30 : decode cX1_at 30 = .ok (.goto 4, 3) := by decide +kernel
theorem dX1_at_33 : decode cX1_at 33 = .ok (.aload_n 2, 1) := by decide +kernel
theorem dX1_at_34 : decode cX1_at 34 = .ok (.areturn, 1) := by decide +kernel
theorem dX1_keeps_0 : decode cX1_keeps 0 = .ok (.iload_n 1, 1) := by decide +kernel
theorem dX1_keeps_1 : decode cX1_keeps 1 = .ok (.ifCond .lt 28, 3) := by decide +kernel
theorem dX1_keeps_4 : decode cX1_keeps 4 = .ok (.iload_n 1, 1) := by decide +kernel
theorem dX1_keeps_5 : decode cX1_keeps 5 = .ok (.aload_n 0, 1) := by decide +kernel
theorem dX1_keeps_6 : decode cX1_keeps 6 = .ok (.getfield 27, 3) := by decide +kernel
theorem dX1_keeps_9 : decode cX1_keeps 9 = .ok (.if_icmp .ge 20, 3) := by decide +kernel
theorem dX1_keeps_12 : decode cX1_keeps 12 = .ok (.aload_n 0, 1) := by decide +kernel
theorem dX1_keeps_13 : decode cX1_keeps 13 = .ok (.getfield 31, 3) := by decide +kernel
theorem dX1_keeps_16 : decode cX1_keeps 16 = .ok (.lconst 1, 1) := by decide +kernel
theorem dX1_keeps_17 : decode cX1_keeps 17 = .ok (.iload_n 1, 1) := by decide +kernel
theorem dX1_keeps_18 : decode cX1_keeps 18 = .ok (.lshl, 1) := by decide +kernel
theorem dX1_keeps_19 : decode cX1_keeps 19 = .ok (.land, 1) := by decide +kernel
theorem dX1_keeps_20 : decode cX1_keeps 20 = .ok (.lconst 0, 1) := by decide +kernel
theorem dX1_keeps_21 : decode cX1_keeps 21 = .ok (.lcmp, 1) := by decide +kernel
theorem dX1_keeps_22 : decode cX1_keeps 22 = .ok (.ifCond .ne 7, 3) := by decide +kernel
theorem dX1_keeps_25 : decode cX1_keeps 25 = .ok (.iconst 1, 1) := by decide +kernel
theorem dX1_keeps_26 : decode cX1_keeps 26 = .ok (.goto 4, 3) := by decide +kernel
theorem dX1_keeps_29 : decode cX1_keeps 29 = .ok (.iconst 0, 1) := by decide +kernel
theorem dX1_keeps_30 : decode cX1_keeps 30 = .ok (.ireturn, 1) := by decide +kernel
theorem dX1_add_0 : decode cX1_add 0 = .ok (.aload_n 0, 1) := by decide +kernel
theorem dX1_add_1 : decode cX1_add 1 = .ok (.getfield 27, 3) := by decide +kernel
theorem dX1_add_4 : decode cX1_add 4 = .ok (.bipush 60, 2) := by decide +kernel
theorem dX1_add_6 : decode cX1_add 6 = .ok (.if_icmp .lt 5, 3) := by decide +kernel
theorem dX1_add_9 : decode cX1_add 9 = .ok (.iconst (-1), 1) := by decide +kernel
theorem dX1_add_10 : decode cX1_add 10 = .ok (.ireturn, 1) := by decide +kernel
theorem dX1_add_11 : decode cX1_add 11 = .ok (.new 17, 3) := by decide +kernel
theorem dX1_add_14 : decode cX1_add 14 = .ok (.dup, 1) := by decide +kernel
theorem dX1_add_15 : decode cX1_add 15 = .ok (.invokespecial 19, 3) := by decide +kernel
theorem dX1_add_18 : decode cX1_add 18 = .ok (.astore 5, 2) := by decide +kernel
theorem dX1_add_20 : decode cX1_add 20 = .ok (.aload 5, 2) := by decide +kernel
theorem dX1_add_22 : decode cX1_add 22 = .ok (.aload_n 1, 1) := by decide +kernel
theorem dX1_add_23 : decode cX1_add 23 = .ok (.invokevirtual 35, 3) := by decide +kernel
theorem dX1_add_26 : decode cX1_add 26 = .ok (.iconst 1, 1) := by decide +kernel
theorem dX1_add_27 : decode cX1_add 27 = .ok (.aload_n 0, 1) := by decide +kernel
theorem dX1_add_28 : decode cX1_add 28 = .ok (.iload_n 3, 1) := by decide +kernel
theorem dX1_add_29 : decode cX1_add 29 = .ok (.invokevirtual 39, 3) := by decide +kernel
theorem dX1_add_32 : decode cX1_add 32 = .ok (.getfield 43, 3) := by decide +kernel
theorem dX1_add_35 : decode cX1_add 35 = .ok (.aload_n 0, 1) := by decide +kernel
theorem dX1_add_36 : decode cX1_add 36 = .ok (.iload 4, 2) := by decide +kernel
theorem dX1_add_38 : decode cX1_add 38 = .ok (.invokevirtual 39, 3) := by decide +kernel
theorem dX1_add_41 : decode cX1_add 41 = .ok (.getfield 43, 3) := by decide +kernel
theorem dX1_add_44 : decode cX1_add 44 = .ok (.invokestatic 46, 3) := by decide +kernel
theorem dX1_add_47 : decode cX1_add 47 = .ok (.iadd, 1) := by decide +kernel
theorem dX1_add_48 : decode cX1_add 48 = .ok (.istore 6, 2) := by decide +kernel
theorem dX1_add_50 : decode cX1_add 50 = .ok (.lconst 1, 1) := by decide +kernel
theorem dX1_add_51 : decode cX1_add 51 = .ok (.aload_n 0, 1) := by decide +kernel
theorem dX1_add_52 : decode cX1_add 52 = .ok (.getfield 27, 3) := by decide +kernel
theorem dX1_add_55 : decode cX1_add 55 = .ok (.lshl, 1) := by decide +kernel
theorem dX1_add_56 : decode cX1_add 56 = .ok (.aload_n 0, 1) := by decide +kernel
theorem dX1_add_57 : decode cX1_add 57 = .ok (.iload_n 3, 1) := by decide +kernel
theorem dX1_add_58 : decode cX1_add 58 = .ok (.invokevirtual 39, 3) := by decide +kernel
theorem dX1_add_61 : decode cX1_add 61 = .ok (.getfield 52, 3) := by decide +kernel
theorem dX1_add_64 : decode cX1_add 64 = .ok (.lor, 1) := by decide +kernel
theorem dX1_add_65 : decode cX1_add 65 = .ok (.aload_n 0, 1) := by decide +kernel
theorem dX1_add_66 : decode cX1_add 66 = .ok (.iload 4, 2) := by decide +kernel
theorem dX1_add_68 : decode cX1_add 68 = .ok (.invokevirtual 39, 3) := by decide +kernel
theorem dX1_add_71 : decode cX1_add 71 = .ok (.getfield 52, 3) := by decide +kernel
theorem dX1_add_74 : decode cX1_add 74 = .ok (.lor, 1) := by decide +kernel
theorem dX1_add_75 : decode cX1_add 75 = .ok (.lstore 7, 2) := by decide +kernel
theorem dX1_add_77 : decode cX1_add 77 = .ok (.aload_n 0, 1) := by decide +kernel
theorem dX1_add_78 : decode cX1_add 78 = .ok (.getfield 11, 3) := by decide +kernel
theorem dX1_add_81 : decode cX1_add 81 = .ok (.aload_n 0, 1) := by decide +kernel
theorem dX1_add_82 : decode cX1_add 82 = .ok (.getfield 27, 3) := by decide +kernel
theorem dX1_add_85 : decode cX1_add 85 = .ok (.new 9, 3) := by decide +kernel
theorem dX1_add_88 : decode cX1_add 88 = .ok (.dup, 1) := by decide +kernel
theorem dX1_add_89 : decode cX1_add 89 = .ok (.aload 5, 2) := by decide +kernel
theorem dX1_add_91 : decode cX1_add 91 = .ok (.iload_n 2, 1) := by decide +kernel
theorem dX1_add_92 : decode cX1_add 92 = .ok (.iload_n 3, 1) := by decide +kernel
theorem dX1_add_93 : decode cX1_add 93 = .ok (.iload 4, 2) := by decide +kernel
theorem dX1_add_95 : decode cX1_add 95 = .ok (.iload 6, 2) := by decide +kernel
theorem dX1_add_97 : decode cX1_add 97 = .ok (.lload 7, 2) := by decide +kernel
theorem dX1_add_99 : decode cX1_add 99 = .ok (.invokespecial 20, 3) := by decide +kernel
theorem dX1_add_102 : decode cX1_add 102 = .ok (.aastore, 1) := by decide +kernel
theorem dX1_add_103 : decode cX1_add 103 = .ok (.aload_n 0, 1) := by decide +kernel
theorem dX1_add_104 : decode cX1_add 104 = .ok (.dup, 1) := by decide +kernel
theorem dX1_add_105 : decode cX1_add 105 = .ok (.getfield 27, 3) := by decide +kernel
theorem dX1_add_108 : decode cX1_add 108 = .ok (.iconst 1, 1) := by decide +kernel
theorem dX1_add_109 : decode cX1_add 109 = .ok (.iadd, 1) := by decide +kernel
theorem dX1_add_110 : decode cX1_add 110 = .ok (.putfield 27, 3) := by decide +kernel
theorem dX1_add_113 : decode cX1_add 113 = .ok (.aload_n 0, 1) := by decide +kernel
theorem dX1_add_114 : decode cX1_add 114 = .ok (.getfield 27, 3) := by decide +kernel
theorem dX1_add_117 : decode cX1_add 117 = .ok (.iconst 1, 1) := by decide +kernel
theorem dX1_add_118 : decode cX1_add 118 = .ok (.isub, 1) := by decide +kernel
theorem dX1_add_119 : decode cX1_add 119 = .ok (.ireturn, 1) := by decide +kernel
theorem dX1_baseOf_0 : decode cX1_baseOf 0 = .ok (.aload_n 0, 1) := by decide +kernel
theorem dX1_baseOf_1 : decode cX1_baseOf 1 = .ok (.iload_n 1, 1) := by decide +kernel
theorem dX1_baseOf_2 : decode cX1_baseOf 2 = .ok (.invokevirtual 39, 3) := by decide +kernel
theorem dX1_baseOf_5 : decode cX1_baseOf 5 = .ok (.getfield 52, 3) := by decide +kernel
theorem dX1_baseOf_8 : decode cX1_baseOf 8 = .ok (.aload_n 0, 1) := by decide +kernel
theorem dX1_baseOf_9 : decode cX1_baseOf 9 = .ok (.iload_n 2, 1) := by decide +kernel
theorem dX1_baseOf_10 : decode cX1_baseOf 10 = .ok (.invokevirtual 39, 3) := by decide +kernel
theorem dX1_baseOf_13 : decode cX1_baseOf 13 = .ok (.getfield 52, 3) := by decide +kernel
theorem dX1_baseOf_16 : decode cX1_baseOf 16 = .ok (.land, 1) := by decide +kernel
theorem dX1_baseOf_17 : decode cX1_baseOf 17 = .ok (.invokestatic 55, 3) := by decide +kernel
theorem dX1_baseOf_20 : decode cX1_baseOf 20 = .ok (.ireturn, 1) := by decide +kernel
theorem dX1_withoutMerges_0 : decode cX1_withoutMerges 0 = .ok (.lload_n 1, 1) := by decide +kernel
theorem dX1_withoutMerges_1 : decode cX1_withoutMerges 1 = .ok (.lstore_n 3, 1) := by decide +kernel
theorem dX1_withoutMerges_2 : decode cX1_withoutMerges 2 = .ok (.iconst 0, 1) := by decide +kernel
theorem dX1_withoutMerges_3 : decode cX1_withoutMerges 3 = .ok (.istore 5, 2) := by decide +kernel
theorem dX1_withoutMerges_5 : decode cX1_withoutMerges 5 = .ok (.iload 5, 2) := by decide +kernel
theorem dX1_withoutMerges_7 : decode cX1_withoutMerges 7 = .ok (.bipush 60, 2) := by decide +kernel
theorem dX1_withoutMerges_9 : decode cX1_withoutMerges 9 = .ok (.if_icmp .ge 33, 3) := by decide +kernel
theorem dX1_withoutMerges_12 : decode cX1_withoutMerges 12 = .ok (.aload_n 0, 1) := by decide +kernel
theorem dX1_withoutMerges_13 : decode cX1_withoutMerges 13 = .ok (.iload 5, 2) := by decide +kernel
theorem dX1_withoutMerges_15 : decode cX1_withoutMerges 15 = .ok (.invokevirtual 39, 3) := by decide +kernel
theorem dX1_withoutMerges_18 : decode cX1_withoutMerges 18 = .ok (.getfield 59, 3) := by decide +kernel
theorem dX1_withoutMerges_21 : decode cX1_withoutMerges 21 = .ok (.iconst (-1), 1) := by decide +kernel
theorem dX1_withoutMerges_22 : decode cX1_withoutMerges 22 = .ok (.if_icmp .eq 14, 3) := by decide +kernel
theorem dX1_withoutMerges_25 : decode cX1_withoutMerges 25 = .ok (.lload_n 3, 1) := by decide +kernel
theorem dX1_withoutMerges_26 : decode cX1_withoutMerges 26 = .ok (.lconst 1, 1) := by decide +kernel
theorem dX1_withoutMerges_27 : decode cX1_withoutMerges 27 = .ok (.iload 5, 2) := by decide +kernel
theorem dX1_withoutMerges_29 : decode cX1_withoutMerges 29 = .ok (.lshl, 1) := by decide +kernel
theorem dX1_withoutMerges_30 : decode cX1_withoutMerges 30 = .ok (.ldc2_w 62, 3) := by decide +kernel
theorem dX1_withoutMerges_33 : decode cX1_withoutMerges 33 = .ok (.lxor, 1) := by decide +kernel
theorem dX1_withoutMerges_34 : decode cX1_withoutMerges 34 = .ok (.land, 1) := by decide +kernel
theorem dX1_withoutMerges_35 : decode cX1_withoutMerges 35 = .ok (.lstore_n 3, 1) := by decide +kernel
theorem dX1_withoutMerges_36 : decode cX1_withoutMerges 36 = .ok (.iinc 5 1, 3) := by decide +kernel
theorem dX1_withoutMerges_39 : decode cX1_withoutMerges 39 = .ok (.goto (-34), 3) := by decide +kernel
theorem dX1_withoutMerges_42 : decode cX1_withoutMerges 42 = .ok (.lload_n 3, 1) := by decide +kernel
theorem dX1_withoutMerges_43 : decode cX1_withoutMerges 43 = .ok (.lreturn, 1) := by decide +kernel
theorem dX1_keepOnly_0 : decode cX1_keepOnly 0 = .ok (.lconst 1, 1) := by decide +kernel
theorem dX1_keepOnly_1 : decode cX1_keepOnly 1 = .ok (.aload_n 0, 1) := by decide +kernel
theorem dX1_keepOnly_2 : decode cX1_keepOnly 2 = .ok (.getfield 27, 3) := by decide +kernel
theorem dX1_keepOnly_5 : decode cX1_keepOnly 5 = .ok (.lshl, 1) := by decide +kernel
theorem dX1_keepOnly_6 : decode cX1_keepOnly 6 = .ok (.lconst 1, 1) := by decide +kernel
theorem dX1_keepOnly_7 : decode cX1_keepOnly 7 = .ok (.lsub, 1) := by decide +kernel
theorem dX1_keepOnly_8 : decode cX1_keepOnly 8 = .ok (.aload_n 0, 1) := by decide +kernel
theorem dX1_keepOnly_9 : decode cX1_keepOnly 9 = .ok (.getfield 31, 3) := by decide +kernel
theorem dX1_keepOnly_12 : decode cX1_keepOnly 12 = .ok (.ldc2_w 62, 3) := by decide +kernel
theorem dX1_keepOnly_15 : decode cX1_keepOnly 15 = .ok (.lxor, 1) := by decide +kernel
theorem dX1_keepOnly_16 : decode cX1_keepOnly 16 = .ok (.land, 1) := by decide +kernel
theorem dX1_keepOnly_17 : decode cX1_keepOnly 17 = .ok (.lload_n 1, 1) := by decide +kernel
theorem dX1_keepOnly_18 : decode cX1_keepOnly 18 = .ok (.ldc2_w 62, 3) := by decide +kernel
theorem dX1_keepOnly_21 : decode cX1_keepOnly 21 = .ok (.lxor, 1) := by decide +kernel
theorem dX1_keepOnly_22 : decode cX1_keepOnly 22 = .ok (.land, 1) := by decide +kernel
theorem dX1_keepOnly_23 : decode cX1_keepOnly 23 = .ok (.lstore_n 3, 1) := by decide +kernel
theorem dX1_keepOnly_24 : decode cX1_keepOnly 24 = .ok (.aload_n 0, 1) := by decide +kernel
theorem dX1_keepOnly_25 : decode cX1_keepOnly 25 = .ok (.dup, 1) := by decide +kernel
theorem dX1_keepOnly_26 : decode cX1_keepOnly 26 = .ok (.getfield 31, 3) := by decide +kernel
theorem dX1_keepOnly_29 : decode cX1_keepOnly 29 = .ok (.lload_n 3, 1) := by decide +kernel
theorem dX1_keepOnly_30 : decode cX1_keepOnly 30 = .ok (.lor, 1) := by decide +kernel
theorem dX1_keepOnly_31 : decode cX1_keepOnly 31 = .ok (.putfield 31, 3) := by decide +kernel
theorem dX1_keepOnly_34 : decode cX1_keepOnly 34 = .ok (.lload_n 3, 1) := by decide +kernel
theorem dX1_keepOnly_35 : decode cX1_keepOnly 35 = .ok (.invokestatic 64, 3) := by decide +kernel
theorem dX1_keepOnly_38 : decode cX1_keepOnly 38 = .ok (.ireturn, 1) := by decide +kernel
theorem dX2_init_0 : decode cX2_init 0 = .ok (.aload_n 0, 1) := by decide +kernel
theorem dX2_init_1 : decode cX2_init 1 = .ok (.invokespecial 3, 3) := by decide +kernel
theorem dX2_init_4 : decode cX2_init 4 = .ok (.aload_n 0, 1) := by decide +kernel
theorem dX2_init_5 : decode cX2_init 5 = .ok (.sipush 1681, 3) := by decide +kernel
theorem dX2_init_8 : decode cX2_init 8 = .ok (.newarray .int, 2) := by decide +kernel
theorem dX2_init_10 : decode cX2_init 10 = .ok (.putfield 11, 3) := by decide +kernel
theorem dX2_init_13 : decode cX2_init 13 = .ok (.aload_n 0, 1) := by decide +kernel
theorem dX2_init_14 : decode cX2_init 14 = .ok (.bipush 40, 2) := by decide +kernel
theorem dX2_init_16 : decode cX2_init 16 = .ok (.newarray .int, 2) := by decide +kernel
theorem dX2_init_18 : decode cX2_init 18 = .ok (.putfield 15, 3) := by decide +kernel
theorem dX2_init_21 : decode cX2_init 21 = .ok (.aload_n 0, 1) := by decide +kernel
theorem dX2_init_22 : decode cX2_init 22 = .ok (.bipush 40, 2) := by decide +kernel
theorem dX2_init_24 : decode cX2_init 24 = .ok (.newarray .int, 2) := by decide +kernel
theorem dX2_init_26 : decode cX2_init 26 = .ok (.putfield 18, 3) := by decide +kernel
theorem dX2_init_29 : decode cX2_init 29 = .ok (.aload_n 0, 1) := by decide +kernel
theorem dX2_init_30 : decode cX2_init 30 = .ok (.iconst 0, 1) := by decide +kernel
theorem dX2_init_31 : decode cX2_init 31 = .ok (.putfield 21, 3) := by decide +kernel
theorem dX2_init_34 : decode cX2_init 34 = .ok (.return_, 1) := by decide +kernel
theorem dX2_run_0 : decode cX2_run 0 = .ok (.aload_n 0, 1) := by decide +kernel
theorem dX2_run_1 : decode cX2_run 1 = .ok (.getfield 15, 3) := by decide +kernel
theorem dX2_run_4 : decode cX2_run 4 = .ok (.iconst (-1), 1) := by decide +kernel
theorem dX2_run_5 : decode cX2_run 5 = .ok (.invokestatic 25, 3) := by decide +kernel
theorem dX2_run_8 : decode cX2_run 8 = .ok (.aload_n 0, 1) := by decide +kernel
theorem dX2_run_9 : decode cX2_run 9 = .ok (.getfield 18, 3) := by decide +kernel
theorem dX2_run_12 : decode cX2_run 12 = .ok (.iconst (-1), 1) := by decide +kernel
theorem dX2_run_13 : decode cX2_run 13 = .ok (.invokestatic 25, 3) := by decide +kernel
theorem dX2_run_16 : decode cX2_run 16 = .ok (.aload_n 0, 1) := by decide +kernel
theorem dX2_run_17 : decode cX2_run 17 = .ok (.iconst 0, 1) := by decide +kernel
theorem dX2_run_18 : decode cX2_run 18 = .ok (.putfield 21, 3) := by decide +kernel
theorem dX2_run_21 : decode cX2_run 21 = .ok (.aload_n 1, 1) := by decide +kernel
theorem dX2_run_22 : decode cX2_run 22 = .ok (.iload_n 3, 1) := by decide +kernel
theorem dX2_run_23 : decode cX2_run 23 = .ok (.invokevirtual 31, 3) := by decide +kernel
theorem dX2_run_26 : decode cX2_run 26 = .ok (.istore 4, 2) := by decide +kernel
theorem dX2_run_28 : decode cX2_run 28 = .ok (.aload_n 2, 1) := by decide +kernel
theorem dX2_run_29 : decode cX2_run 29 = .ok (.iload_n 3, 1) := by decide +kernel
theorem dX2_run_30 : decode cX2_run 30 = .ok (.invokevirtual 31, 3) := by decide +kernel
theorem dX2_run_33 : decode cX2_run 33 = .ok (.istore 5, 2) := by decide +kernel
theorem dX2_run_35 : decode cX2_run 35 = .ok (.iconst 0, 1) := by decide +kernel
theorem dX2_run_36 : decode cX2_run 36 = .ok (.istore 6, 2) := by decide +kernel
theorem dX2_run_38 : decode cX2_run 38 = .ok (.iload 6, 2) := by decide +kernel
theorem dX2_run_40 : decode cX2_run 40 = .ok (.iload 4, 2) := by decide +kernel
theorem dX2_run_42 : decode cX2_run 42 = .ok (.if_icmp .ge 41, 3) := by decide +kernel
theorem dX2_run_45 : decode cX2_run 45 = .ok (.iload 6, 2) := by decide +kernel
theorem dX2_run_47 : decode cX2_run 47 = .ok (.iload 5, 2) := by decide +kernel
theorem dX2_run_49 : decode cX2_run 49 = .ok (.if_icmp .ge 34, 3) := by decide +kernel
theorem dX2_run_52 : decode cX2_run 52 = .ok (.aload_n 1, 1) := by decide +kernel
theorem dX2_run_53 : decode cX2_run 53 = .ok (.iload_n 3, 1) := by decide +kernel
theorem dX2_run_54 : decode cX2_run 54 = .ok (.iload 6, 2) := by decide +kernel
theorem dX2_run_56 : decode cX2_run 56 = .ok (.invokevirtual 37, 3) := by decide +kernel
theorem dX2_run_59 : decode cX2_run 59 = .ok (.aload_n 2, 1) := by decide +kernel
theorem dX2_run_60 : decode cX2_run 60 = .ok (.iload_n 3, 1) := by decide +kernel
theorem dX2_run_61 : decode cX2_run 61 = .ok (.iload 6, 2) := by decide +kernel
theorem dX2_run_63 : decode cX2_run 63 = .ok (.invokevirtual 37, 3) := by decide +kernel
theorem dX2_run_66 : decode cX2_run 66 = .ok (.if_icmp .ne 17, 3) := by decide +kernel
theorem dX2_run_69 : decode cX2_run 69 = .ok (.aload_n 0, 1) := by decide +kernel
theorem dX2_run_70 : decode cX2_run 70 = .ok (.iload 6, 2) := by decide +kernel
theorem dX2_run_72 : decode cX2_run 72 = .ok (.iload 6, 2) := by decide +kernel
theorem dX2_run_74 : decode cX2_run 74 = .ok (.invokevirtual 41, 3) := by decide +kernel
theorem dX2_run_77 : decode cX2_run 77 = .ok (.iinc 6 1, 3) := by decide +kernel
theorem dX2_run_80 : decode cX2_run 80 = .ok (.goto (-42), 3) := by decide +kernel
theorem dX2_run_83 : decode cX2_run 83 = .ok (.iload 6, 2) := by decide +kernel
theorem dX2_run_85 : decode cX2_run 85 = .ok (.istore 7, 2) := by decide +kernel
theorem dX2_run_87 : decode cX2_run 87 = .ok (.aload_n 0, 1) := by decide +kernel
theorem dX2_run_88 : decode cX2_run 88 = .ok (.aload_n 1, 1) := by decide +kernel
theorem dX2_run_89 : decode cX2_run 89 = .ok (.aload_n 2, 1) := by decide +kernel
theorem dX2_run_90 : decode cX2_run 90 = .ok (.iload_n 3, 1) := by decide +kernel
theorem dX2_run_91 : decode cX2_run 91 = .ok (.iload 6, 2) := by decide +kernel
theorem dX2_run_93 : decode cX2_run 93 = .ok (.invokevirtual 45, 3) := by decide +kernel
theorem dX2_run_96 : decode cX2_run 96 = .ok (.iload 6, 2) := by decide +kernel
theorem dX2_run_98 : decode cX2_run 98 = .ok (.iload 4, 2) := by decide +kernel
theorem dX2_run_100 : decode cX2_run 100 = .ok (.if_icmp .ge 79, 3) := by decide +kernel
theorem dX2_run_103 : decode cX2_run 103 = .ok (.iload 7, 2) := by decide +kernel
theorem dX2_run_105 : decode cX2_run 105 = .ok (.iload 5, 2) := by decide +kernel
theorem dX2_run_107 : decode cX2_run 107 = .ok (.if_icmp .ge 72, 3) := by decide +kernel
theorem dX2_run_110 : decode cX2_run 110 = .ok (.aload_n 1, 1) := by decide +kernel
theorem dX2_run_111 : decode cX2_run 111 = .ok (.iload_n 3, 1) := by decide +kernel
theorem dX2_run_112 : decode cX2_run 112 = .ok (.iload 6, 2) := by decide +kernel
theorem dX2_run_114 : decode cX2_run 114 = .ok (.invokevirtual 37, 3) := by decide +kernel
theorem dX2_run_117 : decode cX2_run 117 = .ok (.aload_n 2, 1) := by decide +kernel
theorem dX2_run_118 : decode cX2_run 118 = .ok (.iload_n 3, 1) := by decide +kernel
theorem dX2_run_119 : decode cX2_run 119 = .ok (.iload 7, 2) := by decide +kernel
theorem dX2_run_121 : decode cX2_run 121 = .ok (.invokevirtual 37, 3) := by decide +kernel
theorem dX2_run_124 : decode cX2_run 124 = .ok (.if_icmp .ne 20, 3) := by decide +kernel
theorem dX2_run_127 : decode cX2_run 127 = .ok (.aload_n 0, 1) := by decide +kernel
theorem dX2_run_128 : decode cX2_run 128 = .ok (.iload 6, 2) := by decide +kernel
theorem dX2_run_130 : decode cX2_run 130 = .ok (.iload 7, 2) := by decide +kernel
theorem dX2_run_132 : decode cX2_run 132 = .ok (.invokevirtual 41, 3) := by decide +kernel
theorem dX2_run_135 : decode cX2_run 135 = .ok (.iinc 6 1, 3) := by decide +kernel
theorem dX2_run_138 : decode cX2_run 138 = .ok (.iinc 7 1, 3) := by decide +kernel
theorem dX2_run_141 : decode cX2_run 141 = .ok (.goto (-45), 3) := by decide +kernel
theorem dX2_run_144 : decode cX2_run 144 = .ok (.aload_n 0, 1) := by decide +kernel
theorem dX2_run_145 : decode cX2_run 145 = .ok (.iload 6, 2) := by decide +kernel
theorem dX2_run_147 : decode cX2_run 147 = .ok (.iconst 1, 1) := by decide +kernel
theorem dX2_run_148 : decode cX2_run 148 = .ok (.iadd, 1) := by decide +kernel
theorem dX2_run_149 : decode cX2_run 149 = .ok (.iload 7, 2) := by decide +kernel
theorem dX2_run_151 : decode cX2_run 151 = .ok (.invokevirtual 49, 3) := by decide +kernel
theorem dX2_run_154 : decode cX2_run 154 = .ok (.aload_n 0, 1) := by decide +kernel
theorem dX2_run_155 : decode cX2_run 155 = .ok (.iload 6, 2) := by decide +kernel
theorem dX2_run_157 : decode cX2_run 157 = .ok (.iload 7, 2) := by decide +kernel
theorem dX2_run_159 : decode cX2_run 159 = .ok (.iconst 1, 1) := by decide +kernel
theorem dX2_run_160 : decode cX2_run 160 = .ok (.iadd, 1) := by decide +kernel
theorem dX2_run_161 : decode cX2_run 161 = .ok (.invokevirtual 49, 3) := by decide +kernel
theorem dX2_run_164 : decode cX2_run 164 = .ok (.if_icmp .lt 9, 3) := by decide +kernel
theorem dX2_run_167 : decode cX2_run 167 = .ok (.iinc 6 1, 3) := by decide +kernel
theorem dX2_run_170 : decode cX2_run 170 = .ok (.goto (-74), 3) := by decide +kernel
theorem dX2_run_173 : decode cX2_run 173 = .ok (.iinc 7 1, 3) := by decide +kernel
theorem dX2_run_176 : decode cX2_run 176 = .ok (.goto (-80), 3) := by decide +kernel
theorem dX2_run_179 : decode cX2_run 179 = .ok (.return_, 1) := by decide +kernel
theorem dX2_placeInB_0 : decode cX2_placeInB 0 = .ok (.iload_n 1, 1) := by decide +kernel
theorem dX2_placeInB_1 : decode cX2_placeInB 1 = .ok (.ifCond .lt 9, 3) := by decide +kernel
theorem dX2_placeInB_4 : decode cX2_placeInB 4 = .ok (.iload_n 1, 1) := by decide +kernel
theorem dX2_placeInB_5 : decode cX2_placeInB 5 = .ok (.bipush 40, 2) := by decide +kernel
theorem dX2_placeInB_7 : decode cX2_placeInB 7 = .ok (.if_icmp .lt 7, 3) := by decide +kernel
theorem dX2_placeInB_10 : decode cX2_placeInB 10 = .ok (.iconst (-1), 1) := by decide +kernel
theorem dX2_placeInB_11 : decode cX2_placeInB 11 = .ok (.goto 9, 3) := by decide +kernel
theorem dX2_placeInB_14 : decode cX2_placeInB 14 = .ok (.aload_n 0, 1) := by decide +kernel
theorem dX2_placeInB_15 : decode cX2_placeInB 15 = .ok (.getfield 15, 3) := by decide +kernel
theorem dX2_placeInB_18 : decode cX2_placeInB 18 = .ok (.iload_n 1, 1) := by decide +kernel
theorem dX2_placeInB_19 : decode cX2_placeInB 19 = .ok (.iaload, 1) := by decide +kernel
theorem dX2_placeInB_20 : decode cX2_placeInB 20 = .ok (.ireturn, 1) := by decide +kernel
theorem dX2_placeInA_0 : decode cX2_placeInA 0 = .ok (.iload_n 1, 1) := by decide +kernel
theorem dX2_placeInA_1 : decode cX2_placeInA 1 = .ok (.ifCond .lt 9, 3) := by decide +kernel
theorem dX2_placeInA_4 : decode cX2_placeInA 4 = .ok (.iload_n 1, 1) := by decide +kernel
theorem dX2_placeInA_5 : decode cX2_placeInA 5 = .ok (.bipush 40, 2) := by decide +kernel
theorem dX2_placeInA_7 : decode cX2_placeInA 7 = .ok (.if_icmp .lt 7, 3) := by decide +kernel
theorem dX2_placeInA_10 : decode cX2_placeInA 10 = .ok (.iconst (-1), 1) := by decide +kernel
theorem dX2_placeInA_11 : decode cX2_placeInA 11 = .ok (.goto 9, 3) := by decide +kernel
theorem dX2_placeInA_14 : decode cX2_placeInA 14 = .ok (.aload_n 0, 1) := by decide +kernel
theorem dX2_placeInA_15 : decode cX2_placeInA 15 = .ok (.getfield 18, 3) := by decide +kernel
theorem dX2_placeInA_18 : decode cX2_placeInA 18 = .ok (.iload_n 1, 1) := by decide +kernel
theorem dX2_placeInA_19 : decode cX2_placeInA 19 = .ok (.iaload, 1) := by decide +kernel
theorem dX2_placeInA_20 : decode cX2_placeInA 20 = .ok (.ireturn, 1) := by decide +kernel
theorem dX2_pair_0 : decode cX2_pair 0 = .ok (.iload_n 1, 1) := by decide +kernel
theorem dX2_pair_1 : decode cX2_pair 1 = .ok (.ifCond .lt 43, 3) := by decide +kernel
theorem dX2_pair_4 : decode cX2_pair 4 = .ok (.iload_n 1, 1) := by decide +kernel
theorem dX2_pair_5 : decode cX2_pair 5 = .ok (.bipush 40, 2) := by decide +kernel
theorem dX2_pair_7 : decode cX2_pair 7 = .ok (.if_icmp .ge 37, 3) := by decide +kernel
theorem dX2_pair_10 : decode cX2_pair 10 = .ok (.iload_n 2, 1) := by decide +kernel
theorem dX2_pair_11 : decode cX2_pair 11 = .ok (.ifCond .lt 33, 3) := by decide +kernel
theorem dX2_pair_14 : decode cX2_pair 14 = .ok (.iload_n 2, 1) := by decide +kernel
theorem dX2_pair_15 : decode cX2_pair 15 = .ok (.bipush 40, 2) := by decide +kernel
theorem dX2_pair_17 : decode cX2_pair 17 = .ok (.if_icmp .ge 27, 3) := by decide +kernel
theorem dX2_pair_20 : decode cX2_pair 20 = .ok (.aload_n 0, 1) := by decide +kernel
theorem dX2_pair_21 : decode cX2_pair 21 = .ok (.getfield 15, 3) := by decide +kernel
theorem dX2_pair_24 : decode cX2_pair 24 = .ok (.iload_n 1, 1) := by decide +kernel
theorem dX2_pair_25 : decode cX2_pair 25 = .ok (.iload_n 2, 1) := by decide +kernel
theorem dX2_pair_26 : decode cX2_pair 26 = .ok (.iastore, 1) := by decide +kernel
theorem dX2_pair_27 : decode cX2_pair 27 = .ok (.aload_n 0, 1) := by decide +kernel
theorem dX2_pair_28 : decode cX2_pair 28 = .ok (.getfield 18, 3) := by decide +kernel
theorem dX2_pair_31 : decode cX2_pair 31 = .ok (.iload_n 2, 1) := by decide +kernel
theorem dX2_pair_32 : decode cX2_pair 32 = .ok (.iload_n 1, 1) := by decide +kernel
theorem dX2_pair_33 : decode cX2_pair 33 = .ok (.iastore, 1) := by decide +kernel
theorem dX2_pair_34 : decode cX2_pair 34 = .ok (.aload_n 0, 1) := by decide +kernel
theorem dX2_pair_35 : decode cX2_pair 35 = .ok (.dup, 1) := by decide +kernel
theorem dX2_pair_36 : decode cX2_pair 36 = .ok (.getfield 21, 3) := by decide +kernel
theorem dX2_pair_39 : decode cX2_pair 39 = .ok (.iconst 1, 1) := by decide +kernel
theorem dX2_pair_40 : decode cX2_pair 40 = .ok (.iadd, 1) := by decide +kernel
theorem dX2_pair_41 : decode cX2_pair 41 = .ok (.putfield 21, 3) := by decide +kernel
theorem dX2_pair_44 : decode cX2_pair 44 = .ok (.return_, 1) := by decide +kernel
theorem dX2_measure_0 : decode cX2_measure 0 = .ok (.aload_n 1, 1) := by decide +kernel
theorem dX2_measure_1 : decode cX2_measure 1 = .ok (.iload_n 3, 1) := by decide +kernel
theorem dX2_measure_2 : decode cX2_measure 2 = .ok (.invokevirtual 31, 3) := by decide +kernel
theorem dX2_measure_5 : decode cX2_measure 5 = .ok (.istore 5, 2) := by decide +kernel
theorem dX2_measure_7 : decode cX2_measure 7 = .ok (.aload_n 2, 1) := by decide +kernel
theorem dX2_measure_8 : decode cX2_measure 8 = .ok (.iload_n 3, 1) := by decide +kernel
theorem dX2_measure_9 : decode cX2_measure 9 = .ok (.invokevirtual 31, 3) := by decide +kernel
theorem dX2_measure_12 : decode cX2_measure 12 = .ok (.istore 6, 2) := by decide +kernel
theorem dX2_measure_14 : decode cX2_measure 14 = .ok (.iload 5, 2) := by decide +kernel
theorem dX2_measure_16 : decode cX2_measure 16 = .ok (.istore 7, 2) := by decide +kernel
theorem dX2_measure_18 : decode cX2_measure 18 = .ok (.iload 7, 2) := by decide +kernel
theorem dX2_measure_20 : decode cX2_measure 20 = .ok (.iload 4, 2) := by decide +kernel
theorem dX2_measure_22 : decode cX2_measure 22 = .ok (.if_icmp .lt 125, 3) := by decide +kernel
theorem dX2_measure_25 : decode cX2_measure 25 = .ok (.iload 6, 2) := by decide +kernel
theorem dX2_measure_27 : decode cX2_measure 27 = .ok (.istore 8, 2) := by decide +kernel
theorem dX2_measure_29 : decode cX2_measure 29 = .ok (.iload 8, 2) := by decide +kernel
theorem dX2_measure_31 : decode cX2_measure 31 = .ok (.iload 4, 2) := by decide +kernel
theorem dX2_measure_33 : decode cX2_measure 33 = .ok (.if_icmp .lt 108, 3) := by decide +kernel
theorem dX2_measure_36 : decode cX2_measure 36 = .ok (.iload 7, 2) := by decide +kernel
theorem dX2_measure_38 : decode cX2_measure 38 = .ok (.iload 5, 2) := by decide +kernel
theorem dX2_measure_40 : decode cX2_measure 40 = .ok (.if_icmp .eq 10, 3) := by decide +kernel
theorem dX2_measure_43 : decode cX2_measure 43 = .ok (.iload 8, 2) := by decide +kernel
theorem dX2_measure_45 : decode cX2_measure 45 = .ok (.iload 6, 2) := by decide +kernel
theorem dX2_measure_47 : decode cX2_measure 47 = .ok (.if_icmp .ne 15, 3) := by decide +kernel
theorem dX2_measure_50 : decode cX2_measure 50 = .ok (.aload_n 0, 1) := by decide +kernel
theorem dX2_measure_51 : decode cX2_measure 51 = .ok (.iload 7, 2) := by decide +kernel
theorem dX2_measure_53 : decode cX2_measure 53 = .ok (.iload 8, 2) := by decide +kernel
theorem dX2_measure_55 : decode cX2_measure 55 = .ok (.iconst 0, 1) := by decide +kernel
theorem dX2_measure_56 : decode cX2_measure 56 = .ok (.invokevirtual 52, 3) := by decide +kernel
theorem dX2_measure_59 : decode cX2_measure 59 = .ok (.goto 76, 3) := by decide +kernel
theorem dX2_measure_62 : decode cX2_measure 62 = .ok (.aload_n 1, 1) := by decide +kernel
theorem dX2_measure_63 : decode cX2_measure 63 = .ok (.iload_n 3, 1) := by decide +kernel
theorem dX2_measure_64 : decode cX2_measure 64 = .ok (.iload 7, 2) := by decide +kernel
theorem dX2_measure_66 : decode cX2_measure 66 = .ok (.invokevirtual 37, 3) := by decide +kernel
theorem dX2_measure_69 : decode cX2_measure 69 = .ok (.aload_n 2, 1) := by decide +kernel
theorem dX2_measure_70 : decode cX2_measure 70 = .ok (.iload_n 3, 1) := by decide +kernel
theorem dX2_measure_71 : decode cX2_measure 71 = .ok (.iload 8, 2) := by decide +kernel
theorem dX2_measure_73 : decode cX2_measure 73 = .ok (.invokevirtual 37, 3) := by decide +kernel
theorem dX2_measure_76 : decode cX2_measure 76 = .ok (.if_icmp .ne 28, 3) := by decide +kernel
theorem dX2_measure_79 : decode cX2_measure 79 = .ok (.aload_n 0, 1) := by decide +kernel
theorem dX2_measure_80 : decode cX2_measure 80 = .ok (.iload 7, 2) := by decide +kernel
theorem dX2_measure_82 : decode cX2_measure 82 = .ok (.iload 8, 2) := by decide +kernel
theorem dX2_measure_84 : decode cX2_measure 84 = .ok (.iconst 1, 1) := by decide +kernel
theorem dX2_measure_85 : decode cX2_measure 85 = .ok (.aload_n 0, 1) := by decide +kernel
theorem dX2_measure_86 : decode cX2_measure 86 = .ok (.iload 7, 2) := by decide +kernel
theorem dX2_measure_88 : decode cX2_measure 88 = .ok (.iconst 1, 1) := by decide +kernel
theorem dX2_measure_89 : decode cX2_measure 89 = .ok (.iadd, 1) := by decide +kernel
theorem dX2_measure_90 : decode cX2_measure 90 = .ok (.iload 8, 2) := by decide +kernel
theorem dX2_measure_92 : decode cX2_measure 92 = .ok (.iconst 1, 1) := by decide +kernel
theorem dX2_measure_93 : decode cX2_measure 93 = .ok (.iadd, 1) := by decide +kernel
theorem dX2_measure_94 : decode cX2_measure 94 = .ok (.invokevirtual 49, 3) := by decide +kernel
theorem dX2_measure_97 : decode cX2_measure 97 = .ok (.iadd, 1) := by decide +kernel
theorem dX2_measure_98 : decode cX2_measure 98 = .ok (.invokevirtual 52, 3) := by decide +kernel
theorem dX2_measure_101 : decode cX2_measure 101 = .ok (.goto 34, 3) := by decide +kernel
theorem dX2_measure_104 : decode cX2_measure 104 = .ok (.aload_n 0, 1) := by decide +kernel
theorem dX2_measure_105 : decode cX2_measure 105 = .ok (.iload 7, 2) := by decide +kernel
theorem dX2_measure_107 : decode cX2_measure 107 = .ok (.iload 8, 2) := by decide +kernel
theorem dX2_measure_109 : decode cX2_measure 109 = .ok (.aload_n 0, 1) := by decide +kernel
theorem dX2_measure_110 : decode cX2_measure 110 = .ok (.iload 7, 2) := by decide +kernel
theorem dX2_measure_112 : decode cX2_measure 112 = .ok (.iconst 1, 1) := by decide +kernel
theorem dX2_measure_113 : decode cX2_measure 113 = .ok (.iadd, 1) := by decide +kernel
theorem dX2_measure_114 : decode cX2_measure 114 = .ok (.iload 8, 2) := by decide +kernel
theorem dX2_measure_116 : decode cX2_measure 116 = .ok (.invokevirtual 49, 3) := by decide +kernel
theorem dX2_measure_119 : decode cX2_measure 119 = .ok (.aload_n 0, 1) := by decide +kernel
theorem dX2_measure_120 : decode cX2_measure 120 = .ok (.iload 7, 2) := by decide +kernel
theorem dX2_measure_122 : decode cX2_measure 122 = .ok (.iload 8, 2) := by decide +kernel
theorem dX2_measure_124 : decode cX2_measure 124 = .ok (.iconst 1, 1) := by decide +kernel
theorem dX2_measure_125 : decode cX2_measure 125 = .ok (.iadd, 1) := by decide +kernel
theorem dX2_measure_126 : decode cX2_measure 126 = .ok (.invokevirtual 49, 3) := by decide +kernel
theorem dX2_measure_129 : decode cX2_measure 129 = .ok (.invokestatic 56, 3) := by decide +kernel
theorem dX2_measure_132 : decode cX2_measure 132 = .ok (.invokevirtual 52, 3) := by decide +kernel
theorem dX2_measure_135 : decode cX2_measure 135 = .ok (.iinc 8 (-1), 3) := by decide +kernel
theorem dX2_measure_138 : decode cX2_measure 138 = .ok (.goto (-109), 3) := by decide +kernel
theorem dX2_measure_141 : decode cX2_measure 141 = .ok (.iinc 7 (-1), 3) := by decide +kernel
theorem dX2_measure_144 : decode cX2_measure 144 = .ok (.goto (-126), 3) := by decide +kernel
theorem dX2_measure_147 : decode cX2_measure 147 = .ok (.return_, 1) := by decide +kernel
theorem dX2_longestFrom_0 : decode cX2_longestFrom 0 = .ok (.iload_n 1, 1) := by decide +kernel
theorem dX2_longestFrom_1 : decode cX2_longestFrom 1 = .ok (.ifCond .lt 19, 3) := by decide +kernel
theorem dX2_longestFrom_4 : decode cX2_longestFrom 4 = .ok (.iload_n 1, 1) := by decide +kernel
theorem dX2_longestFrom_5 : decode cX2_longestFrom 5 = .ok (.bipush 41, 2) := by decide +kernel
theorem dX2_longestFrom_7 : decode cX2_longestFrom 7 = .ok (.if_icmp .ge 13, 3) := by decide +kernel
theorem dX2_longestFrom_10 : decode cX2_longestFrom 10 = .ok (.iload_n 2, 1) := by decide +kernel
theorem dX2_longestFrom_11 : decode cX2_longestFrom 11 = .ok (.ifCond .lt 9, 3) := by decide +kernel
theorem dX2_longestFrom_14 : decode cX2_longestFrom 14 = .ok (.iload_n 2, 1) := by decide +kernel
theorem dX2_longestFrom_15 : decode cX2_longestFrom 15 = .ok (.bipush 41, 2) := by decide +kernel
theorem dX2_longestFrom_17 : decode cX2_longestFrom 17 = .ok (.if_icmp .lt 7, 3) := by decide +kernel
theorem dX2_longestFrom_20 : decode cX2_longestFrom 20 = .ok (.iconst 0, 1) := by decide +kernel
theorem dX2_longestFrom_21 : decode cX2_longestFrom 21 = .ok (.goto 14, 3) := by decide +kernel
theorem dX2_longestFrom_24 : decode cX2_longestFrom 24 = .ok (.aload_n 0, 1) := by decide +kernel
theorem dX2_longestFrom_25 : decode cX2_longestFrom 25 = .ok (.getfield 11, 3) := by decide +kernel
theorem dX2_longestFrom_28 : decode cX2_longestFrom 28 = .ok (.iload_n 1, 1) := by decide +kernel
theorem dX2_longestFrom_29 : decode cX2_longestFrom 29 = .ok (.bipush 41, 2) := by decide +kernel
theorem dX2_longestFrom_31 : decode cX2_longestFrom 31 = .ok (.imul, 1) := by decide +kernel
theorem dX2_longestFrom_32 : decode cX2_longestFrom 32 = .ok (.iload_n 2, 1) := by decide +kernel
theorem dX2_longestFrom_33 : decode cX2_longestFrom 33 = .ok (.iadd, 1) := by decide +kernel
theorem dX2_longestFrom_34 : decode cX2_longestFrom 34 = .ok (.iaload, 1) := by decide +kernel
theorem dX2_longestFrom_35 : decode cX2_longestFrom 35 = .ok (.ireturn, 1) := by decide +kernel
theorem dX2_setLongest_0 : decode cX2_setLongest 0 = .ok (.iload_n 1, 1) := by decide +kernel
theorem dX2_setLongest_1 : decode cX2_setLongest 1 = .ok (.ifCond .lt 31, 3) := by decide +kernel
theorem dX2_setLongest_4 : decode cX2_setLongest 4 = .ok (.iload_n 1, 1) := by decide +kernel
theorem dX2_setLongest_5 : decode cX2_setLongest 5 = .ok (.bipush 41, 2) := by decide +kernel
theorem dX2_setLongest_7 : decode cX2_setLongest 7 = .ok (.if_icmp .ge 25, 3) := by decide +kernel
theorem dX2_setLongest_10 : decode cX2_setLongest 10 = .ok (.iload_n 2, 1) := by decide +kernel
theorem dX2_setLongest_11 : decode cX2_setLongest 11 = .ok (.ifCond .lt 21, 3) := by decide +kernel
theorem dX2_setLongest_14 : decode cX2_setLongest 14 = .ok (.iload_n 2, 1) := by decide +kernel
theorem dX2_setLongest_15 : decode cX2_setLongest 15 = .ok (.bipush 41, 2) := by decide +kernel
theorem dX2_setLongest_17 : decode cX2_setLongest 17 = .ok (.if_icmp .ge 15, 3) := by decide +kernel
theorem dX2_setLongest_20 : decode cX2_setLongest 20 = .ok (.aload_n 0, 1) := by decide +kernel
theorem dX2_setLongest_21 : decode cX2_setLongest 21 = .ok (.getfield 11, 3) := by decide +kernel
theorem dX2_setLongest_24 : decode cX2_setLongest 24 = .ok (.iload_n 1, 1) := by decide +kernel
theorem dX2_setLongest_25 : decode cX2_setLongest 25 = .ok (.bipush 41, 2) := by decide +kernel
theorem dX2_setLongest_27 : decode cX2_setLongest 27 = .ok (.imul, 1) := by decide +kernel
theorem dX2_setLongest_28 : decode cX2_setLongest 28 = .ok (.iload_n 2, 1) := by decide +kernel
theorem dX2_setLongest_29 : decode cX2_setLongest 29 = .ok (.iadd, 1) := by decide +kernel
theorem dX2_setLongest_30 : decode cX2_setLongest 30 = .ok (.iload_n 3, 1) := by decide +kernel
theorem dX2_setLongest_31 : decode cX2_setLongest 31 = .ok (.iastore, 1) := by decide +kernel
theorem dX2_setLongest_32 : decode cX2_setLongest 32 = .ok (.return_, 1) := by decide +kernel
theorem dX3_init_0 : decode cX3_init 0 = .ok (.aload_n 0, 1) := by decide +kernel
theorem dX3_init_1 : decode cX3_init 1 = .ok (.invokespecial 3, 3) := by decide +kernel
theorem dX3_init_4 : decode cX3_init 4 = .ok (.aload_n 0, 1) := by decide +kernel
theorem dX3_init_5 : decode cX3_init 5 = .ok (.new 9, 3) := by decide +kernel
theorem dX3_init_8 : decode cX3_init 8 = .ok (.dup, 1) := by decide +kernel
theorem dX3_init_9 : decode cX3_init 9 = .ok (.invokespecial 11, 3) := by decide +kernel
theorem dX3_init_12 : decode cX3_init 12 = .ok (.putfield 12, 3) := by decide +kernel
theorem dX3_init_15 : decode cX3_init 15 = .ok (.aload_n 0, 1) := by decide +kernel
theorem dX3_init_16 : decode cX3_init 16 = .ok (.new 9, 3) := by decide +kernel
theorem dX3_init_19 : decode cX3_init 19 = .ok (.dup, 1) := by decide +kernel
theorem dX3_init_20 : decode cX3_init 20 = .ok (.invokespecial 11, 3) := by decide +kernel
theorem dX3_init_23 : decode cX3_init 23 = .ok (.putfield 18, 3) := by decide +kernel
theorem dX3_init_26 : decode cX3_init 26 = .ok (.aload_n 0, 1) := by decide +kernel
theorem dX3_init_27 : decode cX3_init 27 = .ok (.new 21, 3) := by decide +kernel
theorem dX3_init_30 : decode cX3_init 30 = .ok (.dup, 1) := by decide +kernel
theorem dX3_init_31 : decode cX3_init 31 = .ok (.invokespecial 23, 3) := by decide +kernel
theorem dX3_init_34 : decode cX3_init 34 = .ok (.putfield 24, 3) := by decide +kernel
theorem dX3_init_37 : decode cX3_init 37 = .ok (.aload_n 0, 1) := by decide +kernel
theorem dX3_init_38 : decode cX3_init 38 = .ok (.aload_n 0, 1) := by decide +kernel
theorem dX3_init_39 : decode cX3_init 39 = .ok (.getfield 24, 3) := by decide +kernel
theorem dX3_init_42 : decode cX3_init 42 = .ok (.putfield 28, 3) := by decide +kernel
theorem dX3_init_45 : decode cX3_init 45 = .ok (.aload_n 0, 1) := by decide +kernel
theorem dX3_init_46 : decode cX3_init 46 = .ok (.aload_n 0, 1) := by decide +kernel
theorem dX3_init_47 : decode cX3_init 47 = .ok (.getfield 24, 3) := by decide +kernel
theorem dX3_init_50 : decode cX3_init 50 = .ok (.putfield 31, 3) := by decide +kernel
theorem dX3_init_53 : decode cX3_init 53 = .ok (.aload_n 0, 1) := by decide +kernel
theorem dX3_init_54 : decode cX3_init 54 = .ok (.aload_n 0, 1) := by decide +kernel
theorem dX3_init_55 : decode cX3_init 55 = .ok (.getfield 24, 3) := by decide +kernel
theorem dX3_init_58 : decode cX3_init 58 = .ok (.putfield 34, 3) := by decide +kernel
theorem dX3_init_61 : decode cX3_init 61 = .ok (.aload_n 0, 1) := by decide +kernel
theorem dX3_init_62 : decode cX3_init 62 = .ok (.sipush 328, 3) := by decide +kernel
theorem dX3_init_65 : decode cX3_init 65 = .ok (.newarray .int, 2) := by decide +kernel
theorem dX3_init_67 : decode cX3_init 67 = .ok (.putfield 37, 3) := by decide +kernel
theorem dX3_init_70 : decode cX3_init 70 = .ok (.aload_n 0, 1) := by decide +kernel
theorem dX3_init_71 : decode cX3_init 71 = .ok (.sipush 984, 3) := by decide +kernel
theorem dX3_init_74 : decode cX3_init 74 = .ok (.newarray .int, 2) := by decide +kernel
theorem dX3_init_76 : decode cX3_init 76 = .ok (.putfield 41, 3) := by decide +kernel
theorem dX3_init_79 : decode cX3_init 79 = .ok (.aload_n 0, 1) := by decide +kernel
theorem dX3_init_80 : decode cX3_init 80 = .ok (.sipush 984, 3) := by decide +kernel
theorem dX3_init_83 : decode cX3_init 83 = .ok (.newarray .int, 2) := by decide +kernel
theorem dX3_init_85 : decode cX3_init 85 = .ok (.putfield 44, 3) := by decide +kernel
theorem dX3_init_88 : decode cX3_init 88 = .ok (.aload_n 0, 1) := by decide +kernel
theorem dX3_init_89 : decode cX3_init 89 = .ok (.sipush 328, 3) := by decide +kernel
theorem dX3_init_92 : decode cX3_init 92 = .ok (.newarray .int, 2) := by decide +kernel
theorem dX3_init_94 : decode cX3_init 94 = .ok (.putfield 47, 3) := by decide +kernel
theorem dX3_init_97 : decode cX3_init 97 = .ok (.aload_n 0, 1) := by decide +kernel
theorem dX3_init_98 : decode cX3_init 98 = .ok (.iconst 0, 1) := by decide +kernel
theorem dX3_init_99 : decode cX3_init 99 = .ok (.putfield 50, 3) := by decide +kernel
theorem dX3_init_102 : decode cX3_init 102 = .ok (.aload_n 0, 1) := by decide +kernel
theorem dX3_init_103 : decode cX3_init 103 = .ok (.iconst 3, 1) := by decide +kernel
theorem dX3_init_104 : decode cX3_init 104 = .ok (.newarray .int, 2) := by decide +kernel
theorem dX3_init_106 : decode cX3_init 106 = .ok (.putfield 54, 3) := by decide +kernel
theorem dX3_init_109 : decode cX3_init 109 = .ok (.aload_n 0, 1) := by decide +kernel
theorem dX3_init_110 : decode cX3_init 110 = .ok (.sipush 328, 3) := by decide +kernel
theorem dX3_init_113 : decode cX3_init 113 = .ok (.newarray .int, 2) := by decide +kernel
theorem dX3_init_115 : decode cX3_init 115 = .ok (.putfield 57, 3) := by decide +kernel
theorem dX3_init_118 : decode cX3_init 118 = .ok (.aload_n 0, 1) := by decide +kernel
theorem dX3_init_119 : decode cX3_init 119 = .ok (.iconst 0, 1) := by decide +kernel
theorem dX3_init_120 : decode cX3_init 120 = .ok (.putfield 60, 3) := by decide +kernel
theorem dX3_init_123 : decode cX3_init 123 = .ok (.return_, 1) := by decide +kernel
theorem dX3_start_0 : decode cX3_start 0 = .ok (.aload_n 0, 1) := by decide +kernel
theorem dX3_start_1 : decode cX3_start 1 = .ok (.aload_n 1, 1) := by decide +kernel
theorem dX3_start_2 : decode cX3_start 2 = .ok (.putfield 28, 3) := by decide +kernel
theorem dX3_start_5 : decode cX3_start 5 = .ok (.aload_n 0, 1) := by decide +kernel
theorem dX3_start_6 : decode cX3_start 6 = .ok (.aload_n 2, 1) := by decide +kernel
theorem dX3_start_7 : decode cX3_start 7 = .ok (.putfield 31, 3) := by decide +kernel
theorem dX3_start_10 : decode cX3_start 10 = .ok (.aload_n 0, 1) := by decide +kernel
theorem dX3_start_11 : decode cX3_start 11 = .ok (.aload_n 3, 1) := by decide +kernel
theorem dX3_start_12 : decode cX3_start 12 = .ok (.putfield 34, 3) := by decide +kernel
theorem dX3_start_15 : decode cX3_start 15 = .ok (.aload_n 0, 1) := by decide +kernel
theorem dX3_start_16 : decode cX3_start 16 = .ok (.iconst 0, 1) := by decide +kernel
theorem dX3_start_17 : decode cX3_start 17 = .ok (.putfield 50, 3) := by decide +kernel
theorem dX3_start_20 : decode cX3_start 20 = .ok (.aload_n 0, 1) := by decide +kernel
theorem dX3_start_21 : decode cX3_start 21 = .ok (.iconst 0, 1) := by decide +kernel
theorem dX3_start_22 : decode cX3_start 22 = .ok (.putfield 60, 3) := by decide +kernel
theorem dX3_start_25 : decode cX3_start 25 = .ok (.iconst 0, 1) := by decide +kernel
theorem dX3_start_26 : decode cX3_start 26 = .ok (.istore 4, 2) := by decide +kernel
theorem dX3_start_28 : decode cX3_start 28 = .ok (.iload 4, 2) := by decide +kernel
theorem dX3_start_30 : decode cX3_start 30 = .ok (.bipush 8, 2) := by decide +kernel
theorem dX3_start_32 : decode cX3_start 32 = .ok (.if_icmp .ge 15, 3) := by decide +kernel
theorem dX3_start_35 : decode cX3_start 35 = .ok (.aload_n 0, 1) := by decide +kernel
theorem dX3_start_36 : decode cX3_start 36 = .ok (.iload 4, 2) := by decide +kernel
theorem dX3_start_38 : decode cX3_start 38 = .ok (.invokevirtual 63, 3) := by decide +kernel
theorem dX3_start_41 : decode cX3_start 41 = .ok (.iinc 4 1, 3) := by decide +kernel
theorem dX3_start_44 : decode cX3_start 44 = .ok (.goto (-16), 3) := by decide +kernel
theorem dX3_start_47 : decode cX3_start 47 = .ok (.iconst 0, 1) := by decide +kernel
theorem dX3_start_48 : decode cX3_start 48 = .ok (.istore 4, 2) := by decide +kernel
theorem dX3_start_50 : decode cX3_start 50 = .ok (.iload 4, 2) := by decide +kernel
theorem dX3_start_52 : decode cX3_start 52 = .ok (.aload_n 0, 1) := by decide +kernel
theorem dX3_start_53 : decode cX3_start 53 = .ok (.getfield 50, 3) := by decide +kernel
theorem dX3_start_56 : decode cX3_start 56 = .ok (.if_icmp .ge 15, 3) := by decide +kernel
theorem dX3_start_59 : decode cX3_start 59 = .ok (.aload_n 0, 1) := by decide +kernel
theorem dX3_start_60 : decode cX3_start 60 = .ok (.iload 4, 2) := by decide +kernel
theorem dX3_start_62 : decode cX3_start 62 = .ok (.invokevirtual 67, 3) := by decide +kernel
theorem dX3_start_65 : decode cX3_start 65 = .ok (.iinc 4 1, 3) := by decide +kernel
theorem dX3_start_68 : decode cX3_start 68 = .ok (.goto (-18), 3) := by decide +kernel
theorem dX3_start_71 : decode cX3_start 71 = .ok (.aload_n 0, 1) := by decide +kernel
theorem dX3_start_72 : decode cX3_start 72 = .ok (.invokevirtual 70, 3) := by decide +kernel
theorem dX3_start_75 : decode cX3_start 75 = .ok (.return_, 1) := by decide +kernel
theorem dX3_conflictCount_0 : decode cX3_conflictCount 0 = .ok (.aload_n 0, 1) := by decide +kernel
theorem dX3_conflictCount_1 : decode cX3_conflictCount 1 = .ok (.getfield 60, 3) := by decide +kernel
theorem dX3_conflictCount_4 : decode cX3_conflictCount 4 = .ok (.ireturn, 1) := by decide +kernel
theorem dX3_openCount_0 : decode cX3_openCount 0 = .ok (.iconst 0, 1) := by decide +kernel
theorem dX3_openCount_1 : decode cX3_openCount 1 = .ok (.istore_n 1, 1) := by decide +kernel
theorem dX3_openCount_2 : decode cX3_openCount 2 = .ok (.iconst 0, 1) := by decide +kernel
theorem dX3_openCount_3 : decode cX3_openCount 3 = .ok (.istore_n 2, 1) := by decide +kernel
theorem dX3_openCount_4 : decode cX3_openCount 4 = .ok (.iload_n 2, 1) := by decide +kernel
theorem dX3_openCount_5 : decode cX3_openCount 5 = .ok (.aload_n 0, 1) := by decide +kernel
theorem dX3_openCount_6 : decode cX3_openCount 6 = .ok (.getfield 60, 3) := by decide +kernel
theorem dX3_openCount_9 : decode cX3_openCount 9 = .ok (.if_icmp .ge 25, 3) := by decide +kernel
theorem dX3_openCount_12 : decode cX3_openCount 12 = .ok (.aload_n 0, 1) := by decide +kernel
theorem dX3_openCount_13 : decode cX3_openCount 13 = .ok (.aload_n 0, 1) := by decide +kernel
theorem dX3_openCount_14 : decode cX3_openCount 14 = .ok (.iload_n 2, 1) := by decide +kernel
theorem dX3_openCount_15 : decode cX3_openCount 15 = .ok (.invokevirtual 73, 3) := by decide +kernel
theorem dX3_openCount_18 : decode cX3_openCount 18 = .ok (.invokevirtual 77, 3) := by decide +kernel
theorem dX3_openCount_21 : decode cX3_openCount 21 = .ok (.iconst (-1), 1) := by decide +kernel
theorem dX3_openCount_22 : decode cX3_openCount 22 = .ok (.if_icmp .ne 6, 3) := by decide +kernel
theorem dX3_openCount_25 : decode cX3_openCount 25 = .ok (.iinc 1 1, 3) := by decide +kernel
theorem dX3_openCount_28 : decode cX3_openCount 28 = .ok (.iinc 2 1, 3) := by decide +kernel
theorem dX3_openCount_31 : decode cX3_openCount 31 = .ok (.goto (-27), 3) := by decide +kernel
theorem dX3_openCount_34 : decode cX3_openCount 34 = .ok (.iload_n 1, 1) := by decide +kernel
theorem dX3_openCount_35 : decode cX3_openCount 35 = .ok (.ireturn, 1) := by decide +kernel
theorem dX3_setWay_0 : decode cX3_setWay 0 = .ok (.aload_n 0, 1) := by decide +kernel
theorem dX3_setWay_1 : decode cX3_setWay 1 = .ok (.iload_n 1, 1) := by decide +kernel
theorem dX3_setWay_2 : decode cX3_setWay 2 = .ok (.invokevirtual 73, 3) := by decide +kernel
theorem dX3_setWay_5 : decode cX3_setWay 5 = .ok (.istore_n 3, 1) := by decide +kernel
theorem dX3_setWay_6 : decode cX3_setWay 6 = .ok (.iload_n 3, 1) := by decide +kernel
theorem dX3_setWay_7 : decode cX3_setWay 7 = .ok (.invokestatic 80, 3) := by decide +kernel
theorem dX3_setWay_10 : decode cX3_setWay 10 = .ok (.ifCond .eq 10, 3) := by decide +kernel
theorem dX3_setWay_13 : decode cX3_setWay 13 = .ok (.aload_n 0, 1) := by decide +kernel
theorem dX3_setWay_14 : decode cX3_setWay 14 = .ok (.getfield 47, 3) := by decide +kernel
theorem dX3_setWay_17 : decode cX3_setWay 17 = .ok (.iload_n 3, 1) := by decide +kernel
theorem dX3_setWay_18 : decode cX3_setWay 18 = .ok (.iload_n 2, 1) := by decide +kernel
theorem dX3_setWay_19 : decode cX3_setWay 19 = .ok (.iastore, 1) := by decide +kernel
theorem dX3_setWay_20 : decode cX3_setWay 20 = .ok (.return_, 1) := by decide +kernel
theorem dX3_build_0 : decode cX3_build 0 = .ok (.aload_n 0, 1) := by decide +kernel
theorem dX3_build_1 : decode cX3_build 1 = .ok (.getfield 24, 3) := by decide +kernel
theorem dX3_build_4 : decode cX3_build 4 = .ok (.invokevirtual 84, 3) := by decide +kernel
theorem dX3_build_7 : decode cX3_build 7 = .ok (.iconst 0, 1) := by decide +kernel
theorem dX3_build_8 : decode cX3_build 8 = .ok (.istore_n 1, 1) := by decide +kernel
theorem dX3_build_9 : decode cX3_build 9 = .ok (.iload_n 1, 1) := by decide +kernel
theorem dX3_build_10 : decode cX3_build 10 = .ok (.aload_n 0, 1) := by decide +kernel
theorem dX3_build_11 : decode cX3_build 11 = .ok (.getfield 50, 3) := by decide +kernel
theorem dX3_build_14 : decode cX3_build 14 = .ok (.if_icmp .ge 62, 3) := by decide +kernel
theorem dX3_build_17 : decode cX3_build 17 = .ok (.aload_n 0, 1) := by decide +kernel
theorem dX3_build_18 : decode cX3_build 18 = .ok (.iload_n 1, 1) := by decide +kernel
theorem dX3_build_19 : decode cX3_build 19 = .ok (.invokevirtual 77, 3) := by decide +kernel
theorem dX3_build_22 : decode cX3_build 22 = .ok (.istore_n 2, 1) := by decide +kernel
theorem dX3_build_23 : decode cX3_build 23 = .ok (.iload_n 2, 1) := by decide +kernel
theorem dX3_build_24 : decode cX3_build 24 = .ok (.ifCond .eq 8, 3) := by decide +kernel
theorem dX3_build_27 : decode cX3_build 27 = .ok (.iload_n 2, 1) := by decide +kernel
theorem dX3_build_28 : decode cX3_build 28 = .ok (.iconst 2, 1) := by decide +kernel
theorem dX3_build_29 : decode cX3_build 29 = .ok (.if_icmp .ne 9, 3) := by decide +kernel
theorem dX3_build_32 : decode cX3_build 32 = .ok (.aload_n 0, 1) := by decide +kernel
theorem dX3_build_33 : decode cX3_build 33 = .ok (.iload_n 1, 1) := by decide +kernel
theorem dX3_build_34 : decode cX3_build 34 = .ok (.iconst 0, 1) := by decide +kernel
theorem dX3_build_35 : decode cX3_build 35 = .ok (.invokevirtual 87, 3) := by decide +kernel
theorem dX3_build_38 : decode cX3_build 38 = .ok (.iload_n 2, 1) := by decide +kernel
theorem dX3_build_39 : decode cX3_build 39 = .ok (.iconst 1, 1) := by decide +kernel
theorem dX3_build_40 : decode cX3_build 40 = .ok (.if_icmp .eq 8, 3) := by decide +kernel
theorem dX3_build_43 : decode cX3_build 43 = .ok (.iload_n 2, 1) := by decide +kernel
theorem dX3_build_44 : decode cX3_build 44 = .ok (.iconst 2, 1) := by decide +kernel
theorem dX3_build_45 : decode cX3_build 45 = .ok (.if_icmp .ne 9, 3) := by decide +kernel
theorem dX3_build_48 : decode cX3_build 48 = .ok (.aload_n 0, 1) := by decide +kernel
theorem dX3_build_49 : decode cX3_build 49 = .ok (.iload_n 1, 1) := by decide +kernel
theorem dX3_build_50 : decode cX3_build 50 = .ok (.iconst 1, 1) := by decide +kernel
theorem dX3_build_51 : decode cX3_build 51 = .ok (.invokevirtual 87, 3) := by decide +kernel
theorem dX3_build_54 : decode cX3_build 54 = .ok (.iload_n 2, 1) := by decide +kernel
theorem dX3_build_55 : decode cX3_build 55 = .ok (.iconst 3, 1) := by decide +kernel
theorem dX3_build_56 : decode cX3_build 56 = .ok (.if_icmp .ne 9, 3) := by decide +kernel
theorem dX3_build_59 : decode cX3_build 59 = .ok (.aload_n 0, 1) := by decide +kernel
theorem dX3_build_60 : decode cX3_build 60 = .ok (.iload_n 1, 1) := by decide +kernel
theorem dX3_build_61 : decode cX3_build 61 = .ok (.iconst 2, 1) := by decide +kernel
theorem dX3_build_62 : decode cX3_build 62 = .ok (.invokevirtual 87, 3) := by decide +kernel
theorem dX3_build_65 : decode cX3_build 65 = .ok (.aload_n 0, 1) := by decide +kernel
theorem dX3_build_66 : decode cX3_build 66 = .ok (.iload_n 1, 1) := by decide +kernel
theorem dX3_build_67 : decode cX3_build 67 = .ok (.invokevirtual 91, 3) := by decide +kernel
theorem dX3_build_70 : decode cX3_build 70 = .ok (.iinc 1 1, 3) := by decide +kernel
theorem dX3_build_73 : decode cX3_build 73 = .ok (.goto (-64), 3) := by decide +kernel
theorem dX3_build_76 : decode cX3_build 76 = .ok (.return_, 1) := by decide +kernel
theorem dX3_pieceOf_0 : decode cX3_pieceOf 0 = .ok (.iload_n 1, 1) := by decide +kernel
theorem dX3_pieceOf_1 : decode cX3_pieceOf 1 = .ok (.ifCond .lt 18, 3) := by decide +kernel
theorem dX3_pieceOf_4 : decode cX3_pieceOf 4 = .ok (.iload_n 1, 1) := by decide +kernel
theorem dX3_pieceOf_5 : decode cX3_pieceOf 5 = .ok (.aload_n 0, 1) := by decide +kernel
theorem dX3_pieceOf_6 : decode cX3_pieceOf 6 = .ok (.getfield 60, 3) := by decide +kernel
theorem dX3_pieceOf_9 : decode cX3_pieceOf 9 = .ok (.if_icmp .ge 10, 3) := by decide +kernel
theorem dX3_pieceOf_12 : decode cX3_pieceOf 12 = .ok (.iload_n 1, 1) := by decide +kernel
theorem dX3_pieceOf_13 : decode cX3_pieceOf 13 = .ok (.sipush 328, 3) := by decide +kernel
theorem dX3_pieceOf_16 : decode cX3_pieceOf 16 = .ok (.if_icmp .lt 7, 3) := by decide +kernel
theorem dX3_pieceOf_19 : decode cX3_pieceOf 19 = .ok (.iconst (-1), 1) := by decide +kernel
theorem dX3_pieceOf_20 : decode cX3_pieceOf 20 = .ok (.goto 9, 3) := by decide +kernel
theorem dX3_pieceOf_23 : decode cX3_pieceOf 23 = .ok (.aload_n 0, 1) := by decide +kernel
theorem dX3_pieceOf_24 : decode cX3_pieceOf 24 = .ok (.getfield 57, 3) := by decide +kernel
theorem dX3_pieceOf_27 : decode cX3_pieceOf 27 = .ok (.iload_n 1, 1) := by decide +kernel
theorem dX3_pieceOf_28 : decode cX3_pieceOf 28 = .ok (.iaload, 1) := by decide +kernel
theorem dX3_pieceOf_29 : decode cX3_pieceOf 29 = .ok (.ireturn, 1) := by decide +kernel
theorem dX3_fileOf_0 : decode cX3_fileOf 0 = .ok (.iload_n 1, 1) := by decide +kernel
theorem dX3_fileOf_1 : decode cX3_fileOf 1 = .ok (.ifCond .lt 10, 3) := by decide +kernel
theorem dX3_fileOf_4 : decode cX3_fileOf 4 = .ok (.iload_n 1, 1) := by decide +kernel
theorem dX3_fileOf_5 : decode cX3_fileOf 5 = .ok (.sipush 328, 3) := by decide +kernel
theorem dX3_fileOf_8 : decode cX3_fileOf 8 = .ok (.if_icmp .lt 7, 3) := by decide +kernel
theorem dX3_fileOf_11 : decode cX3_fileOf 11 = .ok (.iconst (-1), 1) := by decide +kernel
theorem dX3_fileOf_12 : decode cX3_fileOf 12 = .ok (.goto 9, 3) := by decide +kernel
theorem dX3_fileOf_15 : decode cX3_fileOf 15 = .ok (.aload_n 0, 1) := by decide +kernel
theorem dX3_fileOf_16 : decode cX3_fileOf 16 = .ok (.getfield 37, 3) := by decide +kernel
theorem dX3_fileOf_19 : decode cX3_fileOf 19 = .ok (.iload_n 1, 1) := by decide +kernel
theorem dX3_fileOf_20 : decode cX3_fileOf 20 = .ok (.iaload, 1) := by decide +kernel
theorem dX3_fileOf_21 : decode cX3_fileOf 21 = .ok (.ireturn, 1) := by decide +kernel
theorem dX3_sizeOf_0 : decode cX3_sizeOf 0 = .ok (.iload_n 1, 1) := by decide +kernel
theorem dX3_sizeOf_1 : decode cX3_sizeOf 1 = .ok (.ifCond .lt 19, 3) := by decide +kernel
theorem dX3_sizeOf_4 : decode cX3_sizeOf 4 = .ok (.iload_n 1, 1) := by decide +kernel
theorem dX3_sizeOf_5 : decode cX3_sizeOf 5 = .ok (.sipush 328, 3) := by decide +kernel
theorem dX3_sizeOf_8 : decode cX3_sizeOf 8 = .ok (.if_icmp .ge 12, 3) := by decide +kernel
theorem dX3_sizeOf_11 : decode cX3_sizeOf 11 = .ok (.iload_n 2, 1) := by decide +kernel
theorem dX3_sizeOf_12 : decode cX3_sizeOf 12 = .ok (.ifCond .lt 8, 3) := by decide +kernel
theorem dX3_sizeOf_15 : decode cX3_sizeOf 15 = .ok (.iload_n 2, 1) := by decide +kernel
theorem dX3_sizeOf_16 : decode cX3_sizeOf 16 = .ok (.iconst 3, 1) := by decide +kernel
theorem dX3_sizeOf_17 : decode cX3_sizeOf 17 = .ok (.if_icmp .lt 5, 3) := by decide +kernel
theorem dX3_sizeOf_20 : decode cX3_sizeOf 20 = .ok (.iconst (-1), 1) := by decide +kernel
theorem dX3_sizeOf_21 : decode cX3_sizeOf 21 = .ok (.ireturn, 1) := by decide +kernel
theorem dX3_sizeOf_22 : decode cX3_sizeOf 22 = .ok (.aload_n 0, 1) := by decide +kernel
theorem dX3_sizeOf_23 : decode cX3_sizeOf 23 = .ok (.getfield 44, 3) := by decide +kernel
theorem dX3_sizeOf_26 : decode cX3_sizeOf 26 = .ok (.iload_n 2, 1) := by decide +kernel
theorem dX3_sizeOf_27 : decode cX3_sizeOf 27 = .ok (.sipush 328, 3) := by decide +kernel
theorem dX3_sizeOf_30 : decode cX3_sizeOf 30 = .ok (.imul, 1) := by decide +kernel
theorem dX3_sizeOf_31 : decode cX3_sizeOf 31 = .ok (.iload_n 1, 1) := by decide +kernel
theorem dX3_sizeOf_32 : decode cX3_sizeOf 32 = .ok (.iadd, 1) := by decide +kernel
theorem dX3_sizeOf_33 : decode cX3_sizeOf 33 = .ok (.iaload, 1) := by decide +kernel
theorem dX3_sizeOf_34 : decode cX3_sizeOf 34 = .ok (.ireturn, 1) := by decide +kernel
theorem dX3_lineOf_0 : decode cX3_lineOf 0 = .ok (.aload_n 0, 1) := by decide +kernel
theorem dX3_lineOf_1 : decode cX3_lineOf 1 = .ok (.iload_n 2, 1) := by decide +kernel
theorem dX3_lineOf_2 : decode cX3_lineOf 2 = .ok (.invokevirtual 94, 3) := by decide +kernel
theorem dX3_lineOf_5 : decode cX3_lineOf 5 = .ok (.aload_n 0, 1) := by decide +kernel
theorem dX3_lineOf_6 : decode cX3_lineOf 6 = .ok (.iload_n 1, 1) := by decide +kernel
theorem dX3_lineOf_7 : decode cX3_lineOf 7 = .ok (.invokevirtual 98, 3) := by decide +kernel
theorem dX3_lineOf_10 : decode cX3_lineOf 10 = .ok (.aload_n 0, 1) := by decide +kernel
theorem dX3_lineOf_11 : decode cX3_lineOf 11 = .ok (.iload_n 1, 1) := by decide +kernel
theorem dX3_lineOf_12 : decode cX3_lineOf 12 = .ok (.iload_n 2, 1) := by decide +kernel
theorem dX3_lineOf_13 : decode cX3_lineOf 13 = .ok (.invokevirtual 101, 3) := by decide +kernel
theorem dX3_lineOf_16 : decode cX3_lineOf 16 = .ok (.iload_n 3, 1) := by decide +kernel
theorem dX3_lineOf_17 : decode cX3_lineOf 17 = .ok (.iadd, 1) := by decide +kernel
theorem dX3_lineOf_18 : decode cX3_lineOf 18 = .ok (.invokevirtual 105, 3) := by decide +kernel
theorem dX3_lineOf_21 : decode cX3_lineOf 21 = .ok (.ireturn, 1) := by decide +kernel
theorem dX3_isPiece_0 : decode cX3_isPiece 0 = .ok (.iload_n 0, 1) := by decide +kernel
theorem dX3_isPiece_1 : decode cX3_isPiece 1 = .ok (.ifCond .lt 14, 3) := by decide +kernel
theorem dX3_isPiece_4 : decode cX3_isPiece 4 = .ok (.iload_n 0, 1) := by decide +kernel
theorem dX3_isPiece_5 : decode cX3_isPiece 5 = .ok (.sipush 328, 3) := by decide +kernel
theorem dX3_isPiece_8 : decode cX3_isPiece 8 = .ok (.if_icmp .ge 7, 3) := by decide +kernel
theorem dX3_isPiece_11 : decode cX3_isPiece 11 = .ok (.iconst 1, 1) := by decide +kernel
theorem dX3_isPiece_12 : decode cX3_isPiece 12 = .ok (.goto 4, 3) := by decide +kernel
theorem dX3_isPiece_15 : decode cX3_isPiece 15 = .ok (.iconst 0, 1) := by decide +kernel
theorem dX3_isPiece_16 : decode cX3_isPiece 16 = .ok (.ireturn, 1) := by decide +kernel
theorem dX3_topOf_0 : decode cX3_topOf 0 = .ok (.iload_n 1, 1) := by decide +kernel
theorem dX3_topOf_1 : decode cX3_topOf 1 = .ok (.ifCond .lt 19, 3) := by decide +kernel
theorem dX3_topOf_4 : decode cX3_topOf 4 = .ok (.iload_n 1, 1) := by decide +kernel
theorem dX3_topOf_5 : decode cX3_topOf 5 = .ok (.sipush 328, 3) := by decide +kernel
theorem dX3_topOf_8 : decode cX3_topOf 8 = .ok (.if_icmp .ge 12, 3) := by decide +kernel
theorem dX3_topOf_11 : decode cX3_topOf 11 = .ok (.iload_n 2, 1) := by decide +kernel
theorem dX3_topOf_12 : decode cX3_topOf 12 = .ok (.ifCond .lt 8, 3) := by decide +kernel
theorem dX3_topOf_15 : decode cX3_topOf 15 = .ok (.iload_n 2, 1) := by decide +kernel
theorem dX3_topOf_16 : decode cX3_topOf 16 = .ok (.iconst 3, 1) := by decide +kernel
theorem dX3_topOf_17 : decode cX3_topOf 17 = .ok (.if_icmp .lt 5, 3) := by decide +kernel
theorem dX3_topOf_20 : decode cX3_topOf 20 = .ok (.iconst (-1), 1) := by decide +kernel
theorem dX3_topOf_21 : decode cX3_topOf 21 = .ok (.ireturn, 1) := by decide +kernel
theorem dX3_topOf_22 : decode cX3_topOf 22 = .ok (.aload_n 0, 1) := by decide +kernel
theorem dX3_topOf_23 : decode cX3_topOf 23 = .ok (.getfield 41, 3) := by decide +kernel
theorem dX3_topOf_26 : decode cX3_topOf 26 = .ok (.iload_n 2, 1) := by decide +kernel
theorem dX3_topOf_27 : decode cX3_topOf 27 = .ok (.sipush 328, 3) := by decide +kernel
theorem dX3_topOf_30 : decode cX3_topOf 30 = .ok (.imul, 1) := by decide +kernel
theorem dX3_topOf_31 : decode cX3_topOf 31 = .ok (.iload_n 1, 1) := by decide +kernel
theorem dX3_topOf_32 : decode cX3_topOf 32 = .ok (.iadd, 1) := by decide +kernel
theorem dX3_topOf_33 : decode cX3_topOf 33 = .ok (.iaload, 1) := by decide +kernel
theorem dX3_topOf_34 : decode cX3_topOf 34 = .ok (.ireturn, 1) := by decide +kernel
theorem dX3_wayOf_0 : decode cX3_wayOf 0 = .ok (.iload_n 1, 1) := by decide +kernel
theorem dX3_wayOf_1 : decode cX3_wayOf 1 = .ok (.invokestatic 80, 3) := by decide +kernel
theorem dX3_wayOf_4 : decode cX3_wayOf 4 = .ok (.ifCond .eq 12, 3) := by decide +kernel
theorem dX3_wayOf_7 : decode cX3_wayOf 7 = .ok (.aload_n 0, 1) := by decide +kernel
theorem dX3_wayOf_8 : decode cX3_wayOf 8 = .ok (.getfield 47, 3) := by decide +kernel
theorem dX3_wayOf_11 : decode cX3_wayOf 11 = .ok (.iload_n 1, 1) := by decide +kernel
theorem dX3_wayOf_12 : decode cX3_wayOf 12 = .ok (.iaload, 1) := by decide +kernel
theorem dX3_wayOf_13 : decode cX3_wayOf 13 = .ok (.goto 4, 3) := by decide +kernel
theorem dX3_wayOf_16 : decode cX3_wayOf 16 = .ok (.iconst (-1), 1) := by decide +kernel
theorem dX3_wayOf_17 : decode cX3_wayOf 17 = .ok (.ireturn, 1) := by decide +kernel
theorem dX3_treeOfSide_0 : decode cX3_treeOfSide 0 = .ok (.iload_n 1, 1) := by decide +kernel
theorem dX3_treeOfSide_1 : decode cX3_treeOfSide 1 = .ok (.ifCond .ne 10, 3) := by decide +kernel
theorem dX3_treeOfSide_4 : decode cX3_treeOfSide 4 = .ok (.aload_n 0, 1) := by decide +kernel
theorem dX3_treeOfSide_5 : decode cX3_treeOfSide 5 = .ok (.getfield 31, 3) := by decide +kernel
theorem dX3_treeOfSide_8 : decode cX3_treeOfSide 8 = .ok (.goto 19, 3) := by decide +kernel
theorem dX3_treeOfSide_11 : decode cX3_treeOfSide 11 = .ok (.iload_n 1, 1) := by decide +kernel
theorem dX3_treeOfSide_12 : decode cX3_treeOfSide 12 = .ok (.iconst 1, 1) := by decide +kernel
theorem dX3_treeOfSide_13 : decode cX3_treeOfSide 13 = .ok (.if_icmp .ne 10, 3) := by decide +kernel
theorem dX3_treeOfSide_16 : decode cX3_treeOfSide 16 = .ok (.aload_n 0, 1) := by decide +kernel
theorem dX3_treeOfSide_17 : decode cX3_treeOfSide 17 = .ok (.getfield 34, 3) := by decide +kernel
theorem dX3_treeOfSide_20 : decode cX3_treeOfSide 20 = .ok (.goto 7, 3) := by decide +kernel
theorem dX3_treeOfSide_23 : decode cX3_treeOfSide 23 = .ok (.aload_n 0, 1) := by decide +kernel
theorem dX3_treeOfSide_24 : decode cX3_treeOfSide 24 = .ok (.getfield 28, 3) := by decide +kernel
theorem dX3_treeOfSide_27 : decode cX3_treeOfSide 27 = .ok (.areturn, 1) := by decide +kernel
theorem dX3_cutFile_0 : decode cX3_cutFile 0 = .ok (.aload_n 0, 1) := by decide +kernel
theorem dX3_cutFile_1 : decode cX3_cutFile 1 = .ok (.getfield 54, 3) := by decide +kernel
theorem dX3_cutFile_4 : decode cX3_cutFile 4 = .ok (.iconst 0, 1) := by decide +kernel
theorem dX3_cutFile_5 : decode cX3_cutFile 5 = .ok (.invokestatic 108, 3) := by decide +kernel
theorem dX3_cutFile_8 : decode cX3_cutFile 8 = .ok (.aload_n 0, 1) := by decide +kernel
theorem dX3_cutFile_9 : decode cX3_cutFile 9 = .ok (.getfield 31, 3) := by decide +kernel
theorem dX3_cutFile_12 : decode cX3_cutFile 12 = .ok (.iload_n 1, 1) := by decide +kernel
theorem dX3_cutFile_13 : decode cX3_cutFile 13 = .ok (.invokevirtual 114, 3) := by decide +kernel
theorem dX3_cutFile_16 : decode cX3_cutFile 16 = .ok (.ifCond .eq 14, 3) := by decide +kernel
theorem dX3_cutFile_19 : decode cX3_cutFile 19 = .ok (.aload_n 0, 1) := by decide +kernel
theorem dX3_cutFile_20 : decode cX3_cutFile 20 = .ok (.getfield 34, 3) := by decide +kernel
theorem dX3_cutFile_23 : decode cX3_cutFile 23 = .ok (.iload_n 1, 1) := by decide +kernel
theorem dX3_cutFile_24 : decode cX3_cutFile 24 = .ok (.invokevirtual 114, 3) := by decide +kernel
theorem dX3_cutFile_27 : decode cX3_cutFile 27 = .ok (.ifCond .ne 33, 3) := by decide +kernel
theorem dX3_cutFile_30 : decode cX3_cutFile 30 = .ok (.aload_n 0, 1) := by decide +kernel
theorem dX3_cutFile_31 : decode cX3_cutFile 31 = .ok (.iload_n 1, 1) := by decide +kernel
theorem dX3_cutFile_32 : decode cX3_cutFile 32 = .ok (.aload_n 0, 1) := by decide +kernel
theorem dX3_cutFile_33 : decode cX3_cutFile 33 = .ok (.getfield 31, 3) := by decide +kernel
theorem dX3_cutFile_36 : decode cX3_cutFile 36 = .ok (.iload_n 1, 1) := by decide +kernel
theorem dX3_cutFile_37 : decode cX3_cutFile 37 = .ok (.invokevirtual 117, 3) := by decide +kernel
theorem dX3_cutFile_40 : decode cX3_cutFile 40 = .ok (.aload_n 0, 1) := by decide +kernel
theorem dX3_cutFile_41 : decode cX3_cutFile 41 = .ok (.getfield 34, 3) := by decide +kernel
theorem dX3_cutFile_44 : decode cX3_cutFile 44 = .ok (.iload_n 1, 1) := by decide +kernel
theorem dX3_cutFile_45 : decode cX3_cutFile 45 = .ok (.invokevirtual 117, 3) := by decide +kernel
theorem dX3_cutFile_48 : decode cX3_cutFile 48 = .ok (.aload_n 0, 1) := by decide +kernel
theorem dX3_cutFile_49 : decode cX3_cutFile 49 = .ok (.getfield 28, 3) := by decide +kernel
theorem dX3_cutFile_52 : decode cX3_cutFile 52 = .ok (.iload_n 1, 1) := by decide +kernel
theorem dX3_cutFile_53 : decode cX3_cutFile 53 = .ok (.invokevirtual 117, 3) := by decide +kernel
theorem dX3_cutFile_56 : decode cX3_cutFile 56 = .ok (.invokevirtual 120, 3) := by decide +kernel
theorem dX3_cutFile_59 : decode cX3_cutFile 59 = .ok (.return_, 1) := by decide +kernel
theorem dX3_cutFile_60 : decode cX3_cutFile 60 = .ok (.aload_n 0, 1) := by decide +kernel
theorem dX3_cutFile_61 : decode cX3_cutFile 61 = .ok (.getfield 12, 3) := by decide +kernel
theorem dX3_cutFile_64 : decode cX3_cutFile 64 = .ok (.aload_n 0, 1) := by decide +kernel
theorem dX3_cutFile_65 : decode cX3_cutFile 65 = .ok (.getfield 28, 3) := by decide +kernel
theorem dX3_cutFile_68 : decode cX3_cutFile 68 = .ok (.aload_n 0, 1) := by decide +kernel
theorem dX3_cutFile_69 : decode cX3_cutFile 69 = .ok (.getfield 31, 3) := by decide +kernel
theorem dX3_cutFile_72 : decode cX3_cutFile 72 = .ok (.iload_n 1, 1) := by decide +kernel
theorem dX3_cutFile_73 : decode cX3_cutFile 73 = .ok (.invokevirtual 124, 3) := by decide +kernel
theorem dX3_cutFile_76 : decode cX3_cutFile 76 = .ok (.aload_n 0, 1) := by decide +kernel
theorem dX3_cutFile_77 : decode cX3_cutFile 77 = .ok (.getfield 18, 3) := by decide +kernel
theorem dX3_cutFile_80 : decode cX3_cutFile 80 = .ok (.aload_n 0, 1) := by decide +kernel
theorem dX3_cutFile_81 : decode cX3_cutFile 81 = .ok (.getfield 28, 3) := by decide +kernel
theorem dX3_cutFile_84 : decode cX3_cutFile 84 = .ok (.aload_n 0, 1) := by decide +kernel
theorem dX3_cutFile_85 : decode cX3_cutFile 85 = .ok (.getfield 34, 3) := by decide +kernel
theorem dX3_cutFile_88 : decode cX3_cutFile 88 = .ok (.iload_n 1, 1) := by decide +kernel
theorem dX3_cutFile_89 : decode cX3_cutFile 89 = .ok (.invokevirtual 124, 3) := by decide +kernel
theorem dX3_cutFile_92 : decode cX3_cutFile 92 = .ok (.aload_n 0, 1) := by decide +kernel
theorem dX3_cutFile_93 : decode cX3_cutFile 93 = .ok (.getfield 28, 3) := by decide +kernel
theorem dX3_cutFile_96 : decode cX3_cutFile 96 = .ok (.iload_n 1, 1) := by decide +kernel
theorem dX3_cutFile_97 : decode cX3_cutFile 97 = .ok (.invokevirtual 128, 3) := by decide +kernel
theorem dX3_cutFile_100 : decode cX3_cutFile 100 = .ok (.istore_n 2, 1) := by decide +kernel
theorem dX3_cutFile_101 : decode cX3_cutFile 101 = .ok (.iconst 0, 1) := by decide +kernel
theorem dX3_cutFile_102 : decode cX3_cutFile 102 = .ok (.istore_n 3, 1) := by decide +kernel
theorem dX3_cutFile_103 : decode cX3_cutFile 103 = .ok (.iload_n 3, 1) := by decide +kernel
theorem dX3_cutFile_104 : decode cX3_cutFile 104 = .ok (.iload_n 2, 1) := by decide +kernel
theorem dX3_cutFile_105 : decode cX3_cutFile 105 = .ok (.if_icmp .ge 51, 3) := by decide +kernel
theorem dX3_cutFile_108 : decode cX3_cutFile 108 = .ok (.aload_n 0, 1) := by decide +kernel
theorem dX3_cutFile_109 : decode cX3_cutFile 109 = .ok (.getfield 12, 3) := by decide +kernel
theorem dX3_cutFile_112 : decode cX3_cutFile 112 = .ok (.iload_n 3, 1) := by decide +kernel
theorem dX3_cutFile_113 : decode cX3_cutFile 113 = .ok (.invokevirtual 131, 3) := by decide +kernel
theorem dX3_cutFile_116 : decode cX3_cutFile 116 = .ok (.istore 4, 2) := by decide +kernel
theorem dX3_cutFile_118 : decode cX3_cutFile 118 = .ok (.aload_n 0, 1) := by decide +kernel
theorem dX3_cutFile_119 : decode cX3_cutFile 119 = .ok (.getfield 18, 3) := by decide +kernel
theorem dX3_cutFile_122 : decode cX3_cutFile 122 = .ok (.iload_n 3, 1) := by decide +kernel
theorem dX3_cutFile_123 : decode cX3_cutFile 123 = .ok (.invokevirtual 131, 3) := by decide +kernel
theorem dX3_cutFile_126 : decode cX3_cutFile 126 = .ok (.istore 5, 2) := by decide +kernel
theorem dX3_cutFile_128 : decode cX3_cutFile 128 = .ok (.iload 4, 2) := by decide +kernel
theorem dX3_cutFile_130 : decode cX3_cutFile 130 = .ok (.iconst (-1), 1) := by decide +kernel
theorem dX3_cutFile_131 : decode cX3_cutFile 131 = .ok (.if_icmp .eq 19, 3) := by decide +kernel
theorem dX3_cutFile_134 : decode cX3_cutFile 134 = .ok (.iload 5, 2) := by decide +kernel
theorem dX3_cutFile_136 : decode cX3_cutFile 136 = .ok (.iconst (-1), 1) := by decide +kernel
theorem dX3_cutFile_137 : decode cX3_cutFile 137 = .ok (.if_icmp .eq 13, 3) := by decide +kernel
theorem dX3_cutFile_140 : decode cX3_cutFile 140 = .ok (.aload_n 0, 1) := by decide +kernel
theorem dX3_cutFile_141 : decode cX3_cutFile 141 = .ok (.iload_n 1, 1) := by decide +kernel
theorem dX3_cutFile_142 : decode cX3_cutFile 142 = .ok (.iload 4, 2) := by decide +kernel
theorem dX3_cutFile_144 : decode cX3_cutFile 144 = .ok (.iload 5, 2) := by decide +kernel
theorem dX3_cutFile_146 : decode cX3_cutFile 146 = .ok (.iload_n 3, 1) := by decide +kernel
theorem dX3_cutFile_147 : decode cX3_cutFile 147 = .ok (.invokevirtual 120, 3) := by decide +kernel
theorem dX3_cutFile_150 : decode cX3_cutFile 150 = .ok (.iinc 3 1, 3) := by decide +kernel
theorem dX3_cutFile_153 : decode cX3_cutFile 153 = .ok (.goto (-50), 3) := by decide +kernel
theorem dX3_cutFile_156 : decode cX3_cutFile 156 = .ok (.aload_n 0, 1) := by decide +kernel
theorem dX3_cutFile_157 : decode cX3_cutFile 157 = .ok (.iload_n 1, 1) := by decide +kernel
theorem dX3_cutFile_158 : decode cX3_cutFile 158 = .ok (.aload_n 0, 1) := by decide +kernel
theorem dX3_cutFile_159 : decode cX3_cutFile 159 = .ok (.getfield 31, 3) := by decide +kernel
theorem dX3_cutFile_162 : decode cX3_cutFile 162 = .ok (.iload_n 1, 1) := by decide +kernel
theorem dX3_cutFile_163 : decode cX3_cutFile 163 = .ok (.invokevirtual 117, 3) := by decide +kernel
theorem dX3_cutFile_166 : decode cX3_cutFile 166 = .ok (.aload_n 0, 1) := by decide +kernel
theorem dX3_cutFile_167 : decode cX3_cutFile 167 = .ok (.getfield 34, 3) := by decide +kernel
theorem dX3_cutFile_170 : decode cX3_cutFile 170 = .ok (.iload_n 1, 1) := by decide +kernel
theorem dX3_cutFile_171 : decode cX3_cutFile 171 = .ok (.invokevirtual 117, 3) := by decide +kernel
theorem dX3_cutFile_174 : decode cX3_cutFile 174 = .ok (.iload_n 2, 1) := by decide +kernel
theorem dX3_cutFile_175 : decode cX3_cutFile 175 = .ok (.invokevirtual 120, 3) := by decide +kernel
theorem dX3_cutFile_178 : decode cX3_cutFile 178 = .ok (.return_, 1) := by decide +kernel
theorem dX3_addPiece_0 : decode cX3_addPiece 0 = .ok (.aload_n 0, 1) := by decide +kernel
theorem dX3_addPiece_1 : decode cX3_addPiece 1 = .ok (.getfield 50, 3) := by decide +kernel
theorem dX3_addPiece_4 : decode cX3_addPiece 4 = .ok (.invokestatic 80, 3) := by decide +kernel
theorem dX3_addPiece_7 : decode cX3_addPiece 7 = .ok (.ifCond .ne 4, 3) := by decide +kernel
theorem dX3_addPiece_10 : decode cX3_addPiece 10 = .ok (.return_, 1) := by decide +kernel
theorem dX3_addPiece_11 : decode cX3_addPiece 11 = .ok (.aload_n 0, 1) := by decide +kernel
theorem dX3_addPiece_12 : decode cX3_addPiece 12 = .ok (.getfield 37, 3) := by decide +kernel
theorem dX3_addPiece_15 : decode cX3_addPiece 15 = .ok (.aload_n 0, 1) := by decide +kernel
theorem dX3_addPiece_16 : decode cX3_addPiece 16 = .ok (.getfield 50, 3) := by decide +kernel
theorem dX3_addPiece_19 : decode cX3_addPiece 19 = .ok (.iload_n 1, 1) := by decide +kernel
theorem dX3_addPiece_20 : decode cX3_addPiece 20 = .ok (.iastore, 1) := by decide +kernel
theorem dX3_addPiece_21 : decode cX3_addPiece 21 = .ok (.aload_n 0, 1) := by decide +kernel
theorem dX3_addPiece_22 : decode cX3_addPiece 22 = .ok (.getfield 47, 3) := by decide +kernel
theorem dX3_addPiece_25 : decode cX3_addPiece 25 = .ok (.aload_n 0, 1) := by decide +kernel
theorem dX3_addPiece_26 : decode cX3_addPiece 26 = .ok (.getfield 50, 3) := by decide +kernel
theorem dX3_addPiece_29 : decode cX3_addPiece 29 = .ok (.iconst (-1), 1) := by decide +kernel
theorem dX3_addPiece_30 : decode cX3_addPiece 30 = .ok (.iastore, 1) := by decide +kernel
theorem dX3_addPiece_31 : decode cX3_addPiece 31 = .ok (.aload_n 0, 1) := by decide +kernel
theorem dX3_addPiece_32 : decode cX3_addPiece 32 = .ok (.iconst 0, 1) := by decide +kernel
theorem dX3_addPiece_33 : decode cX3_addPiece 33 = .ok (.iload_n 2, 1) := by decide +kernel
theorem dX3_addPiece_34 : decode cX3_addPiece 34 = .ok (.invokevirtual 134, 3) := by decide +kernel
theorem dX3_addPiece_37 : decode cX3_addPiece 37 = .ok (.aload_n 0, 1) := by decide +kernel
theorem dX3_addPiece_38 : decode cX3_addPiece 38 = .ok (.iconst 1, 1) := by decide +kernel
theorem dX3_addPiece_39 : decode cX3_addPiece 39 = .ok (.iload_n 3, 1) := by decide +kernel
theorem dX3_addPiece_40 : decode cX3_addPiece 40 = .ok (.invokevirtual 134, 3) := by decide +kernel
theorem dX3_addPiece_43 : decode cX3_addPiece 43 = .ok (.aload_n 0, 1) := by decide +kernel
theorem dX3_addPiece_44 : decode cX3_addPiece 44 = .ok (.iconst 2, 1) := by decide +kernel
theorem dX3_addPiece_45 : decode cX3_addPiece 45 = .ok (.iload 4, 2) := by decide +kernel
theorem dX3_addPiece_47 : decode cX3_addPiece 47 = .ok (.invokevirtual 134, 3) := by decide +kernel
theorem dX3_addPiece_50 : decode cX3_addPiece 50 = .ok (.aload_n 0, 1) := by decide +kernel
theorem dX3_addPiece_51 : decode cX3_addPiece 51 = .ok (.dup, 1) := by decide +kernel
theorem dX3_addPiece_52 : decode cX3_addPiece 52 = .ok (.getfield 50, 3) := by decide +kernel
theorem dX3_addPiece_55 : decode cX3_addPiece 55 = .ok (.iconst 1, 1) := by decide +kernel
theorem dX3_addPiece_56 : decode cX3_addPiece 56 = .ok (.iadd, 1) := by decide +kernel
theorem dX3_addPiece_57 : decode cX3_addPiece 57 = .ok (.putfield 50, 3) := by decide +kernel
theorem dX3_addPiece_60 : decode cX3_addPiece 60 = .ok (.return_, 1) := by decide +kernel
theorem dX3_addSpan_0 : decode cX3_addSpan 0 = .ok (.aload_n 0, 1) := by decide +kernel
theorem dX3_addSpan_1 : decode cX3_addSpan 1 = .ok (.getfield 50, 3) := by decide +kernel
theorem dX3_addSpan_4 : decode cX3_addSpan 4 = .ok (.invokestatic 80, 3) := by decide +kernel
theorem dX3_addSpan_7 : decode cX3_addSpan 7 = .ok (.ifCond .eq 65, 3) := by decide +kernel
theorem dX3_addSpan_10 : decode cX3_addSpan 10 = .ok (.iload_n 1, 1) := by decide +kernel
theorem dX3_addSpan_11 : decode cX3_addSpan 11 = .ok (.ifCond .lt 61, 3) := by decide +kernel
theorem dX3_addSpan_14 : decode cX3_addSpan 14 = .ok (.iload_n 1, 1) := by decide +kernel
theorem dX3_addSpan_15 : decode cX3_addSpan 15 = .ok (.iconst 3, 1) := by decide +kernel
theorem dX3_addSpan_16 : decode cX3_addSpan 16 = .ok (.if_icmp .ge 56, 3) := by decide +kernel
theorem dX3_addSpan_19 : decode cX3_addSpan 19 = .ok (.aload_n 0, 1) := by decide +kernel
theorem dX3_addSpan_20 : decode cX3_addSpan 20 = .ok (.getfield 41, 3) := by decide +kernel
theorem dX3_addSpan_23 : decode cX3_addSpan 23 = .ok (.iload_n 1, 1) := by decide +kernel
theorem dX3_addSpan_24 : decode cX3_addSpan 24 = .ok (.sipush 328, 3) := by decide +kernel
theorem dX3_addSpan_27 : decode cX3_addSpan 27 = .ok (.imul, 1) := by decide +kernel
theorem dX3_addSpan_28 : decode cX3_addSpan 28 = .ok (.aload_n 0, 1) := by decide +kernel
theorem dX3_addSpan_29 : decode cX3_addSpan 29 = .ok (.getfield 50, 3) := by decide +kernel
theorem dX3_addSpan_32 : decode cX3_addSpan 32 = .ok (.iadd, 1) := by decide +kernel
theorem dX3_addSpan_33 : decode cX3_addSpan 33 = .ok (.aload_n 0, 1) := by decide +kernel
theorem dX3_addSpan_34 : decode cX3_addSpan 34 = .ok (.getfield 54, 3) := by decide +kernel
theorem dX3_addSpan_37 : decode cX3_addSpan 37 = .ok (.iload_n 1, 1) := by decide +kernel
theorem dX3_addSpan_38 : decode cX3_addSpan 38 = .ok (.iaload, 1) := by decide +kernel
theorem dX3_addSpan_39 : decode cX3_addSpan 39 = .ok (.iastore, 1) := by decide +kernel
theorem dX3_addSpan_40 : decode cX3_addSpan 40 = .ok (.aload_n 0, 1) := by decide +kernel
theorem dX3_addSpan_41 : decode cX3_addSpan 41 = .ok (.getfield 44, 3) := by decide +kernel
theorem dX3_addSpan_44 : decode cX3_addSpan 44 = .ok (.iload_n 1, 1) := by decide +kernel
theorem dX3_addSpan_45 : decode cX3_addSpan 45 = .ok (.sipush 328, 3) := by decide +kernel
theorem dX3_addSpan_48 : decode cX3_addSpan 48 = .ok (.imul, 1) := by decide +kernel
theorem dX3_addSpan_49 : decode cX3_addSpan 49 = .ok (.aload_n 0, 1) := by decide +kernel
theorem dX3_addSpan_50 : decode cX3_addSpan 50 = .ok (.getfield 50, 3) := by decide +kernel
theorem dX3_addSpan_53 : decode cX3_addSpan 53 = .ok (.iadd, 1) := by decide +kernel
theorem dX3_addSpan_54 : decode cX3_addSpan 54 = .ok (.iload_n 2, 1) := by decide +kernel
theorem dX3_addSpan_55 : decode cX3_addSpan 55 = .ok (.aload_n 0, 1) := by decide +kernel
theorem dX3_addSpan_56 : decode cX3_addSpan 56 = .ok (.getfield 54, 3) := by decide +kernel
theorem dX3_addSpan_59 : decode cX3_addSpan 59 = .ok (.iload_n 1, 1) := by decide +kernel
theorem dX3_addSpan_60 : decode cX3_addSpan 60 = .ok (.iaload, 1) := by decide +kernel
theorem dX3_addSpan_61 : decode cX3_addSpan 61 = .ok (.isub, 1) := by decide +kernel
theorem dX3_addSpan_62 : decode cX3_addSpan 62 = .ok (.iastore, 1) := by decide +kernel
theorem dX3_addSpan_63 : decode cX3_addSpan 63 = .ok (.aload_n 0, 1) := by decide +kernel
theorem dX3_addSpan_64 : decode cX3_addSpan 64 = .ok (.getfield 54, 3) := by decide +kernel
theorem dX3_addSpan_67 : decode cX3_addSpan 67 = .ok (.iload_n 1, 1) := by decide +kernel
theorem dX3_addSpan_68 : decode cX3_addSpan 68 = .ok (.iload_n 2, 1) := by decide +kernel
theorem dX3_addSpan_69 : decode cX3_addSpan 69 = .ok (.iconst 1, 1) := by decide +kernel
theorem dX3_addSpan_70 : decode cX3_addSpan 70 = .ok (.iadd, 1) := by decide +kernel
theorem dX3_addSpan_71 : decode cX3_addSpan 71 = .ok (.iastore, 1) := by decide +kernel
theorem dX3_addSpan_72 : decode cX3_addSpan 72 = .ok (.return_, 1) := by decide +kernel
theorem dX3_choose_0 : decode cX3_choose 0 = .ok (.iload_n 1, 1) := by decide +kernel
theorem dX3_choose_1 : decode cX3_choose 1 = .ok (.invokestatic 80, 3) := by decide +kernel
theorem dX3_choose_4 : decode cX3_choose 4 = .ok (.ifCond .ne 4, 3) := by decide +kernel
theorem dX3_choose_7 : decode cX3_choose 7 = .ok (.return_, 1) := by decide +kernel
theorem dX3_choose_8 : decode cX3_choose 8 = .ok (.aload_n 0, 1) := by decide +kernel
theorem dX3_choose_9 : decode cX3_choose 9 = .ok (.iload_n 1, 1) := by decide +kernel
theorem dX3_choose_10 : decode cX3_choose 10 = .ok (.iconst 0, 1) := by decide +kernel
theorem dX3_choose_11 : decode cX3_choose 11 = .ok (.iconst 2, 1) := by decide +kernel
theorem dX3_choose_12 : decode cX3_choose 12 = .ok (.invokevirtual 137, 3) := by decide +kernel
theorem dX3_choose_15 : decode cX3_choose 15 = .ok (.ifCond .eq 13, 3) := by decide +kernel
theorem dX3_choose_18 : decode cX3_choose 18 = .ok (.aload_n 0, 1) := by decide +kernel
theorem dX3_choose_19 : decode cX3_choose 19 = .ok (.getfield 47, 3) := by decide +kernel
theorem dX3_choose_22 : decode cX3_choose 22 = .ok (.iload_n 1, 1) := by decide +kernel
theorem dX3_choose_23 : decode cX3_choose 23 = .ok (.iconst 1, 1) := by decide +kernel
theorem dX3_choose_24 : decode cX3_choose 24 = .ok (.iastore, 1) := by decide +kernel
theorem dX3_choose_25 : decode cX3_choose 25 = .ok (.goto 63, 3) := by decide +kernel
theorem dX3_choose_28 : decode cX3_choose 28 = .ok (.aload_n 0, 1) := by decide +kernel
theorem dX3_choose_29 : decode cX3_choose 29 = .ok (.iload_n 1, 1) := by decide +kernel
theorem dX3_choose_30 : decode cX3_choose 30 = .ok (.iconst 1, 1) := by decide +kernel
theorem dX3_choose_31 : decode cX3_choose 31 = .ok (.iconst 2, 1) := by decide +kernel
theorem dX3_choose_32 : decode cX3_choose 32 = .ok (.invokevirtual 137, 3) := by decide +kernel
theorem dX3_choose_35 : decode cX3_choose 35 = .ok (.ifCond .ne 13, 3) := by decide +kernel
theorem dX3_choose_38 : decode cX3_choose 38 = .ok (.aload_n 0, 1) := by decide +kernel
theorem dX3_choose_39 : decode cX3_choose 39 = .ok (.iload_n 1, 1) := by decide +kernel
theorem dX3_choose_40 : decode cX3_choose 40 = .ok (.iconst 0, 1) := by decide +kernel
theorem dX3_choose_41 : decode cX3_choose 41 = .ok (.iconst 1, 1) := by decide +kernel
theorem dX3_choose_42 : decode cX3_choose 42 = .ok (.invokevirtual 137, 3) := by decide +kernel
theorem dX3_choose_45 : decode cX3_choose 45 = .ok (.ifCond .eq 13, 3) := by decide +kernel
theorem dX3_choose_48 : decode cX3_choose 48 = .ok (.aload_n 0, 1) := by decide +kernel
theorem dX3_choose_49 : decode cX3_choose 49 = .ok (.getfield 47, 3) := by decide +kernel
theorem dX3_choose_52 : decode cX3_choose 52 = .ok (.iload_n 1, 1) := by decide +kernel
theorem dX3_choose_53 : decode cX3_choose 53 = .ok (.iconst 0, 1) := by decide +kernel
theorem dX3_choose_54 : decode cX3_choose 54 = .ok (.iastore, 1) := by decide +kernel
theorem dX3_choose_55 : decode cX3_choose 55 = .ok (.goto 33, 3) := by decide +kernel
theorem dX3_choose_58 : decode cX3_choose 58 = .ok (.aload_n 0, 1) := by decide +kernel
theorem dX3_choose_59 : decode cX3_choose 59 = .ok (.getfield 60, 3) := by decide +kernel
theorem dX3_choose_62 : decode cX3_choose 62 = .ok (.invokestatic 80, 3) := by decide +kernel
theorem dX3_choose_65 : decode cX3_choose 65 = .ok (.ifCond .eq 23, 3) := by decide +kernel
theorem dX3_choose_68 : decode cX3_choose 68 = .ok (.aload_n 0, 1) := by decide +kernel
theorem dX3_choose_69 : decode cX3_choose 69 = .ok (.getfield 57, 3) := by decide +kernel
theorem dX3_choose_72 : decode cX3_choose 72 = .ok (.aload_n 0, 1) := by decide +kernel
theorem dX3_choose_73 : decode cX3_choose 73 = .ok (.getfield 60, 3) := by decide +kernel
theorem dX3_choose_76 : decode cX3_choose 76 = .ok (.iload_n 1, 1) := by decide +kernel
theorem dX3_choose_77 : decode cX3_choose 77 = .ok (.iastore, 1) := by decide +kernel
theorem dX3_choose_78 : decode cX3_choose 78 = .ok (.aload_n 0, 1) := by decide +kernel
theorem dX3_choose_79 : decode cX3_choose 79 = .ok (.dup, 1) := by decide +kernel
theorem dX3_choose_80 : decode cX3_choose 80 = .ok (.getfield 60, 3) := by decide +kernel
theorem dX3_choose_83 : decode cX3_choose 83 = .ok (.iconst 1, 1) := by decide +kernel
theorem dX3_choose_84 : decode cX3_choose 84 = .ok (.iadd, 1) := by decide +kernel
theorem dX3_choose_85 : decode cX3_choose 85 = .ok (.putfield 60, 3) := by decide +kernel
theorem dX3_choose_88 : decode cX3_choose 88 = .ok (.return_, 1) := by decide +kernel
theorem dX3_isSame_0 : decode cX3_isSame 0 = .ok (.aload_n 0, 1) := by decide +kernel
theorem dX3_isSame_1 : decode cX3_isSame 1 = .ok (.iload_n 1, 1) := by decide +kernel
theorem dX3_isSame_2 : decode cX3_isSame 2 = .ok (.iload_n 2, 1) := by decide +kernel
theorem dX3_isSame_3 : decode cX3_isSame 3 = .ok (.invokevirtual 141, 3) := by decide +kernel
theorem dX3_isSame_6 : decode cX3_isSame 6 = .ok (.istore 4, 2) := by decide +kernel
theorem dX3_isSame_8 : decode cX3_isSame 8 = .ok (.iload 4, 2) := by decide +kernel
theorem dX3_isSame_10 : decode cX3_isSame 10 = .ok (.aload_n 0, 1) := by decide +kernel
theorem dX3_isSame_11 : decode cX3_isSame 11 = .ok (.iload_n 1, 1) := by decide +kernel
theorem dX3_isSame_12 : decode cX3_isSame 12 = .ok (.iload_n 3, 1) := by decide +kernel
theorem dX3_isSame_13 : decode cX3_isSame 13 = .ok (.invokevirtual 141, 3) := by decide +kernel
theorem dX3_isSame_16 : decode cX3_isSame 16 = .ok (.if_icmp .eq 5, 3) := by decide +kernel
theorem dX3_isSame_19 : decode cX3_isSame 19 = .ok (.iconst 0, 1) := by decide +kernel
theorem dX3_isSame_20 : decode cX3_isSame 20 = .ok (.ireturn, 1) := by decide +kernel
theorem dX3_isSame_21 : decode cX3_isSame 21 = .ok (.iconst 0, 1) := by decide +kernel
theorem dX3_isSame_22 : decode cX3_isSame 22 = .ok (.istore 5, 2) := by decide +kernel
theorem dX3_isSame_24 : decode cX3_isSame 24 = .ok (.iload 5, 2) := by decide +kernel
theorem dX3_isSame_26 : decode cX3_isSame 26 = .ok (.iload 4, 2) := by decide +kernel
theorem dX3_isSame_28 : decode cX3_isSame 28 = .ok (.if_icmp .ge 30, 3) := by decide +kernel
theorem dX3_isSame_31 : decode cX3_isSame 31 = .ok (.aload_n 0, 1) := by decide +kernel
theorem dX3_isSame_32 : decode cX3_isSame 32 = .ok (.iload_n 1, 1) := by decide +kernel
theorem dX3_isSame_33 : decode cX3_isSame 33 = .ok (.iload_n 2, 1) := by decide +kernel
theorem dX3_isSame_34 : decode cX3_isSame 34 = .ok (.iload 5, 2) := by decide +kernel
theorem dX3_isSame_36 : decode cX3_isSame 36 = .ok (.invokevirtual 143, 3) := by decide +kernel
theorem dX3_isSame_39 : decode cX3_isSame 39 = .ok (.aload_n 0, 1) := by decide +kernel
theorem dX3_isSame_40 : decode cX3_isSame 40 = .ok (.iload_n 1, 1) := by decide +kernel
theorem dX3_isSame_41 : decode cX3_isSame 41 = .ok (.iload_n 3, 1) := by decide +kernel
theorem dX3_isSame_42 : decode cX3_isSame 42 = .ok (.iload 5, 2) := by decide +kernel
theorem dX3_isSame_44 : decode cX3_isSame 44 = .ok (.invokevirtual 143, 3) := by decide +kernel
theorem dX3_isSame_47 : decode cX3_isSame 47 = .ok (.if_icmp .eq 5, 3) := by decide +kernel
theorem dX3_isSame_50 : decode cX3_isSame 50 = .ok (.iconst 0, 1) := by decide +kernel
theorem dX3_isSame_51 : decode cX3_isSame 51 = .ok (.ireturn, 1) := by decide +kernel
theorem dX3_isSame_52 : decode cX3_isSame 52 = .ok (.iinc 5 1, 3) := by decide +kernel
theorem dX3_isSame_55 : decode cX3_isSame 55 = .ok (.goto (-31), 3) := by decide +kernel
theorem dX3_isSame_58 : decode cX3_isSame 58 = .ok (.iconst 1, 1) := by decide +kernel
theorem dX3_isSame_59 : decode cX3_isSame 59 = .ok (.ireturn, 1) := by decide +kernel
theorem dX3_append_0 : decode cX3_append 0 = .ok (.aload_n 0, 1) := by decide +kernel
theorem dX3_append_1 : decode cX3_append 1 = .ok (.iload_n 1, 1) := by decide +kernel
theorem dX3_append_2 : decode cX3_append 2 = .ok (.invokevirtual 98, 3) := by decide +kernel
theorem dX3_append_5 : decode cX3_append 5 = .ok (.istore_n 3, 1) := by decide +kernel
theorem dX3_append_6 : decode cX3_append 6 = .ok (.aload_n 0, 1) := by decide +kernel
theorem dX3_append_7 : decode cX3_append 7 = .ok (.iload_n 1, 1) := by decide +kernel
theorem dX3_append_8 : decode cX3_append 8 = .ok (.iload_n 2, 1) := by decide +kernel
theorem dX3_append_9 : decode cX3_append 9 = .ok (.invokevirtual 141, 3) := by decide +kernel
theorem dX3_append_12 : decode cX3_append 12 = .ok (.istore 4, 2) := by decide +kernel
theorem dX3_append_14 : decode cX3_append 14 = .ok (.iload 4, 2) := by decide +kernel
theorem dX3_append_16 : decode cX3_append 16 = .ok (.ifCond .lt 11, 3) := by decide +kernel
theorem dX3_append_19 : decode cX3_append 19 = .ok (.aload_n 0, 1) := by decide +kernel
theorem dX3_append_20 : decode cX3_append 20 = .ok (.getfield 24, 3) := by decide +kernel
theorem dX3_append_23 : decode cX3_append 23 = .ok (.iload_n 3, 1) := by decide +kernel
theorem dX3_append_24 : decode cX3_append 24 = .ok (.invokevirtual 146, 3) := by decide +kernel
theorem dX3_append_27 : decode cX3_append 27 = .ok (.iconst 0, 1) := by decide +kernel
theorem dX3_append_28 : decode cX3_append 28 = .ok (.istore 5, 2) := by decide +kernel
theorem dX3_append_30 : decode cX3_append 30 = .ok (.iload 5, 2) := by decide +kernel
theorem dX3_append_32 : decode cX3_append 32 = .ok (.iload 4, 2) := by decide +kernel
theorem dX3_append_34 : decode cX3_append 34 = .ok (.if_icmp .ge 25, 3) := by decide +kernel
theorem dX3_append_37 : decode cX3_append 37 = .ok (.aload_n 0, 1) := by decide +kernel
theorem dX3_append_38 : decode cX3_append 38 = .ok (.getfield 24, 3) := by decide +kernel
theorem dX3_append_41 : decode cX3_append 41 = .ok (.iload_n 3, 1) := by decide +kernel
theorem dX3_append_42 : decode cX3_append 42 = .ok (.aload_n 0, 1) := by decide +kernel
theorem dX3_append_43 : decode cX3_append 43 = .ok (.iload_n 1, 1) := by decide +kernel
theorem dX3_append_44 : decode cX3_append 44 = .ok (.iload_n 2, 1) := by decide +kernel
theorem dX3_append_45 : decode cX3_append 45 = .ok (.iload 5, 2) := by decide +kernel
theorem dX3_append_47 : decode cX3_append 47 = .ok (.invokevirtual 143, 3) := by decide +kernel
theorem dX3_append_50 : decode cX3_append 50 = .ok (.invokevirtual 149, 3) := by decide +kernel
theorem dX3_append_53 : decode cX3_append 53 = .ok (.iinc 5 1, 3) := by decide +kernel
theorem dX3_append_56 : decode cX3_append 56 = .ok (.goto (-26), 3) := by decide +kernel
theorem dX3_append_59 : decode cX3_append 59 = .ok (.return_, 1) := by decide +kernel
theorem dX3_appendHeldLine_0 : decode cX3_appendHeldLine 0 = .ok (.aload_n 0, 1) := by decide +kernel
theorem dX3_appendHeldLine_1 : decode cX3_appendHeldLine 1 = .ok (.iload_n 1, 1) := by decide +kernel
theorem dX3_appendHeldLine_2 : decode cX3_appendHeldLine 2 = .ok (.invokevirtual 98, 3) := by decide +kernel
theorem dX3_appendHeldLine_5 : decode cX3_appendHeldLine 5 = .ok (.istore_n 2, 1) := by decide +kernel
theorem dX3_appendHeldLine_6 : decode cX3_appendHeldLine 6 = .ok (.aload_n 0, 1) := by decide +kernel
theorem dX3_appendHeldLine_7 : decode cX3_appendHeldLine 7 = .ok (.getfield 28, 3) := by decide +kernel
theorem dX3_appendHeldLine_10 : decode cX3_appendHeldLine 10 = .ok (.iload_n 2, 1) := by decide +kernel
theorem dX3_appendHeldLine_11 : decode cX3_appendHeldLine 11 = .ok (.aload_n 0, 1) := by decide +kernel
theorem dX3_appendHeldLine_12 : decode cX3_appendHeldLine 12 = .ok (.iload_n 1, 1) := by decide +kernel
theorem dX3_appendHeldLine_13 : decode cX3_appendHeldLine 13 = .ok (.iconst 2, 1) := by decide +kernel
theorem dX3_appendHeldLine_14 : decode cX3_appendHeldLine 14 = .ok (.invokevirtual 101, 3) := by decide +kernel
theorem dX3_appendHeldLine_17 : decode cX3_appendHeldLine 17 = .ok (.aload_n 0, 1) := by decide +kernel
theorem dX3_appendHeldLine_18 : decode cX3_appendHeldLine 18 = .ok (.iload_n 1, 1) := by decide +kernel
theorem dX3_appendHeldLine_19 : decode cX3_appendHeldLine 19 = .ok (.iconst 2, 1) := by decide +kernel
theorem dX3_appendHeldLine_20 : decode cX3_appendHeldLine 20 = .ok (.invokevirtual 141, 3) := by decide +kernel
theorem dX3_appendHeldLine_23 : decode cX3_appendHeldLine 23 = .ok (.iconst 0, 1) := by decide +kernel
theorem dX3_appendHeldLine_24 : decode cX3_appendHeldLine 24 = .ok (.invokestatic 152, 3) := by decide +kernel
theorem dX3_appendHeldLine_27 : decode cX3_appendHeldLine 27 = .ok (.iadd, 1) := by decide +kernel
theorem dX3_appendHeldLine_28 : decode cX3_appendHeldLine 28 = .ok (.invokevirtual 105, 3) := by decide +kernel
theorem dX3_appendHeldLine_31 : decode cX3_appendHeldLine 31 = .ok (.istore_n 3, 1) := by decide +kernel
theorem dX3_appendHeldLine_32 : decode cX3_appendHeldLine 32 = .ok (.iload_n 3, 1) := by decide +kernel
theorem dX3_appendHeldLine_33 : decode cX3_appendHeldLine 33 = .ok (.iconst (-1), 1) := by decide +kernel
theorem dX3_appendHeldLine_34 : decode cX3_appendHeldLine 34 = .ok (.if_icmp .eq 12, 3) := by decide +kernel
theorem dX3_appendHeldLine_37 : decode cX3_appendHeldLine 37 = .ok (.aload_n 0, 1) := by decide +kernel
theorem dX3_appendHeldLine_38 : decode cX3_appendHeldLine 38 = .ok (.getfield 24, 3) := by decide +kernel
theorem dX3_appendHeldLine_41 : decode cX3_appendHeldLine 41 = .ok (.iload_n 2, 1) := by decide +kernel
theorem dX3_appendHeldLine_42 : decode cX3_appendHeldLine 42 = .ok (.iload_n 3, 1) := by decide +kernel
theorem dX3_appendHeldLine_43 : decode cX3_appendHeldLine 43 = .ok (.invokevirtual 149, 3) := by decide +kernel
theorem dX3_appendHeldLine_46 : decode cX3_appendHeldLine 46 = .ok (.return_, 1) := by decide +kernel
theorem dX4_init_0 : decode cX4_init 0 = .ok (.aload_n 0, 1) := by decide +kernel
theorem dX4_init_1 : decode cX4_init 1 = .ok (.invokespecial 3, 3) := by decide +kernel
theorem dX4_init_4 : decode cX4_init 4 = .ok (.aload_n 0, 1) := by decide +kernel
theorem dX4_init_5 : decode cX4_init 5 = .ok (.bipush 8, 2) := by decide +kernel
theorem dX4_init_7 : decode cX4_init 7 = .ok (.newarray .int, 2) := by decide +kernel
theorem dX4_init_9 : decode cX4_init 9 = .ok (.putfield 9, 3) := by decide +kernel
theorem dX4_init_12 : decode cX4_init 12 = .ok (.aload_n 0, 1) := by decide +kernel
theorem dX4_init_13 : decode cX4_init 13 = .ok (.sipush 320, 3) := by decide +kernel
theorem dX4_init_16 : decode cX4_init 16 = .ok (.newarray .int, 2) := by decide +kernel
theorem dX4_init_18 : decode cX4_init 18 = .ok (.putfield 15, 3) := by decide +kernel
theorem dX4_init_21 : decode cX4_init 21 = .ok (.aload_n 0, 1) := by decide +kernel
theorem dX4_init_22 : decode cX4_init 22 = .ok (.getfield 9, 3) := by decide +kernel
theorem dX4_init_25 : decode cX4_init 25 = .ok (.iconst (-1), 1) := by decide +kernel
theorem dX4_init_26 : decode cX4_init 26 = .ok (.invokestatic 18, 3) := by decide +kernel
theorem dX4_init_29 : decode cX4_init 29 = .ok (.return_, 1) := by decide +kernel
theorem dX4_sizeOf_0 : decode cX4_sizeOf 0 = .ok (.iload_n 1, 1) := by decide +kernel
theorem dX4_sizeOf_1 : decode cX4_sizeOf 1 = .ok (.ifCond .lt 9, 3) := by decide +kernel
theorem dX4_sizeOf_4 : decode cX4_sizeOf 4 = .ok (.iload_n 1, 1) := by decide +kernel
theorem dX4_sizeOf_5 : decode cX4_sizeOf 5 = .ok (.bipush 8, 2) := by decide +kernel
theorem dX4_sizeOf_7 : decode cX4_sizeOf 7 = .ok (.if_icmp .lt 7, 3) := by decide +kernel
theorem dX4_sizeOf_10 : decode cX4_sizeOf 10 = .ok (.iconst (-1), 1) := by decide +kernel
theorem dX4_sizeOf_11 : decode cX4_sizeOf 11 = .ok (.goto 9, 3) := by decide +kernel
theorem dX4_sizeOf_14 : decode cX4_sizeOf 14 = .ok (.aload_n 0, 1) := by decide +kernel
theorem dX4_sizeOf_15 : decode cX4_sizeOf 15 = .ok (.getfield 9, 3) := by decide +kernel
theorem dX4_sizeOf_18 : decode cX4_sizeOf 18 = .ok (.iload_n 1, 1) := by decide +kernel
theorem dX4_sizeOf_19 : decode cX4_sizeOf 19 = .ok (.iaload, 1) := by decide +kernel
theorem dX4_sizeOf_20 : decode cX4_sizeOf 20 = .ok (.ireturn, 1) := by decide +kernel
theorem dX4_countOf_0 : decode cX4_countOf 0 = .ok (.iload_n 1, 1) := by decide +kernel
theorem dX4_countOf_1 : decode cX4_countOf 1 = .ok (.ifCond .lt 9, 3) := by decide +kernel
theorem dX4_countOf_4 : decode cX4_countOf 4 = .ok (.iload_n 1, 1) := by decide +kernel
theorem dX4_countOf_5 : decode cX4_countOf 5 = .ok (.bipush 8, 2) := by decide +kernel
theorem dX4_countOf_7 : decode cX4_countOf 7 = .ok (.if_icmp .lt 7, 3) := by decide +kernel
theorem dX4_countOf_10 : decode cX4_countOf 10 = .ok (.iconst 0, 1) := by decide +kernel
theorem dX4_countOf_11 : decode cX4_countOf 11 = .ok (.goto 13, 3) := by decide +kernel
theorem dX4_countOf_14 : decode cX4_countOf 14 = .ok (.aload_n 0, 1) := by decide +kernel
theorem dX4_countOf_15 : decode cX4_countOf 15 = .ok (.getfield 9, 3) := by decide +kernel
theorem dX4_countOf_18 : decode cX4_countOf 18 = .ok (.iload_n 1, 1) := by decide +kernel
theorem dX4_countOf_19 : decode cX4_countOf 19 = .ok (.iaload, 1) := by decide +kernel
theorem dX4_countOf_20 : decode cX4_countOf 20 = .ok (.iconst 0, 1) := by decide +kernel
theorem dX4_countOf_21 : decode cX4_countOf 21 = .ok (.invokestatic 24, 3) := by decide +kernel
theorem dX4_countOf_24 : decode cX4_countOf 24 = .ok (.ireturn, 1) := by decide +kernel
theorem dX4_has_0 : decode cX4_has 0 = .ok (.aload_n 0, 1) := by decide +kernel
theorem dX4_has_1 : decode cX4_has 1 = .ok (.iload_n 1, 1) := by decide +kernel
theorem dX4_has_2 : decode cX4_has 2 = .ok (.invokevirtual 30, 3) := by decide +kernel
theorem dX4_has_5 : decode cX4_has 5 = .ok (.ifCond .lt 7, 3) := by decide +kernel
theorem dX4_has_8 : decode cX4_has 8 = .ok (.iconst 1, 1) := by decide +kernel
theorem dX4_has_9 : decode cX4_has 9 = .ok (.goto 4, 3) := by decide +kernel
theorem dX4_has_12 : decode cX4_has 12 = .ok (.iconst 0, 1) := by decide +kernel
theorem dX4_has_13 : decode cX4_has 13 = .ok (.ireturn, 1) := by decide +kernel
theorem dX4_lineOf_0 : decode cX4_lineOf 0 = .ok (.iload_n 1, 1) := by decide +kernel
theorem dX4_lineOf_1 : decode cX4_lineOf 1 = .ok (.ifCond .lt 29, 3) := by decide +kernel
theorem dX4_lineOf_4 : decode cX4_lineOf 4 = .ok (.iload_n 1, 1) := by decide +kernel
theorem dX4_lineOf_5 : decode cX4_lineOf 5 = .ok (.bipush 8, 2) := by decide +kernel
theorem dX4_lineOf_7 : decode cX4_lineOf 7 = .ok (.if_icmp .ge 23, 3) := by decide +kernel
theorem dX4_lineOf_10 : decode cX4_lineOf 10 = .ok (.iload_n 2, 1) := by decide +kernel
theorem dX4_lineOf_11 : decode cX4_lineOf 11 = .ok (.ifCond .lt 19, 3) := by decide +kernel
theorem dX4_lineOf_14 : decode cX4_lineOf 14 = .ok (.iload_n 2, 1) := by decide +kernel
theorem dX4_lineOf_15 : decode cX4_lineOf 15 = .ok (.bipush 40, 2) := by decide +kernel
theorem dX4_lineOf_17 : decode cX4_lineOf 17 = .ok (.if_icmp .ge 13, 3) := by decide +kernel
theorem dX4_lineOf_20 : decode cX4_lineOf 20 = .ok (.iload_n 2, 1) := by decide +kernel
theorem dX4_lineOf_21 : decode cX4_lineOf 21 = .ok (.aload_n 0, 1) := by decide +kernel
theorem dX4_lineOf_22 : decode cX4_lineOf 22 = .ok (.getfield 9, 3) := by decide +kernel
theorem dX4_lineOf_25 : decode cX4_lineOf 25 = .ok (.iload_n 1, 1) := by decide +kernel
theorem dX4_lineOf_26 : decode cX4_lineOf 26 = .ok (.iaload, 1) := by decide +kernel
theorem dX4_lineOf_27 : decode cX4_lineOf 27 = .ok (.if_icmp .lt 5, 3) := by decide +kernel
theorem dX4_lineOf_30 : decode cX4_lineOf 30 = .ok (.iconst (-1), 1) := by decide +kernel
theorem dX4_lineOf_31 : decode cX4_lineOf 31 = .ok (.ireturn, 1) := by decide +kernel
theorem dX4_lineOf_32 : decode cX4_lineOf 32 = .ok (.aload_n 0, 1) := by decide +kernel
theorem dX4_lineOf_33 : decode cX4_lineOf 33 = .ok (.getfield 15, 3) := by decide +kernel
theorem dX4_lineOf_36 : decode cX4_lineOf 36 = .ok (.iload_n 1, 1) := by decide +kernel
theorem dX4_lineOf_37 : decode cX4_lineOf 37 = .ok (.bipush 40, 2) := by decide +kernel
theorem dX4_lineOf_39 : decode cX4_lineOf 39 = .ok (.imul, 1) := by decide +kernel
theorem dX4_lineOf_40 : decode cX4_lineOf 40 = .ok (.iload_n 2, 1) := by decide +kernel
theorem dX4_lineOf_41 : decode cX4_lineOf 41 = .ok (.iadd, 1) := by decide +kernel
theorem dX4_lineOf_42 : decode cX4_lineOf 42 = .ok (.iaload, 1) := by decide +kernel
theorem dX4_lineOf_43 : decode cX4_lineOf 43 = .ok (.ireturn, 1) := by decide +kernel
theorem dX4_fileCount_0 : decode cX4_fileCount 0 = .ok (.iconst 0, 1) := by decide +kernel
theorem dX4_fileCount_1 : decode cX4_fileCount 1 = .ok (.istore_n 1, 1) := by decide +kernel
theorem dX4_fileCount_2 : decode cX4_fileCount 2 = .ok (.iconst 0, 1) := by decide +kernel
theorem dX4_fileCount_3 : decode cX4_fileCount 3 = .ok (.istore_n 2, 1) := by decide +kernel
theorem dX4_fileCount_4 : decode cX4_fileCount 4 = .ok (.iload_n 2, 1) := by decide +kernel
theorem dX4_fileCount_5 : decode cX4_fileCount 5 = .ok (.bipush 8, 2) := by decide +kernel
theorem dX4_fileCount_7 : decode cX4_fileCount 7 = .ok (.if_icmp .ge 21, 3) := by decide +kernel
theorem dX4_fileCount_10 : decode cX4_fileCount 10 = .ok (.aload_n 0, 1) := by decide +kernel
theorem dX4_fileCount_11 : decode cX4_fileCount 11 = .ok (.getfield 9, 3) := by decide +kernel
theorem dX4_fileCount_14 : decode cX4_fileCount 14 = .ok (.iload_n 2, 1) := by decide +kernel
theorem dX4_fileCount_15 : decode cX4_fileCount 15 = .ok (.iaload, 1) := by decide +kernel
theorem dX4_fileCount_16 : decode cX4_fileCount 16 = .ok (.ifCond .lt 6, 3) := by decide +kernel
theorem dX4_fileCount_19 : decode cX4_fileCount 19 = .ok (.iinc 1 1, 3) := by decide +kernel
theorem dX4_fileCount_22 : decode cX4_fileCount 22 = .ok (.iinc 2 1, 3) := by decide +kernel
theorem dX4_fileCount_25 : decode cX4_fileCount 25 = .ok (.goto (-21), 3) := by decide +kernel
theorem dX4_fileCount_28 : decode cX4_fileCount 28 = .ok (.iload_n 1, 1) := by decide +kernel
theorem dX4_fileCount_29 : decode cX4_fileCount 29 = .ok (.ireturn, 1) := by decide +kernel
theorem dX4_putFile_0 : decode cX4_putFile 0 = .ok (.iload_n 1, 1) := by decide +kernel
theorem dX4_putFile_1 : decode cX4_putFile 1 = .ok (.ifCond .lt 25, 3) := by decide +kernel
theorem dX4_putFile_4 : decode cX4_putFile 4 = .ok (.iload_n 1, 1) := by decide +kernel
theorem dX4_putFile_5 : decode cX4_putFile 5 = .ok (.bipush 8, 2) := by decide +kernel
theorem dX4_putFile_7 : decode cX4_putFile 7 = .ok (.if_icmp .ge 19, 3) := by decide +kernel
theorem dX4_putFile_10 : decode cX4_putFile 10 = .ok (.aload_n 0, 1) := by decide +kernel
theorem dX4_putFile_11 : decode cX4_putFile 11 = .ok (.getfield 9, 3) := by decide +kernel
theorem dX4_putFile_14 : decode cX4_putFile 14 = .ok (.iload_n 1, 1) := by decide +kernel
theorem dX4_putFile_15 : decode cX4_putFile 15 = .ok (.iaload, 1) := by decide +kernel
theorem dX4_putFile_16 : decode cX4_putFile 16 = .ok (.ifCond .ge 10, 3) := by decide +kernel
theorem dX4_putFile_19 : decode cX4_putFile 19 = .ok (.aload_n 0, 1) := by decide +kernel
theorem dX4_putFile_20 : decode cX4_putFile 20 = .ok (.getfield 9, 3) := by decide +kernel
theorem dX4_putFile_23 : decode cX4_putFile 23 = .ok (.iload_n 1, 1) := by decide +kernel
theorem dX4_putFile_24 : decode cX4_putFile 24 = .ok (.iconst 0, 1) := by decide +kernel
theorem dX4_putFile_25 : decode cX4_putFile 25 = .ok (.iastore, 1) := by decide +kernel
theorem dX4_putFile_26 : decode cX4_putFile 26 = .ok (.return_, 1) := by decide +kernel
theorem dX4_takeFile_0 : decode cX4_takeFile 0 = .ok (.iload_n 1, 1) := by decide +kernel
theorem dX4_takeFile_1 : decode cX4_takeFile 1 = .ok (.ifCond .lt 16, 3) := by decide +kernel
theorem dX4_takeFile_4 : decode cX4_takeFile 4 = .ok (.iload_n 1, 1) := by decide +kernel
theorem dX4_takeFile_5 : decode cX4_takeFile 5 = .ok (.bipush 8, 2) := by decide +kernel
theorem dX4_takeFile_7 : decode cX4_takeFile 7 = .ok (.if_icmp .ge 10, 3) := by decide +kernel
theorem dX4_takeFile_10 : decode cX4_takeFile 10 = .ok (.aload_n 0, 1) := by decide +kernel
theorem dX4_takeFile_11 : decode cX4_takeFile 11 = .ok (.getfield 9, 3) := by decide +kernel
theorem dX4_takeFile_14 : decode cX4_takeFile 14 = .ok (.iload_n 1, 1) := by decide +kernel
theorem dX4_takeFile_15 : decode cX4_takeFile 15 = .ok (.iconst (-1), 1) := by decide +kernel
theorem dX4_takeFile_16 : decode cX4_takeFile 16 = .ok (.iastore, 1) := by decide +kernel
theorem dX4_takeFile_17 : decode cX4_takeFile 17 = .ok (.return_, 1) := by decide +kernel
theorem dX4_clear_0 : decode cX4_clear 0 = .ok (.aload_n 0, 1) := by decide +kernel
theorem dX4_clear_1 : decode cX4_clear 1 = .ok (.getfield 9, 3) := by decide +kernel
theorem dX4_clear_4 : decode cX4_clear 4 = .ok (.iconst (-1), 1) := by decide +kernel
theorem dX4_clear_5 : decode cX4_clear 5 = .ok (.invokestatic 18, 3) := by decide +kernel
theorem dX4_clear_8 : decode cX4_clear 8 = .ok (.return_, 1) := by decide +kernel
theorem dX4_setLine_0 : decode cX4_setLine 0 = .ok (.iload_n 1, 1) := by decide +kernel
theorem dX4_setLine_1 : decode cX4_setLine 1 = .ok (.ifCond .lt 41, 3) := by decide +kernel
theorem dX4_setLine_4 : decode cX4_setLine 4 = .ok (.iload_n 1, 1) := by decide +kernel
theorem dX4_setLine_5 : decode cX4_setLine 5 = .ok (.bipush 8, 2) := by decide +kernel
theorem dX4_setLine_7 : decode cX4_setLine 7 = .ok (.if_icmp .ge 35, 3) := by decide +kernel
theorem dX4_setLine_10 : decode cX4_setLine 10 = .ok (.iload_n 2, 1) := by decide +kernel
theorem dX4_setLine_11 : decode cX4_setLine 11 = .ok (.ifCond .lt 31, 3) := by decide +kernel
theorem dX4_setLine_14 : decode cX4_setLine 14 = .ok (.iload_n 2, 1) := by decide +kernel
theorem dX4_setLine_15 : decode cX4_setLine 15 = .ok (.bipush 40, 2) := by decide +kernel
theorem dX4_setLine_17 : decode cX4_setLine 17 = .ok (.if_icmp .ge 25, 3) := by decide +kernel
theorem dX4_setLine_20 : decode cX4_setLine 20 = .ok (.iload_n 2, 1) := by decide +kernel
theorem dX4_setLine_21 : decode cX4_setLine 21 = .ok (.aload_n 0, 1) := by decide +kernel
theorem dX4_setLine_22 : decode cX4_setLine 22 = .ok (.getfield 9, 3) := by decide +kernel
theorem dX4_setLine_25 : decode cX4_setLine 25 = .ok (.iload_n 1, 1) := by decide +kernel
theorem dX4_setLine_26 : decode cX4_setLine 26 = .ok (.iaload, 1) := by decide +kernel
theorem dX4_setLine_27 : decode cX4_setLine 27 = .ok (.if_icmp .ge 15, 3) := by decide +kernel
theorem dX4_setLine_30 : decode cX4_setLine 30 = .ok (.aload_n 0, 1) := by decide +kernel
theorem dX4_setLine_31 : decode cX4_setLine 31 = .ok (.getfield 15, 3) := by decide +kernel
theorem dX4_setLine_34 : decode cX4_setLine 34 = .ok (.iload_n 1, 1) := by decide +kernel
theorem dX4_setLine_35 : decode cX4_setLine 35 = .ok (.bipush 40, 2) := by decide +kernel
theorem dX4_setLine_37 : decode cX4_setLine 37 = .ok (.imul, 1) := by decide +kernel
theorem dX4_setLine_38 : decode cX4_setLine 38 = .ok (.iload_n 2, 1) := by decide +kernel
theorem dX4_setLine_39 : decode cX4_setLine 39 = .ok (.iadd, 1) := by decide +kernel
theorem dX4_setLine_40 : decode cX4_setLine 40 = .ok (.iload_n 3, 1) := by decide +kernel
theorem dX4_setLine_41 : decode cX4_setLine 41 = .ok (.iastore, 1) := by decide +kernel
theorem dX4_setLine_42 : decode cX4_setLine 42 = .ok (.return_, 1) := by decide +kernel
theorem dX4_putLine_0 : decode cX4_putLine 0 = .ok (.aload_n 0, 1) := by decide +kernel
theorem dX4_putLine_1 : decode cX4_putLine 1 = .ok (.iload_n 1, 1) := by decide +kernel
theorem dX4_putLine_2 : decode cX4_putLine 2 = .ok (.invokevirtual 30, 3) := by decide +kernel
theorem dX4_putLine_5 : decode cX4_putLine 5 = .ok (.istore 4, 2) := by decide +kernel
theorem dX4_putLine_7 : decode cX4_putLine 7 = .ok (.iload 4, 2) := by decide +kernel
theorem dX4_putLine_9 : decode cX4_putLine 9 = .ok (.ifCond .lt 20, 3) := by decide +kernel
theorem dX4_putLine_12 : decode cX4_putLine 12 = .ok (.iload 4, 2) := by decide +kernel
theorem dX4_putLine_14 : decode cX4_putLine 14 = .ok (.bipush 40, 2) := by decide +kernel
theorem dX4_putLine_16 : decode cX4_putLine 16 = .ok (.if_icmp .ge 13, 3) := by decide +kernel
theorem dX4_putLine_19 : decode cX4_putLine 19 = .ok (.iload_n 2, 1) := by decide +kernel
theorem dX4_putLine_20 : decode cX4_putLine 20 = .ok (.ifCond .lt 9, 3) := by decide +kernel
theorem dX4_putLine_23 : decode cX4_putLine 23 = .ok (.iload_n 2, 1) := by decide +kernel
theorem dX4_putLine_24 : decode cX4_putLine 24 = .ok (.iload 4, 2) := by decide +kernel
theorem dX4_putLine_26 : decode cX4_putLine 26 = .ok (.if_icmp .le 4, 3) := by decide +kernel
theorem dX4_putLine_29 : decode cX4_putLine 29 = .ok (.return_, 1) := by decide +kernel
theorem dX4_putLine_30 : decode cX4_putLine 30 = .ok (.iload_n 1, 1) := by decide +kernel
theorem dX4_putLine_31 : decode cX4_putLine 31 = .ok (.bipush 40, 2) := by decide +kernel
theorem dX4_putLine_33 : decode cX4_putLine 33 = .ok (.imul, 1) := by decide +kernel
theorem dX4_putLine_34 : decode cX4_putLine 34 = .ok (.istore 5, 2) := by decide +kernel
theorem dX4_putLine_36 : decode cX4_putLine 36 = .ok (.iload 5, 2) := by decide +kernel
theorem dX4_putLine_38 : decode cX4_putLine 38 = .ok (.iload 4, 2) := by decide +kernel
theorem dX4_putLine_40 : decode cX4_putLine 40 = .ok (.iadd, 1) := by decide +kernel
theorem dX4_putLine_41 : decode cX4_putLine 41 = .ok (.istore 6, 2) := by decide +kernel
theorem dX4_putLine_43 : decode cX4_putLine 43 = .ok (.iload 6, 2) := by decide +kernel
theorem dX4_putLine_45 : decode cX4_putLine 45 = .ok (.iload 5, 2) := by decide +kernel
theorem dX4_putLine_47 : decode cX4_putLine 47 = .ok (.iload_n 2, 1) := by decide +kernel
theorem dX4_putLine_48 : decode cX4_putLine 48 = .ok (.iadd, 1) := by decide +kernel
theorem dX4_putLine_49 : decode cX4_putLine 49 = .ok (.if_icmp .le 25, 3) := by decide +kernel
theorem dX4_putLine_52 : decode cX4_putLine 52 = .ok (.aload_n 0, 1) := by decide +kernel
theorem dX4_putLine_53 : decode cX4_putLine 53 = .ok (.getfield 15, 3) := by decide +kernel
theorem dX4_putLine_56 : decode cX4_putLine 56 = .ok (.iload 6, 2) := by decide +kernel
theorem dX4_putLine_58 : decode cX4_putLine 58 = .ok (.aload_n 0, 1) := by decide +kernel
theorem dX4_putLine_59 : decode cX4_putLine 59 = .ok (.getfield 15, 3) := by decide +kernel
theorem dX4_putLine_62 : decode cX4_putLine 62 = .ok (.iload 6, 2) := by decide +kernel
theorem dX4_putLine_64 : decode cX4_putLine 64 = .ok (.iconst 1, 1) := by decide +kernel
theorem dX4_putLine_65 : decode cX4_putLine 65 = .ok (.isub, 1) := by decide +kernel
theorem dX4_putLine_66 : decode cX4_putLine 66 = .ok (.iaload, 1) := by decide +kernel
theorem dX4_putLine_67 : decode cX4_putLine 67 = .ok (.iastore, 1) := by decide +kernel
theorem dX4_putLine_68 : decode cX4_putLine 68 = .ok (.iinc 6 (-1), 3) := by decide +kernel
theorem dX4_putLine_71 : decode cX4_putLine 71 = .ok (.goto (-28), 3) := by decide +kernel
theorem dX4_putLine_74 : decode cX4_putLine 74 = .ok (.aload_n 0, 1) := by decide +kernel
theorem dX4_putLine_75 : decode cX4_putLine 75 = .ok (.getfield 15, 3) := by decide +kernel
theorem dX4_putLine_78 : decode cX4_putLine 78 = .ok (.iload 5, 2) := by decide +kernel
theorem dX4_putLine_80 : decode cX4_putLine 80 = .ok (.iload_n 2, 1) := by decide +kernel
theorem dX4_putLine_81 : decode cX4_putLine 81 = .ok (.iadd, 1) := by decide +kernel
theorem dX4_putLine_82 : decode cX4_putLine 82 = .ok (.iload_n 3, 1) := by decide +kernel
theorem dX4_putLine_83 : decode cX4_putLine 83 = .ok (.iastore, 1) := by decide +kernel
theorem dX4_putLine_84 : decode cX4_putLine 84 = .ok (.aload_n 0, 1) := by decide +kernel
theorem dX4_putLine_85 : decode cX4_putLine 85 = .ok (.getfield 9, 3) := by decide +kernel
theorem dX4_putLine_88 : decode cX4_putLine 88 = .ok (.iload_n 1, 1) := by decide +kernel
theorem dX4_putLine_89 : decode cX4_putLine 89 = .ok (.iload 4, 2) := by decide +kernel
theorem dX4_putLine_91 : decode cX4_putLine 91 = .ok (.iconst 1, 1) := by decide +kernel
theorem dX4_putLine_92 : decode cX4_putLine 92 = .ok (.iadd, 1) := by decide +kernel
theorem dX4_putLine_93 : decode cX4_putLine 93 = .ok (.iastore, 1) := by decide +kernel
theorem dX4_putLine_94 : decode cX4_putLine 94 = .ok (.return_, 1) := by decide +kernel
theorem dX4_takeLine_0 : decode cX4_takeLine 0 = .ok (.aload_n 0, 1) := by decide +kernel
theorem dX4_takeLine_1 : decode cX4_takeLine 1 = .ok (.iload_n 1, 1) := by decide +kernel
theorem dX4_takeLine_2 : decode cX4_takeLine 2 = .ok (.invokevirtual 30, 3) := by decide +kernel
theorem dX4_takeLine_5 : decode cX4_takeLine 5 = .ok (.istore_n 3, 1) := by decide +kernel
theorem dX4_takeLine_6 : decode cX4_takeLine 6 = .ok (.iload_n 2, 1) := by decide +kernel
theorem dX4_takeLine_7 : decode cX4_takeLine 7 = .ok (.ifCond .lt 14, 3) := by decide +kernel
theorem dX4_takeLine_10 : decode cX4_takeLine 10 = .ok (.iload_n 2, 1) := by decide +kernel
theorem dX4_takeLine_11 : decode cX4_takeLine 11 = .ok (.iload_n 3, 1) := by decide +kernel
theorem dX4_takeLine_12 : decode cX4_takeLine 12 = .ok (.if_icmp .ge 9, 3) := by decide +kernel
theorem dX4_takeLine_15 : decode cX4_takeLine 15 = .ok (.iload_n 3, 1) := by decide +kernel
theorem dX4_takeLine_16 : decode cX4_takeLine 16 = .ok (.bipush 40, 2) := by decide +kernel
theorem dX4_takeLine_18 : decode cX4_takeLine 18 = .ok (.if_icmp .le 4, 3) := by decide +kernel
theorem dX4_takeLine_21 : decode cX4_takeLine 21 = .ok (.return_, 1) := by decide +kernel
theorem dX4_takeLine_22 : decode cX4_takeLine 22 = .ok (.iload_n 1, 1) := by decide +kernel
theorem dX4_takeLine_23 : decode cX4_takeLine 23 = .ok (.bipush 40, 2) := by decide +kernel
theorem dX4_takeLine_25 : decode cX4_takeLine 25 = .ok (.imul, 1) := by decide +kernel
theorem dX4_takeLine_26 : decode cX4_takeLine 26 = .ok (.istore 4, 2) := by decide +kernel
theorem dX4_takeLine_28 : decode cX4_takeLine 28 = .ok (.iload 4, 2) := by decide +kernel
theorem dX4_takeLine_30 : decode cX4_takeLine 30 = .ok (.iload_n 2, 1) := by decide +kernel
theorem dX4_takeLine_31 : decode cX4_takeLine 31 = .ok (.iadd, 1) := by decide +kernel
theorem dX4_takeLine_32 : decode cX4_takeLine 32 = .ok (.istore 5, 2) := by decide +kernel
theorem dX4_takeLine_34 : decode cX4_takeLine 34 = .ok (.iload 5, 2) := by decide +kernel
theorem dX4_takeLine_36 : decode cX4_takeLine 36 = .ok (.iload 4, 2) := by decide +kernel
theorem dX4_takeLine_38 : decode cX4_takeLine 38 = .ok (.iload_n 3, 1) := by decide +kernel
theorem dX4_takeLine_39 : decode cX4_takeLine 39 = .ok (.iadd, 1) := by decide +kernel
theorem dX4_takeLine_40 : decode cX4_takeLine 40 = .ok (.iconst 1, 1) := by decide +kernel
theorem dX4_takeLine_41 : decode cX4_takeLine 41 = .ok (.isub, 1) := by decide +kernel
theorem dX4_takeLine_42 : decode cX4_takeLine 42 = .ok (.if_icmp .ge 25, 3) := by decide +kernel
theorem dX4_takeLine_45 : decode cX4_takeLine 45 = .ok (.aload_n 0, 1) := by decide +kernel
theorem dX4_takeLine_46 : decode cX4_takeLine 46 = .ok (.getfield 15, 3) := by decide +kernel
theorem dX4_takeLine_49 : decode cX4_takeLine 49 = .ok (.iload 5, 2) := by decide +kernel
theorem dX4_takeLine_51 : decode cX4_takeLine 51 = .ok (.aload_n 0, 1) := by decide +kernel
theorem dX4_takeLine_52 : decode cX4_takeLine 52 = .ok (.getfield 15, 3) := by decide +kernel
theorem dX4_takeLine_55 : decode cX4_takeLine 55 = .ok (.iload 5, 2) := by decide +kernel
theorem dX4_takeLine_57 : decode cX4_takeLine 57 = .ok (.iconst 1, 1) := by decide +kernel
theorem dX4_takeLine_58 : decode cX4_takeLine 58 = .ok (.iadd, 1) := by decide +kernel
theorem dX4_takeLine_59 : decode cX4_takeLine 59 = .ok (.iaload, 1) := by decide +kernel
theorem dX4_takeLine_60 : decode cX4_takeLine 60 = .ok (.iastore, 1) := by decide +kernel
theorem dX4_takeLine_61 : decode cX4_takeLine 61 = .ok (.iinc 5 1, 3) := by decide +kernel
theorem dX4_takeLine_64 : decode cX4_takeLine 64 = .ok (.goto (-30), 3) := by decide +kernel
theorem dX4_takeLine_67 : decode cX4_takeLine 67 = .ok (.aload_n 0, 1) := by decide +kernel
theorem dX4_takeLine_68 : decode cX4_takeLine 68 = .ok (.getfield 9, 3) := by decide +kernel
theorem dX4_takeLine_71 : decode cX4_takeLine 71 = .ok (.iload_n 1, 1) := by decide +kernel
theorem dX4_takeLine_72 : decode cX4_takeLine 72 = .ok (.iload_n 3, 1) := by decide +kernel
theorem dX4_takeLine_73 : decode cX4_takeLine 73 = .ok (.iconst 1, 1) := by decide +kernel
theorem dX4_takeLine_74 : decode cX4_takeLine 74 = .ok (.isub, 1) := by decide +kernel
theorem dX4_takeLine_75 : decode cX4_takeLine 75 = .ok (.iastore, 1) := by decide +kernel
theorem dX4_takeLine_76 : decode cX4_takeLine 76 = .ok (.return_, 1) := by decide +kernel
theorem dX4_addLine_0 : decode cX4_addLine 0 = .ok (.iload_n 1, 1) := by decide +kernel
theorem dX4_addLine_1 : decode cX4_addLine 1 = .ok (.ifCond .lt 9, 3) := by decide +kernel
theorem dX4_addLine_4 : decode cX4_addLine 4 = .ok (.iload_n 1, 1) := by decide +kernel
theorem dX4_addLine_5 : decode cX4_addLine 5 = .ok (.bipush 8, 2) := by decide +kernel
theorem dX4_addLine_7 : decode cX4_addLine 7 = .ok (.if_icmp .lt 4, 3) := by decide +kernel
theorem dX4_addLine_10 : decode cX4_addLine 10 = .ok (.return_, 1) := by decide +kernel
theorem dX4_addLine_11 : decode cX4_addLine 11 = .ok (.aload_n 0, 1) := by decide +kernel
theorem dX4_addLine_12 : decode cX4_addLine 12 = .ok (.getfield 9, 3) := by decide +kernel
theorem dX4_addLine_15 : decode cX4_addLine 15 = .ok (.iload_n 1, 1) := by decide +kernel
theorem dX4_addLine_16 : decode cX4_addLine 16 = .ok (.iaload, 1) := by decide +kernel
theorem dX4_addLine_17 : decode cX4_addLine 17 = .ok (.istore_n 3, 1) := by decide +kernel
theorem dX4_addLine_18 : decode cX4_addLine 18 = .ok (.iload_n 3, 1) := by decide +kernel
theorem dX4_addLine_19 : decode cX4_addLine 19 = .ok (.ifCond .lt 30, 3) := by decide +kernel
theorem dX4_addLine_22 : decode cX4_addLine 22 = .ok (.iload_n 3, 1) := by decide +kernel
theorem dX4_addLine_23 : decode cX4_addLine 23 = .ok (.bipush 40, 2) := by decide +kernel
theorem dX4_addLine_25 : decode cX4_addLine 25 = .ok (.if_icmp .ge 24, 3) := by decide +kernel
theorem dX4_addLine_28 : decode cX4_addLine 28 = .ok (.aload_n 0, 1) := by decide +kernel
theorem dX4_addLine_29 : decode cX4_addLine 29 = .ok (.getfield 15, 3) := by decide +kernel
theorem dX4_addLine_32 : decode cX4_addLine 32 = .ok (.iload_n 1, 1) := by decide +kernel
theorem dX4_addLine_33 : decode cX4_addLine 33 = .ok (.bipush 40, 2) := by decide +kernel
theorem dX4_addLine_35 : decode cX4_addLine 35 = .ok (.imul, 1) := by decide +kernel
theorem dX4_addLine_36 : decode cX4_addLine 36 = .ok (.iload_n 3, 1) := by decide +kernel
theorem dX4_addLine_37 : decode cX4_addLine 37 = .ok (.iadd, 1) := by decide +kernel
theorem dX4_addLine_38 : decode cX4_addLine 38 = .ok (.iload_n 2, 1) := by decide +kernel
theorem dX4_addLine_39 : decode cX4_addLine 39 = .ok (.iastore, 1) := by decide +kernel
theorem dX4_addLine_40 : decode cX4_addLine 40 = .ok (.aload_n 0, 1) := by decide +kernel
theorem dX4_addLine_41 : decode cX4_addLine 41 = .ok (.getfield 9, 3) := by decide +kernel
theorem dX4_addLine_44 : decode cX4_addLine 44 = .ok (.iload_n 1, 1) := by decide +kernel
theorem dX4_addLine_45 : decode cX4_addLine 45 = .ok (.iload_n 3, 1) := by decide +kernel
theorem dX4_addLine_46 : decode cX4_addLine 46 = .ok (.iconst 1, 1) := by decide +kernel
theorem dX4_addLine_47 : decode cX4_addLine 47 = .ok (.iadd, 1) := by decide +kernel
theorem dX4_addLine_48 : decode cX4_addLine 48 = .ok (.iastore, 1) := by decide +kernel
theorem dX4_addLine_49 : decode cX4_addLine 49 = .ok (.return_, 1) := by decide +kernel
theorem dX4_become_0 : decode cX4_become 0 = .ok (.aload_n 1, 1) := by decide +kernel
theorem dX4_become_1 : decode cX4_become 1 = .ok (.getfield 9, 3) := by decide +kernel
theorem dX4_become_4 : decode cX4_become 4 = .ok (.iconst 0, 1) := by decide +kernel
theorem dX4_become_5 : decode cX4_become 5 = .ok (.aload_n 0, 1) := by decide +kernel
theorem dX4_become_6 : decode cX4_become 6 = .ok (.getfield 9, 3) := by decide +kernel
theorem dX4_become_9 : decode cX4_become 9 = .ok (.iconst 0, 1) := by decide +kernel
theorem dX4_become_10 : decode cX4_become 10 = .ok (.bipush 8, 2) := by decide +kernel
theorem dX4_become_12 : decode cX4_become 12 = .ok (.invokestatic 34, 3) := by decide +kernel
theorem dX4_become_15 : decode cX4_become 15 = .ok (.aload_n 1, 1) := by decide +kernel
theorem dX4_become_16 : decode cX4_become 16 = .ok (.getfield 15, 3) := by decide +kernel
theorem dX4_become_19 : decode cX4_become 19 = .ok (.iconst 0, 1) := by decide +kernel
theorem dX4_become_20 : decode cX4_become 20 = .ok (.aload_n 0, 1) := by decide +kernel
theorem dX4_become_21 : decode cX4_become 21 = .ok (.getfield 15, 3) := by decide +kernel
theorem dX4_become_24 : decode cX4_become 24 = .ok (.iconst 0, 1) := by decide +kernel
theorem dX4_become_25 : decode cX4_become 25 = .ok (.sipush 320, 3) := by decide +kernel
theorem dX4_become_28 : decode cX4_become 28 = .ok (.invokestatic 34, 3) := by decide +kernel
theorem dX4_become_31 : decode cX4_become 31 = .ok (.return_, 1) := by decide +kernel
theorem dX4_othersThan_0 : decode cX4_othersThan 0 = .ok (.iconst 0, 1) := by decide +kernel
theorem dX4_othersThan_1 : decode cX4_othersThan 1 = .ok (.istore_n 2, 1) := by decide +kernel
theorem dX4_othersThan_2 : decode cX4_othersThan 2 = .ok (.iconst 0, 1) := by decide +kernel
theorem dX4_othersThan_3 : decode cX4_othersThan 3 = .ok (.istore_n 3, 1) := by decide +kernel
theorem dX4_othersThan_4 : decode cX4_othersThan 4 = .ok (.iload_n 3, 1) := by decide +kernel
theorem dX4_othersThan_5 : decode cX4_othersThan 5 = .ok (.bipush 8, 2) := by decide +kernel
theorem dX4_othersThan_7 : decode cX4_othersThan 7 = .ok (.if_icmp .ge 21, 3) := by decide +kernel
theorem dX4_othersThan_10 : decode cX4_othersThan 10 = .ok (.aload_n 0, 1) := by decide +kernel
theorem dX4_othersThan_11 : decode cX4_othersThan 11 = .ok (.iload_n 3, 1) := by decide +kernel
theorem dX4_othersThan_12 : decode cX4_othersThan 12 = .ok (.aload_n 1, 1) := by decide +kernel
theorem dX4_othersThan_13 : decode cX4_othersThan 13 = .ok (.invokevirtual 40, 3) := by decide +kernel
theorem dX4_othersThan_16 : decode cX4_othersThan 16 = .ok (.ifCond .ne 6, 3) := by decide +kernel
theorem dX4_othersThan_19 : decode cX4_othersThan 19 = .ok (.iinc 2 1, 3) := by decide +kernel
theorem dX4_othersThan_22 : decode cX4_othersThan 22 = .ok (.iinc 3 1, 3) := by decide +kernel
theorem dX4_othersThan_25 : decode cX4_othersThan 25 = .ok (.goto (-21), 3) := by decide +kernel
theorem dX4_othersThan_28 : decode cX4_othersThan 28 = .ok (.iload_n 2, 1) := by decide +kernel
theorem dX4_othersThan_29 : decode cX4_othersThan 29 = .ok (.ireturn, 1) := by decide +kernel
theorem dX4_hasSame_0 : decode cX4_hasSame 0 = .ok (.aload_n 0, 1) := by decide +kernel
theorem dX4_hasSame_1 : decode cX4_hasSame 1 = .ok (.iload_n 1, 1) := by decide +kernel
theorem dX4_hasSame_2 : decode cX4_hasSame 2 = .ok (.invokevirtual 30, 3) := by decide +kernel
theorem dX4_hasSame_5 : decode cX4_hasSame 5 = .ok (.istore_n 3, 1) := by decide +kernel
theorem dX4_hasSame_6 : decode cX4_hasSame 6 = .ok (.iload_n 3, 1) := by decide +kernel
theorem dX4_hasSame_7 : decode cX4_hasSame 7 = .ok (.aload_n 2, 1) := by decide +kernel
theorem dX4_hasSame_8 : decode cX4_hasSame 8 = .ok (.iload_n 1, 1) := by decide +kernel
theorem dX4_hasSame_9 : decode cX4_hasSame 9 = .ok (.invokevirtual 30, 3) := by decide +kernel
theorem dX4_hasSame_12 : decode cX4_hasSame 12 = .ok (.if_icmp .eq 5, 3) := by decide +kernel
theorem dX4_hasSame_15 : decode cX4_hasSame 15 = .ok (.iconst 0, 1) := by decide +kernel
theorem dX4_hasSame_16 : decode cX4_hasSame 16 = .ok (.ireturn, 1) := by decide +kernel
theorem dX4_hasSame_17 : decode cX4_hasSame 17 = .ok (.iconst 0, 1) := by decide +kernel
theorem dX4_hasSame_18 : decode cX4_hasSame 18 = .ok (.istore 4, 2) := by decide +kernel
theorem dX4_hasSame_20 : decode cX4_hasSame 20 = .ok (.iload 4, 2) := by decide +kernel
theorem dX4_hasSame_22 : decode cX4_hasSame 22 = .ok (.iload_n 3, 1) := by decide +kernel
theorem dX4_hasSame_23 : decode cX4_hasSame 23 = .ok (.if_icmp .ge 28, 3) := by decide +kernel
theorem dX4_hasSame_26 : decode cX4_hasSame 26 = .ok (.aload_n 0, 1) := by decide +kernel
theorem dX4_hasSame_27 : decode cX4_hasSame 27 = .ok (.iload_n 1, 1) := by decide +kernel
theorem dX4_hasSame_28 : decode cX4_hasSame 28 = .ok (.iload 4, 2) := by decide +kernel
theorem dX4_hasSame_30 : decode cX4_hasSame 30 = .ok (.invokevirtual 44, 3) := by decide +kernel
theorem dX4_hasSame_33 : decode cX4_hasSame 33 = .ok (.aload_n 2, 1) := by decide +kernel
theorem dX4_hasSame_34 : decode cX4_hasSame 34 = .ok (.iload_n 1, 1) := by decide +kernel
theorem dX4_hasSame_35 : decode cX4_hasSame 35 = .ok (.iload 4, 2) := by decide +kernel
theorem dX4_hasSame_37 : decode cX4_hasSame 37 = .ok (.invokevirtual 44, 3) := by decide +kernel
theorem dX4_hasSame_40 : decode cX4_hasSame 40 = .ok (.if_icmp .eq 5, 3) := by decide +kernel
theorem dX4_hasSame_43 : decode cX4_hasSame 43 = .ok (.iconst 0, 1) := by decide +kernel
theorem dX4_hasSame_44 : decode cX4_hasSame 44 = .ok (.ireturn, 1) := by decide +kernel
theorem dX4_hasSame_45 : decode cX4_hasSame 45 = .ok (.iinc 4 1, 3) := by decide +kernel
theorem dX4_hasSame_48 : decode cX4_hasSame 48 = .ok (.goto (-28), 3) := by decide +kernel
theorem dX4_hasSame_51 : decode cX4_hasSame 51 = .ok (.iconst 1, 1) := by decide +kernel
theorem dX4_hasSame_52 : decode cX4_hasSame 52 = .ok (.ireturn, 1) := by decide +kernel
theorem dX5_init_0 : decode cX5_init 0 = .ok (.aload_n 0, 1) := by decide +kernel
theorem dX5_init_1 : decode cX5_init 1 = .ok (.invokespecial 1, 3) := by decide +kernel
theorem dX5_init_4 : decode cX5_init 4 = .ok (.aload_n 0, 1) := by decide +kernel
theorem dX5_init_5 : decode cX5_init 5 = .ok (.new 7, 3) := by decide +kernel
theorem dX5_init_8 : decode cX5_init 8 = .ok (.dup, 1) := by decide +kernel
theorem dX5_init_9 : decode cX5_init 9 = .ok (.invokespecial 9, 3) := by decide +kernel
theorem dX5_init_12 : decode cX5_init 12 = .ok (.putfield 10, 3) := by decide +kernel
theorem dX5_init_15 : decode cX5_init 15 = .ok (.aload_n 0, 1) := by decide +kernel
theorem dX5_init_16 : decode cX5_init 16 = .ok (.new 16, 3) := by decide +kernel
theorem dX5_init_19 : decode cX5_init 19 = .ok (.dup, 1) := by decide +kernel
theorem dX5_init_20 : decode cX5_init 20 = .ok (.invokespecial 18, 3) := by decide +kernel
theorem dX5_init_23 : decode cX5_init 23 = .ok (.putfield 19, 3) := by decide +kernel
theorem dX5_init_26 : decode cX5_init 26 = .ok (.aload_n 0, 1) := by decide +kernel
theorem dX5_init_27 : decode cX5_init 27 = .ok (.bipush 8, 2) := by decide +kernel
theorem dX5_init_29 : decode cX5_init 29 = .ok (.newarray .int, 2) := by decide +kernel
theorem dX5_init_31 : decode cX5_init 31 = .ok (.putfield 23, 3) := by decide +kernel
theorem dX5_init_34 : decode cX5_init 34 = .ok (.aload_n 0, 1) := by decide +kernel
theorem dX5_init_35 : decode cX5_init 35 = .ok (.iconst 0, 1) := by decide +kernel
theorem dX5_init_36 : decode cX5_init 36 = .ok (.putfield 27, 3) := by decide +kernel
theorem dX5_init_39 : decode cX5_init 39 = .ok (.aload_n 0, 1) := by decide +kernel
theorem dX5_init_40 : decode cX5_init 40 = .ok (.new 31, 3) := by decide +kernel
theorem dX5_init_43 : decode cX5_init 43 = .ok (.dup, 1) := by decide +kernel
theorem dX5_init_44 : decode cX5_init 44 = .ok (.invokespecial 33, 3) := by decide +kernel
theorem dX5_init_47 : decode cX5_init 47 = .ok (.putfield 34, 3) := by decide +kernel
theorem dX5_init_50 : decode cX5_init 50 = .ok (.aload_n 0, 1) := by decide +kernel
theorem dX5_init_51 : decode cX5_init 51 = .ok (.new 38, 3) := by decide +kernel
theorem dX5_init_54 : decode cX5_init 54 = .ok (.dup, 1) := by decide +kernel
theorem dX5_init_55 : decode cX5_init 55 = .ok (.invokespecial 40, 3) := by decide +kernel
theorem dX5_init_58 : decode cX5_init 58 = .ok (.putfield 41, 3) := by decide +kernel
theorem dX5_init_61 : decode cX5_init 61 = .ok (.aload_n 0, 1) := by decide +kernel
theorem dX5_init_62 : decode cX5_init 62 = .ok (.lconst 0, 1) := by decide +kernel
theorem dX5_init_63 : decode cX5_init 63 = .ok (.putfield 45, 3) := by decide +kernel
theorem dX5_init_66 : decode cX5_init 66 = .ok (.aload_n 0, 1) := by decide +kernel
theorem dX5_init_67 : decode cX5_init 67 = .ok (.iconst 0, 1) := by decide +kernel
theorem dX5_init_68 : decode cX5_init 68 = .ok (.putfield 49, 3) := by decide +kernel
theorem dX5_init_71 : decode cX5_init 71 = .ok (.aload_n 0, 1) := by decide +kernel
theorem dX5_init_72 : decode cX5_init 72 = .ok (.iconst (-1), 1) := by decide +kernel
theorem dX5_init_73 : decode cX5_init 73 = .ok (.putfield 52, 3) := by decide +kernel
theorem dX5_init_76 : decode cX5_init 76 = .ok (.aload_n 0, 1) := by decide +kernel
theorem dX5_init_77 : decode cX5_init 77 = .ok (.iconst (-1), 1) := by decide +kernel
theorem dX5_init_78 : decode cX5_init 78 = .ok (.putfield 55, 3) := by decide +kernel
theorem dX5_init_81 : decode cX5_init 81 = .ok (.aload_n 0, 1) := by decide +kernel
theorem dX5_init_82 : decode cX5_init 82 = .ok (.lconst 0, 1) := by decide +kernel
theorem dX5_init_83 : decode cX5_init 83 = .ok (.putfield 58, 3) := by decide +kernel
theorem dX5_init_86 : decode cX5_init 86 = .ok (.aload_n 0, 1) := by decide +kernel
theorem dX5_init_87 : decode cX5_init 87 = .ok (.iconst 0, 1) := by decide +kernel
theorem dX5_init_88 : decode cX5_init 88 = .ok (.putfield 61, 3) := by decide +kernel
theorem dX5_init_91 : decode cX5_init 91 = .ok (.aload_n 0, 1) := by decide +kernel
theorem dX5_init_92 : decode cX5_init 92 = .ok (.getfield 23, 3) := by decide +kernel
theorem dX5_init_95 : decode cX5_init 95 = .ok (.bipush (-2), 2) := by decide +kernel
theorem dX5_init_97 : decode cX5_init 97 = .ok (.invokestatic 65, 3) := by decide +kernel
theorem dX5_init_100 : decode cX5_init 100 = .ok (.aload_n 0, 1) := by decide +kernel
theorem dX5_init_101 : decode cX5_init 101 = .ok (.getfield 23, 3) := by decide +kernel
theorem dX5_init_104 : decode cX5_init 104 = .ok (.iconst 0, 1) := by decide +kernel
theorem dX5_init_105 : decode cX5_init 105 = .ok (.iconst (-1), 1) := by decide +kernel
theorem dX5_init_106 : decode cX5_init 106 = .ok (.iastore, 1) := by decide +kernel
theorem dX5_init_107 : decode cX5_init 107 = .ok (.return_, 1) := by decide +kernel
theorem dX5_create_0 : decode cX5_create 0 = .ok (.iload_n 1, 1) := by decide +kernel
theorem dX5_create_1 : decode cX5_create 1 = .ok (.invokestatic 71, 3) := by decide +kernel
theorem dX5_create_4 : decode cX5_create 4 = .ok (.aload_n 0, 1) := by decide +kernel
theorem dX5_create_5 : decode cX5_create 5 = .ok (.invokevirtual 75, 3) := by decide +kernel
theorem dX5_create_8 : decode cX5_create 8 = .ok (.aload_n 0, 1) := by decide +kernel
theorem dX5_create_9 : decode cX5_create 9 = .ok (.getfield 10, 3) := by decide +kernel
theorem dX5_create_12 : decode cX5_create 12 = .ok (.iload_n 1, 1) := by decide +kernel
theorem dX5_create_13 : decode cX5_create 13 = .ok (.invokevirtual 78, 3) := by decide +kernel
theorem dX5_create_16 : decode cX5_create 16 = .ok (.ifCond .eq 13, 3) := by decide +kernel
theorem dX5_create_19 : decode cX5_create 19 = .ok (.new 82, 3) := by decide +kernel
theorem dX5_create_22 : decode cX5_create 22 = .ok (.dup, 1) := by decide +kernel
theorem dX5_create_23 : decode cX5_create 23 = .ok (.ldc 84, 2) := by decide +kernel
theorem dX5_create_25 : decode cX5_create 25 = .ok (.invokespecial 86, 3) := by decide +kernel
theorem dX5_create_28 : decode cX5_create 28 = .ok (.athrow, 1) := by decide +kernel
theorem dX5_create_29 : decode cX5_create 29 = .ok (.aload_n 0, 1) := by decide +kernel
theorem dX5_create_30 : decode cX5_create 30 = .ok (.getfield 10, 3) := by decide +kernel
theorem dX5_create_33 : decode cX5_create 33 = .ok (.iload_n 1, 1) := by decide +kernel
theorem dX5_create_34 : decode cX5_create 34 = .ok (.invokevirtual 89, 3) := by decide +kernel
theorem dX5_create_37 : decode cX5_create 37 = .ok (.aload_n 0, 1) := by decide +kernel
theorem dX5_create_38 : decode cX5_create 38 = .ok (.getfield 10, 3) := by decide +kernel
theorem dX5_create_41 : decode cX5_create 41 = .ok (.invokevirtual 92, 3) := by decide +kernel
theorem dX5_create_44 : decode cX5_create 44 = .ok (.ireturn, 1) := by decide +kernel
theorem dX5_delete_0 : decode cX5_delete 0 = .ok (.iload_n 1, 1) := by decide +kernel
theorem dX5_delete_1 : decode cX5_delete 1 = .ok (.invokestatic 71, 3) := by decide +kernel
theorem dX5_delete_4 : decode cX5_delete 4 = .ok (.aload_n 0, 1) := by decide +kernel
theorem dX5_delete_5 : decode cX5_delete 5 = .ok (.invokevirtual 75, 3) := by decide +kernel
theorem dX5_delete_8 : decode cX5_delete 8 = .ok (.aload_n 0, 1) := by decide +kernel
theorem dX5_delete_9 : decode cX5_delete 9 = .ok (.getfield 10, 3) := by decide +kernel
theorem dX5_delete_12 : decode cX5_delete 12 = .ok (.iload_n 1, 1) := by decide +kernel
theorem dX5_delete_13 : decode cX5_delete 13 = .ok (.invokevirtual 96, 3) := by decide +kernel
theorem dX5_delete_16 : decode cX5_delete 16 = .ok (.istore_n 2, 1) := by decide +kernel
theorem dX5_delete_17 : decode cX5_delete 17 = .ok (.iload_n 2, 1) := by decide +kernel
theorem dX5_delete_18 : decode cX5_delete 18 = .ok (.ifCond .ge 13, 3) := by decide +kernel
theorem dX5_delete_21 : decode cX5_delete 21 = .ok (.new 82, 3) := by decide +kernel
theorem dX5_delete_24 : decode cX5_delete 24 = .ok (.dup, 1) := by decide +kernel
theorem dX5_delete_25 : decode cX5_delete 25 = .ok (.ldc 100, 2) := by decide +kernel
theorem dX5_delete_27 : decode cX5_delete 27 = .ok (.invokespecial 86, 3) := by decide +kernel
theorem dX5_delete_30 : decode cX5_delete 30 = .ok (.athrow, 1) := by decide +kernel
theorem dX5_delete_31 : decode cX5_delete 31 = .ok (.aload_n 0, 1) := by decide +kernel
theorem dX5_delete_32 : decode cX5_delete 32 = .ok (.getfield 10, 3) := by decide +kernel
theorem dX5_delete_35 : decode cX5_delete 35 = .ok (.iload_n 1, 1) := by decide +kernel
theorem dX5_delete_36 : decode cX5_delete 36 = .ok (.invokevirtual 102, 3) := by decide +kernel
theorem dX5_delete_39 : decode cX5_delete 39 = .ok (.iload_n 2, 1) := by decide +kernel
theorem dX5_delete_40 : decode cX5_delete 40 = .ok (.ireturn, 1) := by decide +kernel
theorem dX5_insert_0 : decode cX5_insert 0 = .ok (.iload_n 1, 1) := by decide +kernel
theorem dX5_insert_1 : decode cX5_insert 1 = .ok (.invokestatic 71, 3) := by decide +kernel
theorem dX5_insert_4 : decode cX5_insert 4 = .ok (.iload_n 3, 1) := by decide +kernel
theorem dX5_insert_5 : decode cX5_insert 5 = .ok (.invokestatic 105, 3) := by decide +kernel
theorem dX5_insert_8 : decode cX5_insert 8 = .ok (.aload_n 0, 1) := by decide +kernel
theorem dX5_insert_9 : decode cX5_insert 9 = .ok (.invokevirtual 75, 3) := by decide +kernel
theorem dX5_insert_12 : decode cX5_insert 12 = .ok (.aload_n 0, 1) := by decide +kernel
theorem dX5_insert_13 : decode cX5_insert 13 = .ok (.getfield 10, 3) := by decide +kernel
theorem dX5_insert_16 : decode cX5_insert 16 = .ok (.iload_n 1, 1) := by decide +kernel
theorem dX5_insert_17 : decode cX5_insert 17 = .ok (.invokevirtual 96, 3) := by decide +kernel
theorem dX5_insert_20 : decode cX5_insert 20 = .ok (.istore 4, 2) := by decide +kernel
theorem dX5_insert_22 : decode cX5_insert 22 = .ok (.iload 4, 2) := by decide +kernel
theorem dX5_insert_24 : decode cX5_insert 24 = .ok (.ifCond .lt 20, 3) := by decide +kernel
theorem dX5_insert_27 : decode cX5_insert 27 = .ok (.iload 4, 2) := by decide +kernel
theorem dX5_insert_29 : decode cX5_insert 29 = .ok (.bipush 40, 2) := by decide +kernel
theorem dX5_insert_31 : decode cX5_insert 31 = .ok (.if_icmp .ge 13, 3) := by decide +kernel
theorem dX5_insert_34 : decode cX5_insert 34 = .ok (.iload_n 2, 1) := by decide +kernel
theorem dX5_insert_35 : decode cX5_insert 35 = .ok (.ifCond .lt 9, 3) := by decide +kernel
theorem dX5_insert_38 : decode cX5_insert 38 = .ok (.iload_n 2, 1) := by decide +kernel
theorem dX5_insert_39 : decode cX5_insert 39 = .ok (.iload 4, 2) := by decide +kernel
theorem dX5_insert_41 : decode cX5_insert 41 = .ok (.if_icmp .le 13, 3) := by decide +kernel
theorem dX5_insert_44 : decode cX5_insert 44 = .ok (.new 82, 3) := by decide +kernel
theorem dX5_insert_47 : decode cX5_insert 47 = .ok (.dup, 1) := by decide +kernel
theorem dX5_insert_48 : decode cX5_insert 48 = .ok (.ldc 108, 2) := by decide +kernel
theorem dX5_insert_50 : decode cX5_insert 50 = .ok (.invokespecial 86, 3) := by decide +kernel
theorem dX5_insert_53 : decode cX5_insert 53 = .ok (.athrow, 1) := by decide +kernel
theorem dX5_insert_54 : decode cX5_insert 54 = .ok (.aload_n 0, 1) := by decide +kernel
theorem dX5_insert_55 : decode cX5_insert 55 = .ok (.getfield 10, 3) := by decide +kernel
theorem dX5_insert_58 : decode cX5_insert 58 = .ok (.iload_n 1, 1) := by decide +kernel
theorem dX5_insert_59 : decode cX5_insert 59 = .ok (.iload_n 2, 1) := by decide +kernel
theorem dX5_insert_60 : decode cX5_insert 60 = .ok (.iload_n 3, 1) := by decide +kernel
theorem dX5_insert_61 : decode cX5_insert 61 = .ok (.invokevirtual 110, 3) := by decide +kernel
theorem dX5_insert_64 : decode cX5_insert 64 = .ok (.iload 4, 2) := by decide +kernel
theorem dX5_insert_66 : decode cX5_insert 66 = .ok (.iconst 1, 1) := by decide +kernel
theorem dX5_insert_67 : decode cX5_insert 67 = .ok (.iadd, 1) := by decide +kernel
theorem dX5_insert_68 : decode cX5_insert 68 = .ok (.ireturn, 1) := by decide +kernel
theorem dX5_erase_0 : decode cX5_erase 0 = .ok (.iload_n 1, 1) := by decide +kernel
theorem dX5_erase_1 : decode cX5_erase 1 = .ok (.invokestatic 71, 3) := by decide +kernel
theorem dX5_erase_4 : decode cX5_erase 4 = .ok (.aload_n 0, 1) := by decide +kernel
theorem dX5_erase_5 : decode cX5_erase 5 = .ok (.invokevirtual 75, 3) := by decide +kernel
theorem dX5_erase_8 : decode cX5_erase 8 = .ok (.aload_n 0, 1) := by decide +kernel
theorem dX5_erase_9 : decode cX5_erase 9 = .ok (.iload_n 1, 1) := by decide +kernel
theorem dX5_erase_10 : decode cX5_erase 10 = .ok (.iload_n 2, 1) := by decide +kernel
theorem dX5_erase_11 : decode cX5_erase 11 = .ok (.invokevirtual 114, 3) := by decide +kernel
theorem dX5_erase_14 : decode cX5_erase 14 = .ok (.aload_n 0, 1) := by decide +kernel
theorem dX5_erase_15 : decode cX5_erase 15 = .ok (.getfield 10, 3) := by decide +kernel
theorem dX5_erase_18 : decode cX5_erase 18 = .ok (.iload_n 1, 1) := by decide +kernel
theorem dX5_erase_19 : decode cX5_erase 19 = .ok (.iload_n 2, 1) := by decide +kernel
theorem dX5_erase_20 : decode cX5_erase 20 = .ok (.invokevirtual 118, 3) := by decide +kernel
theorem dX5_erase_23 : decode cX5_erase 23 = .ok (.istore_n 3, 1) := by decide +kernel
theorem dX5_erase_24 : decode cX5_erase 24 = .ok (.aload_n 0, 1) := by decide +kernel
theorem dX5_erase_25 : decode cX5_erase 25 = .ok (.getfield 10, 3) := by decide +kernel
theorem dX5_erase_28 : decode cX5_erase 28 = .ok (.iload_n 1, 1) := by decide +kernel
theorem dX5_erase_29 : decode cX5_erase 29 = .ok (.iload_n 2, 1) := by decide +kernel
theorem dX5_erase_30 : decode cX5_erase 30 = .ok (.invokevirtual 122, 3) := by decide +kernel
theorem dX5_erase_33 : decode cX5_erase 33 = .ok (.iload_n 3, 1) := by decide +kernel
theorem dX5_erase_34 : decode cX5_erase 34 = .ok (.ireturn, 1) := by decide +kernel
theorem dX5_replace_0 : decode cX5_replace 0 = .ok (.iload_n 1, 1) := by decide +kernel
theorem dX5_replace_1 : decode cX5_replace 1 = .ok (.invokestatic 71, 3) := by decide +kernel
theorem dX5_replace_4 : decode cX5_replace 4 = .ok (.iload_n 3, 1) := by decide +kernel
theorem dX5_replace_5 : decode cX5_replace 5 = .ok (.invokestatic 105, 3) := by decide +kernel
theorem dX5_replace_8 : decode cX5_replace 8 = .ok (.aload_n 0, 1) := by decide +kernel
theorem dX5_replace_9 : decode cX5_replace 9 = .ok (.invokevirtual 75, 3) := by decide +kernel
theorem dX5_replace_12 : decode cX5_replace 12 = .ok (.aload_n 0, 1) := by decide +kernel
theorem dX5_replace_13 : decode cX5_replace 13 = .ok (.iload_n 1, 1) := by decide +kernel
theorem dX5_replace_14 : decode cX5_replace 14 = .ok (.iload_n 2, 1) := by decide +kernel
theorem dX5_replace_15 : decode cX5_replace 15 = .ok (.invokevirtual 114, 3) := by decide +kernel
theorem dX5_replace_18 : decode cX5_replace 18 = .ok (.aload_n 0, 1) := by decide +kernel
theorem dX5_replace_19 : decode cX5_replace 19 = .ok (.getfield 10, 3) := by decide +kernel
theorem dX5_replace_22 : decode cX5_replace 22 = .ok (.iload_n 1, 1) := by decide +kernel
theorem dX5_replace_23 : decode cX5_replace 23 = .ok (.iload_n 2, 1) := by decide +kernel
theorem dX5_replace_24 : decode cX5_replace 24 = .ok (.invokevirtual 118, 3) := by decide +kernel
theorem dX5_replace_27 : decode cX5_replace 27 = .ok (.istore 4, 2) := by decide +kernel
theorem dX5_replace_29 : decode cX5_replace 29 = .ok (.aload_n 0, 1) := by decide +kernel
theorem dX5_replace_30 : decode cX5_replace 30 = .ok (.getfield 10, 3) := by decide +kernel
theorem dX5_replace_33 : decode cX5_replace 33 = .ok (.iload_n 1, 1) := by decide +kernel
theorem dX5_replace_34 : decode cX5_replace 34 = .ok (.iload_n 2, 1) := by decide +kernel
theorem dX5_replace_35 : decode cX5_replace 35 = .ok (.iload_n 3, 1) := by decide +kernel
theorem dX5_replace_36 : decode cX5_replace 36 = .ok (.invokevirtual 125, 3) := by decide +kernel
theorem dX5_replace_39 : decode cX5_replace 39 = .ok (.iload 4, 2) := by decide +kernel
theorem dX5_replace_41 : decode cX5_replace 41 = .ok (.ireturn, 1) := by decide +kernel
theorem dX5_discard_0 : decode cX5_discard 0 = .ok (.aload_n 0, 1) := by decide +kernel
theorem dX5_discard_1 : decode cX5_discard 1 = .ok (.invokevirtual 75, 3) := by decide +kernel
theorem dX5_discard_4 : decode cX5_discard 4 = .ok (.aload_n 0, 1) := by decide +kernel
theorem dX5_discard_5 : decode cX5_discard 5 = .ok (.aload_n 0, 1) := by decide +kernel
theorem dX5_discard_6 : decode cX5_discard 6 = .ok (.invokevirtual 128, 3) := by decide +kernel
theorem dX5_discard_9 : decode cX5_discard 9 = .ok (.invokevirtual 131, 3) := by decide +kernel
theorem dX5_discard_12 : decode cX5_discard 12 = .ok (.astore_n 1, 1) := by decide +kernel
theorem dX5_discard_13 : decode cX5_discard 13 = .ok (.aload_n 0, 1) := by decide +kernel
theorem dX5_discard_14 : decode cX5_discard 14 = .ok (.getfield 10, 3) := by decide +kernel
theorem dX5_discard_17 : decode cX5_discard 17 = .ok (.aload_n 1, 1) := by decide +kernel
theorem dX5_discard_18 : decode cX5_discard 18 = .ok (.invokevirtual 135, 3) := by decide +kernel
theorem dX5_discard_21 : decode cX5_discard 21 = .ok (.istore_n 2, 1) := by decide +kernel
theorem dX5_discard_22 : decode cX5_discard 22 = .ok (.aload_n 0, 1) := by decide +kernel
theorem dX5_discard_23 : decode cX5_discard 23 = .ok (.getfield 10, 3) := by decide +kernel
theorem dX5_discard_26 : decode cX5_discard 26 = .ok (.aload_n 1, 1) := by decide +kernel
theorem dX5_discard_27 : decode cX5_discard 27 = .ok (.invokevirtual 139, 3) := by decide +kernel
theorem dX5_discard_30 : decode cX5_discard 30 = .ok (.iload_n 2, 1) := by decide +kernel
theorem dX5_discard_31 : decode cX5_discard 31 = .ok (.ireturn, 1) := by decide +kernel
theorem dX5_commit_0 : decode cX5_commit 0 = .ok (.iload_n 1, 1) := by decide +kernel
theorem dX5_commit_1 : decode cX5_commit 1 = .ok (.invokestatic 105, 3) := by decide +kernel
theorem dX5_commit_4 : decode cX5_commit 4 = .ok (.aload_n 0, 1) := by decide +kernel
theorem dX5_commit_5 : decode cX5_commit 5 = .ok (.invokevirtual 75, 3) := by decide +kernel
theorem dX5_commit_8 : decode cX5_commit 8 = .ok (.aload_n 0, 1) := by decide +kernel
theorem dX5_commit_9 : decode cX5_commit 9 = .ok (.iconst 1, 1) := by decide +kernel
theorem dX5_commit_10 : decode cX5_commit 10 = .ok (.invokevirtual 143, 3) := by decide +kernel
theorem dX5_commit_13 : decode cX5_commit 13 = .ok (.aload_n 0, 1) := by decide +kernel
theorem dX5_commit_14 : decode cX5_commit 14 = .ok (.invokevirtual 146, 3) := by decide +kernel
theorem dX5_commit_17 : decode cX5_commit 17 = .ok (.ifCond .eq 13, 3) := by decide +kernel
theorem dX5_commit_20 : decode cX5_commit 20 = .ok (.new 82, 3) := by decide +kernel
theorem dX5_commit_23 : decode cX5_commit 23 = .ok (.dup, 1) := by decide +kernel
theorem dX5_commit_24 : decode cX5_commit 24 = .ok (.ldc 150, 2) := by decide +kernel
theorem dX5_commit_26 : decode cX5_commit 26 = .ok (.invokespecial 86, 3) := by decide +kernel
theorem dX5_commit_29 : decode cX5_commit 29 = .ok (.athrow, 1) := by decide +kernel
theorem dX5_commit_30 : decode cX5_commit 30 = .ok (.aload_n 0, 1) := by decide +kernel
theorem dX5_commit_31 : decode cX5_commit 31 = .ok (.getfield 19, 3) := by decide +kernel
theorem dX5_commit_34 : decode cX5_commit 34 = .ok (.aload_n 0, 1) := by decide +kernel
theorem dX5_commit_35 : decode cX5_commit 35 = .ok (.getfield 10, 3) := by decide +kernel
theorem dX5_commit_38 : decode cX5_commit 38 = .ok (.iload_n 1, 1) := by decide +kernel
theorem dX5_commit_39 : decode cX5_commit 39 = .ok (.aload_n 0, 1) := by decide +kernel
theorem dX5_commit_40 : decode cX5_commit 40 = .ok (.invokevirtual 128, 3) := by decide +kernel
theorem dX5_commit_43 : decode cX5_commit 43 = .ok (.iconst (-1), 1) := by decide +kernel
theorem dX5_commit_44 : decode cX5_commit 44 = .ok (.invokevirtual 152, 3) := by decide +kernel
theorem dX5_commit_47 : decode cX5_commit 47 = .ok (.istore_n 2, 1) := by decide +kernel
theorem dX5_commit_48 : decode cX5_commit 48 = .ok (.aload_n 0, 1) := by decide +kernel
theorem dX5_commit_49 : decode cX5_commit 49 = .ok (.aload_n 0, 1) := by decide +kernel
theorem dX5_commit_50 : decode cX5_commit 50 = .ok (.getfield 27, 3) := by decide +kernel
theorem dX5_commit_53 : decode cX5_commit 53 = .ok (.iload_n 2, 1) := by decide +kernel
theorem dX5_commit_54 : decode cX5_commit 54 = .ok (.invokevirtual 156, 3) := by decide +kernel
theorem dX5_commit_57 : decode cX5_commit 57 = .ok (.iload_n 2, 1) := by decide +kernel
theorem dX5_commit_58 : decode cX5_commit 58 = .ok (.ireturn, 1) := by decide +kernel
theorem dX5_branch_0 : decode cX5_branch 0 = .ok (.iload_n 1, 1) := by decide +kernel
theorem dX5_branch_1 : decode cX5_branch 1 = .ok (.ifCond .lt 9, 3) := by decide +kernel
theorem dX5_branch_4 : decode cX5_branch 4 = .ok (.iload_n 1, 1) := by decide +kernel
theorem dX5_branch_5 : decode cX5_branch 5 = .ok (.bipush 8, 2) := by decide +kernel
theorem dX5_branch_7 : decode cX5_branch 7 = .ok (.if_icmp .lt 13, 3) := by decide +kernel
theorem dX5_branch_10 : decode cX5_branch 10 = .ok (.new 159, 3) := by decide +kernel
theorem dX5_branch_13 : decode cX5_branch 13 = .ok (.dup, 1) := by decide +kernel
theorem dX5_branch_14 : decode cX5_branch 14 = .ok (.ldc 161, 2) := by decide +kernel
theorem dX5_branch_16 : decode cX5_branch 16 = .ok (.invokespecial 163, 3) := by decide +kernel
theorem dX5_branch_19 : decode cX5_branch 19 = .ok (.athrow, 1) := by decide +kernel
theorem dX5_branch_20 : decode cX5_branch 20 = .ok (.aload_n 0, 1) := by decide +kernel
theorem dX5_branch_21 : decode cX5_branch 21 = .ok (.invokevirtual 75, 3) := by decide +kernel
theorem dX5_branch_24 : decode cX5_branch 24 = .ok (.aload_n 0, 1) := by decide +kernel
theorem dX5_branch_25 : decode cX5_branch 25 = .ok (.iload_n 1, 1) := by decide +kernel
theorem dX5_branch_26 : decode cX5_branch 26 = .ok (.invokevirtual 164, 3) := by decide +kernel
theorem dX5_branch_29 : decode cX5_branch 29 = .ok (.bipush (-2), 2) := by decide +kernel
theorem dX5_branch_31 : decode cX5_branch 31 = .ok (.if_icmp .ne 11, 3) := by decide +kernel
theorem dX5_branch_34 : decode cX5_branch 34 = .ok (.aload_n 0, 1) := by decide +kernel
theorem dX5_branch_35 : decode cX5_branch 35 = .ok (.invokevirtual 128, 3) := by decide +kernel
theorem dX5_branch_38 : decode cX5_branch 38 = .ok (.iconst (-1), 1) := by decide +kernel
theorem dX5_branch_39 : decode cX5_branch 39 = .ok (.if_icmp .ne 13, 3) := by decide +kernel
theorem dX5_branch_42 : decode cX5_branch 42 = .ok (.new 82, 3) := by decide +kernel
theorem dX5_branch_45 : decode cX5_branch 45 = .ok (.dup, 1) := by decide +kernel
theorem dX5_branch_46 : decode cX5_branch 46 = .ok (.ldc 167, 2) := by decide +kernel
theorem dX5_branch_48 : decode cX5_branch 48 = .ok (.invokespecial 86, 3) := by decide +kernel
theorem dX5_branch_51 : decode cX5_branch 51 = .ok (.athrow, 1) := by decide +kernel
theorem dX5_branch_52 : decode cX5_branch 52 = .ok (.aload_n 0, 1) := by decide +kernel
theorem dX5_branch_53 : decode cX5_branch 53 = .ok (.iload_n 1, 1) := by decide +kernel
theorem dX5_branch_54 : decode cX5_branch 54 = .ok (.aload_n 0, 1) := by decide +kernel
theorem dX5_branch_55 : decode cX5_branch 55 = .ok (.invokevirtual 128, 3) := by decide +kernel
theorem dX5_branch_58 : decode cX5_branch 58 = .ok (.invokevirtual 156, 3) := by decide +kernel
theorem dX5_branch_61 : decode cX5_branch 61 = .ok (.aload_n 0, 1) := by decide +kernel
theorem dX5_branch_62 : decode cX5_branch 62 = .ok (.invokevirtual 169, 3) := by decide +kernel
theorem dX5_branch_65 : decode cX5_branch 65 = .ok (.ireturn, 1) := by decide +kernel
theorem dX5_go_0 : decode cX5_go 0 = .ok (.aload_n 0, 1) := by decide +kernel
theorem dX5_go_1 : decode cX5_go 1 = .ok (.iload_n 1, 1) := by decide +kernel
theorem dX5_go_2 : decode cX5_go 2 = .ok (.invokevirtual 172, 3) := by decide +kernel
theorem dX5_go_5 : decode cX5_go 5 = .ok (.aload_n 0, 1) := by decide +kernel
theorem dX5_go_6 : decode cX5_go 6 = .ok (.invokevirtual 75, 3) := by decide +kernel
theorem dX5_go_9 : decode cX5_go 9 = .ok (.aload_n 0, 1) := by decide +kernel
theorem dX5_go_10 : decode cX5_go 10 = .ok (.invokevirtual 146, 3) := by decide +kernel
theorem dX5_go_13 : decode cX5_go 13 = .ok (.ifCond .ne 13, 3) := by decide +kernel
theorem dX5_go_16 : decode cX5_go 16 = .ok (.new 82, 3) := by decide +kernel
theorem dX5_go_19 : decode cX5_go 19 = .ok (.dup, 1) := by decide +kernel
theorem dX5_go_20 : decode cX5_go 20 = .ok (.ldc 175, 2) := by decide +kernel
theorem dX5_go_22 : decode cX5_go 22 = .ok (.invokespecial 86, 3) := by decide +kernel
theorem dX5_go_25 : decode cX5_go 25 = .ok (.athrow, 1) := by decide +kernel
theorem dX5_go_26 : decode cX5_go 26 = .ok (.aload_n 0, 1) := by decide +kernel
theorem dX5_go_27 : decode cX5_go 27 = .ok (.getfield 27, 3) := by decide +kernel
theorem dX5_go_30 : decode cX5_go 30 = .ok (.istore_n 2, 1) := by decide +kernel
theorem dX5_go_31 : decode cX5_go 31 = .ok (.aload_n 0, 1) := by decide +kernel
theorem dX5_go_32 : decode cX5_go 32 = .ok (.iload_n 1, 1) := by decide +kernel
theorem dX5_go_33 : decode cX5_go 33 = .ok (.putfield 27, 3) := by decide +kernel
theorem dX5_go_36 : decode cX5_go 36 = .ok (.aload_n 0, 1) := by decide +kernel
theorem dX5_go_37 : decode cX5_go 37 = .ok (.getfield 10, 3) := by decide +kernel
theorem dX5_go_40 : decode cX5_go 40 = .ok (.aload_n 0, 1) := by decide +kernel
theorem dX5_go_41 : decode cX5_go 41 = .ok (.aload_n 0, 1) := by decide +kernel
theorem dX5_go_42 : decode cX5_go 42 = .ok (.invokevirtual 128, 3) := by decide +kernel
theorem dX5_go_45 : decode cX5_go 45 = .ok (.invokevirtual 131, 3) := by decide +kernel
theorem dX5_go_48 : decode cX5_go 48 = .ok (.invokevirtual 139, 3) := by decide +kernel
theorem dX5_go_51 : decode cX5_go 51 = .ok (.iload_n 2, 1) := by decide +kernel
theorem dX5_go_52 : decode cX5_go 52 = .ok (.ireturn, 1) := by decide +kernel
theorem dX5_drop_0 : decode cX5_drop 0 = .ok (.aload_n 0, 1) := by decide +kernel
theorem dX5_drop_1 : decode cX5_drop 1 = .ok (.iload_n 1, 1) := by decide +kernel
theorem dX5_drop_2 : decode cX5_drop 2 = .ok (.invokevirtual 172, 3) := by decide +kernel
theorem dX5_drop_5 : decode cX5_drop 5 = .ok (.aload_n 0, 1) := by decide +kernel
theorem dX5_drop_6 : decode cX5_drop 6 = .ok (.invokevirtual 75, 3) := by decide +kernel
theorem dX5_drop_9 : decode cX5_drop 9 = .ok (.iload_n 1, 1) := by decide +kernel
theorem dX5_drop_10 : decode cX5_drop 10 = .ok (.aload_n 0, 1) := by decide +kernel
theorem dX5_drop_11 : decode cX5_drop 11 = .ok (.getfield 27, 3) := by decide +kernel
theorem dX5_drop_14 : decode cX5_drop 14 = .ok (.if_icmp .ne 13, 3) := by decide +kernel
theorem dX5_drop_17 : decode cX5_drop 17 = .ok (.new 82, 3) := by decide +kernel
theorem dX5_drop_20 : decode cX5_drop 20 = .ok (.dup, 1) := by decide +kernel
theorem dX5_drop_21 : decode cX5_drop 21 = .ok (.ldc 177, 2) := by decide +kernel
theorem dX5_drop_23 : decode cX5_drop 23 = .ok (.invokespecial 86, 3) := by decide +kernel
theorem dX5_drop_26 : decode cX5_drop 26 = .ok (.athrow, 1) := by decide +kernel
theorem dX5_drop_27 : decode cX5_drop 27 = .ok (.aload_n 0, 1) := by decide +kernel
theorem dX5_drop_28 : decode cX5_drop 28 = .ok (.invokevirtual 179, 3) := by decide +kernel
theorem dX5_drop_31 : decode cX5_drop 31 = .ok (.lstore_n 2, 1) := by decide +kernel
theorem dX5_drop_32 : decode cX5_drop 32 = .ok (.aload_n 0, 1) := by decide +kernel
theorem dX5_drop_33 : decode cX5_drop 33 = .ok (.iload_n 1, 1) := by decide +kernel
theorem dX5_drop_34 : decode cX5_drop 34 = .ok (.bipush (-2), 2) := by decide +kernel
theorem dX5_drop_36 : decode cX5_drop 36 = .ok (.invokevirtual 156, 3) := by decide +kernel
theorem dX5_drop_39 : decode cX5_drop 39 = .ok (.lload_n 2, 1) := by decide +kernel
theorem dX5_drop_40 : decode cX5_drop 40 = .ok (.aload_n 0, 1) := by decide +kernel
theorem dX5_drop_41 : decode cX5_drop 41 = .ok (.invokevirtual 179, 3) := by decide +kernel
theorem dX5_drop_44 : decode cX5_drop 44 = .ok (.ldc2_w 183, 3) := by decide +kernel
theorem dX5_drop_47 : decode cX5_drop 47 = .ok (.lxor, 1) := by decide +kernel
theorem dX5_drop_48 : decode cX5_drop 48 = .ok (.land, 1) := by decide +kernel
theorem dX5_drop_49 : decode cX5_drop 49 = .ok (.invokestatic 185, 3) := by decide +kernel
theorem dX5_drop_52 : decode cX5_drop 52 = .ok (.ireturn, 1) := by decide +kernel
theorem dX5_reset_0 : decode cX5_reset 0 = .ok (.aload_n 0, 1) := by decide +kernel
theorem dX5_reset_1 : decode cX5_reset 1 = .ok (.iload_n 1, 1) := by decide +kernel
theorem dX5_reset_2 : decode cX5_reset 2 = .ok (.invokevirtual 191, 3) := by decide +kernel
theorem dX5_reset_5 : decode cX5_reset 5 = .ok (.aload_n 0, 1) := by decide +kernel
theorem dX5_reset_6 : decode cX5_reset 6 = .ok (.invokevirtual 75, 3) := by decide +kernel
theorem dX5_reset_9 : decode cX5_reset 9 = .ok (.aload_n 0, 1) := by decide +kernel
theorem dX5_reset_10 : decode cX5_reset 10 = .ok (.invokevirtual 128, 3) := by decide +kernel
theorem dX5_reset_13 : decode cX5_reset 13 = .ok (.istore_n 2, 1) := by decide +kernel
theorem dX5_reset_14 : decode cX5_reset 14 = .ok (.aload_n 0, 1) := by decide +kernel
theorem dX5_reset_15 : decode cX5_reset 15 = .ok (.iload_n 1, 1) := by decide +kernel
theorem dX5_reset_16 : decode cX5_reset 16 = .ok (.invokevirtual 194, 3) := by decide +kernel
theorem dX5_reset_19 : decode cX5_reset 19 = .ok (.iload_n 2, 1) := by decide +kernel
theorem dX5_reset_20 : decode cX5_reset 20 = .ok (.ireturn, 1) := by decide +kernel
theorem dX5_sweep_0 : decode cX5_sweep 0 = .ok (.aload_n 0, 1) := by decide +kernel
theorem dX5_sweep_1 : decode cX5_sweep 1 = .ok (.invokevirtual 75, 3) := by decide +kernel
theorem dX5_sweep_4 : decode cX5_sweep 4 = .ok (.aload_n 0, 1) := by decide +kernel
theorem dX5_sweep_5 : decode cX5_sweep 5 = .ok (.lconst 0, 1) := by decide +kernel
theorem dX5_sweep_6 : decode cX5_sweep 6 = .ok (.putfield 45, 3) := by decide +kernel
theorem dX5_sweep_9 : decode cX5_sweep 9 = .ok (.aload_n 0, 1) := by decide +kernel
theorem dX5_sweep_10 : decode cX5_sweep 10 = .ok (.getfield 19, 3) := by decide +kernel
theorem dX5_sweep_13 : decode cX5_sweep 13 = .ok (.aload_n 0, 1) := by decide +kernel
theorem dX5_sweep_14 : decode cX5_sweep 14 = .ok (.invokevirtual 179, 3) := by decide +kernel
theorem dX5_sweep_17 : decode cX5_sweep 17 = .ok (.invokevirtual 197, 3) := by decide +kernel
theorem dX5_sweep_20 : decode cX5_sweep 20 = .ok (.ireturn, 1) := by decide +kernel
theorem dX5_merge_0 : decode cX5_merge 0 = .ok (.aload_n 0, 1) := by decide +kernel
theorem dX5_merge_1 : decode cX5_merge 1 = .ok (.iload_n 1, 1) := by decide +kernel
theorem dX5_merge_2 : decode cX5_merge 2 = .ok (.invokevirtual 172, 3) := by decide +kernel
theorem dX5_merge_5 : decode cX5_merge 5 = .ok (.aload_n 0, 1) := by decide +kernel
theorem dX5_merge_6 : decode cX5_merge 6 = .ok (.iload_n 1, 1) := by decide +kernel
theorem dX5_merge_7 : decode cX5_merge 7 = .ok (.invokevirtual 200, 3) := by decide +kernel
theorem dX5_merge_10 : decode cX5_merge 10 = .ok (.aload_n 0, 1) := by decide +kernel
theorem dX5_merge_11 : decode cX5_merge 11 = .ok (.iconst 1, 1) := by decide +kernel
theorem dX5_merge_12 : decode cX5_merge 12 = .ok (.invokevirtual 143, 3) := by decide +kernel
theorem dX5_merge_15 : decode cX5_merge 15 = .ok (.aload_n 0, 1) := by decide +kernel
theorem dX5_merge_16 : decode cX5_merge 16 = .ok (.iload_n 1, 1) := by decide +kernel
theorem dX5_merge_17 : decode cX5_merge 17 = .ok (.invokevirtual 164, 3) := by decide +kernel
theorem dX5_merge_20 : decode cX5_merge 20 = .ok (.istore_n 2, 1) := by decide +kernel
theorem dX5_merge_21 : decode cX5_merge 21 = .ok (.aload_n 0, 1) := by decide +kernel
theorem dX5_merge_22 : decode cX5_merge 22 = .ok (.iload_n 2, 1) := by decide +kernel
theorem dX5_merge_23 : decode cX5_merge 23 = .ok (.invokevirtual 203, 3) := by decide +kernel
theorem dX5_merge_26 : decode cX5_merge 26 = .ok (.istore_n 3, 1) := by decide +kernel
theorem dX5_merge_27 : decode cX5_merge 27 = .ok (.iload_n 3, 1) := by decide +kernel
theorem dX5_merge_28 : decode cX5_merge 28 = .ok (.iconst 1, 1) := by decide +kernel
theorem dX5_merge_29 : decode cX5_merge 29 = .ok (.if_icmp .ne 11, 3) := by decide +kernel
theorem dX5_merge_32 : decode cX5_merge 32 = .ok (.aload_n 0, 1) := by decide +kernel
theorem dX5_merge_33 : decode cX5_merge 33 = .ok (.iload_n 2, 1) := by decide +kernel
theorem dX5_merge_34 : decode cX5_merge 34 = .ok (.invokevirtual 194, 3) := by decide +kernel
theorem dX5_merge_37 : decode cX5_merge 37 = .ok (.goto 27, 3) := by decide +kernel
theorem dX5_merge_40 : decode cX5_merge 40 = .ok (.iload_n 3, 1) := by decide +kernel
theorem dX5_merge_41 : decode cX5_merge 41 = .ok (.iconst 2, 1) := by decide +kernel
theorem dX5_merge_42 : decode cX5_merge 42 = .ok (.if_icmp .ne 11, 3) := by decide +kernel
theorem dX5_merge_45 : decode cX5_merge 45 = .ok (.aload_n 0, 1) := by decide +kernel
theorem dX5_merge_46 : decode cX5_merge 46 = .ok (.iload_n 2, 1) := by decide +kernel
theorem dX5_merge_47 : decode cX5_merge 47 = .ok (.invokevirtual 206, 3) := by decide +kernel
theorem dX5_merge_50 : decode cX5_merge 50 = .ok (.goto 14, 3) := by decide +kernel
theorem dX5_merge_53 : decode cX5_merge 53 = .ok (.iload_n 3, 1) := by decide +kernel
theorem dX5_merge_54 : decode cX5_merge 54 = .ok (.iconst 3, 1) := by decide +kernel
theorem dX5_merge_55 : decode cX5_merge 55 = .ok (.if_icmp .ne 9, 3) := by decide +kernel
theorem dX5_merge_58 : decode cX5_merge 58 = .ok (.aload_n 0, 1) := by decide +kernel
theorem dX5_merge_59 : decode cX5_merge 59 = .ok (.iconst 1, 1) := by decide +kernel
theorem dX5_merge_60 : decode cX5_merge 60 = .ok (.iload_n 2, 1) := by decide +kernel
theorem dX5_merge_61 : decode cX5_merge 61 = .ok (.invokevirtual 209, 3) := by decide +kernel
theorem dX5_merge_64 : decode cX5_merge 64 = .ok (.iload_n 3, 1) := by decide +kernel
theorem dX5_merge_65 : decode cX5_merge 65 = .ok (.ireturn, 1) := by decide +kernel
theorem dX5_carry_0 : decode cX5_carry 0 = .ok (.aload_n 0, 1) := by decide +kernel
theorem dX5_carry_1 : decode cX5_carry 1 = .ok (.iload_n 1, 1) := by decide +kernel
theorem dX5_carry_2 : decode cX5_carry 2 = .ok (.invokevirtual 191, 3) := by decide +kernel
theorem dX5_carry_5 : decode cX5_carry 5 = .ok (.aload_n 0, 1) := by decide +kernel
theorem dX5_carry_6 : decode cX5_carry 6 = .ok (.invokevirtual 212, 3) := by decide +kernel
theorem dX5_carry_9 : decode cX5_carry 9 = .ok (.aload_n 0, 1) := by decide +kernel
theorem dX5_carry_10 : decode cX5_carry 10 = .ok (.iconst 1, 1) := by decide +kernel
theorem dX5_carry_11 : decode cX5_carry 11 = .ok (.invokevirtual 143, 3) := by decide +kernel
theorem dX5_carry_14 : decode cX5_carry 14 = .ok (.aload_n 0, 1) := by decide +kernel
theorem dX5_carry_15 : decode cX5_carry 15 = .ok (.getfield 41, 3) := by decide +kernel
theorem dX5_carry_18 : decode cX5_carry 18 = .ok (.aload_n 0, 1) := by decide +kernel
theorem dX5_carry_19 : decode cX5_carry 19 = .ok (.iload_n 1, 1) := by decide +kernel
theorem dX5_carry_20 : decode cX5_carry 20 = .ok (.invokevirtual 215, 3) := by decide +kernel
theorem dX5_carry_23 : decode cX5_carry 23 = .ok (.aload_n 0, 1) := by decide +kernel
theorem dX5_carry_24 : decode cX5_carry 24 = .ok (.aload_n 0, 1) := by decide +kernel
theorem dX5_carry_25 : decode cX5_carry 25 = .ok (.invokevirtual 128, 3) := by decide +kernel
theorem dX5_carry_28 : decode cX5_carry 28 = .ok (.invokevirtual 131, 3) := by decide +kernel
theorem dX5_carry_31 : decode cX5_carry 31 = .ok (.aload_n 0, 1) := by decide +kernel
theorem dX5_carry_32 : decode cX5_carry 32 = .ok (.iload_n 1, 1) := by decide +kernel
theorem dX5_carry_33 : decode cX5_carry 33 = .ok (.invokevirtual 131, 3) := by decide +kernel
theorem dX5_carry_36 : decode cX5_carry 36 = .ok (.invokevirtual 218, 3) := by decide +kernel
theorem dX5_carry_39 : decode cX5_carry 39 = .ok (.aload_n 0, 1) := by decide +kernel
theorem dX5_carry_40 : decode cX5_carry 40 = .ok (.iconst 2, 1) := by decide +kernel
theorem dX5_carry_41 : decode cX5_carry 41 = .ok (.iload_n 1, 1) := by decide +kernel
theorem dX5_carry_42 : decode cX5_carry 42 = .ok (.invokevirtual 222, 3) := by decide +kernel
theorem dX5_carry_45 : decode cX5_carry 45 = .ok (.ireturn, 1) := by decide +kernel
theorem dX5_takeBack_0 : decode cX5_takeBack 0 = .ok (.aload_n 0, 1) := by decide +kernel
theorem dX5_takeBack_1 : decode cX5_takeBack 1 = .ok (.iload_n 1, 1) := by decide +kernel
theorem dX5_takeBack_2 : decode cX5_takeBack 2 = .ok (.invokevirtual 191, 3) := by decide +kernel
theorem dX5_takeBack_5 : decode cX5_takeBack 5 = .ok (.aload_n 0, 1) := by decide +kernel
theorem dX5_takeBack_6 : decode cX5_takeBack 6 = .ok (.invokevirtual 212, 3) := by decide +kernel
theorem dX5_takeBack_9 : decode cX5_takeBack 9 = .ok (.aload_n 0, 1) := by decide +kernel
theorem dX5_takeBack_10 : decode cX5_takeBack 10 = .ok (.iconst 1, 1) := by decide +kernel
theorem dX5_takeBack_11 : decode cX5_takeBack 11 = .ok (.invokevirtual 143, 3) := by decide +kernel
theorem dX5_takeBack_14 : decode cX5_takeBack 14 = .ok (.aload_n 0, 1) := by decide +kernel
theorem dX5_takeBack_15 : decode cX5_takeBack 15 = .ok (.getfield 41, 3) := by decide +kernel
theorem dX5_takeBack_18 : decode cX5_takeBack 18 = .ok (.aload_n 0, 1) := by decide +kernel
theorem dX5_takeBack_19 : decode cX5_takeBack 19 = .ok (.iload_n 1, 1) := by decide +kernel
theorem dX5_takeBack_20 : decode cX5_takeBack 20 = .ok (.invokevirtual 131, 3) := by decide +kernel
theorem dX5_takeBack_23 : decode cX5_takeBack 23 = .ok (.aload_n 0, 1) := by decide +kernel
theorem dX5_takeBack_24 : decode cX5_takeBack 24 = .ok (.aload_n 0, 1) := by decide +kernel
theorem dX5_takeBack_25 : decode cX5_takeBack 25 = .ok (.invokevirtual 128, 3) := by decide +kernel
theorem dX5_takeBack_28 : decode cX5_takeBack 28 = .ok (.invokevirtual 131, 3) := by decide +kernel
theorem dX5_takeBack_31 : decode cX5_takeBack 31 = .ok (.aload_n 0, 1) := by decide +kernel
theorem dX5_takeBack_32 : decode cX5_takeBack 32 = .ok (.iload_n 1, 1) := by decide +kernel
theorem dX5_takeBack_33 : decode cX5_takeBack 33 = .ok (.invokevirtual 215, 3) := by decide +kernel
theorem dX5_takeBack_36 : decode cX5_takeBack 36 = .ok (.invokevirtual 218, 3) := by decide +kernel
theorem dX5_takeBack_39 : decode cX5_takeBack 39 = .ok (.aload_n 0, 1) := by decide +kernel
theorem dX5_takeBack_40 : decode cX5_takeBack 40 = .ok (.iconst 3, 1) := by decide +kernel
theorem dX5_takeBack_41 : decode cX5_takeBack 41 = .ok (.iload_n 1, 1) := by decide +kernel
theorem dX5_takeBack_42 : decode cX5_takeBack 42 = .ok (.invokevirtual 222, 3) := by decide +kernel
theorem dX5_takeBack_45 : decode cX5_takeBack 45 = .ok (.ireturn, 1) := by decide +kernel
theorem dX5_replay_0 : decode cX5_replay 0 = .ok (.aload_n 0, 1) := by decide +kernel
theorem dX5_replay_1 : decode cX5_replay 1 = .ok (.iload_n 1, 1) := by decide +kernel
theorem dX5_replay_2 : decode cX5_replay 2 = .ok (.invokevirtual 172, 3) := by decide +kernel
theorem dX5_replay_5 : decode cX5_replay 5 = .ok (.aload_n 0, 1) := by decide +kernel
theorem dX5_replay_6 : decode cX5_replay 6 = .ok (.iload_n 1, 1) := by decide +kernel
theorem dX5_replay_7 : decode cX5_replay 7 = .ok (.invokevirtual 200, 3) := by decide +kernel
theorem dX5_replay_10 : decode cX5_replay 10 = .ok (.aload_n 0, 1) := by decide +kernel
theorem dX5_replay_11 : decode cX5_replay 11 = .ok (.getfield 19, 3) := by decide +kernel
theorem dX5_replay_14 : decode cX5_replay 14 = .ok (.aload_n 0, 1) := by decide +kernel
theorem dX5_replay_15 : decode cX5_replay 15 = .ok (.invokevirtual 128, 3) := by decide +kernel
theorem dX5_replay_18 : decode cX5_replay 18 = .ok (.invokevirtual 225, 3) := by decide +kernel
theorem dX5_replay_21 : decode cX5_replay 21 = .ok (.astore_n 2, 1) := by decide +kernel
theorem dX5_replay_22 : decode cX5_replay 22 = .ok (.aload_n 0, 1) := by decide +kernel
theorem dX5_replay_23 : decode cX5_replay 23 = .ok (.getfield 19, 3) := by decide +kernel
theorem dX5_replay_26 : decode cX5_replay 26 = .ok (.aload_n 0, 1) := by decide +kernel
theorem dX5_replay_27 : decode cX5_replay 27 = .ok (.iload_n 1, 1) := by decide +kernel
theorem dX5_replay_28 : decode cX5_replay 28 = .ok (.invokevirtual 164, 3) := by decide +kernel
theorem dX5_replay_31 : decode cX5_replay 31 = .ok (.invokevirtual 225, 3) := by decide +kernel
theorem dX5_replay_34 : decode cX5_replay 34 = .ok (.astore_n 3, 1) := by decide +kernel
theorem dX5_replay_35 : decode cX5_replay 35 = .ok (.aload_n 2, 1) := by decide +kernel
theorem dX5_replay_36 : decode cX5_replay 36 = .ok (.aload_n 0, 1) := by decide +kernel
theorem dX5_replay_37 : decode cX5_replay 37 = .ok (.iload_n 1, 1) := by decide +kernel
theorem dX5_replay_38 : decode cX5_replay 38 = .ok (.invokevirtual 164, 3) := by decide +kernel
theorem dX5_replay_41 : decode cX5_replay 41 = .ok (.invokevirtual 229, 3) := by decide +kernel
theorem dX5_replay_44 : decode cX5_replay 44 = .ok (.ifCond .eq 5, 3) := by decide +kernel
theorem dX5_replay_47 : decode cX5_replay 47 = .ok (.iconst 0, 1) := by decide +kernel
theorem dX5_replay_48 : decode cX5_replay 48 = .ok (.ireturn, 1) := by decide +kernel
theorem dX5_replay_49 : decode cX5_replay 49 = .ok (.aload_n 0, 1) := by decide +kernel
theorem dX5_replay_50 : decode cX5_replay 50 = .ok (.getfield 19, 3) := by decide +kernel
theorem dX5_replay_53 : decode cX5_replay 53 = .ok (.aload_n 2, 1) := by decide +kernel
theorem dX5_replay_54 : decode cX5_replay 54 = .ok (.getfield 234, 3) := by decide +kernel
theorem dX5_replay_57 : decode cX5_replay 57 = .ok (.aload_n 3, 1) := by decide +kernel
theorem dX5_replay_58 : decode cX5_replay 58 = .ok (.getfield 234, 3) := by decide +kernel
theorem dX5_replay_61 : decode cX5_replay 61 = .ok (.ldc2_w 183, 3) := by decide +kernel
theorem dX5_replay_64 : decode cX5_replay 64 = .ok (.lxor, 1) := by decide +kernel
theorem dX5_replay_65 : decode cX5_replay 65 = .ok (.land, 1) := by decide +kernel
theorem dX5_replay_66 : decode cX5_replay 66 = .ok (.invokevirtual 237, 3) := by decide +kernel
theorem dX5_replay_69 : decode cX5_replay 69 = .ok (.lstore 4, 2) := by decide +kernel
theorem dX5_replay_71 : decode cX5_replay 71 = .ok (.aload_n 0, 1) := by decide +kernel
theorem dX5_replay_72 : decode cX5_replay 72 = .ok (.lload 4, 2) := by decide +kernel
theorem dX5_replay_74 : decode cX5_replay 74 = .ok (.invokestatic 185, 3) := by decide +kernel
theorem dX5_replay_77 : decode cX5_replay 77 = .ok (.invokevirtual 143, 3) := by decide +kernel
theorem dX5_replay_80 : decode cX5_replay 80 = .ok (.aload_n 0, 1) := by decide +kernel
theorem dX5_replay_81 : decode cX5_replay 81 = .ok (.aload_n 0, 1) := by decide +kernel
theorem dX5_replay_82 : decode cX5_replay 82 = .ok (.invokevirtual 128, 3) := by decide +kernel
theorem dX5_replay_85 : decode cX5_replay 85 = .ok (.putfield 52, 3) := by decide +kernel
theorem dX5_replay_88 : decode cX5_replay 88 = .ok (.aload_n 0, 1) := by decide +kernel
theorem dX5_replay_89 : decode cX5_replay 89 = .ok (.lload 4, 2) := by decide +kernel
theorem dX5_replay_91 : decode cX5_replay 91 = .ok (.putfield 58, 3) := by decide +kernel
theorem dX5_replay_94 : decode cX5_replay 94 = .ok (.aload_n 0, 1) := by decide +kernel
theorem dX5_replay_95 : decode cX5_replay 95 = .ok (.iconst 0, 1) := by decide +kernel
theorem dX5_replay_96 : decode cX5_replay 96 = .ok (.putfield 61, 3) := by decide +kernel
theorem dX5_replay_99 : decode cX5_replay 99 = .ok (.aload_n 0, 1) := by decide +kernel
theorem dX5_replay_100 : decode cX5_replay 100 = .ok (.aload_n 0, 1) := by decide +kernel
theorem dX5_replay_101 : decode cX5_replay 101 = .ok (.iload_n 1, 1) := by decide +kernel
theorem dX5_replay_102 : decode cX5_replay 102 = .ok (.invokevirtual 164, 3) := by decide +kernel
theorem dX5_replay_105 : decode cX5_replay 105 = .ok (.invokevirtual 194, 3) := by decide +kernel
theorem dX5_replay_108 : decode cX5_replay 108 = .ok (.aload_n 0, 1) := by decide +kernel
theorem dX5_replay_109 : decode cX5_replay 109 = .ok (.invokevirtual 241, 3) := by decide +kernel
theorem dX5_replay_112 : decode cX5_replay 112 = .ok (.ireturn, 1) := by decide +kernel
theorem dX5_settle_0 : decode cX5_settle 0 = .ok (.aload_n 0, 1) := by decide +kernel
theorem dX5_settle_1 : decode cX5_settle 1 = .ok (.invokevirtual 244, 3) := by decide +kernel
theorem dX5_settle_4 : decode cX5_settle 4 = .ok (.aload_n 0, 1) := by decide +kernel
theorem dX5_settle_5 : decode cX5_settle 5 = .ok (.iload_n 1, 1) := by decide +kernel
theorem dX5_settle_6 : decode cX5_settle 6 = .ok (.invokevirtual 247, 3) := by decide +kernel
theorem dX5_settle_9 : decode cX5_settle 9 = .ok (.iload_n 2, 1) := by decide +kernel
theorem dX5_settle_10 : decode cX5_settle 10 = .ok (.ifCond .lt 8, 3) := by decide +kernel
theorem dX5_settle_13 : decode cX5_settle 13 = .ok (.iload_n 2, 1) := by decide +kernel
theorem dX5_settle_14 : decode cX5_settle 14 = .ok (.iconst 3, 1) := by decide +kernel
theorem dX5_settle_15 : decode cX5_settle 15 = .ok (.if_icmp .le 13, 3) := by decide +kernel
theorem dX5_settle_18 : decode cX5_settle 18 = .ok (.new 159, 3) := by decide +kernel
theorem dX5_settle_21 : decode cX5_settle 21 = .ok (.dup, 1) := by decide +kernel
theorem dX5_settle_22 : decode cX5_settle 22 = .ok (.ldc 250, 2) := by decide +kernel
theorem dX5_settle_24 : decode cX5_settle 24 = .ok (.invokespecial 163, 3) := by decide +kernel
theorem dX5_settle_27 : decode cX5_settle 27 = .ok (.athrow, 1) := by decide +kernel
theorem dX5_settle_28 : decode cX5_settle 28 = .ok (.aload_n 0, 1) := by decide +kernel
theorem dX5_settle_29 : decode cX5_settle 29 = .ok (.getfield 41, 3) := by decide +kernel
theorem dX5_settle_32 : decode cX5_settle 32 = .ok (.iload_n 1, 1) := by decide +kernel
theorem dX5_settle_33 : decode cX5_settle 33 = .ok (.iload_n 2, 1) := by decide +kernel
theorem dX5_settle_34 : decode cX5_settle 34 = .ok (.invokevirtual 252, 3) := by decide +kernel
theorem dX5_settle_37 : decode cX5_settle 37 = .ok (.aload_n 0, 1) := by decide +kernel
theorem dX5_settle_38 : decode cX5_settle 38 = .ok (.getfield 41, 3) := by decide +kernel
theorem dX5_settle_41 : decode cX5_settle 41 = .ok (.invokevirtual 255, 3) := by decide +kernel
theorem dX5_settle_44 : decode cX5_settle 44 = .ok (.ireturn, 1) := by decide +kernel
theorem dX5_goOn_0 : decode cX5_goOn 0 = .ok (.aload_n 0, 1) := by decide +kernel
theorem dX5_goOn_1 : decode cX5_goOn 1 = .ok (.invokevirtual 244, 3) := by decide +kernel
theorem dX5_goOn_4 : decode cX5_goOn 4 = .ok (.aload_n 0, 1) := by decide +kernel
theorem dX5_goOn_5 : decode cX5_goOn 5 = .ok (.getfield 41, 3) := by decide +kernel
theorem dX5_goOn_8 : decode cX5_goOn 8 = .ok (.invokevirtual 255, 3) := by decide +kernel
theorem dX5_goOn_11 : decode cX5_goOn 11 = .ok (.ifCond .le 14, 3) := by decide +kernel
theorem dX5_goOn_14 : decode cX5_goOn 14 = .ok (.new 82, 3) := by decide +kernel
theorem dX5_goOn_17 : decode cX5_goOn 17 = .ok (.dup, 1) := by decide +kernel
theorem dX5_goOn_18 : decode cX5_goOn 18 = .ok (.ldc_w 258, 3) := by decide +kernel
theorem dX5_goOn_21 : decode cX5_goOn 21 = .ok (.invokespecial 86, 3) := by decide +kernel
theorem dX5_goOn_24 : decode cX5_goOn 24 = .ok (.athrow, 1) := by decide +kernel
theorem dX5_goOn_25 : decode cX5_goOn 25 = .ok (.aload_n 0, 1) := by decide +kernel
theorem dX5_goOn_26 : decode cX5_goOn 26 = .ok (.getfield 49, 3) := by decide +kernel
theorem dX5_goOn_29 : decode cX5_goOn 29 = .ok (.istore_n 1, 1) := by decide +kernel
theorem dX5_goOn_30 : decode cX5_goOn 30 = .ok (.aload_n 0, 1) := by decide +kernel
theorem dX5_goOn_31 : decode cX5_goOn 31 = .ok (.iconst 0, 1) := by decide +kernel
theorem dX5_goOn_32 : decode cX5_goOn 32 = .ok (.putfield 49, 3) := by decide +kernel
theorem dX5_goOn_35 : decode cX5_goOn 35 = .ok (.aload_n 0, 1) := by decide +kernel
theorem dX5_goOn_36 : decode cX5_goOn 36 = .ok (.getfield 41, 3) := by decide +kernel
theorem dX5_goOn_39 : decode cX5_goOn 39 = .ok (.invokevirtual 260, 3) := by decide +kernel
theorem dX5_goOn_42 : decode cX5_goOn 42 = .ok (.iload_n 1, 1) := by decide +kernel
theorem dX5_goOn_43 : decode cX5_goOn 43 = .ok (.iconst 1, 1) := by decide +kernel
theorem dX5_goOn_44 : decode cX5_goOn 44 = .ok (.if_icmp .ne 13, 3) := by decide +kernel
theorem dX5_goOn_47 : decode cX5_goOn 47 = .ok (.aload_n 0, 1) := by decide +kernel
theorem dX5_goOn_48 : decode cX5_goOn 48 = .ok (.aload_n 0, 1) := by decide +kernel
theorem dX5_goOn_49 : decode cX5_goOn 49 = .ok (.getfield 55, 3) := by decide +kernel
theorem dX5_goOn_52 : decode cX5_goOn 52 = .ok (.invokevirtual 206, 3) := by decide +kernel
theorem dX5_goOn_55 : decode cX5_goOn 55 = .ok (.iconst 2, 1) := by decide +kernel
theorem dX5_goOn_56 : decode cX5_goOn 56 = .ok (.ireturn, 1) := by decide +kernel
theorem dX5_goOn_57 : decode cX5_goOn 57 = .ok (.aload_n 0, 1) := by decide +kernel
theorem dX5_goOn_58 : decode cX5_goOn 58 = .ok (.aload_n 0, 1) := by decide +kernel
theorem dX5_goOn_59 : decode cX5_goOn 59 = .ok (.getfield 55, 3) := by decide +kernel
theorem dX5_goOn_62 : decode cX5_goOn 62 = .ok (.invokevirtual 263, 3) := by decide +kernel
theorem dX5_goOn_65 : decode cX5_goOn 65 = .ok (.istore_n 2, 1) := by decide +kernel
theorem dX5_goOn_66 : decode cX5_goOn 66 = .ok (.iload_n 1, 1) := by decide +kernel
theorem dX5_goOn_67 : decode cX5_goOn 67 = .ok (.iconst 4, 1) := by decide +kernel
theorem dX5_goOn_68 : decode cX5_goOn 68 = .ok (.if_icmp .ne 28, 3) := by decide +kernel
theorem dX5_goOn_71 : decode cX5_goOn 71 = .ok (.aload_n 0, 1) := by decide +kernel
theorem dX5_goOn_72 : decode cX5_goOn 72 = .ok (.aload_n 0, 1) := by decide +kernel
theorem dX5_goOn_73 : decode cX5_goOn 73 = .ok (.getfield 61, 3) := by decide +kernel
theorem dX5_goOn_76 : decode cX5_goOn 76 = .ok (.ifCond .ne 7, 3) := by decide +kernel
theorem dX5_goOn_79 : decode cX5_goOn 79 = .ok (.iload_n 2, 1) := by decide +kernel
theorem dX5_goOn_80 : decode cX5_goOn 80 = .ok (.ifCond .eq 7, 3) := by decide +kernel
theorem dX5_goOn_83 : decode cX5_goOn 83 = .ok (.iconst 1, 1) := by decide +kernel
theorem dX5_goOn_84 : decode cX5_goOn 84 = .ok (.goto 4, 3) := by decide +kernel
theorem dX5_goOn_87 : decode cX5_goOn 87 = .ok (.iconst 0, 1) := by decide +kernel
theorem dX5_goOn_88 : decode cX5_goOn 88 = .ok (.putfield 61, 3) := by decide +kernel
theorem dX5_goOn_91 : decode cX5_goOn 91 = .ok (.aload_n 0, 1) := by decide +kernel
theorem dX5_goOn_92 : decode cX5_goOn 92 = .ok (.invokevirtual 241, 3) := by decide +kernel
theorem dX5_goOn_95 : decode cX5_goOn 95 = .ok (.ireturn, 1) := by decide +kernel
theorem dX5_goOn_96 : decode cX5_goOn 96 = .ok (.iload_n 2, 1) := by decide +kernel
theorem dX5_goOn_97 : decode cX5_goOn 97 = .ok (.ifCond .eq 7, 3) := by decide +kernel
theorem dX5_goOn_100 : decode cX5_goOn 100 = .ok (.iconst 2, 1) := by decide +kernel
theorem dX5_goOn_101 : decode cX5_goOn 101 = .ok (.goto 4, 3) := by decide +kernel
theorem dX5_goOn_104 : decode cX5_goOn 104 = .ok (.iconst 0, 1) := by decide +kernel
theorem dX5_goOn_105 : decode cX5_goOn 105 = .ok (.ireturn, 1) := by decide +kernel
theorem dX5_giveUp_0 : decode cX5_giveUp 0 = .ok (.aload_n 0, 1) := by decide +kernel
theorem dX5_giveUp_1 : decode cX5_giveUp 1 = .ok (.invokevirtual 244, 3) := by decide +kernel
theorem dX5_giveUp_4 : decode cX5_giveUp 4 = .ok (.aload_n 0, 1) := by decide +kernel
theorem dX5_giveUp_5 : decode cX5_giveUp 5 = .ok (.getfield 41, 3) := by decide +kernel
theorem dX5_giveUp_8 : decode cX5_giveUp 8 = .ok (.invokevirtual 255, 3) := by decide +kernel
theorem dX5_giveUp_11 : decode cX5_giveUp 11 = .ok (.istore_n 1, 1) := by decide +kernel
theorem dX5_giveUp_12 : decode cX5_giveUp 12 = .ok (.aload_n 0, 1) := by decide +kernel
theorem dX5_giveUp_13 : decode cX5_giveUp 13 = .ok (.iconst 0, 1) := by decide +kernel
theorem dX5_giveUp_14 : decode cX5_giveUp 14 = .ok (.putfield 49, 3) := by decide +kernel
theorem dX5_giveUp_17 : decode cX5_giveUp 17 = .ok (.aload_n 0, 1) := by decide +kernel
theorem dX5_giveUp_18 : decode cX5_giveUp 18 = .ok (.aload_n 0, 1) := by decide +kernel
theorem dX5_giveUp_19 : decode cX5_giveUp 19 = .ok (.getfield 52, 3) := by decide +kernel
theorem dX5_giveUp_22 : decode cX5_giveUp 22 = .ok (.invokevirtual 194, 3) := by decide +kernel
theorem dX5_giveUp_25 : decode cX5_giveUp 25 = .ok (.iload_n 1, 1) := by decide +kernel
theorem dX5_giveUp_26 : decode cX5_giveUp 26 = .ok (.ireturn, 1) := by decide +kernel
theorem dX5_pending_0 : decode cX5_pending 0 = .ok (.aload_n 0, 1) := by decide +kernel
theorem dX5_pending_1 : decode cX5_pending 1 = .ok (.getfield 49, 3) := by decide +kernel
theorem dX5_pending_4 : decode cX5_pending 4 = .ok (.ireturn, 1) := by decide +kernel
theorem dX5_conflicts_0 : decode cX5_conflicts 0 = .ok (.aload_n 0, 1) := by decide +kernel
theorem dX5_conflicts_1 : decode cX5_conflicts 1 = .ok (.getfield 49, 3) := by decide +kernel
theorem dX5_conflicts_4 : decode cX5_conflicts 4 = .ok (.ifCond .ne 7, 3) := by decide +kernel
theorem dX5_conflicts_7 : decode cX5_conflicts 7 = .ok (.iconst 0, 1) := by decide +kernel
theorem dX5_conflicts_8 : decode cX5_conflicts 8 = .ok (.goto 10, 3) := by decide +kernel
theorem dX5_conflicts_11 : decode cX5_conflicts 11 = .ok (.aload_n 0, 1) := by decide +kernel
theorem dX5_conflicts_12 : decode cX5_conflicts 12 = .ok (.getfield 41, 3) := by decide +kernel
theorem dX5_conflicts_15 : decode cX5_conflicts 15 = .ok (.invokevirtual 266, 3) := by decide +kernel
theorem dX5_conflicts_18 : decode cX5_conflicts 18 = .ok (.ireturn, 1) := by decide +kernel
theorem dX5_unsettled_0 : decode cX5_unsettled 0 = .ok (.aload_n 0, 1) := by decide +kernel
theorem dX5_unsettled_1 : decode cX5_unsettled 1 = .ok (.getfield 49, 3) := by decide +kernel
theorem dX5_unsettled_4 : decode cX5_unsettled 4 = .ok (.ifCond .ne 7, 3) := by decide +kernel
theorem dX5_unsettled_7 : decode cX5_unsettled 7 = .ok (.iconst 0, 1) := by decide +kernel
theorem dX5_unsettled_8 : decode cX5_unsettled 8 = .ok (.goto 10, 3) := by decide +kernel
theorem dX5_unsettled_11 : decode cX5_unsettled 11 = .ok (.aload_n 0, 1) := by decide +kernel
theorem dX5_unsettled_12 : decode cX5_unsettled 12 = .ok (.getfield 41, 3) := by decide +kernel
theorem dX5_unsettled_15 : decode cX5_unsettled 15 = .ok (.invokevirtual 255, 3) := by decide +kernel
theorem dX5_unsettled_18 : decode cX5_unsettled 18 = .ok (.ireturn, 1) := by decide +kernel
theorem dX5_left_0 : decode cX5_left 0 = .ok (.aload_n 0, 1) := by decide +kernel
theorem dX5_left_1 : decode cX5_left 1 = .ok (.getfield 49, 3) := by decide +kernel
theorem dX5_left_4 : decode cX5_left 4 = .ok (.iconst 4, 1) := by decide +kernel
theorem dX5_left_5 : decode cX5_left 5 = .ok (.if_icmp .ne 13, 3) := by decide +kernel
theorem dX5_left_8 : decode cX5_left 8 = .ok (.aload_n 0, 1) := by decide +kernel
theorem dX5_left_9 : decode cX5_left 9 = .ok (.getfield 58, 3) := by decide +kernel
theorem dX5_left_12 : decode cX5_left 12 = .ok (.invokestatic 185, 3) := by decide +kernel
theorem dX5_left_15 : decode cX5_left 15 = .ok (.goto 4, 3) := by decide +kernel
theorem dX5_left_18 : decode cX5_left 18 = .ok (.iconst 0, 1) := by decide +kernel
theorem dX5_left_19 : decode cX5_left 19 = .ok (.ireturn, 1) := by decide +kernel
theorem dX5_conflictFile_0 : decode cX5_conflictFile 0 = .ok (.aload_n 0, 1) := by decide +kernel
theorem dX5_conflictFile_1 : decode cX5_conflictFile 1 = .ok (.iload_n 1, 1) := by decide +kernel
theorem dX5_conflictFile_2 : decode cX5_conflictFile 2 = .ok (.invokevirtual 247, 3) := by decide +kernel
theorem dX5_conflictFile_5 : decode cX5_conflictFile 5 = .ok (.aload_n 0, 1) := by decide +kernel
theorem dX5_conflictFile_6 : decode cX5_conflictFile 6 = .ok (.getfield 41, 3) := by decide +kernel
theorem dX5_conflictFile_9 : decode cX5_conflictFile 9 = .ok (.aload_n 0, 1) := by decide +kernel
theorem dX5_conflictFile_10 : decode cX5_conflictFile 10 = .ok (.getfield 41, 3) := by decide +kernel
theorem dX5_conflictFile_13 : decode cX5_conflictFile 13 = .ok (.iload_n 1, 1) := by decide +kernel
theorem dX5_conflictFile_14 : decode cX5_conflictFile 14 = .ok (.invokevirtual 269, 3) := by decide +kernel
theorem dX5_conflictFile_17 : decode cX5_conflictFile 17 = .ok (.invokevirtual 272, 3) := by decide +kernel
theorem dX5_conflictFile_20 : decode cX5_conflictFile 20 = .ok (.ireturn, 1) := by decide +kernel
theorem dX5_pieceSize_0 : decode cX5_pieceSize 0 = .ok (.aload_n 0, 1) := by decide +kernel
theorem dX5_pieceSize_1 : decode cX5_pieceSize 1 = .ok (.iload_n 1, 1) := by decide +kernel
theorem dX5_pieceSize_2 : decode cX5_pieceSize 2 = .ok (.invokevirtual 247, 3) := by decide +kernel
theorem dX5_pieceSize_5 : decode cX5_pieceSize 5 = .ok (.iload_n 2, 1) := by decide +kernel
theorem dX5_pieceSize_6 : decode cX5_pieceSize 6 = .ok (.invokestatic 275, 3) := by decide +kernel
theorem dX5_pieceSize_9 : decode cX5_pieceSize 9 = .ok (.aload_n 0, 1) := by decide +kernel
theorem dX5_pieceSize_10 : decode cX5_pieceSize 10 = .ok (.getfield 41, 3) := by decide +kernel
theorem dX5_pieceSize_13 : decode cX5_pieceSize 13 = .ok (.aload_n 0, 1) := by decide +kernel
theorem dX5_pieceSize_14 : decode cX5_pieceSize 14 = .ok (.getfield 41, 3) := by decide +kernel
theorem dX5_pieceSize_17 : decode cX5_pieceSize 17 = .ok (.iload_n 1, 1) := by decide +kernel
theorem dX5_pieceSize_18 : decode cX5_pieceSize 18 = .ok (.invokevirtual 269, 3) := by decide +kernel
theorem dX5_pieceSize_21 : decode cX5_pieceSize 21 = .ok (.iload_n 2, 1) := by decide +kernel
theorem dX5_pieceSize_22 : decode cX5_pieceSize 22 = .ok (.invokevirtual 278, 3) := by decide +kernel
theorem dX5_pieceSize_25 : decode cX5_pieceSize 25 = .ok (.ireturn, 1) := by decide +kernel
theorem dX5_deskLines_0 : decode cX5_deskLines 0 = .ok (.iload_n 1, 1) := by decide +kernel
theorem dX5_deskLines_1 : decode cX5_deskLines 1 = .ok (.invokestatic 71, 3) := by decide +kernel
theorem dX5_deskLines_4 : decode cX5_deskLines 4 = .ok (.aload_n 0, 1) := by decide +kernel
theorem dX5_deskLines_5 : decode cX5_deskLines 5 = .ok (.getfield 10, 3) := by decide +kernel
theorem dX5_deskLines_8 : decode cX5_deskLines 8 = .ok (.iload_n 1, 1) := by decide +kernel
theorem dX5_deskLines_9 : decode cX5_deskLines 9 = .ok (.invokevirtual 96, 3) := by decide +kernel
theorem dX5_deskLines_12 : decode cX5_deskLines 12 = .ok (.ireturn, 1) := by decide +kernel
theorem dX5_isClean_0 : decode cX5_isClean 0 = .ok (.aload_n 0, 1) := by decide +kernel
theorem dX5_isClean_1 : decode cX5_isClean 1 = .ok (.getfield 10, 3) := by decide +kernel
theorem dX5_isClean_4 : decode cX5_isClean 4 = .ok (.aload_n 0, 1) := by decide +kernel
theorem dX5_isClean_5 : decode cX5_isClean 5 = .ok (.aload_n 0, 1) := by decide +kernel
theorem dX5_isClean_6 : decode cX5_isClean 6 = .ok (.invokevirtual 128, 3) := by decide +kernel
theorem dX5_isClean_9 : decode cX5_isClean 9 = .ok (.invokevirtual 131, 3) := by decide +kernel
theorem dX5_isClean_12 : decode cX5_isClean 12 = .ok (.invokevirtual 135, 3) := by decide +kernel
theorem dX5_isClean_15 : decode cX5_isClean 15 = .ok (.ifCond .ne 7, 3) := by decide +kernel
theorem dX5_isClean_18 : decode cX5_isClean 18 = .ok (.iconst 1, 1) := by decide +kernel
theorem dX5_isClean_19 : decode cX5_isClean 19 = .ok (.goto 4, 3) := by decide +kernel
theorem dX5_isClean_22 : decode cX5_isClean 22 = .ok (.iconst 0, 1) := by decide +kernel
theorem dX5_isClean_23 : decode cX5_isClean 23 = .ok (.ireturn, 1) := by decide +kernel
theorem dX5_commits_0 : decode cX5_commits 0 = .ok (.aload_n 0, 1) := by decide +kernel
theorem dX5_commits_1 : decode cX5_commits 1 = .ok (.getfield 19, 3) := by decide +kernel
theorem dX5_commits_4 : decode cX5_commits 4 = .ok (.getfield 286, 3) := by decide +kernel
theorem dX5_commits_7 : decode cX5_commits 7 = .ok (.ireturn, 1) := by decide +kernel
theorem dX5_isThere_0 : decode cX5_isThere 0 = .ok (.aload_n 0, 1) := by decide +kernel
theorem dX5_isThere_1 : decode cX5_isThere 1 = .ok (.getfield 19, 3) := by decide +kernel
theorem dX5_isThere_4 : decode cX5_isThere 4 = .ok (.iload_n 1, 1) := by decide +kernel
theorem dX5_isThere_5 : decode cX5_isThere 5 = .ok (.invokevirtual 289, 3) := by decide +kernel
theorem dX5_isThere_8 : decode cX5_isThere 8 = .ok (.ireturn, 1) := by decide +kernel
theorem dX5_isReached_0 : decode cX5_isReached 0 = .ok (.aload_n 0, 1) := by decide +kernel
theorem dX5_isReached_1 : decode cX5_isReached 1 = .ok (.iload_n 1, 1) := by decide +kernel
theorem dX5_isReached_2 : decode cX5_isReached 2 = .ok (.invokevirtual 191, 3) := by decide +kernel
theorem dX5_isReached_5 : decode cX5_isReached 5 = .ok (.aload_n 0, 1) := by decide +kernel
theorem dX5_isReached_6 : decode cX5_isReached 6 = .ok (.invokevirtual 179, 3) := by decide +kernel
theorem dX5_isReached_9 : decode cX5_isReached 9 = .ok (.lconst 1, 1) := by decide +kernel
theorem dX5_isReached_10 : decode cX5_isReached 10 = .ok (.iload_n 1, 1) := by decide +kernel
theorem dX5_isReached_11 : decode cX5_isReached 11 = .ok (.lshl, 1) := by decide +kernel
theorem dX5_isReached_12 : decode cX5_isReached 12 = .ok (.land, 1) := by decide +kernel
theorem dX5_isReached_13 : decode cX5_isReached 13 = .ok (.lconst 0, 1) := by decide +kernel
theorem dX5_isReached_14 : decode cX5_isReached 14 = .ok (.lcmp, 1) := by decide +kernel
theorem dX5_isReached_15 : decode cX5_isReached 15 = .ok (.ifCond .eq 7, 3) := by decide +kernel
theorem dX5_isReached_18 : decode cX5_isReached 18 = .ok (.iconst 1, 1) := by decide +kernel
theorem dX5_isReached_19 : decode cX5_isReached 19 = .ok (.goto 4, 3) := by decide +kernel
theorem dX5_isReached_22 : decode cX5_isReached 22 = .ok (.iconst 0, 1) := by decide +kernel
theorem dX5_isReached_23 : decode cX5_isReached 23 = .ok (.ireturn, 1) := by decide +kernel
theorem dX5_parent_0 : decode cX5_parent 0 = .ok (.aload_n 0, 1) := by decide +kernel
theorem dX5_parent_1 : decode cX5_parent 1 = .ok (.iload_n 1, 1) := by decide +kernel
theorem dX5_parent_2 : decode cX5_parent 2 = .ok (.invokevirtual 191, 3) := by decide +kernel
theorem dX5_parent_5 : decode cX5_parent 5 = .ok (.aload_n 0, 1) := by decide +kernel
theorem dX5_parent_6 : decode cX5_parent 6 = .ok (.getfield 19, 3) := by decide +kernel
theorem dX5_parent_9 : decode cX5_parent 9 = .ok (.iload_n 1, 1) := by decide +kernel
theorem dX5_parent_10 : decode cX5_parent 10 = .ok (.invokevirtual 225, 3) := by decide +kernel
theorem dX5_parent_13 : decode cX5_parent 13 = .ok (.astore_n 3, 1) := by decide +kernel
theorem dX5_parent_14 : decode cX5_parent 14 = .ok (.iload_n 2, 1) := by decide +kernel
theorem dX5_parent_15 : decode cX5_parent 15 = .ok (.ifCond .eq 10, 3) := by decide +kernel
theorem dX5_parent_18 : decode cX5_parent 18 = .ok (.aload_n 3, 1) := by decide +kernel
theorem dX5_parent_19 : decode cX5_parent 19 = .ok (.getfield 292, 3) := by decide +kernel
theorem dX5_parent_22 : decode cX5_parent 22 = .ok (.goto 7, 3) := by decide +kernel
theorem dX5_parent_25 : decode cX5_parent 25 = .ok (.aload_n 3, 1) := by decide +kernel
theorem dX5_parent_26 : decode cX5_parent 26 = .ok (.getfield 295, 3) := by decide +kernel
theorem dX5_parent_29 : decode cX5_parent 29 = .ok (.ireturn, 1) := by decide +kernel
theorem dX5_wordOf_0 : decode cX5_wordOf 0 = .ok (.aload_n 0, 1) := by decide +kernel
theorem dX5_wordOf_1 : decode cX5_wordOf 1 = .ok (.iload_n 1, 1) := by decide +kernel
theorem dX5_wordOf_2 : decode cX5_wordOf 2 = .ok (.invokevirtual 191, 3) := by decide +kernel
theorem dX5_wordOf_5 : decode cX5_wordOf 5 = .ok (.aload_n 0, 1) := by decide +kernel
theorem dX5_wordOf_6 : decode cX5_wordOf 6 = .ok (.getfield 19, 3) := by decide +kernel
theorem dX5_wordOf_9 : decode cX5_wordOf 9 = .ok (.iload_n 1, 1) := by decide +kernel
theorem dX5_wordOf_10 : decode cX5_wordOf 10 = .ok (.invokevirtual 225, 3) := by decide +kernel
theorem dX5_wordOf_13 : decode cX5_wordOf 13 = .ok (.getfield 298, 3) := by decide +kernel
theorem dX5_wordOf_16 : decode cX5_wordOf 16 = .ok (.ireturn, 1) := by decide +kernel
theorem dX5_lines_0 : decode cX5_lines 0 = .ok (.aload_n 0, 1) := by decide +kernel
theorem dX5_lines_1 : decode cX5_lines 1 = .ok (.iload_n 1, 1) := by decide +kernel
theorem dX5_lines_2 : decode cX5_lines 2 = .ok (.invokevirtual 191, 3) := by decide +kernel
theorem dX5_lines_5 : decode cX5_lines 5 = .ok (.iload_n 2, 1) := by decide +kernel
theorem dX5_lines_6 : decode cX5_lines 6 = .ok (.invokestatic 71, 3) := by decide +kernel
theorem dX5_lines_9 : decode cX5_lines 9 = .ok (.aload_n 0, 1) := by decide +kernel
theorem dX5_lines_10 : decode cX5_lines 10 = .ok (.iload_n 1, 1) := by decide +kernel
theorem dX5_lines_11 : decode cX5_lines 11 = .ok (.invokevirtual 131, 3) := by decide +kernel
theorem dX5_lines_14 : decode cX5_lines 14 = .ok (.iload_n 2, 1) := by decide +kernel
theorem dX5_lines_15 : decode cX5_lines 15 = .ok (.invokevirtual 96, 3) := by decide +kernel
theorem dX5_lines_18 : decode cX5_lines 18 = .ok (.ireturn, 1) := by decide +kernel
theorem dX5_head_0 : decode cX5_head 0 = .ok (.aload_n 0, 1) := by decide +kernel
theorem dX5_head_1 : decode cX5_head 1 = .ok (.getfield 27, 3) := by decide +kernel
theorem dX5_head_4 : decode cX5_head 4 = .ok (.ireturn, 1) := by decide +kernel
theorem dX5_commitOf_0 : decode cX5_commitOf 0 = .ok (.iload_n 1, 1) := by decide +kernel
theorem dX5_commitOf_1 : decode cX5_commitOf 1 = .ok (.ifCond .lt 9, 3) := by decide +kernel
theorem dX5_commitOf_4 : decode cX5_commitOf 4 = .ok (.iload_n 1, 1) := by decide +kernel
theorem dX5_commitOf_5 : decode cX5_commitOf 5 = .ok (.bipush 8, 2) := by decide +kernel
theorem dX5_commitOf_7 : decode cX5_commitOf 7 = .ok (.if_icmp .lt 8, 3) := by decide +kernel
theorem dX5_commitOf_10 : decode cX5_commitOf 10 = .ok (.bipush (-2), 2) := by decide +kernel
theorem dX5_commitOf_12 : decode cX5_commitOf 12 = .ok (.goto 9, 3) := by decide +kernel
theorem dX5_commitOf_15 : decode cX5_commitOf 15 = .ok (.aload_n 0, 1) := by decide +kernel
theorem dX5_commitOf_16 : decode cX5_commitOf 16 = .ok (.getfield 23, 3) := by decide +kernel
theorem dX5_commitOf_19 : decode cX5_commitOf 19 = .ok (.iload_n 1, 1) := by decide +kernel
theorem dX5_commitOf_20 : decode cX5_commitOf 20 = .ok (.iaload, 1) := by decide +kernel
theorem dX5_commitOf_21 : decode cX5_commitOf 21 = .ok (.ireturn, 1) := by decide +kernel
theorem dX5_isAncestor_0 : decode cX5_isAncestor 0 = .ok (.aload_n 0, 1) := by decide +kernel
theorem dX5_isAncestor_1 : decode cX5_isAncestor 1 = .ok (.iload_n 1, 1) := by decide +kernel
theorem dX5_isAncestor_2 : decode cX5_isAncestor 2 = .ok (.iload_n 2, 1) := by decide +kernel
theorem dX5_isAncestor_3 : decode cX5_isAncestor 3 = .ok (.invokevirtual 304, 3) := by decide +kernel
theorem dX5_isAncestor_6 : decode cX5_isAncestor 6 = .ok (.aload_n 0, 1) := by decide +kernel
theorem dX5_isAncestor_7 : decode cX5_isAncestor 7 = .ok (.getfield 19, 3) := by decide +kernel
theorem dX5_isAncestor_10 : decode cX5_isAncestor 10 = .ok (.iload_n 2, 1) := by decide +kernel
theorem dX5_isAncestor_11 : decode cX5_isAncestor 11 = .ok (.invokevirtual 225, 3) := by decide +kernel
theorem dX5_isAncestor_14 : decode cX5_isAncestor 14 = .ok (.iload_n 1, 1) := by decide +kernel
theorem dX5_isAncestor_15 : decode cX5_isAncestor 15 = .ok (.invokevirtual 229, 3) := by decide +kernel
theorem dX5_isAncestor_18 : decode cX5_isAncestor 18 = .ok (.ireturn, 1) := by decide +kernel
theorem dX5_base_0 : decode cX5_base 0 = .ok (.aload_n 0, 1) := by decide +kernel
theorem dX5_base_1 : decode cX5_base 1 = .ok (.iload_n 1, 1) := by decide +kernel
theorem dX5_base_2 : decode cX5_base 2 = .ok (.iload_n 2, 1) := by decide +kernel
theorem dX5_base_3 : decode cX5_base 3 = .ok (.invokevirtual 304, 3) := by decide +kernel
theorem dX5_base_6 : decode cX5_base 6 = .ok (.aload_n 0, 1) := by decide +kernel
theorem dX5_base_7 : decode cX5_base 7 = .ok (.getfield 19, 3) := by decide +kernel
theorem dX5_base_10 : decode cX5_base 10 = .ok (.iload_n 1, 1) := by decide +kernel
theorem dX5_base_11 : decode cX5_base 11 = .ok (.iload_n 2, 1) := by decide +kernel
theorem dX5_base_12 : decode cX5_base 12 = .ok (.invokevirtual 307, 3) := by decide +kernel
theorem dX5_base_15 : decode cX5_base 15 = .ok (.ireturn, 1) := by decide +kernel
theorem dX5_ahead_0 : decode cX5_ahead 0 = .ok (.aload_n 0, 1) := by decide +kernel
theorem dX5_ahead_1 : decode cX5_ahead 1 = .ok (.iload_n 1, 1) := by decide +kernel
theorem dX5_ahead_2 : decode cX5_ahead 2 = .ok (.iload_n 2, 1) := by decide +kernel
theorem dX5_ahead_3 : decode cX5_ahead 3 = .ok (.invokevirtual 304, 3) := by decide +kernel
theorem dX5_ahead_6 : decode cX5_ahead 6 = .ok (.aload_n 0, 1) := by decide +kernel
theorem dX5_ahead_7 : decode cX5_ahead 7 = .ok (.getfield 19, 3) := by decide +kernel
theorem dX5_ahead_10 : decode cX5_ahead 10 = .ok (.iload_n 1, 1) := by decide +kernel
theorem dX5_ahead_11 : decode cX5_ahead 11 = .ok (.invokevirtual 225, 3) := by decide +kernel
theorem dX5_ahead_14 : decode cX5_ahead 14 = .ok (.getfield 234, 3) := by decide +kernel
theorem dX5_ahead_17 : decode cX5_ahead 17 = .ok (.aload_n 0, 1) := by decide +kernel
theorem dX5_ahead_18 : decode cX5_ahead 18 = .ok (.getfield 19, 3) := by decide +kernel
theorem dX5_ahead_21 : decode cX5_ahead 21 = .ok (.iload_n 2, 1) := by decide +kernel
theorem dX5_ahead_22 : decode cX5_ahead 22 = .ok (.invokevirtual 225, 3) := by decide +kernel
theorem dX5_ahead_25 : decode cX5_ahead 25 = .ok (.getfield 234, 3) := by decide +kernel
theorem dX5_ahead_28 : decode cX5_ahead 28 = .ok (.ldc2_w 183, 3) := by decide +kernel
theorem dX5_ahead_31 : decode cX5_ahead 31 = .ok (.lxor, 1) := by decide +kernel
theorem dX5_ahead_32 : decode cX5_ahead 32 = .ok (.land, 1) := by decide +kernel
theorem dX5_ahead_33 : decode cX5_ahead 33 = .ok (.invokestatic 185, 3) := by decide +kernel
theorem dX5_ahead_36 : decode cX5_ahead 36 = .ok (.ireturn, 1) := by decide +kernel
theorem dX5_touched_0 : decode cX5_touched 0 = .ok (.aload_n 0, 1) := by decide +kernel
theorem dX5_touched_1 : decode cX5_touched 1 = .ok (.iload_n 1, 1) := by decide +kernel
theorem dX5_touched_2 : decode cX5_touched 2 = .ok (.iload_n 2, 1) := by decide +kernel
theorem dX5_touched_3 : decode cX5_touched 3 = .ok (.invokevirtual 304, 3) := by decide +kernel
theorem dX5_touched_6 : decode cX5_touched 6 = .ok (.aload_n 0, 1) := by decide +kernel
theorem dX5_touched_7 : decode cX5_touched 7 = .ok (.iload_n 1, 1) := by decide +kernel
theorem dX5_touched_8 : decode cX5_touched 8 = .ok (.invokevirtual 131, 3) := by decide +kernel
theorem dX5_touched_11 : decode cX5_touched 11 = .ok (.aload_n 0, 1) := by decide +kernel
theorem dX5_touched_12 : decode cX5_touched 12 = .ok (.iload_n 2, 1) := by decide +kernel
theorem dX5_touched_13 : decode cX5_touched 13 = .ok (.invokevirtual 131, 3) := by decide +kernel
theorem dX5_touched_16 : decode cX5_touched 16 = .ok (.invokevirtual 135, 3) := by decide +kernel
theorem dX5_touched_19 : decode cX5_touched 19 = .ok (.ireturn, 1) := by decide +kernel
theorem dX5_added_0 : decode cX5_added 0 = .ok (.aload_n 0, 1) := by decide +kernel
theorem dX5_added_1 : decode cX5_added 1 = .ok (.iload_n 1, 1) := by decide +kernel
theorem dX5_added_2 : decode cX5_added 2 = .ok (.iload_n 2, 1) := by decide +kernel
theorem dX5_added_3 : decode cX5_added 3 = .ok (.invokevirtual 304, 3) := by decide +kernel
theorem dX5_added_6 : decode cX5_added 6 = .ok (.iload_n 3, 1) := by decide +kernel
theorem dX5_added_7 : decode cX5_added 7 = .ok (.invokestatic 71, 3) := by decide +kernel
theorem dX5_added_10 : decode cX5_added 10 = .ok (.aload_n 0, 1) := by decide +kernel
theorem dX5_added_11 : decode cX5_added 11 = .ok (.getfield 34, 3) := by decide +kernel
theorem dX5_added_14 : decode cX5_added 14 = .ok (.aload_n 0, 1) := by decide +kernel
theorem dX5_added_15 : decode cX5_added 15 = .ok (.iload_n 1, 1) := by decide +kernel
theorem dX5_added_16 : decode cX5_added 16 = .ok (.invokevirtual 131, 3) := by decide +kernel
theorem dX5_added_19 : decode cX5_added 19 = .ok (.aload_n 0, 1) := by decide +kernel
theorem dX5_added_20 : decode cX5_added 20 = .ok (.iload_n 2, 1) := by decide +kernel
theorem dX5_added_21 : decode cX5_added 21 = .ok (.invokevirtual 131, 3) := by decide +kernel
theorem dX5_added_24 : decode cX5_added 24 = .ok (.iload_n 3, 1) := by decide +kernel
theorem dX5_added_25 : decode cX5_added 25 = .ok (.invokevirtual 310, 3) := by decide +kernel
theorem dX5_added_28 : decode cX5_added 28 = .ok (.aload_n 0, 1) := by decide +kernel
theorem dX5_added_29 : decode cX5_added 29 = .ok (.iload_n 2, 1) := by decide +kernel
theorem dX5_added_30 : decode cX5_added 30 = .ok (.invokevirtual 131, 3) := by decide +kernel
theorem dX5_added_33 : decode cX5_added 33 = .ok (.iload_n 3, 1) := by decide +kernel
theorem dX5_added_34 : decode cX5_added 34 = .ok (.invokevirtual 314, 3) := by decide +kernel
theorem dX5_added_37 : decode cX5_added 37 = .ok (.aload_n 0, 1) := by decide +kernel
theorem dX5_added_38 : decode cX5_added 38 = .ok (.getfield 34, 3) := by decide +kernel
theorem dX5_added_41 : decode cX5_added 41 = .ok (.getfield 317, 3) := by decide +kernel
theorem dX5_added_44 : decode cX5_added 44 = .ok (.isub, 1) := by decide +kernel
theorem dX5_added_45 : decode cX5_added 45 = .ok (.ireturn, 1) := by decide +kernel
theorem dX5_pairOf_0 : decode cX5_pairOf 0 = .ok (.aload_n 0, 1) := by decide +kernel
theorem dX5_pairOf_1 : decode cX5_pairOf 1 = .ok (.iload_n 1, 1) := by decide +kernel
theorem dX5_pairOf_2 : decode cX5_pairOf 2 = .ok (.iload_n 2, 1) := by decide +kernel
theorem dX5_pairOf_3 : decode cX5_pairOf 3 = .ok (.invokevirtual 304, 3) := by decide +kernel
theorem dX5_pairOf_6 : decode cX5_pairOf 6 = .ok (.aload_n 0, 1) := by decide +kernel
theorem dX5_pairOf_7 : decode cX5_pairOf 7 = .ok (.iload_n 1, 1) := by decide +kernel
theorem dX5_pairOf_8 : decode cX5_pairOf 8 = .ok (.iload_n 3, 1) := by decide +kernel
theorem dX5_pairOf_9 : decode cX5_pairOf 9 = .ok (.iload 4, 2) := by decide +kernel
theorem dX5_pairOf_11 : decode cX5_pairOf 11 = .ok (.invokevirtual 301, 3) := by decide +kernel
theorem dX5_pairOf_14 : decode cX5_pairOf 14 = .ok (.aload_n 0, 1) := by decide +kernel
theorem dX5_pairOf_15 : decode cX5_pairOf 15 = .ok (.getfield 34, 3) := by decide +kernel
theorem dX5_pairOf_18 : decode cX5_pairOf 18 = .ok (.aload_n 0, 1) := by decide +kernel
theorem dX5_pairOf_19 : decode cX5_pairOf 19 = .ok (.iload_n 1, 1) := by decide +kernel
theorem dX5_pairOf_20 : decode cX5_pairOf 20 = .ok (.invokevirtual 131, 3) := by decide +kernel
theorem dX5_pairOf_23 : decode cX5_pairOf 23 = .ok (.aload_n 0, 1) := by decide +kernel
theorem dX5_pairOf_24 : decode cX5_pairOf 24 = .ok (.iload_n 2, 1) := by decide +kernel
theorem dX5_pairOf_25 : decode cX5_pairOf 25 = .ok (.invokevirtual 131, 3) := by decide +kernel
theorem dX5_pairOf_28 : decode cX5_pairOf 28 = .ok (.iload_n 3, 1) := by decide +kernel
theorem dX5_pairOf_29 : decode cX5_pairOf 29 = .ok (.invokevirtual 310, 3) := by decide +kernel
theorem dX5_pairOf_32 : decode cX5_pairOf 32 = .ok (.aload_n 0, 1) := by decide +kernel
theorem dX5_pairOf_33 : decode cX5_pairOf 33 = .ok (.getfield 34, 3) := by decide +kernel
theorem dX5_pairOf_36 : decode cX5_pairOf 36 = .ok (.iload 4, 2) := by decide +kernel
theorem dX5_pairOf_38 : decode cX5_pairOf 38 = .ok (.invokevirtual 320, 3) := by decide +kernel
theorem dX5_pairOf_41 : decode cX5_pairOf 41 = .ok (.ireturn, 1) := by decide +kernel
theorem dX5_blame_0 : decode cX5_blame 0 = .ok (.aload_n 0, 1) := by decide +kernel
theorem dX5_blame_1 : decode cX5_blame 1 = .ok (.iload_n 1, 1) := by decide +kernel
theorem dX5_blame_2 : decode cX5_blame 2 = .ok (.iload_n 2, 1) := by decide +kernel
theorem dX5_blame_3 : decode cX5_blame 3 = .ok (.iload_n 3, 1) := by decide +kernel
theorem dX5_blame_4 : decode cX5_blame 4 = .ok (.invokevirtual 301, 3) := by decide +kernel
theorem dX5_blame_7 : decode cX5_blame 7 = .ok (.iload_n 1, 1) := by decide +kernel
theorem dX5_blame_8 : decode cX5_blame 8 = .ok (.istore 4, 2) := by decide +kernel
theorem dX5_blame_10 : decode cX5_blame 10 = .ok (.iload_n 3, 1) := by decide +kernel
theorem dX5_blame_11 : decode cX5_blame 11 = .ok (.istore 5, 2) := by decide +kernel
theorem dX5_blame_13 : decode cX5_blame 13 = .ok (.iconst 0, 1) := by decide +kernel
theorem dX5_blame_14 : decode cX5_blame 14 = .ok (.istore 6, 2) := by decide +kernel
theorem dX5_blame_16 : decode cX5_blame 16 = .ok (.iload 6, 2) := by decide +kernel
theorem dX5_blame_18 : decode cX5_blame 18 = .ok (.bipush 60, 2) := by decide +kernel
theorem dX5_blame_20 : decode cX5_blame 20 = .ok (.if_icmp .ge 83, 3) := by decide +kernel
theorem dX5_blame_23 : decode cX5_blame 23 = .ok (.aload_n 0, 1) := by decide +kernel
theorem dX5_blame_24 : decode cX5_blame 24 = .ok (.getfield 19, 3) := by decide +kernel
theorem dX5_blame_27 : decode cX5_blame 27 = .ok (.iload 4, 2) := by decide +kernel
theorem dX5_blame_29 : decode cX5_blame 29 = .ok (.invokevirtual 225, 3) := by decide +kernel
theorem dX5_blame_32 : decode cX5_blame 32 = .ok (.astore 7, 2) := by decide +kernel
theorem dX5_blame_34 : decode cX5_blame 34 = .ok (.aload 7, 2) := by decide +kernel
theorem dX5_blame_36 : decode cX5_blame 36 = .ok (.getfield 295, 3) := by decide +kernel
theorem dX5_blame_39 : decode cX5_blame 39 = .ok (.istore 8, 2) := by decide +kernel
theorem dX5_blame_41 : decode cX5_blame 41 = .ok (.aload_n 0, 1) := by decide +kernel
theorem dX5_blame_42 : decode cX5_blame 42 = .ok (.iload 8, 2) := by decide +kernel
theorem dX5_blame_44 : decode cX5_blame 44 = .ok (.aload 7, 2) := by decide +kernel
theorem dX5_blame_46 : decode cX5_blame 46 = .ok (.iload_n 2, 1) := by decide +kernel
theorem dX5_blame_47 : decode cX5_blame 47 = .ok (.iload 5, 2) := by decide +kernel
theorem dX5_blame_49 : decode cX5_blame 49 = .ok (.invokevirtual 323, 3) := by decide +kernel
theorem dX5_blame_52 : decode cX5_blame 52 = .ok (.istore 9, 2) := by decide +kernel
theorem dX5_blame_54 : decode cX5_blame 54 = .ok (.iload 9, 2) := by decide +kernel
theorem dX5_blame_56 : decode cX5_blame 56 = .ok (.iconst (-1), 1) := by decide +kernel
theorem dX5_blame_57 : decode cX5_blame 57 = .ok (.if_icmp .ne 23, 3) := by decide +kernel
theorem dX5_blame_60 : decode cX5_blame 60 = .ok (.aload 7, 2) := by decide +kernel
theorem dX5_blame_62 : decode cX5_blame 62 = .ok (.getfield 292, 3) := by decide +kernel
theorem dX5_blame_65 : decode cX5_blame 65 = .ok (.istore 8, 2) := by decide +kernel
theorem dX5_blame_67 : decode cX5_blame 67 = .ok (.aload_n 0, 1) := by decide +kernel
theorem dX5_blame_68 : decode cX5_blame 68 = .ok (.iload 8, 2) := by decide +kernel
theorem dX5_blame_70 : decode cX5_blame 70 = .ok (.aload 7, 2) := by decide +kernel
theorem dX5_blame_72 : decode cX5_blame 72 = .ok (.iload_n 2, 1) := by decide +kernel
theorem dX5_blame_73 : decode cX5_blame 73 = .ok (.iload 5, 2) := by decide +kernel
theorem dX5_blame_75 : decode cX5_blame 75 = .ok (.invokevirtual 323, 3) := by decide +kernel
theorem dX5_blame_78 : decode cX5_blame 78 = .ok (.istore 9, 2) := by decide +kernel
theorem dX5_blame_80 : decode cX5_blame 80 = .ok (.iload 9, 2) := by decide +kernel
theorem dX5_blame_82 : decode cX5_blame 82 = .ok (.iconst (-1), 1) := by decide +kernel
theorem dX5_blame_83 : decode cX5_blame 83 = .ok (.if_icmp .ne 6, 3) := by decide +kernel
theorem dX5_blame_86 : decode cX5_blame 86 = .ok (.iload 4, 2) := by decide +kernel
theorem dX5_blame_88 : decode cX5_blame 88 = .ok (.ireturn, 1) := by decide +kernel
theorem dX5_blame_89 : decode cX5_blame 89 = .ok (.iload 8, 2) := by decide +kernel
theorem dX5_blame_91 : decode cX5_blame 91 = .ok (.istore 4, 2) := by decide +kernel
theorem dX5_blame_93 : decode cX5_blame 93 = .ok (.iload 9, 2) := by decide +kernel
theorem dX5_blame_95 : decode cX5_blame 95 = .ok (.istore 5, 2) := by decide +kernel
theorem dX5_blame_97 : decode cX5_blame 97 = .ok (.iinc 6 1, 3) := by decide +kernel
theorem dX5_blame_100 : decode cX5_blame 100 = .ok (.goto (-84), 3) := by decide +kernel
theorem dX5_blame_103 : decode cX5_blame 103 = .ok (.iload 4, 2) := by decide +kernel
theorem dX5_blame_105 : decode cX5_blame 105 = .ok (.ireturn, 1) := by decide +kernel
theorem dX5_depthOf_0 : decode cX5_depthOf 0 = .ok (.aload_n 0, 1) := by decide +kernel
theorem dX5_depthOf_1 : decode cX5_depthOf 1 = .ok (.iload_n 1, 1) := by decide +kernel
theorem dX5_depthOf_2 : decode cX5_depthOf 2 = .ok (.invokevirtual 191, 3) := by decide +kernel
theorem dX5_depthOf_5 : decode cX5_depthOf 5 = .ok (.aload_n 0, 1) := by decide +kernel
theorem dX5_depthOf_6 : decode cX5_depthOf 6 = .ok (.getfield 19, 3) := by decide +kernel
theorem dX5_depthOf_9 : decode cX5_depthOf 9 = .ok (.iload_n 1, 1) := by decide +kernel
theorem dX5_depthOf_10 : decode cX5_depthOf 10 = .ok (.invokevirtual 225, 3) := by decide +kernel
theorem dX5_depthOf_13 : decode cX5_depthOf 13 = .ok (.getfield 327, 3) := by decide +kernel
theorem dX5_depthOf_16 : decode cX5_depthOf 16 = .ok (.ireturn, 1) := by decide +kernel
theorem dX5_seek_0 : decode cX5_seek 0 = .ok (.aload_n 0, 1) := by decide +kernel
theorem dX5_seek_1 : decode cX5_seek 1 = .ok (.iload_n 1, 1) := by decide +kernel
theorem dX5_seek_2 : decode cX5_seek 2 = .ok (.iload_n 2, 1) := by decide +kernel
theorem dX5_seek_3 : decode cX5_seek 3 = .ok (.invokevirtual 304, 3) := by decide +kernel
theorem dX5_seek_6 : decode cX5_seek 6 = .ok (.aload_n 0, 1) := by decide +kernel
theorem dX5_seek_7 : decode cX5_seek 7 = .ok (.getfield 19, 3) := by decide +kernel
theorem dX5_seek_10 : decode cX5_seek 10 = .ok (.iload_n 1, 1) := by decide +kernel
theorem dX5_seek_11 : decode cX5_seek 11 = .ok (.invokevirtual 225, 3) := by decide +kernel
theorem dX5_seek_14 : decode cX5_seek 14 = .ok (.astore_n 3, 1) := by decide +kernel
theorem dX5_seek_15 : decode cX5_seek 15 = .ok (.aload_n 3, 1) := by decide +kernel
theorem dX5_seek_16 : decode cX5_seek 16 = .ok (.iload_n 2, 1) := by decide +kernel
theorem dX5_seek_17 : decode cX5_seek 17 = .ok (.invokevirtual 229, 3) := by decide +kernel
theorem dX5_seek_20 : decode cX5_seek 20 = .ok (.ifCond .eq 14, 3) := by decide +kernel
theorem dX5_seek_23 : decode cX5_seek 23 = .ok (.new 159, 3) := by decide +kernel
theorem dX5_seek_26 : decode cX5_seek 26 = .ok (.dup, 1) := by decide +kernel
theorem dX5_seek_27 : decode cX5_seek 27 = .ok (.ldc_w 330, 3) := by decide +kernel
theorem dX5_seek_30 : decode cX5_seek 30 = .ok (.invokespecial 163, 3) := by decide +kernel
theorem dX5_seek_33 : decode cX5_seek 33 = .ok (.athrow, 1) := by decide +kernel
theorem dX5_seek_34 : decode cX5_seek 34 = .ok (.aload_n 0, 1) := by decide +kernel
theorem dX5_seek_35 : decode cX5_seek 35 = .ok (.aload_n 0, 1) := by decide +kernel
theorem dX5_seek_36 : decode cX5_seek 36 = .ok (.getfield 19, 3) := by decide +kernel
theorem dX5_seek_39 : decode cX5_seek 39 = .ok (.iload_n 2, 1) := by decide +kernel
theorem dX5_seek_40 : decode cX5_seek 40 = .ok (.invokevirtual 225, 3) := by decide +kernel
theorem dX5_seek_43 : decode cX5_seek 43 = .ok (.getfield 234, 3) := by decide +kernel
theorem dX5_seek_46 : decode cX5_seek 46 = .ok (.aload_n 3, 1) := by decide +kernel
theorem dX5_seek_47 : decode cX5_seek 47 = .ok (.getfield 234, 3) := by decide +kernel
theorem dX5_seek_50 : decode cX5_seek 50 = .ok (.ldc2_w 183, 3) := by decide +kernel
theorem dX5_seek_53 : decode cX5_seek 53 = .ok (.lxor, 1) := by decide +kernel
theorem dX5_seek_54 : decode cX5_seek 54 = .ok (.land, 1) := by decide +kernel
theorem dX5_seek_55 : decode cX5_seek 55 = .ok (.putfield 45, 3) := by decide +kernel
theorem dX5_seek_58 : decode cX5_seek 58 = .ok (.aload_n 0, 1) := by decide +kernel
theorem dX5_seek_59 : decode cX5_seek 59 = .ok (.getfield 45, 3) := by decide +kernel
theorem dX5_seek_62 : decode cX5_seek 62 = .ok (.invokestatic 185, 3) := by decide +kernel
theorem dX5_seek_65 : decode cX5_seek 65 = .ok (.ireturn, 1) := by decide +kernel
theorem dX5_probe_0 : decode cX5_probe 0 = .ok (.aload_n 0, 1) := by decide +kernel
theorem dX5_probe_1 : decode cX5_probe 1 = .ok (.getfield 45, 3) := by decide +kernel
theorem dX5_probe_4 : decode cX5_probe 4 = .ok (.invokestatic 185, 3) := by decide +kernel
theorem dX5_probe_7 : decode cX5_probe 7 = .ok (.istore_n 1, 1) := by decide +kernel
theorem dX5_probe_8 : decode cX5_probe 8 = .ok (.iload_n 1, 1) := by decide +kernel
theorem dX5_probe_9 : decode cX5_probe 9 = .ok (.iconst 2, 1) := by decide +kernel
theorem dX5_probe_10 : decode cX5_probe 10 = .ok (.if_icmp .ge 5, 3) := by decide +kernel
theorem dX5_probe_13 : decode cX5_probe 13 = .ok (.iconst (-1), 1) := by decide +kernel
theorem dX5_probe_14 : decode cX5_probe 14 = .ok (.ireturn, 1) := by decide +kernel
theorem dX5_probe_15 : decode cX5_probe 15 = .ok (.iconst (-1), 1) := by decide +kernel
theorem dX5_probe_16 : decode cX5_probe 16 = .ok (.istore_n 2, 1) := by decide +kernel
theorem dX5_probe_17 : decode cX5_probe 17 = .ok (.iconst 0, 1) := by decide +kernel
theorem dX5_probe_18 : decode cX5_probe 18 = .ok (.istore_n 3, 1) := by decide +kernel
theorem dX5_probe_19 : decode cX5_probe 19 = .ok (.iconst 0, 1) := by decide +kernel
theorem dX5_probe_20 : decode cX5_probe 20 = .ok (.istore 4, 2) := by decide +kernel
theorem dX5_probe_22 : decode cX5_probe 22 = .ok (.iload 4, 2) := by decide +kernel
theorem dX5_probe_24 : decode cX5_probe 24 = .ok (.bipush 60, 2) := by decide +kernel
theorem dX5_probe_26 : decode cX5_probe 26 = .ok (.if_icmp .ge 68, 3) := by decide +kernel
theorem dX5_probe_29 : decode cX5_probe 29 = .ok (.aload_n 0, 1) := by decide +kernel
theorem dX5_probe_30 : decode cX5_probe 30 = .ok (.getfield 45, 3) := by decide +kernel
theorem dX5_probe_33 : decode cX5_probe 33 = .ok (.lconst 1, 1) := by decide +kernel
theorem dX5_probe_34 : decode cX5_probe 34 = .ok (.iload 4, 2) := by decide +kernel
theorem dX5_probe_36 : decode cX5_probe 36 = .ok (.lshl, 1) := by decide +kernel
theorem dX5_probe_37 : decode cX5_probe 37 = .ok (.land, 1) := by decide +kernel
theorem dX5_probe_38 : decode cX5_probe 38 = .ok (.lconst 0, 1) := by decide +kernel
theorem dX5_probe_39 : decode cX5_probe 39 = .ok (.lcmp, 1) := by decide +kernel
theorem dX5_probe_40 : decode cX5_probe 40 = .ok (.ifCond .eq 48, 3) := by decide +kernel
theorem dX5_probe_43 : decode cX5_probe 43 = .ok (.aload_n 0, 1) := by decide +kernel
theorem dX5_probe_44 : decode cX5_probe 44 = .ok (.getfield 45, 3) := by decide +kernel
theorem dX5_probe_47 : decode cX5_probe 47 = .ok (.aload_n 0, 1) := by decide +kernel
theorem dX5_probe_48 : decode cX5_probe 48 = .ok (.getfield 19, 3) := by decide +kernel
theorem dX5_probe_51 : decode cX5_probe 51 = .ok (.iload 4, 2) := by decide +kernel
theorem dX5_probe_53 : decode cX5_probe 53 = .ok (.invokevirtual 225, 3) := by decide +kernel
theorem dX5_probe_56 : decode cX5_probe 56 = .ok (.getfield 234, 3) := by decide +kernel
theorem dX5_probe_59 : decode cX5_probe 59 = .ok (.land, 1) := by decide +kernel
theorem dX5_probe_60 : decode cX5_probe 60 = .ok (.invokestatic 185, 3) := by decide +kernel
theorem dX5_probe_63 : decode cX5_probe 63 = .ok (.istore 5, 2) := by decide +kernel
theorem dX5_probe_65 : decode cX5_probe 65 = .ok (.iload 5, 2) := by decide +kernel
theorem dX5_probe_67 : decode cX5_probe 67 = .ok (.iload_n 1, 1) := by decide +kernel
theorem dX5_probe_68 : decode cX5_probe 68 = .ok (.iload 5, 2) := by decide +kernel
theorem dX5_probe_70 : decode cX5_probe 70 = .ok (.isub, 1) := by decide +kernel
theorem dX5_probe_71 : decode cX5_probe 71 = .ok (.invokestatic 332, 3) := by decide +kernel
theorem dX5_probe_74 : decode cX5_probe 74 = .ok (.istore 6, 2) := by decide +kernel
theorem dX5_probe_76 : decode cX5_probe 76 = .ok (.iload 6, 2) := by decide +kernel
theorem dX5_probe_78 : decode cX5_probe 78 = .ok (.iload_n 3, 1) := by decide +kernel
theorem dX5_probe_79 : decode cX5_probe 79 = .ok (.if_icmp .le 9, 3) := by decide +kernel
theorem dX5_probe_82 : decode cX5_probe 82 = .ok (.iload 6, 2) := by decide +kernel
theorem dX5_probe_84 : decode cX5_probe 84 = .ok (.istore_n 3, 1) := by decide +kernel
theorem dX5_probe_85 : decode cX5_probe 85 = .ok (.iload 4, 2) := by decide +kernel
theorem dX5_probe_87 : decode cX5_probe 87 = .ok (.istore_n 2, 1) := by decide +kernel
theorem dX5_probe_88 : decode cX5_probe 88 = .ok (.iinc 4 1, 3) := by decide +kernel
theorem dX5_probe_91 : decode cX5_probe 91 = .ok (.goto (-69), 3) := by decide +kernel
theorem dX5_probe_94 : decode cX5_probe 94 = .ok (.iload_n 2, 1) := by decide +kernel
theorem dX5_probe_95 : decode cX5_probe 95 = .ok (.ireturn, 1) := by decide +kernel
theorem dX5_tell_0 : decode cX5_tell 0 = .ok (.aload_n 0, 1) := by decide +kernel
theorem dX5_tell_1 : decode cX5_tell 1 = .ok (.invokevirtual 337, 3) := by decide +kernel
theorem dX5_tell_4 : decode cX5_tell 4 = .ok (.istore_n 2, 1) := by decide +kernel
theorem dX5_tell_5 : decode cX5_tell 5 = .ok (.iload_n 2, 1) := by decide +kernel
theorem dX5_tell_6 : decode cX5_tell 6 = .ok (.iconst (-1), 1) := by decide +kernel
theorem dX5_tell_7 : decode cX5_tell 7 = .ok (.if_icmp .ne 14, 3) := by decide +kernel
theorem dX5_tell_10 : decode cX5_tell 10 = .ok (.new 82, 3) := by decide +kernel
theorem dX5_tell_13 : decode cX5_tell 13 = .ok (.dup, 1) := by decide +kernel
theorem dX5_tell_14 : decode cX5_tell 14 = .ok (.ldc_w 340, 3) := by decide +kernel
theorem dX5_tell_17 : decode cX5_tell 17 = .ok (.invokespecial 86, 3) := by decide +kernel
theorem dX5_tell_20 : decode cX5_tell 20 = .ok (.athrow, 1) := by decide +kernel
theorem dX5_tell_21 : decode cX5_tell 21 = .ok (.aload_n 0, 1) := by decide +kernel
theorem dX5_tell_22 : decode cX5_tell 22 = .ok (.getfield 19, 3) := by decide +kernel
theorem dX5_tell_25 : decode cX5_tell 25 = .ok (.iload_n 2, 1) := by decide +kernel
theorem dX5_tell_26 : decode cX5_tell 26 = .ok (.invokevirtual 225, 3) := by decide +kernel
theorem dX5_tell_29 : decode cX5_tell 29 = .ok (.getfield 234, 3) := by decide +kernel
theorem dX5_tell_32 : decode cX5_tell 32 = .ok (.lstore_n 3, 1) := by decide +kernel
theorem dX5_tell_33 : decode cX5_tell 33 = .ok (.aload_n 0, 1) := by decide +kernel
theorem dX5_tell_34 : decode cX5_tell 34 = .ok (.iload_n 1, 1) := by decide +kernel
theorem dX5_tell_35 : decode cX5_tell 35 = .ok (.ifCond .eq 12, 3) := by decide +kernel
theorem dX5_tell_38 : decode cX5_tell 38 = .ok (.aload_n 0, 1) := by decide +kernel
theorem dX5_tell_39 : decode cX5_tell 39 = .ok (.getfield 45, 3) := by decide +kernel
theorem dX5_tell_42 : decode cX5_tell 42 = .ok (.lload_n 3, 1) := by decide +kernel
theorem dX5_tell_43 : decode cX5_tell 43 = .ok (.land, 1) := by decide +kernel
theorem dX5_tell_44 : decode cX5_tell 44 = .ok (.goto 13, 3) := by decide +kernel
theorem dX5_tell_47 : decode cX5_tell 47 = .ok (.aload_n 0, 1) := by decide +kernel
theorem dX5_tell_48 : decode cX5_tell 48 = .ok (.getfield 45, 3) := by decide +kernel
theorem dX5_tell_51 : decode cX5_tell 51 = .ok (.lload_n 3, 1) := by decide +kernel
theorem dX5_tell_52 : decode cX5_tell 52 = .ok (.ldc2_w 183, 3) := by decide +kernel
theorem dX5_tell_55 : decode cX5_tell 55 = .ok (.lxor, 1) := by decide +kernel
theorem dX5_tell_56 : decode cX5_tell 56 = .ok (.land, 1) := by decide +kernel
theorem dX5_tell_57 : decode cX5_tell 57 = .ok (.putfield 45, 3) := by decide +kernel
theorem dX5_tell_60 : decode cX5_tell 60 = .ok (.aload_n 0, 1) := by decide +kernel
theorem dX5_tell_61 : decode cX5_tell 61 = .ok (.getfield 45, 3) := by decide +kernel
theorem dX5_tell_64 : decode cX5_tell 64 = .ok (.invokestatic 185, 3) := by decide +kernel
theorem dX5_tell_67 : decode cX5_tell 67 = .ok (.ireturn, 1) := by decide +kernel
theorem dX5_culprit_0 : decode cX5_culprit 0 = .ok (.aload_n 0, 1) := by decide +kernel
theorem dX5_culprit_1 : decode cX5_culprit 1 = .ok (.getfield 45, 3) := by decide +kernel
theorem dX5_culprit_4 : decode cX5_culprit 4 = .ok (.invokestatic 185, 3) := by decide +kernel
theorem dX5_culprit_7 : decode cX5_culprit 7 = .ok (.iconst 1, 1) := by decide +kernel
theorem dX5_culprit_8 : decode cX5_culprit 8 = .ok (.if_icmp .ne 13, 3) := by decide +kernel
theorem dX5_culprit_11 : decode cX5_culprit 11 = .ok (.aload_n 0, 1) := by decide +kernel
theorem dX5_culprit_12 : decode cX5_culprit 12 = .ok (.getfield 45, 3) := by decide +kernel
theorem dX5_culprit_15 : decode cX5_culprit 15 = .ok (.invokestatic 342, 3) := by decide +kernel
theorem dX5_culprit_18 : decode cX5_culprit 18 = .ok (.goto 4, 3) := by decide +kernel
theorem dX5_culprit_21 : decode cX5_culprit 21 = .ok (.iconst (-1), 1) := by decide +kernel
theorem dX5_culprit_22 : decode cX5_culprit 22 = .ok (.ireturn, 1) := by decide +kernel
theorem dX5_wouldMerge_0 : decode cX5_wouldMerge 0 = .ok (.aload_n 0, 1) := by decide +kernel
theorem dX5_wouldMerge_1 : decode cX5_wouldMerge 1 = .ok (.iload_n 1, 1) := by decide +kernel
theorem dX5_wouldMerge_2 : decode cX5_wouldMerge 2 = .ok (.invokevirtual 172, 3) := by decide +kernel
theorem dX5_wouldMerge_5 : decode cX5_wouldMerge 5 = .ok (.aload_n 0, 1) := by decide +kernel
theorem dX5_wouldMerge_6 : decode cX5_wouldMerge 6 = .ok (.iload_n 1, 1) := by decide +kernel
theorem dX5_wouldMerge_7 : decode cX5_wouldMerge 7 = .ok (.invokevirtual 200, 3) := by decide +kernel
theorem dX5_wouldMerge_10 : decode cX5_wouldMerge 10 = .ok (.aload_n 0, 1) := by decide +kernel
theorem dX5_wouldMerge_11 : decode cX5_wouldMerge 11 = .ok (.aload_n 0, 1) := by decide +kernel
theorem dX5_wouldMerge_12 : decode cX5_wouldMerge 12 = .ok (.iload_n 1, 1) := by decide +kernel
theorem dX5_wouldMerge_13 : decode cX5_wouldMerge 13 = .ok (.invokevirtual 164, 3) := by decide +kernel
theorem dX5_wouldMerge_16 : decode cX5_wouldMerge 16 = .ok (.invokevirtual 203, 3) := by decide +kernel
theorem dX5_wouldMerge_19 : decode cX5_wouldMerge 19 = .ok (.ireturn, 1) := by decide +kernel
theorem dX5_wouldConflict_0 : decode cX5_wouldConflict 0 = .ok (.aload_n 0, 1) := by decide +kernel
theorem dX5_wouldConflict_1 : decode cX5_wouldConflict 1 = .ok (.iload_n 1, 1) := by decide +kernel
theorem dX5_wouldConflict_2 : decode cX5_wouldConflict 2 = .ok (.invokevirtual 191, 3) := by decide +kernel
theorem dX5_wouldConflict_5 : decode cX5_wouldConflict 5 = .ok (.aload_n 0, 1) := by decide +kernel
theorem dX5_wouldConflict_6 : decode cX5_wouldConflict 6 = .ok (.invokevirtual 212, 3) := by decide +kernel
theorem dX5_wouldConflict_9 : decode cX5_wouldConflict 9 = .ok (.aload_n 0, 1) := by decide +kernel
theorem dX5_wouldConflict_10 : decode cX5_wouldConflict 10 = .ok (.getfield 41, 3) := by decide +kernel
theorem dX5_wouldConflict_13 : decode cX5_wouldConflict 13 = .ok (.aload_n 0, 1) := by decide +kernel
theorem dX5_wouldConflict_14 : decode cX5_wouldConflict 14 = .ok (.iload_n 1, 1) := by decide +kernel
theorem dX5_wouldConflict_15 : decode cX5_wouldConflict 15 = .ok (.invokevirtual 215, 3) := by decide +kernel
theorem dX5_wouldConflict_18 : decode cX5_wouldConflict 18 = .ok (.aload_n 0, 1) := by decide +kernel
theorem dX5_wouldConflict_19 : decode cX5_wouldConflict 19 = .ok (.aload_n 0, 1) := by decide +kernel
theorem dX5_wouldConflict_20 : decode cX5_wouldConflict 20 = .ok (.invokevirtual 128, 3) := by decide +kernel
theorem dX5_wouldConflict_23 : decode cX5_wouldConflict 23 = .ok (.invokevirtual 131, 3) := by decide +kernel
theorem dX5_wouldConflict_26 : decode cX5_wouldConflict 26 = .ok (.aload_n 0, 1) := by decide +kernel
theorem dX5_wouldConflict_27 : decode cX5_wouldConflict 27 = .ok (.iload_n 1, 1) := by decide +kernel
theorem dX5_wouldConflict_28 : decode cX5_wouldConflict 28 = .ok (.invokevirtual 131, 3) := by decide +kernel
theorem dX5_wouldConflict_31 : decode cX5_wouldConflict 31 = .ok (.invokevirtual 218, 3) := by decide +kernel
theorem dX5_wouldConflict_34 : decode cX5_wouldConflict 34 = .ok (.aload_n 0, 1) := by decide +kernel
theorem dX5_wouldConflict_35 : decode cX5_wouldConflict 35 = .ok (.getfield 41, 3) := by decide +kernel
theorem dX5_wouldConflict_38 : decode cX5_wouldConflict 38 = .ok (.invokevirtual 266, 3) := by decide +kernel
theorem dX5_wouldConflict_41 : decode cX5_wouldConflict 41 = .ok (.ireturn, 1) := by decide +kernel
theorem dX5_digest_0 : decode cX5_digest 0 = .ok (.ldc2_w 348, 3) := by decide +kernel
theorem dX5_digest_3 : decode cX5_digest 3 = .ok (.lstore_n 1, 1) := by decide +kernel
theorem dX5_digest_4 : decode cX5_digest 4 = .ok (.lload_n 1, 1) := by decide +kernel
theorem dX5_digest_5 : decode cX5_digest 5 = .ok (.ldc2_w 350, 3) := by decide +kernel
theorem dX5_digest_8 : decode cX5_digest 8 = .ok (.lmul, 1) := by decide +kernel
theorem dX5_digest_9 : decode cX5_digest 9 = .ok (.aload_n 0, 1) := by decide +kernel
theorem dX5_digest_10 : decode cX5_digest 10 = .ok (.invokevirtual 352, 3) := by decide +kernel
theorem dX5_digest_13 : decode cX5_digest 13 = .ok (.i2l, 1) := by decide +kernel
theorem dX5_digest_14 : decode cX5_digest 14 = .ok (.ladd, 1) := by decide +kernel
theorem dX5_digest_15 : decode cX5_digest 15 = .ok (.lstore_n 1, 1) := by decide +kernel
theorem dX5_digest_16 : decode cX5_digest 16 = .ok (.lload_n 1, 1) := by decide +kernel
theorem dX5_digest_17 : decode cX5_digest 17 = .ok (.ldc2_w 350, 3) := by decide +kernel
theorem dX5_digest_20 : decode cX5_digest 20 = .ok (.lmul, 1) := by decide +kernel
theorem dX5_digest_21 : decode cX5_digest 21 = .ok (.aload_n 0, 1) := by decide +kernel
theorem dX5_digest_22 : decode cX5_digest 22 = .ok (.invokevirtual 355, 3) := by decide +kernel
theorem dX5_digest_25 : decode cX5_digest 25 = .ok (.i2l, 1) := by decide +kernel
theorem dX5_digest_26 : decode cX5_digest 26 = .ok (.ladd, 1) := by decide +kernel
theorem dX5_digest_27 : decode cX5_digest 27 = .ok (.lstore_n 1, 1) := by decide +kernel
theorem dX5_digest_28 : decode cX5_digest 28 = .ok (.lload_n 1, 1) := by decide +kernel
theorem dX5_digest_29 : decode cX5_digest 29 = .ok (.ldc2_w 350, 3) := by decide +kernel
theorem dX5_digest_32 : decode cX5_digest 32 = .ok (.lmul, 1) := by decide +kernel
theorem dX5_digest_33 : decode cX5_digest 33 = .ok (.aload_n 0, 1) := by decide +kernel
theorem dX5_digest_34 : decode cX5_digest 34 = .ok (.invokevirtual 146, 3) := by decide +kernel
theorem dX5_digest_37 : decode cX5_digest 37 = .ok (.ifCond .eq 7, 3) := by decide +kernel
theorem dX5_digest_40 : decode cX5_digest 40 = .ok (.iconst 1, 1) := by decide +kernel
theorem dX5_digest_41 : decode cX5_digest 41 = .ok (.goto 4, 3) := by decide +kernel
theorem dX5_digest_44 : decode cX5_digest 44 = .ok (.iconst 0, 1) := by decide +kernel
theorem dX5_digest_45 : decode cX5_digest 45 = .ok (.i2l, 1) := by decide +kernel
theorem dX5_digest_46 : decode cX5_digest 46 = .ok (.ladd, 1) := by decide +kernel
theorem dX5_digest_47 : decode cX5_digest 47 = .ok (.lstore_n 1, 1) := by decide +kernel
theorem dX5_digest_48 : decode cX5_digest 48 = .ok (.lload_n 1, 1) := by decide +kernel
theorem dX5_digest_49 : decode cX5_digest 49 = .ok (.ldc2_w 350, 3) := by decide +kernel
theorem dX5_digest_52 : decode cX5_digest 52 = .ok (.lmul, 1) := by decide +kernel
theorem dX5_digest_53 : decode cX5_digest 53 = .ok (.aload_n 0, 1) := by decide +kernel
theorem dX5_digest_54 : decode cX5_digest 54 = .ok (.invokevirtual 357, 3) := by decide +kernel
theorem dX5_digest_57 : decode cX5_digest 57 = .ok (.i2l, 1) := by decide +kernel
theorem dX5_digest_58 : decode cX5_digest 58 = .ok (.ladd, 1) := by decide +kernel
theorem dX5_digest_59 : decode cX5_digest 59 = .ok (.lstore_n 1, 1) := by decide +kernel
theorem dX5_digest_60 : decode cX5_digest 60 = .ok (.lload_n 1, 1) := by decide +kernel
theorem dX5_digest_61 : decode cX5_digest 61 = .ok (.ldc2_w 350, 3) := by decide +kernel
theorem dX5_digest_64 : decode cX5_digest 64 = .ok (.lmul, 1) := by decide +kernel
theorem dX5_digest_65 : decode cX5_digest 65 = .ok (.aload_n 0, 1) := by decide +kernel
theorem dX5_digest_66 : decode cX5_digest 66 = .ok (.invokevirtual 360, 3) := by decide +kernel
theorem dX5_digest_69 : decode cX5_digest 69 = .ok (.i2l, 1) := by decide +kernel
theorem dX5_digest_70 : decode cX5_digest 70 = .ok (.ladd, 1) := by decide +kernel
theorem dX5_digest_71 : decode cX5_digest 71 = .ok (.lstore_n 1, 1) := by decide +kernel
theorem dX5_digest_72 : decode cX5_digest 72 = .ok (.lload_n 1, 1) := by decide +kernel
theorem dX5_digest_73 : decode cX5_digest 73 = .ok (.ldc2_w 350, 3) := by decide +kernel
theorem dX5_digest_76 : decode cX5_digest 76 = .ok (.lmul, 1) := by decide +kernel
theorem dX5_digest_77 : decode cX5_digest 77 = .ok (.aload_n 0, 1) := by decide +kernel
theorem dX5_digest_78 : decode cX5_digest 78 = .ok (.invokevirtual 363, 3) := by decide +kernel
theorem dX5_digest_81 : decode cX5_digest 81 = .ok (.i2l, 1) := by decide +kernel
theorem dX5_digest_82 : decode cX5_digest 82 = .ok (.ladd, 1) := by decide +kernel
theorem dX5_digest_83 : decode cX5_digest 83 = .ok (.lstore_n 1, 1) := by decide +kernel
theorem dX5_digest_84 : decode cX5_digest 84 = .ok (.lload_n 1, 1) := by decide +kernel
theorem dX5_digest_85 : decode cX5_digest 85 = .ok (.ldc2_w 350, 3) := by decide +kernel
theorem dX5_digest_88 : decode cX5_digest 88 = .ok (.lmul, 1) := by decide +kernel
theorem dX5_digest_89 : decode cX5_digest 89 = .ok (.aload_n 0, 1) := by decide +kernel
theorem dX5_digest_90 : decode cX5_digest 90 = .ok (.invokevirtual 366, 3) := by decide +kernel
theorem dX5_digest_93 : decode cX5_digest 93 = .ok (.i2l, 1) := by decide +kernel
theorem dX5_digest_94 : decode cX5_digest 94 = .ok (.ladd, 1) := by decide +kernel
theorem dX5_digest_95 : decode cX5_digest 95 = .ok (.lstore_n 1, 1) := by decide +kernel
theorem dX5_digest_96 : decode cX5_digest 96 = .ok (.lload_n 1, 1) := by decide +kernel
theorem dX5_digest_97 : decode cX5_digest 97 = .ok (.ldc2_w 350, 3) := by decide +kernel
theorem dX5_digest_100 : decode cX5_digest 100 = .ok (.lmul, 1) := by decide +kernel
theorem dX5_digest_101 : decode cX5_digest 101 = .ok (.aload_n 0, 1) := by decide +kernel
theorem dX5_digest_102 : decode cX5_digest 102 = .ok (.invokevirtual 337, 3) := by decide +kernel
theorem dX5_digest_105 : decode cX5_digest 105 = .ok (.i2l, 1) := by decide +kernel
theorem dX5_digest_106 : decode cX5_digest 106 = .ok (.ladd, 1) := by decide +kernel
theorem dX5_digest_107 : decode cX5_digest 107 = .ok (.lstore_n 1, 1) := by decide +kernel
theorem dX5_digest_108 : decode cX5_digest 108 = .ok (.lload_n 1, 1) := by decide +kernel
theorem dX5_digest_109 : decode cX5_digest 109 = .ok (.ldc2_w 350, 3) := by decide +kernel
theorem dX5_digest_112 : decode cX5_digest 112 = .ok (.lmul, 1) := by decide +kernel
theorem dX5_digest_113 : decode cX5_digest 113 = .ok (.aload_n 0, 1) := by decide +kernel
theorem dX5_digest_114 : decode cX5_digest 114 = .ok (.invokevirtual 369, 3) := by decide +kernel
theorem dX5_digest_117 : decode cX5_digest 117 = .ok (.i2l, 1) := by decide +kernel
theorem dX5_digest_118 : decode cX5_digest 118 = .ok (.ladd, 1) := by decide +kernel
theorem dX5_digest_119 : decode cX5_digest 119 = .ok (.lstore_n 1, 1) := by decide +kernel
theorem dX5_digest_120 : decode cX5_digest 120 = .ok (.iconst 0, 1) := by decide +kernel
theorem dX5_digest_121 : decode cX5_digest 121 = .ok (.istore_n 3, 1) := by decide +kernel
theorem dX5_digest_122 : decode cX5_digest 122 = .ok (.iload_n 3, 1) := by decide +kernel
theorem dX5_digest_123 : decode cX5_digest 123 = .ok (.bipush 8, 2) := by decide +kernel
theorem dX5_digest_125 : decode cX5_digest 125 = .ok (.if_icmp .ge 22, 3) := by decide +kernel
theorem dX5_digest_128 : decode cX5_digest 128 = .ok (.lload_n 1, 1) := by decide +kernel
theorem dX5_digest_129 : decode cX5_digest 129 = .ok (.ldc2_w 350, 3) := by decide +kernel
theorem dX5_digest_132 : decode cX5_digest 132 = .ok (.lmul, 1) := by decide +kernel
theorem dX5_digest_133 : decode cX5_digest 133 = .ok (.aload_n 0, 1) := by decide +kernel
theorem dX5_digest_134 : decode cX5_digest 134 = .ok (.iload_n 3, 1) := by decide +kernel
theorem dX5_digest_135 : decode cX5_digest 135 = .ok (.invokevirtual 164, 3) := by decide +kernel
theorem dX5_digest_138 : decode cX5_digest 138 = .ok (.i2l, 1) := by decide +kernel
theorem dX5_digest_139 : decode cX5_digest 139 = .ok (.ladd, 1) := by decide +kernel
theorem dX5_digest_140 : decode cX5_digest 140 = .ok (.lstore_n 1, 1) := by decide +kernel
theorem dX5_digest_141 : decode cX5_digest 141 = .ok (.iinc 3 1, 3) := by decide +kernel
theorem dX5_digest_144 : decode cX5_digest 144 = .ok (.goto (-22), 3) := by decide +kernel
theorem dX5_digest_147 : decode cX5_digest 147 = .ok (.iconst 0, 1) := by decide +kernel
theorem dX5_digest_148 : decode cX5_digest 148 = .ok (.istore_n 3, 1) := by decide +kernel
theorem dX5_digest_149 : decode cX5_digest 149 = .ok (.iload_n 3, 1) := by decide +kernel
theorem dX5_digest_150 : decode cX5_digest 150 = .ok (.aload_n 0, 1) := by decide +kernel
theorem dX5_digest_151 : decode cX5_digest 151 = .ok (.getfield 19, 3) := by decide +kernel
theorem dX5_digest_154 : decode cX5_digest 154 = .ok (.getfield 286, 3) := by decide +kernel
theorem dX5_digest_157 : decode cX5_digest 157 = .ok (.if_icmp .ge 45, 3) := by decide +kernel
theorem dX5_digest_160 : decode cX5_digest 160 = .ok (.lload_n 1, 1) := by decide +kernel
theorem dX5_digest_161 : decode cX5_digest 161 = .ok (.ldc2_w 350, 3) := by decide +kernel
theorem dX5_digest_164 : decode cX5_digest 164 = .ok (.lmul, 1) := by decide +kernel
theorem dX5_digest_165 : decode cX5_digest 165 = .ok (.aload_n 0, 1) := by decide +kernel
theorem dX5_digest_166 : decode cX5_digest 166 = .ok (.iload_n 3, 1) := by decide +kernel
theorem dX5_digest_167 : decode cX5_digest 167 = .ok (.invokevirtual 372, 3) := by decide +kernel
theorem dX5_digest_170 : decode cX5_digest 170 = .ok (.ifCond .eq 7, 3) := by decide +kernel
theorem dX5_digest_173 : decode cX5_digest 173 = .ok (.iconst 1, 1) := by decide +kernel
theorem dX5_digest_174 : decode cX5_digest 174 = .ok (.goto 4, 3) := by decide +kernel
theorem dX5_digest_177 : decode cX5_digest 177 = .ok (.iconst 0, 1) := by decide +kernel
theorem dX5_digest_178 : decode cX5_digest 178 = .ok (.i2l, 1) := by decide +kernel
theorem dX5_digest_179 : decode cX5_digest 179 = .ok (.ladd, 1) := by decide +kernel
theorem dX5_digest_180 : decode cX5_digest 180 = .ok (.lstore_n 1, 1) := by decide +kernel
theorem dX5_digest_181 : decode cX5_digest 181 = .ok (.aload_n 0, 1) := by decide +kernel
theorem dX5_digest_182 : decode cX5_digest 182 = .ok (.iload_n 3, 1) := by decide +kernel
theorem dX5_digest_183 : decode cX5_digest 183 = .ok (.invokevirtual 372, 3) := by decide +kernel
theorem dX5_digest_186 : decode cX5_digest 186 = .ok (.ifCond .eq 10, 3) := by decide +kernel
theorem dX5_digest_189 : decode cX5_digest 189 = .ok (.aload_n 0, 1) := by decide +kernel
theorem dX5_digest_190 : decode cX5_digest 190 = .ok (.lload_n 1, 1) := by decide +kernel
theorem dX5_digest_191 : decode cX5_digest 191 = .ok (.iload_n 3, 1) := by decide +kernel
theorem dX5_digest_192 : decode cX5_digest 192 = .ok (.invokevirtual 375, 3) := by decide +kernel
theorem dX5_digest_195 : decode cX5_digest 195 = .ok (.lstore_n 1, 1) := by decide +kernel
theorem dX5_digest_196 : decode cX5_digest 196 = .ok (.iinc 3 1, 3) := by decide +kernel
theorem dX5_digest_199 : decode cX5_digest 199 = .ok (.goto (-50), 3) := by decide +kernel
theorem dX5_digest_202 : decode cX5_digest 202 = .ok (.lload_n 1, 1) := by decide +kernel
theorem dX5_digest_203 : decode cX5_digest 203 = .ok (.aload_n 0, 1) := by decide +kernel
theorem dX5_digest_204 : decode cX5_digest 204 = .ok (.getfield 10, 3) := by decide +kernel
theorem dX5_digest_207 : decode cX5_digest 207 = .ok (.invokestatic 379, 3) := by decide +kernel
theorem dX5_digest_210 : decode cX5_digest 210 = .ok (.lstore_n 1, 1) := by decide +kernel
theorem dX5_digest_211 : decode cX5_digest 211 = .ok (.aload_n 0, 1) := by decide +kernel
theorem dX5_digest_212 : decode cX5_digest 212 = .ok (.lload_n 1, 1) := by decide +kernel
theorem dX5_digest_213 : decode cX5_digest 213 = .ok (.invokevirtual 383, 3) := by decide +kernel
theorem dX5_digest_216 : decode cX5_digest 216 = .ok (.lreturn, 1) := by decide +kernel
theorem dX5_withCommit_0 : decode cX5_withCommit 0 = .ok (.lload_n 1, 1) := by decide +kernel
theorem dX5_withCommit_1 : decode cX5_withCommit 1 = .ok (.lstore 4, 2) := by decide +kernel
theorem dX5_withCommit_3 : decode cX5_withCommit 3 = .ok (.lload 4, 2) := by decide +kernel
theorem dX5_withCommit_5 : decode cX5_withCommit 5 = .ok (.ldc2_w 350, 3) := by decide +kernel
theorem dX5_withCommit_8 : decode cX5_withCommit 8 = .ok (.lmul, 1) := by decide +kernel
theorem dX5_withCommit_9 : decode cX5_withCommit 9 = .ok (.aload_n 0, 1) := by decide +kernel
theorem dX5_withCommit_10 : decode cX5_withCommit 10 = .ok (.iload_n 3, 1) := by decide +kernel
theorem dX5_withCommit_11 : decode cX5_withCommit 11 = .ok (.invokevirtual 386, 3) := by decide +kernel
theorem dX5_withCommit_14 : decode cX5_withCommit 14 = .ok (.ifCond .eq 7, 3) := by decide +kernel
theorem dX5_withCommit_17 : decode cX5_withCommit 17 = .ok (.iconst 1, 1) := by decide +kernel
theorem dX5_withCommit_18 : decode cX5_withCommit 18 = .ok (.goto 4, 3) := by decide +kernel
theorem dX5_withCommit_21 : decode cX5_withCommit 21 = .ok (.iconst 0, 1) := by decide +kernel
theorem dX5_withCommit_22 : decode cX5_withCommit 22 = .ok (.i2l, 1) := by decide +kernel
theorem dX5_withCommit_23 : decode cX5_withCommit 23 = .ok (.ladd, 1) := by decide +kernel
theorem dX5_withCommit_24 : decode cX5_withCommit 24 = .ok (.lstore 4, 2) := by decide +kernel
theorem dX5_withCommit_26 : decode cX5_withCommit 26 = .ok (.lload 4, 2) := by decide +kernel
theorem dX5_withCommit_28 : decode cX5_withCommit 28 = .ok (.ldc2_w 350, 3) := by decide +kernel
theorem dX5_withCommit_31 : decode cX5_withCommit 31 = .ok (.lmul, 1) := by decide +kernel
theorem dX5_withCommit_32 : decode cX5_withCommit 32 = .ok (.aload_n 0, 1) := by decide +kernel
theorem dX5_withCommit_33 : decode cX5_withCommit 33 = .ok (.iload_n 3, 1) := by decide +kernel
theorem dX5_withCommit_34 : decode cX5_withCommit 34 = .ok (.iconst 0, 1) := by decide +kernel
theorem dX5_withCommit_35 : decode cX5_withCommit 35 = .ok (.invokevirtual 389, 3) := by decide +kernel
theorem dX5_withCommit_38 : decode cX5_withCommit 38 = .ok (.i2l, 1) := by decide +kernel
theorem dX5_withCommit_39 : decode cX5_withCommit 39 = .ok (.ladd, 1) := by decide +kernel
theorem dX5_withCommit_40 : decode cX5_withCommit 40 = .ok (.lstore 4, 2) := by decide +kernel
theorem dX5_withCommit_42 : decode cX5_withCommit 42 = .ok (.lload 4, 2) := by decide +kernel
theorem dX5_withCommit_44 : decode cX5_withCommit 44 = .ok (.ldc2_w 350, 3) := by decide +kernel
theorem dX5_withCommit_47 : decode cX5_withCommit 47 = .ok (.lmul, 1) := by decide +kernel
theorem dX5_withCommit_48 : decode cX5_withCommit 48 = .ok (.aload_n 0, 1) := by decide +kernel
theorem dX5_withCommit_49 : decode cX5_withCommit 49 = .ok (.iload_n 3, 1) := by decide +kernel
theorem dX5_withCommit_50 : decode cX5_withCommit 50 = .ok (.iconst 1, 1) := by decide +kernel
theorem dX5_withCommit_51 : decode cX5_withCommit 51 = .ok (.invokevirtual 389, 3) := by decide +kernel
theorem dX5_withCommit_54 : decode cX5_withCommit 54 = .ok (.i2l, 1) := by decide +kernel
theorem dX5_withCommit_55 : decode cX5_withCommit 55 = .ok (.ladd, 1) := by decide +kernel
theorem dX5_withCommit_56 : decode cX5_withCommit 56 = .ok (.lstore 4, 2) := by decide +kernel
theorem dX5_withCommit_58 : decode cX5_withCommit 58 = .ok (.lload 4, 2) := by decide +kernel
theorem dX5_withCommit_60 : decode cX5_withCommit 60 = .ok (.ldc2_w 350, 3) := by decide +kernel
theorem dX5_withCommit_63 : decode cX5_withCommit 63 = .ok (.lmul, 1) := by decide +kernel
theorem dX5_withCommit_64 : decode cX5_withCommit 64 = .ok (.aload_n 0, 1) := by decide +kernel
theorem dX5_withCommit_65 : decode cX5_withCommit 65 = .ok (.iload_n 3, 1) := by decide +kernel
theorem dX5_withCommit_66 : decode cX5_withCommit 66 = .ok (.invokevirtual 393, 3) := by decide +kernel
theorem dX5_withCommit_69 : decode cX5_withCommit 69 = .ok (.i2l, 1) := by decide +kernel
theorem dX5_withCommit_70 : decode cX5_withCommit 70 = .ok (.ladd, 1) := by decide +kernel
theorem dX5_withCommit_71 : decode cX5_withCommit 71 = .ok (.lstore 4, 2) := by decide +kernel
theorem dX5_withCommit_73 : decode cX5_withCommit 73 = .ok (.lload 4, 2) := by decide +kernel
theorem dX5_withCommit_75 : decode cX5_withCommit 75 = .ok (.ldc2_w 350, 3) := by decide +kernel
theorem dX5_withCommit_78 : decode cX5_withCommit 78 = .ok (.lmul, 1) := by decide +kernel
theorem dX5_withCommit_79 : decode cX5_withCommit 79 = .ok (.aload_n 0, 1) := by decide +kernel
theorem dX5_withCommit_80 : decode cX5_withCommit 80 = .ok (.iload_n 3, 1) := by decide +kernel
theorem dX5_withCommit_81 : decode cX5_withCommit 81 = .ok (.invokevirtual 396, 3) := by decide +kernel
theorem dX5_withCommit_84 : decode cX5_withCommit 84 = .ok (.i2l, 1) := by decide +kernel
theorem dX5_withCommit_85 : decode cX5_withCommit 85 = .ok (.ladd, 1) := by decide +kernel
theorem dX5_withCommit_86 : decode cX5_withCommit 86 = .ok (.lstore 4, 2) := by decide +kernel
theorem dX5_withCommit_88 : decode cX5_withCommit 88 = .ok (.lload 4, 2) := by decide +kernel
theorem dX5_withCommit_90 : decode cX5_withCommit 90 = .ok (.aload_n 0, 1) := by decide +kernel
theorem dX5_withCommit_91 : decode cX5_withCommit 91 = .ok (.iload_n 3, 1) := by decide +kernel
theorem dX5_withCommit_92 : decode cX5_withCommit 92 = .ok (.invokevirtual 131, 3) := by decide +kernel
theorem dX5_withCommit_95 : decode cX5_withCommit 95 = .ok (.invokestatic 379, 3) := by decide +kernel
theorem dX5_withCommit_98 : decode cX5_withCommit 98 = .ok (.lreturn, 1) := by decide +kernel
theorem dX5_withTree_0 : decode cX5_withTree 0 = .ok (.lload_n 0, 1) := by decide +kernel
theorem dX5_withTree_1 : decode cX5_withTree 1 = .ok (.lstore_n 3, 1) := by decide +kernel
theorem dX5_withTree_2 : decode cX5_withTree 2 = .ok (.iconst 0, 1) := by decide +kernel
theorem dX5_withTree_3 : decode cX5_withTree 3 = .ok (.istore 5, 2) := by decide +kernel
theorem dX5_withTree_5 : decode cX5_withTree 5 = .ok (.iload 5, 2) := by decide +kernel
theorem dX5_withTree_7 : decode cX5_withTree 7 = .ok (.bipush 8, 2) := by decide +kernel
theorem dX5_withTree_9 : decode cX5_withTree 9 = .ok (.if_icmp .ge 59, 3) := by decide +kernel
theorem dX5_withTree_12 : decode cX5_withTree 12 = .ok (.aload_n 2, 1) := by decide +kernel
theorem dX5_withTree_13 : decode cX5_withTree 13 = .ok (.iload 5, 2) := by decide +kernel
theorem dX5_withTree_15 : decode cX5_withTree 15 = .ok (.invokevirtual 96, 3) := by decide +kernel
theorem dX5_withTree_18 : decode cX5_withTree 18 = .ok (.istore 6, 2) := by decide +kernel
theorem dX5_withTree_20 : decode cX5_withTree 20 = .ok (.lload_n 3, 1) := by decide +kernel
theorem dX5_withTree_21 : decode cX5_withTree 21 = .ok (.ldc2_w 350, 3) := by decide +kernel
theorem dX5_withTree_24 : decode cX5_withTree 24 = .ok (.lmul, 1) := by decide +kernel
theorem dX5_withTree_25 : decode cX5_withTree 25 = .ok (.iload 6, 2) := by decide +kernel
theorem dX5_withTree_27 : decode cX5_withTree 27 = .ok (.i2l, 1) := by decide +kernel
theorem dX5_withTree_28 : decode cX5_withTree 28 = .ok (.ladd, 1) := by decide +kernel
theorem dX5_withTree_29 : decode cX5_withTree 29 = .ok (.lstore_n 3, 1) := by decide +kernel
theorem dX5_withTree_30 : decode cX5_withTree 30 = .ok (.iconst 0, 1) := by decide +kernel
theorem dX5_withTree_31 : decode cX5_withTree 31 = .ok (.istore 7, 2) := by decide +kernel
theorem dX5_withTree_33 : decode cX5_withTree 33 = .ok (.iload 7, 2) := by decide +kernel
theorem dX5_withTree_35 : decode cX5_withTree 35 = .ok (.iload 6, 2) := by decide +kernel
theorem dX5_withTree_37 : decode cX5_withTree 37 = .ok (.if_icmp .ge 25, 3) := by decide +kernel
theorem dX5_withTree_40 : decode cX5_withTree 40 = .ok (.lload_n 3, 1) := by decide +kernel
theorem dX5_withTree_41 : decode cX5_withTree 41 = .ok (.ldc2_w 350, 3) := by decide +kernel
theorem dX5_withTree_44 : decode cX5_withTree 44 = .ok (.lmul, 1) := by decide +kernel
theorem dX5_withTree_45 : decode cX5_withTree 45 = .ok (.aload_n 2, 1) := by decide +kernel
theorem dX5_withTree_46 : decode cX5_withTree 46 = .ok (.iload 5, 2) := by decide +kernel
theorem dX5_withTree_48 : decode cX5_withTree 48 = .ok (.iload 7, 2) := by decide +kernel
theorem dX5_withTree_50 : decode cX5_withTree 50 = .ok (.invokevirtual 118, 3) := by decide +kernel
theorem dX5_withTree_53 : decode cX5_withTree 53 = .ok (.i2l, 1) := by decide +kernel
theorem dX5_withTree_54 : decode cX5_withTree 54 = .ok (.ladd, 1) := by decide +kernel
theorem dX5_withTree_55 : decode cX5_withTree 55 = .ok (.lstore_n 3, 1) := by decide +kernel
theorem dX5_withTree_56 : decode cX5_withTree 56 = .ok (.iinc 7 1, 3) := by decide +kernel
theorem dX5_withTree_59 : decode cX5_withTree 59 = .ok (.goto (-26), 3) := by decide +kernel
theorem dX5_withTree_62 : decode cX5_withTree 62 = .ok (.iinc 5 1, 3) := by decide +kernel
theorem dX5_withTree_65 : decode cX5_withTree 65 = .ok (.goto (-60), 3) := by decide +kernel
theorem dX5_withTree_68 : decode cX5_withTree 68 = .ok (.lload_n 3, 1) := by decide +kernel
theorem dX5_withTree_69 : decode cX5_withTree 69 = .ok (.lreturn, 1) := by decide +kernel
theorem dX5_withConflicts_0 : decode cX5_withConflicts 0 = .ok (.lload_n 1, 1) := by decide +kernel
theorem dX5_withConflicts_1 : decode cX5_withConflicts 1 = .ok (.lstore_n 3, 1) := by decide +kernel
theorem dX5_withConflicts_2 : decode cX5_withConflicts 2 = .ok (.aload_n 0, 1) := by decide +kernel
theorem dX5_withConflicts_3 : decode cX5_withConflicts 3 = .ok (.invokevirtual 360, 3) := by decide +kernel
theorem dX5_withConflicts_6 : decode cX5_withConflicts 6 = .ok (.istore 5, 2) := by decide +kernel
theorem dX5_withConflicts_8 : decode cX5_withConflicts 8 = .ok (.iconst 0, 1) := by decide +kernel
theorem dX5_withConflicts_9 : decode cX5_withConflicts 9 = .ok (.istore 6, 2) := by decide +kernel
theorem dX5_withConflicts_11 : decode cX5_withConflicts 11 = .ok (.iload 6, 2) := by decide +kernel
theorem dX5_withConflicts_13 : decode cX5_withConflicts 13 = .ok (.iload 5, 2) := by decide +kernel
theorem dX5_withConflicts_15 : decode cX5_withConflicts 15 = .ok (.if_icmp .ge 54, 3) := by decide +kernel
theorem dX5_withConflicts_18 : decode cX5_withConflicts 18 = .ok (.lload_n 3, 1) := by decide +kernel
theorem dX5_withConflicts_19 : decode cX5_withConflicts 19 = .ok (.ldc2_w 350, 3) := by decide +kernel
theorem dX5_withConflicts_22 : decode cX5_withConflicts 22 = .ok (.lmul, 1) := by decide +kernel
theorem dX5_withConflicts_23 : decode cX5_withConflicts 23 = .ok (.aload_n 0, 1) := by decide +kernel
theorem dX5_withConflicts_24 : decode cX5_withConflicts 24 = .ok (.iload 6, 2) := by decide +kernel
theorem dX5_withConflicts_26 : decode cX5_withConflicts 26 = .ok (.invokevirtual 399, 3) := by decide +kernel
theorem dX5_withConflicts_29 : decode cX5_withConflicts 29 = .ok (.i2l, 1) := by decide +kernel
theorem dX5_withConflicts_30 : decode cX5_withConflicts 30 = .ok (.ladd, 1) := by decide +kernel
theorem dX5_withConflicts_31 : decode cX5_withConflicts 31 = .ok (.lstore_n 3, 1) := by decide +kernel
theorem dX5_withConflicts_32 : decode cX5_withConflicts 32 = .ok (.iconst 0, 1) := by decide +kernel
theorem dX5_withConflicts_33 : decode cX5_withConflicts 33 = .ok (.istore 7, 2) := by decide +kernel
theorem dX5_withConflicts_35 : decode cX5_withConflicts 35 = .ok (.iload 7, 2) := by decide +kernel
theorem dX5_withConflicts_37 : decode cX5_withConflicts 37 = .ok (.iconst 3, 1) := by decide +kernel
theorem dX5_withConflicts_38 : decode cX5_withConflicts 38 = .ok (.if_icmp .ge 25, 3) := by decide +kernel
theorem dX5_withConflicts_41 : decode cX5_withConflicts 41 = .ok (.lload_n 3, 1) := by decide +kernel
theorem dX5_withConflicts_42 : decode cX5_withConflicts 42 = .ok (.ldc2_w 350, 3) := by decide +kernel
theorem dX5_withConflicts_45 : decode cX5_withConflicts 45 = .ok (.lmul, 1) := by decide +kernel
theorem dX5_withConflicts_46 : decode cX5_withConflicts 46 = .ok (.aload_n 0, 1) := by decide +kernel
theorem dX5_withConflicts_47 : decode cX5_withConflicts 47 = .ok (.iload 6, 2) := by decide +kernel
theorem dX5_withConflicts_49 : decode cX5_withConflicts 49 = .ok (.iload 7, 2) := by decide +kernel
theorem dX5_withConflicts_51 : decode cX5_withConflicts 51 = .ok (.invokevirtual 402, 3) := by decide +kernel
theorem dX5_withConflicts_54 : decode cX5_withConflicts 54 = .ok (.i2l, 1) := by decide +kernel
theorem dX5_withConflicts_55 : decode cX5_withConflicts 55 = .ok (.ladd, 1) := by decide +kernel
theorem dX5_withConflicts_56 : decode cX5_withConflicts 56 = .ok (.lstore_n 3, 1) := by decide +kernel
theorem dX5_withConflicts_57 : decode cX5_withConflicts 57 = .ok (.iinc 7 1, 3) := by decide +kernel
theorem dX5_withConflicts_60 : decode cX5_withConflicts 60 = .ok (.goto (-25), 3) := by decide +kernel
theorem dX5_withConflicts_63 : decode cX5_withConflicts 63 = .ok (.iinc 6 1, 3) := by decide +kernel
theorem dX5_withConflicts_66 : decode cX5_withConflicts 66 = .ok (.goto (-55), 3) := by decide +kernel
theorem dX5_withConflicts_69 : decode cX5_withConflicts 69 = .ok (.lload_n 3, 1) := by decide +kernel
theorem dX5_withConflicts_70 : decode cX5_withConflicts 70 = .ok (.lreturn, 1) := by decide +kernel
theorem dX5_needFile_0 : decode cX5_needFile 0 = .ok (.iload_n 0, 1) := by decide +kernel
theorem dX5_needFile_1 : decode cX5_needFile 1 = .ok (.ifCond .lt 9, 3) := by decide +kernel
theorem dX5_needFile_4 : decode cX5_needFile 4 = .ok (.iload_n 0, 1) := by decide +kernel
theorem dX5_needFile_5 : decode cX5_needFile 5 = .ok (.bipush 8, 2) := by decide +kernel
theorem dX5_needFile_7 : decode cX5_needFile 7 = .ok (.if_icmp .lt 14, 3) := by decide +kernel
theorem dX5_needFile_10 : decode cX5_needFile 10 = .ok (.new 405, 3) := by decide +kernel
theorem dX5_needFile_13 : decode cX5_needFile 13 = .ok (.dup, 1) := by decide +kernel
theorem dX5_needFile_14 : decode cX5_needFile 14 = .ok (.ldc_w 407, 3) := by decide +kernel
theorem dX5_needFile_17 : decode cX5_needFile 17 = .ok (.invokespecial 409, 3) := by decide +kernel
theorem dX5_needFile_20 : decode cX5_needFile 20 = .ok (.athrow, 1) := by decide +kernel
theorem dX5_needFile_21 : decode cX5_needFile 21 = .ok (.return_, 1) := by decide +kernel
theorem dX5_needNumber_0 : decode cX5_needNumber 0 = .ok (.iload_n 0, 1) := by decide +kernel
theorem dX5_needNumber_1 : decode cX5_needNumber 1 = .ok (.ifCond .lt 10, 3) := by decide +kernel
theorem dX5_needNumber_4 : decode cX5_needNumber 4 = .ok (.iload_n 0, 1) := by decide +kernel
theorem dX5_needNumber_5 : decode cX5_needNumber 5 = .ok (.sipush 999, 3) := by decide +kernel
theorem dX5_needNumber_8 : decode cX5_needNumber 8 = .ok (.if_icmp .le 14, 3) := by decide +kernel
theorem dX5_needNumber_11 : decode cX5_needNumber 11 = .ok (.new 159, 3) := by decide +kernel
theorem dX5_needNumber_14 : decode cX5_needNumber 14 = .ok (.dup, 1) := by decide +kernel
theorem dX5_needNumber_15 : decode cX5_needNumber 15 = .ok (.ldc_w 410, 3) := by decide +kernel
theorem dX5_needNumber_18 : decode cX5_needNumber 18 = .ok (.invokespecial 163, 3) := by decide +kernel
theorem dX5_needNumber_21 : decode cX5_needNumber 21 = .ok (.athrow, 1) := by decide +kernel
theorem dX5_needNumber_22 : decode cX5_needNumber 22 = .ok (.return_, 1) := by decide +kernel
theorem dX5_needPlace_0 : decode cX5_needPlace 0 = .ok (.iload_n 0, 1) := by decide +kernel
theorem dX5_needPlace_1 : decode cX5_needPlace 1 = .ok (.ifCond .lt 8, 3) := by decide +kernel
theorem dX5_needPlace_4 : decode cX5_needPlace 4 = .ok (.iload_n 0, 1) := by decide +kernel
theorem dX5_needPlace_5 : decode cX5_needPlace 5 = .ok (.iload_n 1, 1) := by decide +kernel
theorem dX5_needPlace_6 : decode cX5_needPlace 6 = .ok (.if_icmp .lt 14, 3) := by decide +kernel
theorem dX5_needPlace_9 : decode cX5_needPlace 9 = .ok (.new 405, 3) := by decide +kernel
theorem dX5_needPlace_12 : decode cX5_needPlace 12 = .ok (.dup, 1) := by decide +kernel
theorem dX5_needPlace_13 : decode cX5_needPlace 13 = .ok (.ldc_w 412, 3) := by decide +kernel
theorem dX5_needPlace_16 : decode cX5_needPlace 16 = .ok (.invokespecial 409, 3) := by decide +kernel
theorem dX5_needPlace_19 : decode cX5_needPlace 19 = .ok (.athrow, 1) := by decide +kernel
theorem dX5_needPlace_20 : decode cX5_needPlace 20 = .ok (.return_, 1) := by decide +kernel
theorem dX5_needSide_0 : decode cX5_needSide 0 = .ok (.iload_n 0, 1) := by decide +kernel
theorem dX5_needSide_1 : decode cX5_needSide 1 = .ok (.ifCond .lt 8, 3) := by decide +kernel
theorem dX5_needSide_4 : decode cX5_needSide 4 = .ok (.iload_n 0, 1) := by decide +kernel
theorem dX5_needSide_5 : decode cX5_needSide 5 = .ok (.iconst 3, 1) := by decide +kernel
theorem dX5_needSide_6 : decode cX5_needSide 6 = .ok (.if_icmp .lt 14, 3) := by decide +kernel
theorem dX5_needSide_9 : decode cX5_needSide 9 = .ok (.new 405, 3) := by decide +kernel
theorem dX5_needSide_12 : decode cX5_needSide 12 = .ok (.dup, 1) := by decide +kernel
theorem dX5_needSide_13 : decode cX5_needSide 13 = .ok (.ldc_w 414, 3) := by decide +kernel
theorem dX5_needSide_16 : decode cX5_needSide 16 = .ok (.invokespecial 409, 3) := by decide +kernel
theorem dX5_needSide_19 : decode cX5_needSide 19 = .ok (.athrow, 1) := by decide +kernel
theorem dX5_needSide_20 : decode cX5_needSide 20 = .ok (.return_, 1) := by decide +kernel
theorem dX5_needDeskPlace_0 : decode cX5_needDeskPlace 0 = .ok (.iload_n 2, 1) := by decide +kernel
theorem dX5_needDeskPlace_1 : decode cX5_needDeskPlace 1 = .ok (.ifCond .lt 15, 3) := by decide +kernel
theorem dX5_needDeskPlace_4 : decode cX5_needDeskPlace 4 = .ok (.iload_n 2, 1) := by decide +kernel
theorem dX5_needDeskPlace_5 : decode cX5_needDeskPlace 5 = .ok (.aload_n 0, 1) := by decide +kernel
theorem dX5_needDeskPlace_6 : decode cX5_needDeskPlace 6 = .ok (.getfield 10, 3) := by decide +kernel
theorem dX5_needDeskPlace_9 : decode cX5_needDeskPlace 9 = .ok (.iload_n 1, 1) := by decide +kernel
theorem dX5_needDeskPlace_10 : decode cX5_needDeskPlace 10 = .ok (.invokevirtual 96, 3) := by decide +kernel
theorem dX5_needDeskPlace_13 : decode cX5_needDeskPlace 13 = .ok (.if_icmp .lt 14, 3) := by decide +kernel
theorem dX5_needDeskPlace_16 : decode cX5_needDeskPlace 16 = .ok (.new 82, 3) := by decide +kernel
theorem dX5_needDeskPlace_19 : decode cX5_needDeskPlace 19 = .ok (.dup, 1) := by decide +kernel
theorem dX5_needDeskPlace_20 : decode cX5_needDeskPlace 20 = .ok (.ldc_w 416, 3) := by decide +kernel
theorem dX5_needDeskPlace_23 : decode cX5_needDeskPlace 23 = .ok (.invokespecial 86, 3) := by decide +kernel
theorem dX5_needDeskPlace_26 : decode cX5_needDeskPlace 26 = .ok (.athrow, 1) := by decide +kernel
theorem dX5_needDeskPlace_27 : decode cX5_needDeskPlace 27 = .ok (.return_, 1) := by decide +kernel
theorem dX5_needThere_0 : decode cX5_needThere 0 = .ok (.aload_n 0, 1) := by decide +kernel
theorem dX5_needThere_1 : decode cX5_needThere 1 = .ok (.getfield 19, 3) := by decide +kernel
theorem dX5_needThere_4 : decode cX5_needThere 4 = .ok (.iload_n 1, 1) := by decide +kernel
theorem dX5_needThere_5 : decode cX5_needThere 5 = .ok (.invokevirtual 289, 3) := by decide +kernel
theorem dX5_needThere_8 : decode cX5_needThere 8 = .ok (.ifCond .ne 14, 3) := by decide +kernel
theorem dX5_needThere_11 : decode cX5_needThere 11 = .ok (.new 405, 3) := by decide +kernel
theorem dX5_needThere_14 : decode cX5_needThere 14 = .ok (.dup, 1) := by decide +kernel
theorem dX5_needThere_15 : decode cX5_needThere 15 = .ok (.ldc_w 418, 3) := by decide +kernel
theorem dX5_needThere_18 : decode cX5_needThere 18 = .ok (.invokespecial 409, 3) := by decide +kernel
theorem dX5_needThere_21 : decode cX5_needThere 21 = .ok (.athrow, 1) := by decide +kernel
theorem dX5_needThere_22 : decode cX5_needThere 22 = .ok (.return_, 1) := by decide +kernel
theorem dX5_needBoth_0 : decode cX5_needBoth 0 = .ok (.aload_n 0, 1) := by decide +kernel
theorem dX5_needBoth_1 : decode cX5_needBoth 1 = .ok (.iload_n 1, 1) := by decide +kernel
theorem dX5_needBoth_2 : decode cX5_needBoth 2 = .ok (.invokevirtual 191, 3) := by decide +kernel
theorem dX5_needBoth_5 : decode cX5_needBoth 5 = .ok (.aload_n 0, 1) := by decide +kernel
theorem dX5_needBoth_6 : decode cX5_needBoth 6 = .ok (.iload_n 2, 1) := by decide +kernel
theorem dX5_needBoth_7 : decode cX5_needBoth 7 = .ok (.invokevirtual 191, 3) := by decide +kernel
theorem dX5_needBoth_10 : decode cX5_needBoth 10 = .ok (.return_, 1) := by decide +kernel
theorem dX5_needLine_0 : decode cX5_needLine 0 = .ok (.aload_n 0, 1) := by decide +kernel
theorem dX5_needLine_1 : decode cX5_needLine 1 = .ok (.iload_n 1, 1) := by decide +kernel
theorem dX5_needLine_2 : decode cX5_needLine 2 = .ok (.invokevirtual 191, 3) := by decide +kernel
theorem dX5_needLine_5 : decode cX5_needLine 5 = .ok (.iload_n 2, 1) := by decide +kernel
theorem dX5_needLine_6 : decode cX5_needLine 6 = .ok (.invokestatic 71, 3) := by decide +kernel
theorem dX5_needLine_9 : decode cX5_needLine 9 = .ok (.iload_n 3, 1) := by decide +kernel
theorem dX5_needLine_10 : decode cX5_needLine 10 = .ok (.aload_n 0, 1) := by decide +kernel
theorem dX5_needLine_11 : decode cX5_needLine 11 = .ok (.iload_n 1, 1) := by decide +kernel
theorem dX5_needLine_12 : decode cX5_needLine 12 = .ok (.invokevirtual 131, 3) := by decide +kernel
theorem dX5_needLine_15 : decode cX5_needLine 15 = .ok (.iload_n 2, 1) := by decide +kernel
theorem dX5_needLine_16 : decode cX5_needLine 16 = .ok (.invokevirtual 96, 3) := by decide +kernel
theorem dX5_needLine_19 : decode cX5_needLine 19 = .ok (.invokestatic 280, 3) := by decide +kernel
theorem dX5_needLine_22 : decode cX5_needLine 22 = .ok (.return_, 1) := by decide +kernel
theorem dX5_needBranch_0 : decode cX5_needBranch 0 = .ok (.aload_n 0, 1) := by decide +kernel
theorem dX5_needBranch_1 : decode cX5_needBranch 1 = .ok (.iload_n 1, 1) := by decide +kernel
theorem dX5_needBranch_2 : decode cX5_needBranch 2 = .ok (.invokevirtual 164, 3) := by decide +kernel
theorem dX5_needBranch_5 : decode cX5_needBranch 5 = .ok (.bipush (-2), 2) := by decide +kernel
theorem dX5_needBranch_7 : decode cX5_needBranch 7 = .ok (.if_icmp .ne 14, 3) := by decide +kernel
theorem dX5_needBranch_10 : decode cX5_needBranch 10 = .ok (.new 405, 3) := by decide +kernel
theorem dX5_needBranch_13 : decode cX5_needBranch 13 = .ok (.dup, 1) := by decide +kernel
theorem dX5_needBranch_14 : decode cX5_needBranch 14 = .ok (.ldc_w 420, 3) := by decide +kernel
theorem dX5_needBranch_17 : decode cX5_needBranch 17 = .ok (.invokespecial 409, 3) := by decide +kernel
theorem dX5_needBranch_20 : decode cX5_needBranch 20 = .ok (.athrow, 1) := by decide +kernel
theorem dX5_needBranch_21 : decode cX5_needBranch 21 = .ok (.return_, 1) := by decide +kernel
theorem dX5_needConflict_0 : decode cX5_needConflict 0 = .ok (.iload_n 1, 1) := by decide +kernel
theorem dX5_needConflict_1 : decode cX5_needConflict 1 = .ok (.ifCond .lt 11, 3) := by decide +kernel
theorem dX5_needConflict_4 : decode cX5_needConflict 4 = .ok (.iload_n 1, 1) := by decide +kernel
theorem dX5_needConflict_5 : decode cX5_needConflict 5 = .ok (.aload_n 0, 1) := by decide +kernel
theorem dX5_needConflict_6 : decode cX5_needConflict 6 = .ok (.invokevirtual 360, 3) := by decide +kernel
theorem dX5_needConflict_9 : decode cX5_needConflict 9 = .ok (.if_icmp .lt 14, 3) := by decide +kernel
theorem dX5_needConflict_12 : decode cX5_needConflict 12 = .ok (.new 405, 3) := by decide +kernel
theorem dX5_needConflict_15 : decode cX5_needConflict 15 = .ok (.dup, 1) := by decide +kernel
theorem dX5_needConflict_16 : decode cX5_needConflict 16 = .ok (.ldc_w 422, 3) := by decide +kernel
theorem dX5_needConflict_19 : decode cX5_needConflict 19 = .ok (.invokespecial 409, 3) := by decide +kernel
theorem dX5_needConflict_22 : decode cX5_needConflict 22 = .ok (.athrow, 1) := by decide +kernel
theorem dX5_needConflict_23 : decode cX5_needConflict 23 = .ok (.return_, 1) := by decide +kernel
theorem dX5_needNoWork_0 : decode cX5_needNoWork 0 = .ok (.aload_n 0, 1) := by decide +kernel
theorem dX5_needNoWork_1 : decode cX5_needNoWork 1 = .ok (.getfield 49, 3) := by decide +kernel
theorem dX5_needNoWork_4 : decode cX5_needNoWork 4 = .ok (.ifCond .eq 14, 3) := by decide +kernel
theorem dX5_needNoWork_7 : decode cX5_needNoWork 7 = .ok (.new 82, 3) := by decide +kernel
theorem dX5_needNoWork_10 : decode cX5_needNoWork 10 = .ok (.dup, 1) := by decide +kernel
theorem dX5_needNoWork_11 : decode cX5_needNoWork 11 = .ok (.ldc_w 424, 3) := by decide +kernel
theorem dX5_needNoWork_14 : decode cX5_needNoWork 14 = .ok (.invokespecial 86, 3) := by decide +kernel
theorem dX5_needNoWork_17 : decode cX5_needNoWork 17 = .ok (.athrow, 1) := by decide +kernel
theorem dX5_needNoWork_18 : decode cX5_needNoWork 18 = .ok (.return_, 1) := by decide +kernel
theorem dX5_needWork_0 : decode cX5_needWork 0 = .ok (.aload_n 0, 1) := by decide +kernel
theorem dX5_needWork_1 : decode cX5_needWork 1 = .ok (.getfield 49, 3) := by decide +kernel
theorem dX5_needWork_4 : decode cX5_needWork 4 = .ok (.ifCond .ne 14, 3) := by decide +kernel
theorem dX5_needWork_7 : decode cX5_needWork 7 = .ok (.new 82, 3) := by decide +kernel
theorem dX5_needWork_10 : decode cX5_needWork 10 = .ok (.dup, 1) := by decide +kernel
theorem dX5_needWork_11 : decode cX5_needWork 11 = .ok (.ldc_w 426, 3) := by decide +kernel
theorem dX5_needWork_14 : decode cX5_needWork 14 = .ok (.invokespecial 86, 3) := by decide +kernel
theorem dX5_needWork_17 : decode cX5_needWork 17 = .ok (.athrow, 1) := by decide +kernel
theorem dX5_needWork_18 : decode cX5_needWork 18 = .ok (.return_, 1) := by decide +kernel
theorem dX5_needRoom_0 : decode cX5_needRoom 0 = .ok (.aload_n 0, 1) := by decide +kernel
theorem dX5_needRoom_1 : decode cX5_needRoom 1 = .ok (.getfield 19, 3) := by decide +kernel
theorem dX5_needRoom_4 : decode cX5_needRoom 4 = .ok (.getfield 286, 3) := by decide +kernel
theorem dX5_needRoom_7 : decode cX5_needRoom 7 = .ok (.iload_n 1, 1) := by decide +kernel
theorem dX5_needRoom_8 : decode cX5_needRoom 8 = .ok (.iadd, 1) := by decide +kernel
theorem dX5_needRoom_9 : decode cX5_needRoom 9 = .ok (.bipush 60, 2) := by decide +kernel
theorem dX5_needRoom_11 : decode cX5_needRoom 11 = .ok (.if_icmp .le 14, 3) := by decide +kernel
theorem dX5_needRoom_14 : decode cX5_needRoom 14 = .ok (.new 82, 3) := by decide +kernel
theorem dX5_needRoom_17 : decode cX5_needRoom 17 = .ok (.dup, 1) := by decide +kernel
theorem dX5_needRoom_18 : decode cX5_needRoom 18 = .ok (.ldc_w 428, 3) := by decide +kernel
theorem dX5_needRoom_21 : decode cX5_needRoom 21 = .ok (.invokespecial 86, 3) := by decide +kernel
theorem dX5_needRoom_24 : decode cX5_needRoom 24 = .ok (.athrow, 1) := by decide +kernel
theorem dX5_needRoom_25 : decode cX5_needRoom 25 = .ok (.return_, 1) := by decide +kernel
theorem dX5_needReady_0 : decode cX5_needReady 0 = .ok (.aload_n 0, 1) := by decide +kernel
theorem dX5_needReady_1 : decode cX5_needReady 1 = .ok (.invokevirtual 75, 3) := by decide +kernel
theorem dX5_needReady_4 : decode cX5_needReady 4 = .ok (.aload_n 0, 1) := by decide +kernel
theorem dX5_needReady_5 : decode cX5_needReady 5 = .ok (.invokevirtual 128, 3) := by decide +kernel
theorem dX5_needReady_8 : decode cX5_needReady 8 = .ok (.iconst (-1), 1) := by decide +kernel
theorem dX5_needReady_9 : decode cX5_needReady 9 = .ok (.if_icmp .eq 10, 3) := by decide +kernel
theorem dX5_needReady_12 : decode cX5_needReady 12 = .ok (.aload_n 0, 1) := by decide +kernel
theorem dX5_needReady_13 : decode cX5_needReady 13 = .ok (.invokevirtual 146, 3) := by decide +kernel
theorem dX5_needReady_16 : decode cX5_needReady 16 = .ok (.ifCond .ne 14, 3) := by decide +kernel
theorem dX5_needReady_19 : decode cX5_needReady 19 = .ok (.new 82, 3) := by decide +kernel
theorem dX5_needReady_22 : decode cX5_needReady 22 = .ok (.dup, 1) := by decide +kernel
theorem dX5_needReady_23 : decode cX5_needReady 23 = .ok (.ldc_w 430, 3) := by decide +kernel
theorem dX5_needReady_26 : decode cX5_needReady 26 = .ok (.invokespecial 86, 3) := by decide +kernel
theorem dX5_needReady_29 : decode cX5_needReady 29 = .ok (.athrow, 1) := by decide +kernel
theorem dX5_needReady_30 : decode cX5_needReady 30 = .ok (.return_, 1) := by decide +kernel
theorem dX5_needReadyFor_0 : decode cX5_needReadyFor 0 = .ok (.aload_n 0, 1) := by decide +kernel
theorem dX5_needReadyFor_1 : decode cX5_needReadyFor 1 = .ok (.invokevirtual 212, 3) := by decide +kernel
theorem dX5_needReadyFor_4 : decode cX5_needReadyFor 4 = .ok (.aload_n 0, 1) := by decide +kernel
theorem dX5_needReadyFor_5 : decode cX5_needReadyFor 5 = .ok (.iload_n 1, 1) := by decide +kernel
theorem dX5_needReadyFor_6 : decode cX5_needReadyFor 6 = .ok (.invokevirtual 164, 3) := by decide +kernel
theorem dX5_needReadyFor_9 : decode cX5_needReadyFor 9 = .ok (.iconst (-1), 1) := by decide +kernel
theorem dX5_needReadyFor_10 : decode cX5_needReadyFor 10 = .ok (.if_icmp .ne 14, 3) := by decide +kernel
theorem dX5_needReadyFor_13 : decode cX5_needReadyFor 13 = .ok (.new 82, 3) := by decide +kernel
theorem dX5_needReadyFor_16 : decode cX5_needReadyFor 16 = .ok (.dup, 1) := by decide +kernel
theorem dX5_needReadyFor_17 : decode cX5_needReadyFor 17 = .ok (.ldc_w 432, 3) := by decide +kernel
theorem dX5_needReadyFor_20 : decode cX5_needReadyFor 20 = .ok (.invokespecial 86, 3) := by decide +kernel
theorem dX5_needReadyFor_23 : decode cX5_needReadyFor 23 = .ok (.athrow, 1) := by decide +kernel
theorem dX5_needReadyFor_24 : decode cX5_needReadyFor 24 = .ok (.return_, 1) := by decide +kernel
theorem dX5_greatestOf_0 : decode cX5_greatestOf 0 = .ok (.bipush 59, 2) := by decide +kernel
theorem dX5_greatestOf_2 : decode cX5_greatestOf 2 = .ok (.istore_n 2, 1) := by decide +kernel
theorem dX5_greatestOf_3 : decode cX5_greatestOf 3 = .ok (.iload_n 2, 1) := by decide +kernel
theorem dX5_greatestOf_4 : decode cX5_greatestOf 4 = .ok (.ifCond .lt 21, 3) := by decide +kernel
theorem dX5_greatestOf_7 : decode cX5_greatestOf 7 = .ok (.lload_n 0, 1) := by decide +kernel
theorem dX5_greatestOf_8 : decode cX5_greatestOf 8 = .ok (.lconst 1, 1) := by decide +kernel
theorem dX5_greatestOf_9 : decode cX5_greatestOf 9 = .ok (.iload_n 2, 1) := by decide +kernel
theorem dX5_greatestOf_10 : decode cX5_greatestOf 10 = .ok (.lshl, 1) := by decide +kernel
theorem dX5_greatestOf_11 : decode cX5_greatestOf 11 = .ok (.land, 1) := by decide +kernel
theorem dX5_greatestOf_12 : decode cX5_greatestOf 12 = .ok (.lconst 0, 1) := by decide +kernel
theorem dX5_greatestOf_13 : decode cX5_greatestOf 13 = .ok (.lcmp, 1) := by decide +kernel
theorem dX5_greatestOf_14 : decode cX5_greatestOf 14 = .ok (.ifCond .eq 5, 3) := by decide +kernel
theorem dX5_greatestOf_17 : decode cX5_greatestOf 17 = .ok (.iload_n 2, 1) := by decide +kernel
theorem dX5_greatestOf_18 : decode cX5_greatestOf 18 = .ok (.ireturn, 1) := by decide +kernel
theorem dX5_greatestOf_19 : decode cX5_greatestOf 19 = .ok (.iinc 2 (-1), 3) := by decide +kernel
theorem dX5_greatestOf_22 : decode cX5_greatestOf 22 = .ok (.goto (-19), 3) := by decide +kernel
theorem dX5_greatestOf_25 : decode cX5_greatestOf 25 = .ok (.iconst (-1), 1) := by decide +kernel
theorem dX5_greatestOf_26 : decode cX5_greatestOf 26 = .ok (.ireturn, 1) := by decide +kernel
theorem dX5_headCommit_0 : decode cX5_headCommit 0 = .ok (.aload_n 0, 1) := by decide +kernel
theorem dX5_headCommit_1 : decode cX5_headCommit 1 = .ok (.aload_n 0, 1) := by decide +kernel
theorem dX5_headCommit_2 : decode cX5_headCommit 2 = .ok (.getfield 27, 3) := by decide +kernel
theorem dX5_headCommit_5 : decode cX5_headCommit 5 = .ok (.invokevirtual 164, 3) := by decide +kernel
theorem dX5_headCommit_8 : decode cX5_headCommit 8 = .ok (.ireturn, 1) := by decide +kernel
theorem dX5_treeOf_0 : decode cX5_treeOf 0 = .ok (.aload_n 0, 1) := by decide +kernel
theorem dX5_treeOf_1 : decode cX5_treeOf 1 = .ok (.getfield 19, 3) := by decide +kernel
theorem dX5_treeOf_4 : decode cX5_treeOf 4 = .ok (.iload_n 1, 1) := by decide +kernel
theorem dX5_treeOf_5 : decode cX5_treeOf 5 = .ok (.invokevirtual 225, 3) := by decide +kernel
theorem dX5_treeOf_8 : decode cX5_treeOf 8 = .ok (.getfield 434, 3) := by decide +kernel
theorem dX5_treeOf_11 : decode cX5_treeOf 11 = .ok (.areturn, 1) := by decide +kernel
theorem dX5_parentTreeOf_0 : decode cX5_parentTreeOf 0 = .ok (.aload_n 0, 1) := by decide +kernel
theorem dX5_parentTreeOf_1 : decode cX5_parentTreeOf 1 = .ok (.aload_n 0, 1) := by decide +kernel
theorem dX5_parentTreeOf_2 : decode cX5_parentTreeOf 2 = .ok (.getfield 19, 3) := by decide +kernel
theorem dX5_parentTreeOf_5 : decode cX5_parentTreeOf 5 = .ok (.iload_n 1, 1) := by decide +kernel
theorem dX5_parentTreeOf_6 : decode cX5_parentTreeOf 6 = .ok (.invokevirtual 225, 3) := by decide +kernel
theorem dX5_parentTreeOf_9 : decode cX5_parentTreeOf 9 = .ok (.getfield 295, 3) := by decide +kernel
theorem dX5_parentTreeOf_12 : decode cX5_parentTreeOf 12 = .ok (.invokevirtual 131, 3) := by decide +kernel
theorem dX5_parentTreeOf_15 : decode cX5_parentTreeOf 15 = .ok (.areturn, 1) := by decide +kernel
theorem dX5_setTip_0 : decode cX5_setTip 0 = .ok (.iload_n 1, 1) := by decide +kernel
theorem dX5_setTip_1 : decode cX5_setTip 1 = .ok (.ifCond .lt 16, 3) := by decide +kernel
theorem dX5_setTip_4 : decode cX5_setTip 4 = .ok (.iload_n 1, 1) := by decide +kernel
theorem dX5_setTip_5 : decode cX5_setTip 5 = .ok (.bipush 8, 2) := by decide +kernel
theorem dX5_setTip_7 : decode cX5_setTip 7 = .ok (.if_icmp .ge 10, 3) := by decide +kernel
theorem dX5_setTip_10 : decode cX5_setTip 10 = .ok (.aload_n 0, 1) := by decide +kernel
theorem dX5_setTip_11 : decode cX5_setTip 11 = .ok (.getfield 23, 3) := by decide +kernel
theorem dX5_setTip_14 : decode cX5_setTip 14 = .ok (.iload_n 1, 1) := by decide +kernel
theorem dX5_setTip_15 : decode cX5_setTip 15 = .ok (.iload_n 2, 1) := by decide +kernel
theorem dX5_setTip_16 : decode cX5_setTip 16 = .ok (.iastore, 1) := by decide +kernel
theorem dX5_setTip_17 : decode cX5_setTip 17 = .ok (.return_, 1) := by decide +kernel
theorem dX5_moveHead_0 : decode cX5_moveHead 0 = .ok (.aload_n 0, 1) := by decide +kernel
theorem dX5_moveHead_1 : decode cX5_moveHead 1 = .ok (.aload_n 0, 1) := by decide +kernel
theorem dX5_moveHead_2 : decode cX5_moveHead 2 = .ok (.getfield 27, 3) := by decide +kernel
theorem dX5_moveHead_5 : decode cX5_moveHead 5 = .ok (.iload_n 1, 1) := by decide +kernel
theorem dX5_moveHead_6 : decode cX5_moveHead 6 = .ok (.invokevirtual 156, 3) := by decide +kernel
theorem dX5_moveHead_9 : decode cX5_moveHead 9 = .ok (.aload_n 0, 1) := by decide +kernel
theorem dX5_moveHead_10 : decode cX5_moveHead 10 = .ok (.getfield 10, 3) := by decide +kernel
theorem dX5_moveHead_13 : decode cX5_moveHead 13 = .ok (.aload_n 0, 1) := by decide +kernel
theorem dX5_moveHead_14 : decode cX5_moveHead 14 = .ok (.iload_n 1, 1) := by decide +kernel
theorem dX5_moveHead_15 : decode cX5_moveHead 15 = .ok (.invokevirtual 131, 3) := by decide +kernel
theorem dX5_moveHead_18 : decode cX5_moveHead 18 = .ok (.invokevirtual 139, 3) := by decide +kernel
theorem dX5_moveHead_21 : decode cX5_moveHead 21 = .ok (.return_, 1) := by decide +kernel
theorem dX5_branchCount_0 : decode cX5_branchCount 0 = .ok (.iconst 0, 1) := by decide +kernel
theorem dX5_branchCount_1 : decode cX5_branchCount 1 = .ok (.istore_n 1, 1) := by decide +kernel
theorem dX5_branchCount_2 : decode cX5_branchCount 2 = .ok (.iconst 0, 1) := by decide +kernel
theorem dX5_branchCount_3 : decode cX5_branchCount 3 = .ok (.istore_n 2, 1) := by decide +kernel
theorem dX5_branchCount_4 : decode cX5_branchCount 4 = .ok (.iload_n 2, 1) := by decide +kernel
theorem dX5_branchCount_5 : decode cX5_branchCount 5 = .ok (.bipush 8, 2) := by decide +kernel
theorem dX5_branchCount_7 : decode cX5_branchCount 7 = .ok (.if_icmp .ge 23, 3) := by decide +kernel
theorem dX5_branchCount_10 : decode cX5_branchCount 10 = .ok (.aload_n 0, 1) := by decide +kernel
theorem dX5_branchCount_11 : decode cX5_branchCount 11 = .ok (.getfield 23, 3) := by decide +kernel
theorem dX5_branchCount_14 : decode cX5_branchCount 14 = .ok (.iload_n 2, 1) := by decide +kernel
theorem dX5_branchCount_15 : decode cX5_branchCount 15 = .ok (.iaload, 1) := by decide +kernel
theorem dX5_branchCount_16 : decode cX5_branchCount 16 = .ok (.bipush (-2), 2) := by decide +kernel
theorem dX5_branchCount_18 : decode cX5_branchCount 18 = .ok (.if_icmp .eq 6, 3) := by decide +kernel
theorem dX5_branchCount_21 : decode cX5_branchCount 21 = .ok (.iinc 1 1, 3) := by decide +kernel
theorem dX5_branchCount_24 : decode cX5_branchCount 24 = .ok (.iinc 2 1, 3) := by decide +kernel
theorem dX5_branchCount_27 : decode cX5_branchCount 27 = .ok (.goto (-23), 3) := by decide +kernel
theorem dX5_branchCount_30 : decode cX5_branchCount 30 = .ok (.iload_n 1, 1) := by decide +kernel
theorem dX5_branchCount_31 : decode cX5_branchCount 31 = .ok (.ireturn, 1) := by decide +kernel
theorem dX5_reached_0 : decode cX5_reached 0 = .ok (.lconst 0, 1) := by decide +kernel
theorem dX5_reached_1 : decode cX5_reached 1 = .ok (.lstore_n 1, 1) := by decide +kernel
theorem dX5_reached_2 : decode cX5_reached 2 = .ok (.iconst 0, 1) := by decide +kernel
theorem dX5_reached_3 : decode cX5_reached 3 = .ok (.istore_n 3, 1) := by decide +kernel
theorem dX5_reached_4 : decode cX5_reached 4 = .ok (.iload_n 3, 1) := by decide +kernel
theorem dX5_reached_5 : decode cX5_reached 5 = .ok (.bipush 8, 2) := by decide +kernel
theorem dX5_reached_7 : decode cX5_reached 7 = .ok (.if_icmp .ge 28, 3) := by decide +kernel
theorem dX5_reached_10 : decode cX5_reached 10 = .ok (.lload_n 1, 1) := by decide +kernel
theorem dX5_reached_11 : decode cX5_reached 11 = .ok (.aload_n 0, 1) := by decide +kernel
theorem dX5_reached_12 : decode cX5_reached 12 = .ok (.getfield 19, 3) := by decide +kernel
theorem dX5_reached_15 : decode cX5_reached 15 = .ok (.aload_n 0, 1) := by decide +kernel
theorem dX5_reached_16 : decode cX5_reached 16 = .ok (.getfield 23, 3) := by decide +kernel
theorem dX5_reached_19 : decode cX5_reached 19 = .ok (.iload_n 3, 1) := by decide +kernel
theorem dX5_reached_20 : decode cX5_reached 20 = .ok (.iaload, 1) := by decide +kernel
theorem dX5_reached_21 : decode cX5_reached 21 = .ok (.invokevirtual 225, 3) := by decide +kernel
theorem dX5_reached_24 : decode cX5_reached 24 = .ok (.getfield 234, 3) := by decide +kernel
theorem dX5_reached_27 : decode cX5_reached 27 = .ok (.lor, 1) := by decide +kernel
theorem dX5_reached_28 : decode cX5_reached 28 = .ok (.lstore_n 1, 1) := by decide +kernel
theorem dX5_reached_29 : decode cX5_reached 29 = .ok (.iinc 3 1, 3) := by decide +kernel
theorem dX5_reached_32 : decode cX5_reached 32 = .ok (.goto (-28), 3) := by decide +kernel
theorem dX5_reached_35 : decode cX5_reached 35 = .ok (.lload_n 1, 1) := by decide +kernel
theorem dX5_reached_36 : decode cX5_reached 36 = .ok (.lreturn, 1) := by decide +kernel
theorem dX5_placeBefore_0 : decode cX5_placeBefore 0 = .ok (.aload_n 0, 1) := by decide +kernel
theorem dX5_placeBefore_1 : decode cX5_placeBefore 1 = .ok (.getfield 34, 3) := by decide +kernel
theorem dX5_placeBefore_4 : decode cX5_placeBefore 4 = .ok (.aload_n 0, 1) := by decide +kernel
theorem dX5_placeBefore_5 : decode cX5_placeBefore 5 = .ok (.iload_n 1, 1) := by decide +kernel
theorem dX5_placeBefore_6 : decode cX5_placeBefore 6 = .ok (.invokevirtual 131, 3) := by decide +kernel
theorem dX5_placeBefore_9 : decode cX5_placeBefore 9 = .ok (.aload_n 2, 1) := by decide +kernel
theorem dX5_placeBefore_10 : decode cX5_placeBefore 10 = .ok (.getfield 434, 3) := by decide +kernel
theorem dX5_placeBefore_13 : decode cX5_placeBefore 13 = .ok (.iload_n 3, 1) := by decide +kernel
theorem dX5_placeBefore_14 : decode cX5_placeBefore 14 = .ok (.invokevirtual 310, 3) := by decide +kernel
theorem dX5_placeBefore_17 : decode cX5_placeBefore 17 = .ok (.aload_n 0, 1) := by decide +kernel
theorem dX5_placeBefore_18 : decode cX5_placeBefore 18 = .ok (.getfield 34, 3) := by decide +kernel
theorem dX5_placeBefore_21 : decode cX5_placeBefore 21 = .ok (.iload 4, 2) := by decide +kernel
theorem dX5_placeBefore_23 : decode cX5_placeBefore 23 = .ok (.invokevirtual 437, 3) := by decide +kernel
theorem dX5_placeBefore_26 : decode cX5_placeBefore 26 = .ok (.ireturn, 1) := by decide +kernel
theorem dX5_tryMerge_0 : decode cX5_tryMerge 0 = .ok (.aload_n 0, 1) := by decide +kernel
theorem dX5_tryMerge_1 : decode cX5_tryMerge 1 = .ok (.invokevirtual 128, 3) := by decide +kernel
theorem dX5_tryMerge_4 : decode cX5_tryMerge 4 = .ok (.istore_n 2, 1) := by decide +kernel
theorem dX5_tryMerge_5 : decode cX5_tryMerge 5 = .ok (.aload_n 0, 1) := by decide +kernel
theorem dX5_tryMerge_6 : decode cX5_tryMerge 6 = .ok (.getfield 19, 3) := by decide +kernel
theorem dX5_tryMerge_9 : decode cX5_tryMerge 9 = .ok (.iload_n 2, 1) := by decide +kernel
theorem dX5_tryMerge_10 : decode cX5_tryMerge 10 = .ok (.invokevirtual 225, 3) := by decide +kernel
theorem dX5_tryMerge_13 : decode cX5_tryMerge 13 = .ok (.iload_n 1, 1) := by decide +kernel
theorem dX5_tryMerge_14 : decode cX5_tryMerge 14 = .ok (.invokevirtual 229, 3) := by decide +kernel
theorem dX5_tryMerge_17 : decode cX5_tryMerge 17 = .ok (.ifCond .eq 5, 3) := by decide +kernel
theorem dX5_tryMerge_20 : decode cX5_tryMerge 20 = .ok (.iconst 0, 1) := by decide +kernel
theorem dX5_tryMerge_21 : decode cX5_tryMerge 21 = .ok (.ireturn, 1) := by decide +kernel
theorem dX5_tryMerge_22 : decode cX5_tryMerge 22 = .ok (.aload_n 0, 1) := by decide +kernel
theorem dX5_tryMerge_23 : decode cX5_tryMerge 23 = .ok (.getfield 19, 3) := by decide +kernel
theorem dX5_tryMerge_26 : decode cX5_tryMerge 26 = .ok (.iload_n 1, 1) := by decide +kernel
theorem dX5_tryMerge_27 : decode cX5_tryMerge 27 = .ok (.invokevirtual 225, 3) := by decide +kernel
theorem dX5_tryMerge_30 : decode cX5_tryMerge 30 = .ok (.iload_n 2, 1) := by decide +kernel
theorem dX5_tryMerge_31 : decode cX5_tryMerge 31 = .ok (.invokevirtual 229, 3) := by decide +kernel
theorem dX5_tryMerge_34 : decode cX5_tryMerge 34 = .ok (.ifCond .eq 5, 3) := by decide +kernel
theorem dX5_tryMerge_37 : decode cX5_tryMerge 37 = .ok (.iconst 1, 1) := by decide +kernel
theorem dX5_tryMerge_38 : decode cX5_tryMerge 38 = .ok (.ireturn, 1) := by decide +kernel
theorem dX5_tryMerge_39 : decode cX5_tryMerge 39 = .ok (.aload_n 0, 1) := by decide +kernel
theorem dX5_tryMerge_40 : decode cX5_tryMerge 40 = .ok (.getfield 41, 3) := by decide +kernel
theorem dX5_tryMerge_43 : decode cX5_tryMerge 43 = .ok (.aload_n 0, 1) := by decide +kernel
theorem dX5_tryMerge_44 : decode cX5_tryMerge 44 = .ok (.aload_n 0, 1) := by decide +kernel
theorem dX5_tryMerge_45 : decode cX5_tryMerge 45 = .ok (.getfield 19, 3) := by decide +kernel
theorem dX5_tryMerge_48 : decode cX5_tryMerge 48 = .ok (.iload_n 2, 1) := by decide +kernel
theorem dX5_tryMerge_49 : decode cX5_tryMerge 49 = .ok (.iload_n 1, 1) := by decide +kernel
theorem dX5_tryMerge_50 : decode cX5_tryMerge 50 = .ok (.invokevirtual 307, 3) := by decide +kernel
theorem dX5_tryMerge_53 : decode cX5_tryMerge 53 = .ok (.invokevirtual 131, 3) := by decide +kernel
theorem dX5_tryMerge_56 : decode cX5_tryMerge 56 = .ok (.aload_n 0, 1) := by decide +kernel
theorem dX5_tryMerge_57 : decode cX5_tryMerge 57 = .ok (.iload_n 2, 1) := by decide +kernel
theorem dX5_tryMerge_58 : decode cX5_tryMerge 58 = .ok (.invokevirtual 131, 3) := by decide +kernel
theorem dX5_tryMerge_61 : decode cX5_tryMerge 61 = .ok (.aload_n 0, 1) := by decide +kernel
theorem dX5_tryMerge_62 : decode cX5_tryMerge 62 = .ok (.iload_n 1, 1) := by decide +kernel
theorem dX5_tryMerge_63 : decode cX5_tryMerge 63 = .ok (.invokevirtual 131, 3) := by decide +kernel
theorem dX5_tryMerge_66 : decode cX5_tryMerge 66 = .ok (.invokevirtual 218, 3) := by decide +kernel
theorem dX5_tryMerge_69 : decode cX5_tryMerge 69 = .ok (.aload_n 0, 1) := by decide +kernel
theorem dX5_tryMerge_70 : decode cX5_tryMerge 70 = .ok (.getfield 41, 3) := by decide +kernel
theorem dX5_tryMerge_73 : decode cX5_tryMerge 73 = .ok (.invokevirtual 266, 3) := by decide +kernel
theorem dX5_tryMerge_76 : decode cX5_tryMerge 76 = .ok (.ifCond .le 7, 3) := by decide +kernel
theorem dX5_tryMerge_79 : decode cX5_tryMerge 79 = .ok (.iconst 3, 1) := by decide +kernel
theorem dX5_tryMerge_80 : decode cX5_tryMerge 80 = .ok (.goto 4, 3) := by decide +kernel
theorem dX5_tryMerge_83 : decode cX5_tryMerge 83 = .ok (.iconst 2, 1) := by decide +kernel
theorem dX5_tryMerge_84 : decode cX5_tryMerge 84 = .ok (.ireturn, 1) := by decide +kernel
theorem dX5_keepMerge_0 : decode cX5_keepMerge 0 = .ok (.aload_n 0, 1) := by decide +kernel
theorem dX5_keepMerge_1 : decode cX5_keepMerge 1 = .ok (.aload_n 0, 1) := by decide +kernel
theorem dX5_keepMerge_2 : decode cX5_keepMerge 2 = .ok (.getfield 19, 3) := by decide +kernel
theorem dX5_keepMerge_5 : decode cX5_keepMerge 5 = .ok (.aload_n 0, 1) := by decide +kernel
theorem dX5_keepMerge_6 : decode cX5_keepMerge 6 = .ok (.getfield 41, 3) := by decide +kernel
theorem dX5_keepMerge_9 : decode cX5_keepMerge 9 = .ok (.getfield 440, 3) := by decide +kernel
theorem dX5_keepMerge_12 : decode cX5_keepMerge 12 = .ok (.iconst 0, 1) := by decide +kernel
theorem dX5_keepMerge_13 : decode cX5_keepMerge 13 = .ok (.aload_n 0, 1) := by decide +kernel
theorem dX5_keepMerge_14 : decode cX5_keepMerge 14 = .ok (.invokevirtual 128, 3) := by decide +kernel
theorem dX5_keepMerge_17 : decode cX5_keepMerge 17 = .ok (.iload_n 1, 1) := by decide +kernel
theorem dX5_keepMerge_18 : decode cX5_keepMerge 18 = .ok (.invokevirtual 152, 3) := by decide +kernel
theorem dX5_keepMerge_21 : decode cX5_keepMerge 21 = .ok (.invokevirtual 194, 3) := by decide +kernel
theorem dX5_keepMerge_24 : decode cX5_keepMerge 24 = .ok (.return_, 1) := by decide +kernel
theorem dX5_waitWith_0 : decode cX5_waitWith 0 = .ok (.aload_n 0, 1) := by decide +kernel
theorem dX5_waitWith_1 : decode cX5_waitWith 1 = .ok (.iload_n 1, 1) := by decide +kernel
theorem dX5_waitWith_2 : decode cX5_waitWith 2 = .ok (.putfield 49, 3) := by decide +kernel
theorem dX5_waitWith_5 : decode cX5_waitWith 5 = .ok (.aload_n 0, 1) := by decide +kernel
theorem dX5_waitWith_6 : decode cX5_waitWith 6 = .ok (.aload_n 0, 1) := by decide +kernel
theorem dX5_waitWith_7 : decode cX5_waitWith 7 = .ok (.invokevirtual 128, 3) := by decide +kernel
theorem dX5_waitWith_10 : decode cX5_waitWith 10 = .ok (.putfield 52, 3) := by decide +kernel
theorem dX5_waitWith_13 : decode cX5_waitWith 13 = .ok (.aload_n 0, 1) := by decide +kernel
theorem dX5_waitWith_14 : decode cX5_waitWith 14 = .ok (.iload_n 2, 1) := by decide +kernel
theorem dX5_waitWith_15 : decode cX5_waitWith 15 = .ok (.putfield 55, 3) := by decide +kernel
theorem dX5_waitWith_18 : decode cX5_waitWith 18 = .ok (.return_, 1) := by decide +kernel
theorem dX5_keepOrWait_0 : decode cX5_keepOrWait 0 = .ok (.aload_n 0, 1) := by decide +kernel
theorem dX5_keepOrWait_1 : decode cX5_keepOrWait 1 = .ok (.getfield 41, 3) := by decide +kernel
theorem dX5_keepOrWait_4 : decode cX5_keepOrWait 4 = .ok (.invokevirtual 266, 3) := by decide +kernel
theorem dX5_keepOrWait_7 : decode cX5_keepOrWait 7 = .ok (.ifCond .le 11, 3) := by decide +kernel
theorem dX5_keepOrWait_10 : decode cX5_keepOrWait 10 = .ok (.aload_n 0, 1) := by decide +kernel
theorem dX5_keepOrWait_11 : decode cX5_keepOrWait 11 = .ok (.iload_n 1, 1) := by decide +kernel
theorem dX5_keepOrWait_12 : decode cX5_keepOrWait 12 = .ok (.iload_n 2, 1) := by decide +kernel
theorem dX5_keepOrWait_13 : decode cX5_keepOrWait 13 = .ok (.invokevirtual 209, 3) := by decide +kernel
theorem dX5_keepOrWait_16 : decode cX5_keepOrWait 16 = .ok (.iconst 3, 1) := by decide +kernel
theorem dX5_keepOrWait_17 : decode cX5_keepOrWait 17 = .ok (.ireturn, 1) := by decide +kernel
theorem dX5_keepOrWait_18 : decode cX5_keepOrWait 18 = .ok (.aload_n 0, 1) := by decide +kernel
theorem dX5_keepOrWait_19 : decode cX5_keepOrWait 19 = .ok (.iload_n 2, 1) := by decide +kernel
theorem dX5_keepOrWait_20 : decode cX5_keepOrWait 20 = .ok (.invokevirtual 263, 3) := by decide +kernel
theorem dX5_keepOrWait_23 : decode cX5_keepOrWait 23 = .ok (.ifCond .eq 7, 3) := by decide +kernel
theorem dX5_keepOrWait_26 : decode cX5_keepOrWait 26 = .ok (.iconst 2, 1) := by decide +kernel
theorem dX5_keepOrWait_27 : decode cX5_keepOrWait 27 = .ok (.goto 4, 3) := by decide +kernel
theorem dX5_keepOrWait_30 : decode cX5_keepOrWait 30 = .ok (.iconst 0, 1) := by decide +kernel
theorem dX5_keepOrWait_31 : decode cX5_keepOrWait 31 = .ok (.ireturn, 1) := by decide +kernel
theorem dX5_keepIfOther_0 : decode cX5_keepIfOther 0 = .ok (.aload_n 0, 1) := by decide +kernel
theorem dX5_keepIfOther_1 : decode cX5_keepIfOther 1 = .ok (.getfield 41, 3) := by decide +kernel
theorem dX5_keepIfOther_4 : decode cX5_keepIfOther 4 = .ok (.getfield 440, 3) := by decide +kernel
theorem dX5_keepIfOther_7 : decode cX5_keepIfOther 7 = .ok (.aload_n 0, 1) := by decide +kernel
theorem dX5_keepIfOther_8 : decode cX5_keepIfOther 8 = .ok (.aload_n 0, 1) := by decide +kernel
theorem dX5_keepIfOther_9 : decode cX5_keepIfOther 9 = .ok (.invokevirtual 128, 3) := by decide +kernel
theorem dX5_keepIfOther_12 : decode cX5_keepIfOther 12 = .ok (.invokevirtual 131, 3) := by decide +kernel
theorem dX5_keepIfOther_15 : decode cX5_keepIfOther 15 = .ok (.invokevirtual 135, 3) := by decide +kernel
theorem dX5_keepIfOther_18 : decode cX5_keepIfOther 18 = .ok (.ifCond .ne 5, 3) := by decide +kernel
theorem dX5_keepIfOther_21 : decode cX5_keepIfOther 21 = .ok (.iconst 0, 1) := by decide +kernel
theorem dX5_keepIfOther_22 : decode cX5_keepIfOther 22 = .ok (.ireturn, 1) := by decide +kernel
theorem dX5_keepIfOther_23 : decode cX5_keepIfOther 23 = .ok (.aload_n 0, 1) := by decide +kernel
theorem dX5_keepIfOther_24 : decode cX5_keepIfOther 24 = .ok (.aload_n 0, 1) := by decide +kernel
theorem dX5_keepIfOther_25 : decode cX5_keepIfOther 25 = .ok (.getfield 19, 3) := by decide +kernel
theorem dX5_keepIfOther_28 : decode cX5_keepIfOther 28 = .ok (.aload_n 0, 1) := by decide +kernel
theorem dX5_keepIfOther_29 : decode cX5_keepIfOther 29 = .ok (.getfield 41, 3) := by decide +kernel
theorem dX5_keepIfOther_32 : decode cX5_keepIfOther 32 = .ok (.getfield 440, 3) := by decide +kernel
theorem dX5_keepIfOther_35 : decode cX5_keepIfOther 35 = .ok (.aload_n 0, 1) := by decide +kernel
theorem dX5_keepIfOther_36 : decode cX5_keepIfOther 36 = .ok (.getfield 19, 3) := by decide +kernel
theorem dX5_keepIfOther_39 : decode cX5_keepIfOther 39 = .ok (.iload_n 1, 1) := by decide +kernel
theorem dX5_keepIfOther_40 : decode cX5_keepIfOther 40 = .ok (.invokevirtual 225, 3) := by decide +kernel
theorem dX5_keepIfOther_43 : decode cX5_keepIfOther 43 = .ok (.getfield 298, 3) := by decide +kernel
theorem dX5_keepIfOther_46 : decode cX5_keepIfOther 46 = .ok (.aload_n 0, 1) := by decide +kernel
theorem dX5_keepIfOther_47 : decode cX5_keepIfOther 47 = .ok (.invokevirtual 128, 3) := by decide +kernel
theorem dX5_keepIfOther_50 : decode cX5_keepIfOther 50 = .ok (.iconst (-1), 1) := by decide +kernel
theorem dX5_keepIfOther_51 : decode cX5_keepIfOther 51 = .ok (.invokevirtual 152, 3) := by decide +kernel
theorem dX5_keepIfOther_54 : decode cX5_keepIfOther 54 = .ok (.invokevirtual 194, 3) := by decide +kernel
theorem dX5_keepIfOther_57 : decode cX5_keepIfOther 57 = .ok (.iconst 1, 1) := by decide +kernel
theorem dX5_keepIfOther_58 : decode cX5_keepIfOther 58 = .ok (.ireturn, 1) := by decide +kernel
theorem dX5_carryQueue_0 : decode cX5_carryQueue 0 = .ok (.iconst 0, 1) := by decide +kernel
theorem dX5_carryQueue_1 : decode cX5_carryQueue 1 = .ok (.istore_n 1, 1) := by decide +kernel
theorem dX5_carryQueue_2 : decode cX5_carryQueue 2 = .ok (.iload_n 1, 1) := by decide +kernel
theorem dX5_carryQueue_3 : decode cX5_carryQueue 3 = .ok (.bipush 60, 2) := by decide +kernel
theorem dX5_carryQueue_5 : decode cX5_carryQueue 5 = .ok (.if_icmp .ge 109, 3) := by decide +kernel
theorem dX5_carryQueue_8 : decode cX5_carryQueue 8 = .ok (.lconst 1, 1) := by decide +kernel
theorem dX5_carryQueue_9 : decode cX5_carryQueue 9 = .ok (.iload_n 1, 1) := by decide +kernel
theorem dX5_carryQueue_10 : decode cX5_carryQueue 10 = .ok (.lshl, 1) := by decide +kernel
theorem dX5_carryQueue_11 : decode cX5_carryQueue 11 = .ok (.lstore_n 2, 1) := by decide +kernel
theorem dX5_carryQueue_12 : decode cX5_carryQueue 12 = .ok (.aload_n 0, 1) := by decide +kernel
theorem dX5_carryQueue_13 : decode cX5_carryQueue 13 = .ok (.getfield 58, 3) := by decide +kernel
theorem dX5_carryQueue_16 : decode cX5_carryQueue 16 = .ok (.lload_n 2, 1) := by decide +kernel
theorem dX5_carryQueue_17 : decode cX5_carryQueue 17 = .ok (.land, 1) := by decide +kernel
theorem dX5_carryQueue_18 : decode cX5_carryQueue 18 = .ok (.lconst 0, 1) := by decide +kernel
theorem dX5_carryQueue_19 : decode cX5_carryQueue 19 = .ok (.lcmp, 1) := by decide +kernel
theorem dX5_carryQueue_20 : decode cX5_carryQueue 20 = .ok (.ifCond .eq 88, 3) := by decide +kernel
theorem dX5_carryQueue_23 : decode cX5_carryQueue 23 = .ok (.aload_n 0, 1) := by decide +kernel
theorem dX5_carryQueue_24 : decode cX5_carryQueue 24 = .ok (.dup, 1) := by decide +kernel
theorem dX5_carryQueue_25 : decode cX5_carryQueue 25 = .ok (.getfield 58, 3) := by decide +kernel
theorem dX5_carryQueue_28 : decode cX5_carryQueue 28 = .ok (.lload_n 2, 1) := by decide +kernel
theorem dX5_carryQueue_29 : decode cX5_carryQueue 29 = .ok (.ldc2_w 183, 3) := by decide +kernel
theorem dX5_carryQueue_32 : decode cX5_carryQueue 32 = .ok (.lxor, 1) := by decide +kernel
theorem dX5_carryQueue_33 : decode cX5_carryQueue 33 = .ok (.land, 1) := by decide +kernel
theorem dX5_carryQueue_34 : decode cX5_carryQueue 34 = .ok (.putfield 58, 3) := by decide +kernel
theorem dX5_carryQueue_37 : decode cX5_carryQueue 37 = .ok (.aload_n 0, 1) := by decide +kernel
theorem dX5_carryQueue_38 : decode cX5_carryQueue 38 = .ok (.getfield 41, 3) := by decide +kernel
theorem dX5_carryQueue_41 : decode cX5_carryQueue 41 = .ok (.aload_n 0, 1) := by decide +kernel
theorem dX5_carryQueue_42 : decode cX5_carryQueue 42 = .ok (.iload_n 1, 1) := by decide +kernel
theorem dX5_carryQueue_43 : decode cX5_carryQueue 43 = .ok (.invokevirtual 215, 3) := by decide +kernel
theorem dX5_carryQueue_46 : decode cX5_carryQueue 46 = .ok (.aload_n 0, 1) := by decide +kernel
theorem dX5_carryQueue_47 : decode cX5_carryQueue 47 = .ok (.aload_n 0, 1) := by decide +kernel
theorem dX5_carryQueue_48 : decode cX5_carryQueue 48 = .ok (.invokevirtual 128, 3) := by decide +kernel
theorem dX5_carryQueue_51 : decode cX5_carryQueue 51 = .ok (.invokevirtual 131, 3) := by decide +kernel
theorem dX5_carryQueue_54 : decode cX5_carryQueue 54 = .ok (.aload_n 0, 1) := by decide +kernel
theorem dX5_carryQueue_55 : decode cX5_carryQueue 55 = .ok (.iload_n 1, 1) := by decide +kernel
theorem dX5_carryQueue_56 : decode cX5_carryQueue 56 = .ok (.invokevirtual 131, 3) := by decide +kernel
theorem dX5_carryQueue_59 : decode cX5_carryQueue 59 = .ok (.invokevirtual 218, 3) := by decide +kernel
theorem dX5_carryQueue_62 : decode cX5_carryQueue 62 = .ok (.aload_n 0, 1) := by decide +kernel
theorem dX5_carryQueue_63 : decode cX5_carryQueue 63 = .ok (.getfield 41, 3) := by decide +kernel
theorem dX5_carryQueue_66 : decode cX5_carryQueue 66 = .ok (.invokevirtual 266, 3) := by decide +kernel
theorem dX5_carryQueue_69 : decode cX5_carryQueue 69 = .ok (.ifCond .le 15, 3) := by decide +kernel
theorem dX5_carryQueue_72 : decode cX5_carryQueue 72 = .ok (.aload_n 0, 1) := by decide +kernel
theorem dX5_carryQueue_73 : decode cX5_carryQueue 73 = .ok (.iconst 4, 1) := by decide +kernel
theorem dX5_carryQueue_74 : decode cX5_carryQueue 74 = .ok (.putfield 49, 3) := by decide +kernel
theorem dX5_carryQueue_77 : decode cX5_carryQueue 77 = .ok (.aload_n 0, 1) := by decide +kernel
theorem dX5_carryQueue_78 : decode cX5_carryQueue 78 = .ok (.iload_n 1, 1) := by decide +kernel
theorem dX5_carryQueue_79 : decode cX5_carryQueue 79 = .ok (.putfield 55, 3) := by decide +kernel
theorem dX5_carryQueue_82 : decode cX5_carryQueue 82 = .ok (.iconst 3, 1) := by decide +kernel
theorem dX5_carryQueue_83 : decode cX5_carryQueue 83 = .ok (.ireturn, 1) := by decide +kernel
theorem dX5_carryQueue_84 : decode cX5_carryQueue 84 = .ok (.aload_n 0, 1) := by decide +kernel
theorem dX5_carryQueue_85 : decode cX5_carryQueue 85 = .ok (.aload_n 0, 1) := by decide +kernel
theorem dX5_carryQueue_86 : decode cX5_carryQueue 86 = .ok (.iload_n 1, 1) := by decide +kernel
theorem dX5_carryQueue_87 : decode cX5_carryQueue 87 = .ok (.invokevirtual 263, 3) := by decide +kernel
theorem dX5_carryQueue_90 : decode cX5_carryQueue 90 = .ok (.ifCond .ne 10, 3) := by decide +kernel
theorem dX5_carryQueue_93 : decode cX5_carryQueue 93 = .ok (.aload_n 0, 1) := by decide +kernel
theorem dX5_carryQueue_94 : decode cX5_carryQueue 94 = .ok (.getfield 61, 3) := by decide +kernel
theorem dX5_carryQueue_97 : decode cX5_carryQueue 97 = .ok (.ifCond .eq 7, 3) := by decide +kernel
theorem dX5_carryQueue_100 : decode cX5_carryQueue 100 = .ok (.iconst 1, 1) := by decide +kernel
theorem dX5_carryQueue_101 : decode cX5_carryQueue 101 = .ok (.goto 4, 3) := by decide +kernel
theorem dX5_carryQueue_104 : decode cX5_carryQueue 104 = .ok (.iconst 0, 1) := by decide +kernel
theorem dX5_carryQueue_105 : decode cX5_carryQueue 105 = .ok (.putfield 61, 3) := by decide +kernel
theorem dX5_carryQueue_108 : decode cX5_carryQueue 108 = .ok (.iinc 1 1, 3) := by decide +kernel
theorem dX5_carryQueue_111 : decode cX5_carryQueue 111 = .ok (.goto (-109), 3) := by decide +kernel
theorem dX5_carryQueue_114 : decode cX5_carryQueue 114 = .ok (.aload_n 0, 1) := by decide +kernel
theorem dX5_carryQueue_115 : decode cX5_carryQueue 115 = .ok (.getfield 61, 3) := by decide +kernel
theorem dX5_carryQueue_118 : decode cX5_carryQueue 118 = .ok (.ifCond .eq 7, 3) := by decide +kernel
theorem dX5_carryQueue_121 : decode cX5_carryQueue 121 = .ok (.iconst 2, 1) := by decide +kernel
theorem dX5_carryQueue_122 : decode cX5_carryQueue 122 = .ok (.goto 4, 3) := by decide +kernel
theorem dX5_carryQueue_125 : decode cX5_carryQueue 125 = .ok (.iconst 1, 1) := by decide +kernel
theorem dX5_carryQueue_126 : decode cX5_carryQueue 126 = .ok (.ireturn, 1) := by decide +kernel
theorem dJ13_bitCount_95d88_0 : decode cJ13_bitCount_95d88 0 = .ok (.lload_n 0, 1) := by decide +kernel
theorem dJ13_bitCount_95d88_1 : decode cJ13_bitCount_95d88 1 = .ok (.lload_n 0, 1) := by decide +kernel
theorem dJ13_bitCount_95d88_2 : decode cJ13_bitCount_95d88 2 = .ok (.iconst 1, 1) := by decide +kernel
theorem dJ13_bitCount_95d88_3 : decode cJ13_bitCount_95d88 3 = .ok (.lushr, 1) := by decide +kernel
theorem dJ13_bitCount_95d88_4 : decode cJ13_bitCount_95d88 4 = .ok (.ldc2_w 314, 3) := by decide +kernel
theorem dJ13_bitCount_95d88_7 : decode cJ13_bitCount_95d88 7 = .ok (.land, 1) := by decide +kernel
theorem dJ13_bitCount_95d88_8 : decode cJ13_bitCount_95d88 8 = .ok (.lsub, 1) := by decide +kernel
theorem dJ13_bitCount_95d88_9 : decode cJ13_bitCount_95d88 9 = .ok (.lstore_n 0, 1) := by decide +kernel
theorem dJ13_bitCount_95d88_10 : decode cJ13_bitCount_95d88 10 = .ok (.lload_n 0, 1) := by decide +kernel
theorem dJ13_bitCount_95d88_11 : decode cJ13_bitCount_95d88 11 = .ok (.ldc2_w 316, 3) := by decide +kernel
theorem dJ13_bitCount_95d88_14 : decode cJ13_bitCount_95d88 14 = .ok (.land, 1) := by decide +kernel
theorem dJ13_bitCount_95d88_15 : decode cJ13_bitCount_95d88 15 = .ok (.lload_n 0, 1) := by decide +kernel
theorem dJ13_bitCount_95d88_16 : decode cJ13_bitCount_95d88 16 = .ok (.iconst 2, 1) := by decide +kernel
theorem dJ13_bitCount_95d88_17 : decode cJ13_bitCount_95d88 17 = .ok (.lushr, 1) := by decide +kernel
theorem dJ13_bitCount_95d88_18 : decode cJ13_bitCount_95d88 18 = .ok (.ldc2_w 316, 3) := by decide +kernel
theorem dJ13_bitCount_95d88_21 : decode cJ13_bitCount_95d88 21 = .ok (.land, 1) := by decide +kernel
theorem dJ13_bitCount_95d88_22 : decode cJ13_bitCount_95d88 22 = .ok (.ladd, 1) := by decide +kernel
theorem dJ13_bitCount_95d88_23 : decode cJ13_bitCount_95d88 23 = .ok (.lstore_n 0, 1) := by decide +kernel
theorem dJ13_bitCount_95d88_24 : decode cJ13_bitCount_95d88 24 = .ok (.lload_n 0, 1) := by decide +kernel
theorem dJ13_bitCount_95d88_25 : decode cJ13_bitCount_95d88 25 = .ok (.lload_n 0, 1) := by decide +kernel
theorem dJ13_bitCount_95d88_26 : decode cJ13_bitCount_95d88 26 = .ok (.iconst 4, 1) := by decide +kernel
theorem dJ13_bitCount_95d88_27 : decode cJ13_bitCount_95d88 27 = .ok (.lushr, 1) := by decide +kernel
theorem dJ13_bitCount_95d88_28 : decode cJ13_bitCount_95d88 28 = .ok (.ladd, 1) := by decide +kernel
theorem dJ13_bitCount_95d88_29 : decode cJ13_bitCount_95d88 29 = .ok (.ldc2_w 318, 3) := by decide +kernel
theorem dJ13_bitCount_95d88_32 : decode cJ13_bitCount_95d88 32 = .ok (.land, 1) := by decide +kernel
theorem dJ13_bitCount_95d88_33 : decode cJ13_bitCount_95d88 33 = .ok (.lstore_n 0, 1) := by decide +kernel
theorem dJ13_bitCount_95d88_34 : decode cJ13_bitCount_95d88 34 = .ok (.lload_n 0, 1) := by decide +kernel
theorem dJ13_bitCount_95d88_35 : decode cJ13_bitCount_95d88 35 = .ok (.lload_n 0, 1) := by decide +kernel
theorem dJ13_bitCount_95d88_36 : decode cJ13_bitCount_95d88 36 = .ok (.bipush 8, 2) := by decide +kernel
theorem dJ13_bitCount_95d88_38 : decode cJ13_bitCount_95d88 38 = .ok (.lushr, 1) := by decide +kernel
theorem dJ13_bitCount_95d88_39 : decode cJ13_bitCount_95d88 39 = .ok (.ladd, 1) := by decide +kernel
theorem dJ13_bitCount_95d88_40 : decode cJ13_bitCount_95d88 40 = .ok (.lstore_n 0, 1) := by decide +kernel
theorem dJ13_bitCount_95d88_41 : decode cJ13_bitCount_95d88 41 = .ok (.lload_n 0, 1) := by decide +kernel
theorem dJ13_bitCount_95d88_42 : decode cJ13_bitCount_95d88 42 = .ok (.lload_n 0, 1) := by decide +kernel
theorem dJ13_bitCount_95d88_43 : decode cJ13_bitCount_95d88 43 = .ok (.bipush 16, 2) := by decide +kernel
theorem dJ13_bitCount_95d88_45 : decode cJ13_bitCount_95d88 45 = .ok (.lushr, 1) := by decide +kernel
theorem dJ13_bitCount_95d88_46 : decode cJ13_bitCount_95d88 46 = .ok (.ladd, 1) := by decide +kernel
theorem dJ13_bitCount_95d88_47 : decode cJ13_bitCount_95d88 47 = .ok (.lstore_n 0, 1) := by decide +kernel
theorem dJ13_bitCount_95d88_48 : decode cJ13_bitCount_95d88 48 = .ok (.lload_n 0, 1) := by decide +kernel
theorem dJ13_bitCount_95d88_49 : decode cJ13_bitCount_95d88 49 = .ok (.lload_n 0, 1) := by decide +kernel
theorem dJ13_bitCount_95d88_50 : decode cJ13_bitCount_95d88 50 = .ok (.bipush 32, 2) := by decide +kernel
theorem dJ13_bitCount_95d88_52 : decode cJ13_bitCount_95d88 52 = .ok (.lushr, 1) := by decide +kernel
theorem dJ13_bitCount_95d88_53 : decode cJ13_bitCount_95d88 53 = .ok (.ladd, 1) := by decide +kernel
theorem dJ13_bitCount_95d88_54 : decode cJ13_bitCount_95d88 54 = .ok (.lstore_n 0, 1) := by decide +kernel
theorem dJ13_bitCount_95d88_55 : decode cJ13_bitCount_95d88 55 = .ok (.lload_n 0, 1) := by decide +kernel
theorem dJ13_bitCount_95d88_56 : decode cJ13_bitCount_95d88 56 = .ok (.l2i, 1) := by decide +kernel
theorem dJ13_bitCount_95d88_57 : decode cJ13_bitCount_95d88 57 = .ok (.bipush 127, 2) := by decide +kernel
theorem dJ13_bitCount_95d88_59 : decode cJ13_bitCount_95d88 59 = .ok (.iand, 1) := by decide +kernel
theorem dJ13_bitCount_95d88_60 : decode cJ13_bitCount_95d88 60 = .ok (.ireturn, 1) := by decide +kernel
theorem dJ7_fill_53178_0 : decode cJ7_fill_53178 0 = .ok (.iconst 0, 1) := by decide +kernel
theorem dJ7_fill_53178_1 : decode cJ7_fill_53178 1 = .ok (.istore_n 2, 1) := by decide +kernel
theorem dJ7_fill_53178_2 : decode cJ7_fill_53178 2 = .ok (.aload_n 0, 1) := by decide +kernel
theorem dJ7_fill_53178_3 : decode cJ7_fill_53178 3 = .ok (.arraylength, 1) := by decide +kernel
theorem dJ7_fill_53178_4 : decode cJ7_fill_53178 4 = .ok (.istore_n 3, 1) := by decide +kernel
theorem dJ7_fill_53178_5 : decode cJ7_fill_53178 5 = .ok (.iload_n 2, 1) := by decide +kernel
theorem dJ7_fill_53178_6 : decode cJ7_fill_53178 6 = .ok (.iload_n 3, 1) := by decide +kernel
theorem dJ7_fill_53178_7 : decode cJ7_fill_53178 7 = .ok (.if_icmp .ge 13, 3) := by decide +kernel
theorem dJ7_fill_53178_10 : decode cJ7_fill_53178 10 = .ok (.aload_n 0, 1) := by decide +kernel
theorem dJ7_fill_53178_11 : decode cJ7_fill_53178 11 = .ok (.iload_n 2, 1) := by decide +kernel
theorem dJ7_fill_53178_12 : decode cJ7_fill_53178 12 = .ok (.iload_n 1, 1) := by decide +kernel
theorem dJ7_fill_53178_13 : decode cJ7_fill_53178 13 = .ok (.iastore, 1) := by decide +kernel
theorem dJ7_fill_53178_14 : decode cJ7_fill_53178 14 = .ok (.iinc 2 1, 3) := by decide +kernel
theorem dJ7_fill_53178_17 : decode cJ7_fill_53178 17 = .ok (.goto (-12), 3) := by decide +kernel
theorem dJ7_fill_53178_20 : decode cJ7_fill_53178 20 = .ok (.return_, 1) := by decide +kernel
theorem dL_below_0 : decode cL_below 0 = .ok (.iload_n 0, 1) := by decide +kernel
theorem dL_below_1 : decode cL_below 1 = .ok (.ldc 7, 2) := by decide +kernel
theorem dL_below_3 : decode cL_below 3 = .ok (.iand, 1) := by decide +kernel
theorem dL_below_4 : decode cL_below 4 = .ok (.iload_n 1, 1) := by decide +kernel
theorem dL_below_5 : decode cL_below 5 = .ok (.irem, 1) := by decide +kernel
theorem dL_below_6 : decode cL_below 6 = .ok (.ireturn, 1) := by decide +kernel
theorem dL_cell_0 : decode cL_cell 0 = .ok (.iload_n 1, 1) := by decide +kernel
theorem dL_cell_1 : decode cL_cell 1 = .ok (.aload_n 0, 1) := by decide +kernel
theorem dL_cell_2 : decode cL_cell 2 = .ok (.arraylength, 1) := by decide +kernel
theorem dL_cell_3 : decode cL_cell 3 = .ok (.if_icmp .ge 9, 3) := by decide +kernel
theorem dL_cell_6 : decode cL_cell 6 = .ok (.aload_n 0, 1) := by decide +kernel
theorem dL_cell_7 : decode cL_cell 7 = .ok (.iload_n 1, 1) := by decide +kernel
theorem dL_cell_8 : decode cL_cell 8 = .ok (.iaload, 1) := by decide +kernel
theorem dL_cell_9 : decode cL_cell 9 = .ok (.goto 9, 3) := by decide +kernel
theorem dL_cell_12 : decode cL_cell 12 = .ok (.ldc 8, 2) := by decide +kernel
theorem dL_cell_14 : decode cL_cell 14 = .ok (.iload_n 1, 1) := by decide +kernel
theorem dL_cell_15 : decode cL_cell 15 = .ok (.iconst 3, 1) := by decide +kernel
theorem dL_cell_16 : decode cL_cell 16 = .ok (.iadd, 1) := by decide +kernel
theorem dL_cell_17 : decode cL_cell 17 = .ok (.imul, 1) := by decide +kernel
theorem dL_cell_18 : decode cL_cell 18 = .ok (.ireturn, 1) := by decide +kernel
theorem dL_law_0 : decode cL_law 0 = .ok (.new 9, 3) := by decide +kernel
theorem dL_law_3 : decode cL_law 3 = .ok (.dup, 1) := by decide +kernel
theorem dL_law_4 : decode cL_law 4 = .ok (.invokespecial 11, 3) := by decide +kernel
theorem dL_law_7 : decode cL_law 7 = .ok (.astore_n 1, 1) := by decide +kernel
theorem dL_law_8 : decode cL_law 8 = .ok (.iconst 0, 1) := by decide +kernel
theorem dL_law_9 : decode cL_law 9 = .ok (.istore_n 2, 1) := by decide +kernel
theorem dL_law_10 : decode cL_law 10 = .ok (.iload_n 2, 1) := by decide +kernel
theorem dL_law_11 : decode cL_law 11 = .ok (.bipush 100, 2) := by decide +kernel
theorem dL_law_13 : decode cL_law 13 = .ok (.if_icmp .ge 133, 3) := by decide +kernel
theorem dL_law_16 : decode cL_law 16 = .ok (.aload_n 1, 1) := by decide +kernel
theorem dL_law_17 : decode cL_law 17 = .ok (.aload_n 0, 1) := by decide +kernel
theorem dL_law_18 : decode cL_law 18 = .ok (.iload_n 2, 1) := by decide +kernel
theorem dL_law_19 : decode cL_law 19 = .ok (.bipush 25, 2) := by decide +kernel
theorem dL_law_21 : decode cL_law 21 = .ok (.irem, 1) := by decide +kernel
theorem dL_law_22 : decode cL_law 22 = .ok (.invokestatic 12, 3) := by decide +kernel
theorem dL_law_25 : decode cL_law 25 = .ok (.iload_n 2, 1) := by decide +kernel
theorem dL_law_26 : decode cL_law 26 = .ok (.bipush 25, 2) := by decide +kernel
theorem dL_law_28 : decode cL_law 28 = .ok (.idiv, 1) := by decide +kernel
theorem dL_law_29 : decode cL_law 29 = .ok (.bipush 7, 2) := by decide +kernel
theorem dL_law_31 : decode cL_law 31 = .ok (.imul, 1) := by decide +kernel
theorem dL_law_32 : decode cL_law 32 = .ok (.ishr, 1) := by decide +kernel
theorem dL_law_33 : decode cL_law 33 = .ok (.invokestatic 18, 3) := by decide +kernel
theorem dL_law_36 : decode cL_law 36 = .ok (.aload_n 1, 1) := by decide +kernel
theorem dL_law_37 : decode cL_law 37 = .ok (.invokevirtual 22, 3) := by decide +kernel
theorem dL_law_40 : decode cL_law 40 = .ok (.ifCond .le 7, 3) := by decide +kernel
theorem dL_law_43 : decode cL_law 43 = .ok (.iconst 1, 1) := by decide +kernel
theorem dL_law_44 : decode cL_law 44 = .ok (.goto 4, 3) := by decide +kernel
theorem dL_law_47 : decode cL_law 47 = .ok (.iconst 0, 1) := by decide +kernel
theorem dL_law_48 : decode cL_law 48 = .ok (.aload_n 1, 1) := by decide +kernel
theorem dL_law_49 : decode cL_law 49 = .ok (.invokevirtual 26, 3) := by decide +kernel
theorem dL_law_52 : decode cL_law 52 = .ok (.ifCond .le 7, 3) := by decide +kernel
theorem dL_law_55 : decode cL_law 55 = .ok (.iconst 1, 1) := by decide +kernel
theorem dL_law_56 : decode cL_law 56 = .ok (.goto 4, 3) := by decide +kernel
theorem dL_law_59 : decode cL_law 59 = .ok (.iconst 0, 1) := by decide +kernel
theorem dL_law_60 : decode cL_law 60 = .ok (.if_icmp .ne 43, 3) := by decide +kernel
theorem dL_law_63 : decode cL_law 63 = .ok (.aload_n 1, 1) := by decide +kernel
theorem dL_law_64 : decode cL_law 64 = .ok (.invokevirtual 29, 3) := by decide +kernel
theorem dL_law_67 : decode cL_law 67 = .ok (.aload_n 1, 1) := by decide +kernel
theorem dL_law_68 : decode cL_law 68 = .ok (.invokevirtual 26, 3) := by decide +kernel
theorem dL_law_71 : decode cL_law 71 = .ok (.if_icmp .gt 32, 3) := by decide +kernel
theorem dL_law_74 : decode cL_law 74 = .ok (.aload_n 1, 1) := by decide +kernel
theorem dL_law_75 : decode cL_law 75 = .ok (.invokevirtual 22, 3) := by decide +kernel
theorem dL_law_78 : decode cL_law 78 = .ok (.ifCond .le 10, 3) := by decide +kernel
theorem dL_law_81 : decode cL_law 81 = .ok (.aload_n 1, 1) := by decide +kernel
theorem dL_law_82 : decode cL_law 82 = .ok (.invokevirtual 32, 3) := by decide +kernel
theorem dL_law_85 : decode cL_law 85 = .ok (.ifCond .eq 18, 3) := by decide +kernel
theorem dL_law_88 : decode cL_law 88 = .ok (.aload_n 1, 1) := by decide +kernel
theorem dL_law_89 : decode cL_law 89 = .ok (.invokevirtual 36, 3) := by decide +kernel
theorem dL_law_92 : decode cL_law 92 = .ok (.ifCond .le 13, 3) := by decide +kernel
theorem dL_law_95 : decode cL_law 95 = .ok (.aload_n 1, 1) := by decide +kernel
theorem dL_law_96 : decode cL_law 96 = .ok (.invokevirtual 22, 3) := by decide +kernel
theorem dL_law_99 : decode cL_law 99 = .ok (.iconst 4, 1) := by decide +kernel
theorem dL_law_100 : decode cL_law 100 = .ok (.if_icmp .eq 5, 3) := by decide +kernel
theorem dL_law_103 : decode cL_law 103 = .ok (.iconst 0, 1) := by decide +kernel
theorem dL_law_104 : decode cL_law 104 = .ok (.ireturn, 1) := by decide +kernel
theorem dL_law_105 : decode cL_law 105 = .ok (.iload_n 2, 1) := by decide +kernel
theorem dL_law_106 : decode cL_law 106 = .ok (.bipush 20, 2) := by decide +kernel
theorem dL_law_108 : decode cL_law 108 = .ok (.irem, 1) := by decide +kernel
theorem dL_law_109 : decode cL_law 109 = .ok (.bipush 19, 2) := by decide +kernel
theorem dL_law_111 : decode cL_law 111 = .ok (.if_icmp .eq 6, 3) := by decide +kernel
theorem dL_law_114 : decode cL_law 114 = .ok (.goto 26, 3) := by decide +kernel
theorem dL_law_117 : decode cL_law 117 = .ok (.aload_n 1, 1) := by decide +kernel
theorem dL_law_118 : decode cL_law 118 = .ok (.invokevirtual 39, 3) := by decide +kernel
theorem dL_law_121 : decode cL_law 121 = .ok (.lstore_n 3, 1) := by decide +kernel
theorem dL_law_122 : decode cL_law 122 = .ok (.aload_n 1, 1) := by decide +kernel
theorem dL_law_123 : decode cL_law 123 = .ok (.invokestatic 43, 3) := by decide +kernel
theorem dL_law_126 : decode cL_law 126 = .ok (.ifCond .eq 12, 3) := by decide +kernel
theorem dL_law_129 : decode cL_law 129 = .ok (.aload_n 1, 1) := by decide +kernel
theorem dL_law_130 : decode cL_law 130 = .ok (.invokevirtual 39, 3) := by decide +kernel
theorem dL_law_133 : decode cL_law 133 = .ok (.lload_n 3, 1) := by decide +kernel
theorem dL_law_134 : decode cL_law 134 = .ok (.lcmp, 1) := by decide +kernel
theorem dL_law_135 : decode cL_law 135 = .ok (.ifCond .eq 5, 3) := by decide +kernel
theorem dL_law_138 : decode cL_law 138 = .ok (.iconst 0, 1) := by decide +kernel
theorem dL_law_139 : decode cL_law 139 = .ok (.ireturn, 1) := by decide +kernel
theorem dL_law_140 : decode cL_law 140 = .ok (.iinc 2 1, 3) := by decide +kernel
theorem dL_law_143 : decode cL_law 143 = .ok (.goto (-133), 3) := by decide +kernel
theorem dL_law_146 : decode cL_law 146 = .ok (.iconst 1, 1) := by decide +kernel
theorem dL_law_147 : decode cL_law 147 = .ok (.ireturn, 1) := by decide +kernel
theorem dL_act_0 : decode cL_act 0 = .ok (.iload_n 1, 1) := by decide +kernel
theorem dL_act_1 : decode cL_act 1 = .ok (.iconst 4, 1) := by decide +kernel
theorem dL_act_2 : decode cL_act 2 = .ok (.ishr, 1) := by decide +kernel
theorem dL_act_3 : decode cL_act 3 = .ok (.iconst 3, 1) := by decide +kernel
theorem dL_act_4 : decode cL_act 4 = .ok (.invokestatic 47, 3) := by decide +kernel
theorem dL_act_7 : decode cL_act 7 = .ok (.istore_n 2, 1) := by decide +kernel
theorem dL_act_8 : decode cL_act 8 = .ok (.iload_n 1, 1) := by decide +kernel
theorem dL_act_9 : decode cL_act 9 = .ok (.iconst 5, 1) := by decide +kernel
theorem dL_act_10 : decode cL_act 10 = .ok (.ishr, 1) := by decide +kernel
theorem dL_act_11 : decode cL_act 11 = .ok (.iconst 4, 1) := by decide +kernel
theorem dL_act_12 : decode cL_act 12 = .ok (.invokestatic 47, 3) := by decide +kernel
theorem dL_act_15 : decode cL_act 15 = .ok (.istore_n 3, 1) := by decide +kernel
theorem dL_act_16 : decode cL_act 16 = .ok (.iload_n 1, 1) := by decide +kernel
theorem dL_act_17 : decode cL_act 17 = .ok (.bipush 6, 2) := by decide +kernel
theorem dL_act_19 : decode cL_act 19 = .ok (.ishr, 1) := by decide +kernel
theorem dL_act_20 : decode cL_act 20 = .ok (.iconst 1, 1) := by decide +kernel
theorem dL_act_21 : decode cL_act 21 = .ok (.aload_n 0, 1) := by decide +kernel
theorem dL_act_22 : decode cL_act 22 = .ok (.invokevirtual 51, 3) := by decide +kernel
theorem dL_act_25 : decode cL_act 25 = .ok (.invokestatic 54, 3) := by decide +kernel
theorem dL_act_28 : decode cL_act 28 = .ok (.invokestatic 47, 3) := by decide +kernel
theorem dL_act_31 : decode cL_act 31 = .ok (.istore 4, 2) := by decide +kernel
theorem dL_act_33 : decode cL_act 33 = .ok (.aload_n 0, 1) := by decide +kernel
theorem dL_act_34 : decode cL_act 34 = .ok (.invokevirtual 22, 3) := by decide +kernel
theorem dL_act_37 : decode cL_act 37 = .ok (.ifCond .le 75, 3) := by decide +kernel
theorem dL_act_40 : decode cL_act 40 = .ok (.iload_n 1, 1) := by decide +kernel
theorem dL_act_41 : decode cL_act 41 = .ok (.bipush 8, 2) := by decide +kernel
theorem dL_act_43 : decode cL_act 43 = .ok (.invokestatic 47, 3) := by decide +kernel
theorem dL_act_46 : decode cL_act 46 = .ok (.ifCond .le 66, 3) := by decide +kernel
theorem dL_act_49 : decode cL_act 49 = .ok (.iload_n 1, 1) := by decide +kernel
theorem dL_act_50 : decode cL_act 50 = .ok (.iconst 3, 1) := by decide +kernel
theorem dL_act_51 : decode cL_act 51 = .ok (.ishr, 1) := by decide +kernel
theorem dL_act_52 : decode cL_act 52 = .ok (.bipush 9, 2) := by decide +kernel
theorem dL_act_54 : decode cL_act 54 = .ok (.invokestatic 47, 3) := by decide +kernel
theorem dL_act_57 : decode cL_act 57 = .ok (.istore 5, 2) := by decide +kernel
theorem dL_act_59 : decode cL_act 59 = .ok (.iload 5, 2) := by decide +kernel
theorem dL_act_61 : decode cL_act 61 = .ok (.ifCond .ne 11, 3) := by decide +kernel
theorem dL_act_64 : decode cL_act 64 = .ok (.aload_n 0, 1) := by decide +kernel
theorem dL_act_65 : decode cL_act 65 = .ok (.invokevirtual 59, 3) := by decide +kernel
theorem dL_act_68 : decode cL_act 68 = .ok (.pop, 1) := by decide +kernel
theorem dL_act_69 : decode cL_act 69 = .ok (.goto 42, 3) := by decide +kernel
theorem dL_act_72 : decode cL_act 72 = .ok (.aload_n 0, 1) := by decide +kernel
theorem dL_act_73 : decode cL_act 73 = .ok (.invokevirtual 29, 3) := by decide +kernel
theorem dL_act_76 : decode cL_act 76 = .ok (.ifCond .ne 11, 3) := by decide +kernel
theorem dL_act_79 : decode cL_act 79 = .ok (.aload_n 0, 1) := by decide +kernel
theorem dL_act_80 : decode cL_act 80 = .ok (.invokevirtual 62, 3) := by decide +kernel
theorem dL_act_83 : decode cL_act 83 = .ok (.pop, 1) := by decide +kernel
theorem dL_act_84 : decode cL_act 84 = .ok (.goto 27, 3) := by decide +kernel
theorem dL_act_87 : decode cL_act 87 = .ok (.aload_n 0, 1) := by decide +kernel
theorem dL_act_88 : decode cL_act 88 = .ok (.iload_n 1, 1) := by decide +kernel
theorem dL_act_89 : decode cL_act 89 = .ok (.bipush 6, 2) := by decide +kernel
theorem dL_act_91 : decode cL_act 91 = .ok (.ishr, 1) := by decide +kernel
theorem dL_act_92 : decode cL_act 92 = .ok (.aload_n 0, 1) := by decide +kernel
theorem dL_act_93 : decode cL_act 93 = .ok (.invokevirtual 26, 3) := by decide +kernel
theorem dL_act_96 : decode cL_act 96 = .ok (.invokestatic 47, 3) := by decide +kernel
theorem dL_act_99 : decode cL_act 99 = .ok (.iload_n 1, 1) := by decide +kernel
theorem dL_act_100 : decode cL_act 100 = .ok (.bipush 9, 2) := by decide +kernel
theorem dL_act_102 : decode cL_act 102 = .ok (.ishr, 1) := by decide +kernel
theorem dL_act_103 : decode cL_act 103 = .ok (.iconst 4, 1) := by decide +kernel
theorem dL_act_104 : decode cL_act 104 = .ok (.invokestatic 47, 3) := by decide +kernel
theorem dL_act_107 : decode cL_act 107 = .ok (.invokevirtual 65, 3) := by decide +kernel
theorem dL_act_110 : decode cL_act 110 = .ok (.pop, 1) := by decide +kernel
theorem dL_act_111 : decode cL_act 111 = .ok (.return_, 1) := by decide +kernel
theorem dL_act_112 : decode cL_act 112 = .ok (.iload_n 1, 1) := by decide +kernel
theorem dL_act_113 : decode cL_act 113 = .ok (.bipush 18, 2) := by decide +kernel
theorem dL_act_115 : decode cL_act 115 = .ok (.invokestatic 47, 3) := by decide +kernel
theorem dL_act_118 : decode cL_act 118 = .ok (.tableswitch 334 0 15 #[78, 87, 115, 140, 174, 183, 192, 220, 230, 230, 239, 249, 259, 268, 293, 317], 78) := by decide +kernel
theorem dL_act_196 : decode cL_act 196 = .ok (.aload_n 0, 1) := by decide +kernel
theorem dL_act_197 : decode cL_act 197 = .ok (.iload_n 2, 1) := by decide +kernel
theorem dL_act_198 : decode cL_act 198 = .ok (.invokevirtual 68, 3) := by decide +kernel
theorem dL_act_201 : decode cL_act 201 = .ok (.pop, 1) := by decide +kernel
theorem dL_act_202 : decode cL_act 202 = .ok (.goto 318, 3) := by decide +kernel
theorem dL_act_205 : decode cL_act 205 = .ok (.iload_n 1, 1) := by decide +kernel
theorem dL_act_206 : decode cL_act 206 = .ok (.bipush 9, 2) := by decide +kernel
theorem dL_act_208 : decode cL_act 208 = .ok (.ishr, 1) := by decide +kernel
theorem dL_act_209 : decode cL_act 209 = .ok (.iconst 3, 1) := by decide +kernel
theorem dL_act_210 : decode cL_act 210 = .ok (.invokestatic 47, 3) := by decide +kernel
theorem dL_act_213 : decode cL_act 213 = .ok (.ifCond .ne 12, 3) := by decide +kernel
theorem dL_act_216 : decode cL_act 216 = .ok (.aload_n 0, 1) := by decide +kernel
theorem dL_act_217 : decode cL_act 217 = .ok (.iload_n 2, 1) := by decide +kernel
theorem dL_act_218 : decode cL_act 218 = .ok (.invokevirtual 72, 3) := by decide +kernel
theorem dL_act_221 : decode cL_act 221 = .ok (.pop, 1) := by decide +kernel
theorem dL_act_222 : decode cL_act 222 = .ok (.goto 298, 3) := by decide +kernel
theorem dL_act_225 : decode cL_act 225 = .ok (.aload_n 0, 1) := by decide +kernel
theorem dL_act_226 : decode cL_act 226 = .ok (.invokevirtual 75, 3) := by decide +kernel
theorem dL_act_229 : decode cL_act 229 = .ok (.pop, 1) := by decide +kernel
theorem dL_act_230 : decode cL_act 230 = .ok (.goto 290, 3) := by decide +kernel
theorem dL_act_233 : decode cL_act 233 = .ok (.aload_n 0, 1) := by decide +kernel
theorem dL_act_234 : decode cL_act 234 = .ok (.iload_n 2, 1) := by decide +kernel
theorem dL_act_235 : decode cL_act 235 = .ok (.iload_n 1, 1) := by decide +kernel
theorem dL_act_236 : decode cL_act 236 = .ok (.bipush 7, 2) := by decide +kernel
theorem dL_act_238 : decode cL_act 238 = .ok (.ishr, 1) := by decide +kernel
theorem dL_act_239 : decode cL_act 239 = .ok (.iconst 1, 1) := by decide +kernel
theorem dL_act_240 : decode cL_act 240 = .ok (.aload_n 0, 1) := by decide +kernel
theorem dL_act_241 : decode cL_act 241 = .ok (.iload_n 2, 1) := by decide +kernel
theorem dL_act_242 : decode cL_act 242 = .ok (.invokevirtual 78, 3) := by decide +kernel
theorem dL_act_245 : decode cL_act 245 = .ok (.invokestatic 54, 3) := by decide +kernel
theorem dL_act_248 : decode cL_act 248 = .ok (.invokestatic 47, 3) := by decide +kernel
theorem dL_act_251 : decode cL_act 251 = .ok (.invokevirtual 81, 3) := by decide +kernel
theorem dL_act_254 : decode cL_act 254 = .ok (.pop, 1) := by decide +kernel
theorem dL_act_255 : decode cL_act 255 = .ok (.goto 265, 3) := by decide +kernel
theorem dL_act_258 : decode cL_act 258 = .ok (.aload_n 0, 1) := by decide +kernel
theorem dL_act_259 : decode cL_act 259 = .ok (.iload_n 2, 1) := by decide +kernel
theorem dL_act_260 : decode cL_act 260 = .ok (.iload_n 1, 1) := by decide +kernel
theorem dL_act_261 : decode cL_act 261 = .ok (.bipush 7, 2) := by decide +kernel
theorem dL_act_263 : decode cL_act 263 = .ok (.ishr, 1) := by decide +kernel
theorem dL_act_264 : decode cL_act 264 = .ok (.iconst 1, 1) := by decide +kernel
theorem dL_act_265 : decode cL_act 265 = .ok (.aload_n 0, 1) := by decide +kernel
theorem dL_act_266 : decode cL_act 266 = .ok (.iload_n 2, 1) := by decide +kernel
theorem dL_act_267 : decode cL_act 267 = .ok (.invokevirtual 78, 3) := by decide +kernel
theorem dL_act_270 : decode cL_act 270 = .ok (.invokestatic 54, 3) := by decide +kernel
theorem dL_act_273 : decode cL_act 273 = .ok (.invokestatic 47, 3) := by decide +kernel
theorem dL_act_276 : decode cL_act 276 = .ok (.iload_n 1, 1) := by decide +kernel
theorem dL_act_277 : decode cL_act 277 = .ok (.bipush 9, 2) := by decide +kernel
theorem dL_act_279 : decode cL_act 279 = .ok (.ishr, 1) := by decide +kernel
theorem dL_act_280 : decode cL_act 280 = .ok (.bipush 9, 2) := by decide +kernel
theorem dL_act_282 : decode cL_act 282 = .ok (.invokestatic 47, 3) := by decide +kernel
theorem dL_act_285 : decode cL_act 285 = .ok (.invokevirtual 84, 3) := by decide +kernel
theorem dL_act_288 : decode cL_act 288 = .ok (.pop, 1) := by decide +kernel
theorem dL_act_289 : decode cL_act 289 = .ok (.goto 231, 3) := by decide +kernel
theorem dL_act_292 : decode cL_act 292 = .ok (.aload_n 0, 1) := by decide +kernel
theorem dL_act_293 : decode cL_act 293 = .ok (.iload_n 3, 1) := by decide +kernel
theorem dL_act_294 : decode cL_act 294 = .ok (.invokevirtual 88, 3) := by decide +kernel
theorem dL_act_297 : decode cL_act 297 = .ok (.pop, 1) := by decide +kernel
theorem dL_act_298 : decode cL_act 298 = .ok (.goto 222, 3) := by decide +kernel
theorem dL_act_301 : decode cL_act 301 = .ok (.aload_n 0, 1) := by decide +kernel
theorem dL_act_302 : decode cL_act 302 = .ok (.iload_n 3, 1) := by decide +kernel
theorem dL_act_303 : decode cL_act 303 = .ok (.invokevirtual 91, 3) := by decide +kernel
theorem dL_act_306 : decode cL_act 306 = .ok (.pop, 1) := by decide +kernel
theorem dL_act_307 : decode cL_act 307 = .ok (.goto 213, 3) := by decide +kernel
theorem dL_act_310 : decode cL_act 310 = .ok (.iload_n 1, 1) := by decide +kernel
theorem dL_act_311 : decode cL_act 311 = .ok (.bipush 8, 2) := by decide +kernel
theorem dL_act_313 : decode cL_act 313 = .ok (.ishr, 1) := by decide +kernel
theorem dL_act_314 : decode cL_act 314 = .ok (.iconst 4, 1) := by decide +kernel
theorem dL_act_315 : decode cL_act 315 = .ok (.invokestatic 47, 3) := by decide +kernel
theorem dL_act_318 : decode cL_act 318 = .ok (.ifCond .ne 12, 3) := by decide +kernel
theorem dL_act_321 : decode cL_act 321 = .ok (.aload_n 0, 1) := by decide +kernel
theorem dL_act_322 : decode cL_act 322 = .ok (.iload_n 3, 1) := by decide +kernel
theorem dL_act_323 : decode cL_act 323 = .ok (.invokevirtual 94, 3) := by decide +kernel
theorem dL_act_326 : decode cL_act 326 = .ok (.pop, 1) := by decide +kernel
theorem dL_act_327 : decode cL_act 327 = .ok (.goto 193, 3) := by decide +kernel
theorem dL_act_330 : decode cL_act 330 = .ok (.aload_n 0, 1) := by decide +kernel
theorem dL_act_331 : decode cL_act 331 = .ok (.invokevirtual 97, 3) := by decide +kernel
theorem dL_act_334 : decode cL_act 334 = .ok (.pop, 1) := by decide +kernel
theorem dL_act_335 : decode cL_act 335 = .ok (.goto 185, 3) := by decide +kernel
theorem dL_act_338 : decode cL_act 338 = .ok (.aload_n 0, 1) := by decide +kernel
theorem dL_act_339 : decode cL_act 339 = .ok (.iload 4, 2) := by decide +kernel
theorem dL_act_341 : decode cL_act 341 = .ok (.invokevirtual 100, 3) := by decide +kernel
theorem dL_act_344 : decode cL_act 344 = .ok (.pop, 1) := by decide +kernel
theorem dL_act_345 : decode cL_act 345 = .ok (.goto 175, 3) := by decide +kernel
theorem dL_act_348 : decode cL_act 348 = .ok (.aload_n 0, 1) := by decide +kernel
theorem dL_act_349 : decode cL_act 349 = .ok (.iload_n 3, 1) := by decide +kernel
theorem dL_act_350 : decode cL_act 350 = .ok (.invokevirtual 103, 3) := by decide +kernel
theorem dL_act_353 : decode cL_act 353 = .ok (.pop, 1) := by decide +kernel
theorem dL_act_354 : decode cL_act 354 = .ok (.goto 166, 3) := by decide +kernel
theorem dL_act_357 : decode cL_act 357 = .ok (.aload_n 0, 1) := by decide +kernel
theorem dL_act_358 : decode cL_act 358 = .ok (.iload 4, 2) := by decide +kernel
theorem dL_act_360 : decode cL_act 360 = .ok (.invokevirtual 106, 3) := by decide +kernel
theorem dL_act_363 : decode cL_act 363 = .ok (.pop, 1) := by decide +kernel
theorem dL_act_364 : decode cL_act 364 = .ok (.goto 156, 3) := by decide +kernel
theorem dL_act_367 : decode cL_act 367 = .ok (.aload_n 0, 1) := by decide +kernel
theorem dL_act_368 : decode cL_act 368 = .ok (.iload 4, 2) := by decide +kernel
theorem dL_act_370 : decode cL_act 370 = .ok (.invokevirtual 109, 3) := by decide +kernel
theorem dL_act_373 : decode cL_act 373 = .ok (.pop, 1) := by decide +kernel
theorem dL_act_374 : decode cL_act 374 = .ok (.goto 146, 3) := by decide +kernel
theorem dL_act_377 : decode cL_act 377 = .ok (.aload_n 0, 1) := by decide +kernel
theorem dL_act_378 : decode cL_act 378 = .ok (.iload_n 3, 1) := by decide +kernel
theorem dL_act_379 : decode cL_act 379 = .ok (.invokevirtual 112, 3) := by decide +kernel
theorem dL_act_382 : decode cL_act 382 = .ok (.pop, 1) := by decide +kernel
theorem dL_act_383 : decode cL_act 383 = .ok (.goto 137, 3) := by decide +kernel
theorem dL_act_386 : decode cL_act 386 = .ok (.aload_n 0, 1) := by decide +kernel
theorem dL_act_387 : decode cL_act 387 = .ok (.iload_n 1, 1) := by decide +kernel
theorem dL_act_388 : decode cL_act 388 = .ok (.bipush 8, 2) := by decide +kernel
theorem dL_act_390 : decode cL_act 390 = .ok (.ishr, 1) := by decide +kernel
theorem dL_act_391 : decode cL_act 391 = .ok (.iconst 1, 1) := by decide +kernel
theorem dL_act_392 : decode cL_act 392 = .ok (.aload_n 0, 1) := by decide +kernel
theorem dL_act_393 : decode cL_act 393 = .ok (.invokevirtual 51, 3) := by decide +kernel
theorem dL_act_396 : decode cL_act 396 = .ok (.invokestatic 54, 3) := by decide +kernel
theorem dL_act_399 : decode cL_act 399 = .ok (.invokestatic 47, 3) := by decide +kernel
theorem dL_act_402 : decode cL_act 402 = .ok (.iload 4, 2) := by decide +kernel
theorem dL_act_404 : decode cL_act 404 = .ok (.invokevirtual 115, 3) := by decide +kernel
theorem dL_act_407 : decode cL_act 407 = .ok (.pop, 1) := by decide +kernel
theorem dL_act_408 : decode cL_act 408 = .ok (.goto 112, 3) := by decide +kernel
theorem dL_act_411 : decode cL_act 411 = .ok (.aload_n 0, 1) := by decide +kernel
theorem dL_act_412 : decode cL_act 412 = .ok (.iload_n 1, 1) := by decide +kernel
theorem dL_act_413 : decode cL_act 413 = .ok (.bipush 7, 2) := by decide +kernel
theorem dL_act_415 : decode cL_act 415 = .ok (.ishr, 1) := by decide +kernel
theorem dL_act_416 : decode cL_act 416 = .ok (.iconst 2, 1) := by decide +kernel
theorem dL_act_417 : decode cL_act 417 = .ok (.invokestatic 47, 3) := by decide +kernel
theorem dL_act_420 : decode cL_act 420 = .ok (.ifCond .ne 7, 3) := by decide +kernel
theorem dL_act_423 : decode cL_act 423 = .ok (.iconst 1, 1) := by decide +kernel
theorem dL_act_424 : decode cL_act 424 = .ok (.goto 4, 3) := by decide +kernel
theorem dL_act_427 : decode cL_act 427 = .ok (.iconst 0, 1) := by decide +kernel
theorem dL_act_428 : decode cL_act 428 = .ok (.invokevirtual 118, 3) := by decide +kernel
theorem dL_act_431 : decode cL_act 431 = .ok (.pop, 1) := by decide +kernel
theorem dL_act_432 : decode cL_act 432 = .ok (.goto 88, 3) := by decide +kernel
theorem dL_act_435 : decode cL_act 435 = .ok (.aload_n 0, 1) := by decide +kernel
theorem dL_act_436 : decode cL_act 436 = .ok (.iload_n 1, 1) := by decide +kernel
theorem dL_act_437 : decode cL_act 437 = .ok (.iconst 5, 1) := by decide +kernel
theorem dL_act_438 : decode cL_act 438 = .ok (.ishr, 1) := by decide +kernel
theorem dL_act_439 : decode cL_act 439 = .ok (.sipush 1000, 3) := by decide +kernel
theorem dL_act_442 : decode cL_act 442 = .ok (.invokestatic 47, 3) := by decide +kernel
theorem dL_act_445 : decode cL_act 445 = .ok (.invokevirtual 122, 3) := by decide +kernel
theorem dL_act_448 : decode cL_act 448 = .ok (.pop, 1) := by decide +kernel
theorem dL_act_449 : decode cL_act 449 = .ok (.goto 71, 3) := by decide +kernel
theorem dL_act_452 : decode cL_act 452 = .ok (.aload_n 0, 1) := by decide +kernel
theorem dL_act_453 : decode cL_act 453 = .ok (.iload_n 2, 1) := by decide +kernel
theorem dL_act_454 : decode cL_act 454 = .ok (.invokevirtual 78, 3) := by decide +kernel
theorem dL_act_457 : decode cL_act 457 = .ok (.ifCond .ge 9, 3) := by decide +kernel
theorem dL_act_460 : decode cL_act 460 = .ok (.aload_n 0, 1) := by decide +kernel
theorem dL_act_461 : decode cL_act 461 = .ok (.iload_n 2, 1) := by decide +kernel
theorem dL_act_462 : decode cL_act 462 = .ok (.invokevirtual 68, 3) := by decide +kernel
theorem dL_act_465 : decode cL_act 465 = .ok (.pop, 1) := by decide +kernel
theorem dL_act_466 : decode cL_act 466 = .ok (.aload_n 0, 1) := by decide +kernel
theorem dL_act_467 : decode cL_act 467 = .ok (.iload_n 2, 1) := by decide +kernel
theorem dL_act_468 : decode cL_act 468 = .ok (.iload_n 1, 1) := by decide +kernel
theorem dL_act_469 : decode cL_act 469 = .ok (.bipush 7, 2) := by decide +kernel
theorem dL_act_471 : decode cL_act 471 = .ok (.ishr, 1) := by decide +kernel
theorem dL_act_472 : decode cL_act 472 = .ok (.aload_n 0, 1) := by decide +kernel
theorem dL_act_473 : decode cL_act 473 = .ok (.iload_n 2, 1) := by decide +kernel
theorem dL_act_474 : decode cL_act 474 = .ok (.invokevirtual 78, 3) := by decide +kernel
theorem dL_act_477 : decode cL_act 477 = .ok (.iconst 1, 1) := by decide +kernel
theorem dL_act_478 : decode cL_act 478 = .ok (.iadd, 1) := by decide +kernel
theorem dL_act_479 : decode cL_act 479 = .ok (.invokestatic 47, 3) := by decide +kernel
theorem dL_act_482 : decode cL_act 482 = .ok (.iload_n 1, 1) := by decide +kernel
theorem dL_act_483 : decode cL_act 483 = .ok (.bipush 9, 2) := by decide +kernel
theorem dL_act_485 : decode cL_act 485 = .ok (.ishr, 1) := by decide +kernel
theorem dL_act_486 : decode cL_act 486 = .ok (.bipush 9, 2) := by decide +kernel
theorem dL_act_488 : decode cL_act 488 = .ok (.invokestatic 47, 3) := by decide +kernel
theorem dL_act_491 : decode cL_act 491 = .ok (.invokevirtual 125, 3) := by decide +kernel
theorem dL_act_494 : decode cL_act 494 = .ok (.pop, 1) := by decide +kernel
theorem dL_act_495 : decode cL_act 495 = .ok (.iload_n 1, 1) := by decide +kernel
theorem dL_act_496 : decode cL_act 496 = .ok (.bipush 8, 2) := by decide +kernel
theorem dL_act_498 : decode cL_act 498 = .ok (.ishr, 1) := by decide +kernel
theorem dL_act_499 : decode cL_act 499 = .ok (.iconst 2, 1) := by decide +kernel
theorem dL_act_500 : decode cL_act 500 = .ok (.invokestatic 47, 3) := by decide +kernel
theorem dL_act_503 : decode cL_act 503 = .ok (.ifCond .ne 17, 3) := by decide +kernel
theorem dL_act_506 : decode cL_act 506 = .ok (.aload_n 0, 1) := by decide +kernel
theorem dL_act_507 : decode cL_act 507 = .ok (.iload_n 1, 1) := by decide +kernel
theorem dL_act_508 : decode cL_act 508 = .ok (.iconst 5, 1) := by decide +kernel
theorem dL_act_509 : decode cL_act 509 = .ok (.ishr, 1) := by decide +kernel
theorem dL_act_510 : decode cL_act 510 = .ok (.sipush 1000, 3) := by decide +kernel
theorem dL_act_513 : decode cL_act 513 = .ok (.invokestatic 47, 3) := by decide +kernel
theorem dL_act_516 : decode cL_act 516 = .ok (.invokevirtual 122, 3) := by decide +kernel
theorem dL_act_519 : decode cL_act 519 = .ok (.pop, 1) := by decide +kernel
theorem dL_act_520 : decode cL_act 520 = .ok (.goto 12, 3) := by decide +kernel
theorem dL_act_523 : decode cL_act 523 = .ok (.astore 5, 2) := by decide +kernel
theorem dL_act_525 : decode cL_act 525 = .ok (.return_, 1) := by decide +kernel
theorem dL_act_526 : decode cL_act 526 = .ok (.astore 5, 2) := by decide +kernel
theorem dL_act_528 : decode cL_act 528 = .ok (.return_, 1) := by decide +kernel
theorem dL_act_529 : decode cL_act 529 = .ok (.astore 5, 2) := by decide +kernel
theorem dL_act_531 : decode cL_act 531 = .ok (.return_, 1) := by decide +kernel
theorem dL_act_532 : decode cL_act 532 = .ok (.return_, 1) := by decide +kernel
theorem dL_isSound_0 : decode cL_isSound 0 = .ok (.aload_n 0, 1) := by decide +kernel
theorem dL_isSound_1 : decode cL_isSound 1 = .ok (.aload_n 0, 1) := by decide +kernel
theorem dL_isSound_2 : decode cL_isSound 2 = .ok (.invokevirtual 134, 3) := by decide +kernel
theorem dL_isSound_5 : decode cL_isSound 5 = .ok (.invokevirtual 137, 3) := by decide +kernel
theorem dL_isSound_8 : decode cL_isSound 8 = .ok (.istore_n 1, 1) := by decide +kernel
theorem dL_isSound_9 : decode cL_isSound 9 = .ok (.iload_n 1, 1) := by decide +kernel
theorem dL_isSound_10 : decode cL_isSound 10 = .ok (.bipush (-2), 2) := by decide +kernel
theorem dL_isSound_12 : decode cL_isSound 12 = .ok (.if_icmp .eq 26, 3) := by decide +kernel
theorem dL_isSound_15 : decode cL_isSound 15 = .ok (.aload_n 0, 1) := by decide +kernel
theorem dL_isSound_16 : decode cL_isSound 16 = .ok (.invokevirtual 51, 3) := by decide +kernel
theorem dL_isSound_19 : decode cL_isSound 19 = .ok (.bipush 60, 2) := by decide +kernel
theorem dL_isSound_21 : decode cL_isSound 21 = .ok (.if_icmp .gt 17, 3) := by decide +kernel
theorem dL_isSound_24 : decode cL_isSound 24 = .ok (.aload_n 0, 1) := by decide +kernel
theorem dL_isSound_25 : decode cL_isSound 25 = .ok (.invokevirtual 140, 3) := by decide +kernel
theorem dL_isSound_28 : decode cL_isSound 28 = .ok (.ifCond .lt 12, 3) := by decide +kernel
theorem dL_isSound_31 : decode cL_isSound 31 = .ok (.aload_n 0, 1) := by decide +kernel
theorem dL_isSound_32 : decode cL_isSound 32 = .ok (.invokevirtual 143, 3) := by decide +kernel
theorem dL_isSound_35 : decode cL_isSound 35 = .ok (.ifCond .lt 5, 3) := by decide +kernel
theorem dL_isSound_38 : decode cL_isSound 38 = .ok (.iconst 0, 1) := by decide +kernel
theorem dL_isSound_39 : decode cL_isSound 39 = .ok (.ireturn, 1) := by decide +kernel
theorem dL_isSound_40 : decode cL_isSound 40 = .ok (.iconst 0, 1) := by decide +kernel
theorem dL_isSound_41 : decode cL_isSound 41 = .ok (.istore_n 2, 1) := by decide +kernel
theorem dL_isSound_42 : decode cL_isSound 42 = .ok (.iload_n 2, 1) := by decide +kernel
theorem dL_isSound_43 : decode cL_isSound 43 = .ok (.bipush 8, 2) := by decide +kernel
theorem dL_isSound_45 : decode cL_isSound 45 = .ok (.if_icmp .ge 43, 3) := by decide +kernel
theorem dL_isSound_48 : decode cL_isSound 48 = .ok (.aload_n 0, 1) := by decide +kernel
theorem dL_isSound_49 : decode cL_isSound 49 = .ok (.iload_n 2, 1) := by decide +kernel
theorem dL_isSound_50 : decode cL_isSound 50 = .ok (.invokevirtual 137, 3) := by decide +kernel
theorem dL_isSound_53 : decode cL_isSound 53 = .ok (.ifCond .lt 29, 3) := by decide +kernel
theorem dL_isSound_56 : decode cL_isSound 56 = .ok (.aload_n 0, 1) := by decide +kernel
theorem dL_isSound_57 : decode cL_isSound 57 = .ok (.aload_n 0, 1) := by decide +kernel
theorem dL_isSound_58 : decode cL_isSound 58 = .ok (.iload_n 2, 1) := by decide +kernel
theorem dL_isSound_59 : decode cL_isSound 59 = .ok (.invokevirtual 137, 3) := by decide +kernel
theorem dL_isSound_62 : decode cL_isSound 62 = .ok (.invokevirtual 146, 3) := by decide +kernel
theorem dL_isSound_65 : decode cL_isSound 65 = .ok (.ifCond .eq 15, 3) := by decide +kernel
theorem dL_isSound_68 : decode cL_isSound 68 = .ok (.aload_n 0, 1) := by decide +kernel
theorem dL_isSound_69 : decode cL_isSound 69 = .ok (.aload_n 0, 1) := by decide +kernel
theorem dL_isSound_70 : decode cL_isSound 70 = .ok (.iload_n 2, 1) := by decide +kernel
theorem dL_isSound_71 : decode cL_isSound 71 = .ok (.invokevirtual 137, 3) := by decide +kernel
theorem dL_isSound_74 : decode cL_isSound 74 = .ok (.invokevirtual 150, 3) := by decide +kernel
theorem dL_isSound_77 : decode cL_isSound 77 = .ok (.ifCond .ne 5, 3) := by decide +kernel
theorem dL_isSound_80 : decode cL_isSound 80 = .ok (.iconst 0, 1) := by decide +kernel
theorem dL_isSound_81 : decode cL_isSound 81 = .ok (.ireturn, 1) := by decide +kernel
theorem dL_isSound_82 : decode cL_isSound 82 = .ok (.iinc 2 1, 3) := by decide +kernel
theorem dL_isSound_85 : decode cL_isSound 85 = .ok (.goto (-43), 3) := by decide +kernel
theorem dL_isSound_88 : decode cL_isSound 88 = .ok (.iconst 0, 1) := by decide +kernel
theorem dL_isSound_89 : decode cL_isSound 89 = .ok (.istore_n 2, 1) := by decide +kernel
theorem dL_isSound_90 : decode cL_isSound 90 = .ok (.iload_n 2, 1) := by decide +kernel
theorem dL_isSound_91 : decode cL_isSound 91 = .ok (.aload_n 0, 1) := by decide +kernel
theorem dL_isSound_92 : decode cL_isSound 92 = .ok (.invokevirtual 51, 3) := by decide +kernel
theorem dL_isSound_95 : decode cL_isSound 95 = .ok (.if_icmp .ge 275, 3) := by decide +kernel
theorem dL_isSound_98 : decode cL_isSound 98 = .ok (.aload_n 0, 1) := by decide +kernel
theorem dL_isSound_99 : decode cL_isSound 99 = .ok (.iload_n 2, 1) := by decide +kernel
theorem dL_isSound_100 : decode cL_isSound 100 = .ok (.invokevirtual 146, 3) := by decide +kernel
theorem dL_isSound_103 : decode cL_isSound 103 = .ok (.ifCond .ne 6, 3) := by decide +kernel
theorem dL_isSound_106 : decode cL_isSound 106 = .ok (.goto 258, 3) := by decide +kernel
theorem dL_isSound_109 : decode cL_isSound 109 = .ok (.iconst 0, 1) := by decide +kernel
theorem dL_isSound_110 : decode cL_isSound 110 = .ok (.istore_n 3, 1) := by decide +kernel
theorem dL_isSound_111 : decode cL_isSound 111 = .ok (.iload_n 3, 1) := by decide +kernel
theorem dL_isSound_112 : decode cL_isSound 112 = .ok (.iconst 2, 1) := by decide +kernel
theorem dL_isSound_113 : decode cL_isSound 113 = .ok (.if_icmp .ge 78, 3) := by decide +kernel
theorem dL_isSound_116 : decode cL_isSound 116 = .ok (.aload_n 0, 1) := by decide +kernel
theorem dL_isSound_117 : decode cL_isSound 117 = .ok (.iload_n 2, 1) := by decide +kernel
theorem dL_isSound_118 : decode cL_isSound 118 = .ok (.iload_n 3, 1) := by decide +kernel
theorem dL_isSound_119 : decode cL_isSound 119 = .ok (.iconst 1, 1) := by decide +kernel
theorem dL_isSound_120 : decode cL_isSound 120 = .ok (.if_icmp .ne 7, 3) := by decide +kernel
theorem dL_isSound_123 : decode cL_isSound 123 = .ok (.iconst 1, 1) := by decide +kernel
theorem dL_isSound_124 : decode cL_isSound 124 = .ok (.goto 4, 3) := by decide +kernel
theorem dL_isSound_127 : decode cL_isSound 127 = .ok (.iconst 0, 1) := by decide +kernel
theorem dL_isSound_128 : decode cL_isSound 128 = .ok (.invokevirtual 153, 3) := by decide +kernel
theorem dL_isSound_131 : decode cL_isSound 131 = .ok (.istore 4, 2) := by decide +kernel
theorem dL_isSound_133 : decode cL_isSound 133 = .ok (.iload 4, 2) := by decide +kernel
theorem dL_isSound_135 : decode cL_isSound 135 = .ok (.iload_n 2, 1) := by decide +kernel
theorem dL_isSound_136 : decode cL_isSound 136 = .ok (.if_icmp .ge 47, 3) := by decide +kernel
theorem dL_isSound_139 : decode cL_isSound 139 = .ok (.iload 4, 2) := by decide +kernel
theorem dL_isSound_141 : decode cL_isSound 141 = .ok (.iconst (-1), 1) := by decide +kernel
theorem dL_isSound_142 : decode cL_isSound 142 = .ok (.if_icmp .lt 41, 3) := by decide +kernel
theorem dL_isSound_145 : decode cL_isSound 145 = .ok (.iload 4, 2) := by decide +kernel
theorem dL_isSound_147 : decode cL_isSound 147 = .ok (.ifCond .lt 38, 3) := by decide +kernel
theorem dL_isSound_150 : decode cL_isSound 150 = .ok (.aload_n 0, 1) := by decide +kernel
theorem dL_isSound_151 : decode cL_isSound 151 = .ok (.iload 4, 2) := by decide +kernel
theorem dL_isSound_153 : decode cL_isSound 153 = .ok (.invokevirtual 146, 3) := by decide +kernel
theorem dL_isSound_156 : decode cL_isSound 156 = .ok (.ifCond .eq 27, 3) := by decide +kernel
theorem dL_isSound_159 : decode cL_isSound 159 = .ok (.aload_n 0, 1) := by decide +kernel
theorem dL_isSound_160 : decode cL_isSound 160 = .ok (.iload 4, 2) := by decide +kernel
theorem dL_isSound_162 : decode cL_isSound 162 = .ok (.iload_n 2, 1) := by decide +kernel
theorem dL_isSound_163 : decode cL_isSound 163 = .ok (.invokevirtual 157, 3) := by decide +kernel
theorem dL_isSound_166 : decode cL_isSound 166 = .ok (.ifCond .eq 17, 3) := by decide +kernel
theorem dL_isSound_169 : decode cL_isSound 169 = .ok (.aload_n 0, 1) := by decide +kernel
theorem dL_isSound_170 : decode cL_isSound 170 = .ok (.iload_n 2, 1) := by decide +kernel
theorem dL_isSound_171 : decode cL_isSound 171 = .ok (.invokevirtual 161, 3) := by decide +kernel
theorem dL_isSound_174 : decode cL_isSound 174 = .ok (.aload_n 0, 1) := by decide +kernel
theorem dL_isSound_175 : decode cL_isSound 175 = .ok (.iload 4, 2) := by decide +kernel
theorem dL_isSound_177 : decode cL_isSound 177 = .ok (.invokevirtual 161, 3) := by decide +kernel
theorem dL_isSound_180 : decode cL_isSound 180 = .ok (.if_icmp .gt 5, 3) := by decide +kernel
theorem dL_isSound_183 : decode cL_isSound 183 = .ok (.iconst 0, 1) := by decide +kernel
theorem dL_isSound_184 : decode cL_isSound 184 = .ok (.ireturn, 1) := by decide +kernel
theorem dL_isSound_185 : decode cL_isSound 185 = .ok (.iinc 3 1, 3) := by decide +kernel
theorem dL_isSound_188 : decode cL_isSound 188 = .ok (.goto (-77), 3) := by decide +kernel
theorem dL_isSound_191 : decode cL_isSound 191 = .ok (.aload_n 0, 1) := by decide +kernel
theorem dL_isSound_192 : decode cL_isSound 192 = .ok (.iload_n 2, 1) := by decide +kernel
theorem dL_isSound_193 : decode cL_isSound 193 = .ok (.iload_n 2, 1) := by decide +kernel
theorem dL_isSound_194 : decode cL_isSound 194 = .ok (.invokevirtual 157, 3) := by decide +kernel
theorem dL_isSound_197 : decode cL_isSound 197 = .ok (.ifCond .eq 62, 3) := by decide +kernel
theorem dL_isSound_200 : decode cL_isSound 200 = .ok (.aload_n 0, 1) := by decide +kernel
theorem dL_isSound_201 : decode cL_isSound 201 = .ok (.iload_n 2, 1) := by decide +kernel
theorem dL_isSound_202 : decode cL_isSound 202 = .ok (.iload_n 2, 1) := by decide +kernel
theorem dL_isSound_203 : decode cL_isSound 203 = .ok (.invokevirtual 164, 3) := by decide +kernel
theorem dL_isSound_206 : decode cL_isSound 206 = .ok (.iload_n 2, 1) := by decide +kernel
theorem dL_isSound_207 : decode cL_isSound 207 = .ok (.if_icmp .ne 52, 3) := by decide +kernel
theorem dL_isSound_210 : decode cL_isSound 210 = .ok (.aload_n 0, 1) := by decide +kernel
theorem dL_isSound_211 : decode cL_isSound 211 = .ok (.iload_n 2, 1) := by decide +kernel
theorem dL_isSound_212 : decode cL_isSound 212 = .ok (.iload_n 2, 1) := by decide +kernel
theorem dL_isSound_213 : decode cL_isSound 213 = .ok (.invokevirtual 167, 3) := by decide +kernel
theorem dL_isSound_216 : decode cL_isSound 216 = .ok (.ifCond .ne 43, 3) := by decide +kernel
theorem dL_isSound_219 : decode cL_isSound 219 = .ok (.aload_n 0, 1) := by decide +kernel
theorem dL_isSound_220 : decode cL_isSound 220 = .ok (.iload_n 2, 1) := by decide +kernel
theorem dL_isSound_221 : decode cL_isSound 221 = .ok (.iload_n 2, 1) := by decide +kernel
theorem dL_isSound_222 : decode cL_isSound 222 = .ok (.invokevirtual 170, 3) := by decide +kernel
theorem dL_isSound_225 : decode cL_isSound 225 = .ok (.ifCond .ne 34, 3) := by decide +kernel
theorem dL_isSound_228 : decode cL_isSound 228 = .ok (.iload_n 1, 1) := by decide +kernel
theorem dL_isSound_229 : decode cL_isSound 229 = .ok (.ifCond .lt 32, 3) := by decide +kernel
theorem dL_isSound_232 : decode cL_isSound 232 = .ok (.aload_n 0, 1) := by decide +kernel
theorem dL_isSound_233 : decode cL_isSound 233 = .ok (.iload_n 2, 1) := by decide +kernel
theorem dL_isSound_234 : decode cL_isSound 234 = .ok (.iload_n 1, 1) := by decide +kernel
theorem dL_isSound_235 : decode cL_isSound 235 = .ok (.invokevirtual 157, 3) := by decide +kernel
theorem dL_isSound_238 : decode cL_isSound 238 = .ok (.ifCond .eq 23, 3) := by decide +kernel
theorem dL_isSound_241 : decode cL_isSound 241 = .ok (.aload_n 0, 1) := by decide +kernel
theorem dL_isSound_242 : decode cL_isSound 242 = .ok (.iload_n 2, 1) := by decide +kernel
theorem dL_isSound_243 : decode cL_isSound 243 = .ok (.invokevirtual 150, 3) := by decide +kernel
theorem dL_isSound_246 : decode cL_isSound 246 = .ok (.ifCond .eq 13, 3) := by decide +kernel
theorem dL_isSound_249 : decode cL_isSound 249 = .ok (.aload_n 0, 1) := by decide +kernel
theorem dL_isSound_250 : decode cL_isSound 250 = .ok (.iload_n 2, 1) := by decide +kernel
theorem dL_isSound_251 : decode cL_isSound 251 = .ok (.iload_n 1, 1) := by decide +kernel
theorem dL_isSound_252 : decode cL_isSound 252 = .ok (.invokevirtual 164, 3) := by decide +kernel
theorem dL_isSound_255 : decode cL_isSound 255 = .ok (.iload_n 2, 1) := by decide +kernel
theorem dL_isSound_256 : decode cL_isSound 256 = .ok (.if_icmp .eq 5, 3) := by decide +kernel
theorem dL_isSound_259 : decode cL_isSound 259 = .ok (.iconst 0, 1) := by decide +kernel
theorem dL_isSound_260 : decode cL_isSound 260 = .ok (.ireturn, 1) := by decide +kernel
theorem dL_isSound_261 : decode cL_isSound 261 = .ok (.iconst 0, 1) := by decide +kernel
theorem dL_isSound_262 : decode cL_isSound 262 = .ok (.istore_n 3, 1) := by decide +kernel
theorem dL_isSound_263 : decode cL_isSound 263 = .ok (.iload_n 3, 1) := by decide +kernel
theorem dL_isSound_264 : decode cL_isSound 264 = .ok (.iconst 3, 1) := by decide +kernel
theorem dL_isSound_265 : decode cL_isSound 265 = .ok (.if_icmp .ge 99, 3) := by decide +kernel
theorem dL_isSound_268 : decode cL_isSound 268 = .ok (.aload_n 0, 1) := by decide +kernel
theorem dL_isSound_269 : decode cL_isSound 269 = .ok (.iload_n 2, 1) := by decide +kernel
theorem dL_isSound_270 : decode cL_isSound 270 = .ok (.iload_n 3, 1) := by decide +kernel
theorem dL_isSound_271 : decode cL_isSound 271 = .ok (.invokevirtual 173, 3) := by decide +kernel
theorem dL_isSound_274 : decode cL_isSound 274 = .ok (.bipush 40, 2) := by decide +kernel
theorem dL_isSound_276 : decode cL_isSound 276 = .ok (.if_icmp .gt 13, 3) := by decide +kernel
theorem dL_isSound_279 : decode cL_isSound 279 = .ok (.aload_n 0, 1) := by decide +kernel
theorem dL_isSound_280 : decode cL_isSound 280 = .ok (.iload_n 2, 1) := by decide +kernel
theorem dL_isSound_281 : decode cL_isSound 281 = .ok (.iload_n 2, 1) := by decide +kernel
theorem dL_isSound_282 : decode cL_isSound 282 = .ok (.iload_n 3, 1) := by decide +kernel
theorem dL_isSound_283 : decode cL_isSound 283 = .ok (.invokevirtual 176, 3) := by decide +kernel
theorem dL_isSound_286 : decode cL_isSound 286 = .ok (.ifCond .eq 5, 3) := by decide +kernel
theorem dL_isSound_289 : decode cL_isSound 289 = .ok (.iconst 0, 1) := by decide +kernel
theorem dL_isSound_290 : decode cL_isSound 290 = .ok (.ireturn, 1) := by decide +kernel
theorem dL_isSound_291 : decode cL_isSound 291 = .ok (.iconst 0, 1) := by decide +kernel
theorem dL_isSound_292 : decode cL_isSound 292 = .ok (.istore 4, 2) := by decide +kernel
theorem dL_isSound_294 : decode cL_isSound 294 = .ok (.iload 4, 2) := by decide +kernel
theorem dL_isSound_296 : decode cL_isSound 296 = .ok (.aload_n 0, 1) := by decide +kernel
theorem dL_isSound_297 : decode cL_isSound 297 = .ok (.iload_n 2, 1) := by decide +kernel
theorem dL_isSound_298 : decode cL_isSound 298 = .ok (.iload_n 3, 1) := by decide +kernel
theorem dL_isSound_299 : decode cL_isSound 299 = .ok (.invokevirtual 173, 3) := by decide +kernel
theorem dL_isSound_302 : decode cL_isSound 302 = .ok (.if_icmp .ge 56, 3) := by decide +kernel
theorem dL_isSound_305 : decode cL_isSound 305 = .ok (.aload_n 0, 1) := by decide +kernel
theorem dL_isSound_306 : decode cL_isSound 306 = .ok (.iload_n 2, 1) := by decide +kernel
theorem dL_isSound_307 : decode cL_isSound 307 = .ok (.iload_n 3, 1) := by decide +kernel
theorem dL_isSound_308 : decode cL_isSound 308 = .ok (.iload 4, 2) := by decide +kernel
theorem dL_isSound_310 : decode cL_isSound 310 = .ok (.invokevirtual 179, 3) := by decide +kernel
theorem dL_isSound_313 : decode cL_isSound 313 = .ok (.istore 5, 2) := by decide +kernel
theorem dL_isSound_315 : decode cL_isSound 315 = .ok (.aload_n 0, 1) := by decide +kernel
theorem dL_isSound_316 : decode cL_isSound 316 = .ok (.iload 5, 2) := by decide +kernel
theorem dL_isSound_318 : decode cL_isSound 318 = .ok (.iload_n 2, 1) := by decide +kernel
theorem dL_isSound_319 : decode cL_isSound 319 = .ok (.invokevirtual 157, 3) := by decide +kernel
theorem dL_isSound_322 : decode cL_isSound 322 = .ok (.ifCond .eq 28, 3) := by decide +kernel
theorem dL_isSound_325 : decode cL_isSound 325 = .ok (.aload_n 0, 1) := by decide +kernel
theorem dL_isSound_326 : decode cL_isSound 326 = .ok (.iload 5, 2) := by decide +kernel
theorem dL_isSound_328 : decode cL_isSound 328 = .ok (.iload_n 3, 1) := by decide +kernel
theorem dL_isSound_329 : decode cL_isSound 329 = .ok (.invokevirtual 173, 3) := by decide +kernel
theorem dL_isSound_332 : decode cL_isSound 332 = .ok (.iconst 1, 1) := by decide +kernel
theorem dL_isSound_333 : decode cL_isSound 333 = .ok (.if_icmp .lt 17, 3) := by decide +kernel
theorem dL_isSound_336 : decode cL_isSound 336 = .ok (.aload_n 0, 1) := by decide +kernel
theorem dL_isSound_337 : decode cL_isSound 337 = .ok (.iload_n 2, 1) := by decide +kernel
theorem dL_isSound_338 : decode cL_isSound 338 = .ok (.iload_n 2, 1) := by decide +kernel
theorem dL_isSound_339 : decode cL_isSound 339 = .ok (.iload_n 3, 1) := by decide +kernel
theorem dL_isSound_340 : decode cL_isSound 340 = .ok (.iload 4, 2) := by decide +kernel
theorem dL_isSound_342 : decode cL_isSound 342 = .ok (.invokevirtual 182, 3) := by decide +kernel
theorem dL_isSound_345 : decode cL_isSound 345 = .ok (.iload 4, 2) := by decide +kernel
theorem dL_isSound_347 : decode cL_isSound 347 = .ok (.if_icmp .eq 5, 3) := by decide +kernel
theorem dL_isSound_350 : decode cL_isSound 350 = .ok (.iconst 0, 1) := by decide +kernel
theorem dL_isSound_351 : decode cL_isSound 351 = .ok (.ireturn, 1) := by decide +kernel
theorem dL_isSound_352 : decode cL_isSound 352 = .ok (.iinc 4 3, 3) := by decide +kernel
theorem dL_isSound_355 : decode cL_isSound 355 = .ok (.goto (-61), 3) := by decide +kernel
theorem dL_isSound_358 : decode cL_isSound 358 = .ok (.iinc 3 1, 3) := by decide +kernel
theorem dL_isSound_361 : decode cL_isSound 361 = .ok (.goto (-98), 3) := by decide +kernel
theorem dL_isSound_364 : decode cL_isSound 364 = .ok (.iinc 2 1, 3) := by decide +kernel
theorem dL_isSound_367 : decode cL_isSound 367 = .ok (.goto (-277), 3) := by decide +kernel
theorem dL_isSound_370 : decode cL_isSound 370 = .ok (.aload_n 0, 1) := by decide +kernel
theorem dL_isSound_371 : decode cL_isSound 371 = .ok (.invokevirtual 22, 3) := by decide +kernel
theorem dL_isSound_374 : decode cL_isSound 374 = .ok (.ifCond .gt 14, 3) := by decide +kernel
theorem dL_isSound_377 : decode cL_isSound 377 = .ok (.iload_n 1, 1) := by decide +kernel
theorem dL_isSound_378 : decode cL_isSound 378 = .ok (.ifCond .lt 10, 3) := by decide +kernel
theorem dL_isSound_381 : decode cL_isSound 381 = .ok (.aload_n 0, 1) := by decide +kernel
theorem dL_isSound_382 : decode cL_isSound 382 = .ok (.invokevirtual 32, 3) := by decide +kernel
theorem dL_isSound_385 : decode cL_isSound 385 = .ok (.ifCond .ne 5, 3) := by decide +kernel
theorem dL_isSound_388 : decode cL_isSound 388 = .ok (.iconst 1, 1) := by decide +kernel
theorem dL_isSound_389 : decode cL_isSound 389 = .ok (.ireturn, 1) := by decide +kernel
theorem dL_isSound_390 : decode cL_isSound 390 = .ok (.iconst 0, 1) := by decide +kernel
theorem dL_isSound_391 : decode cL_isSound 391 = .ok (.istore_n 2, 1) := by decide +kernel
theorem dL_isSound_392 : decode cL_isSound 392 = .ok (.iload_n 2, 1) := by decide +kernel
theorem dL_isSound_393 : decode cL_isSound 393 = .ok (.bipush 8, 2) := by decide +kernel
theorem dL_isSound_395 : decode cL_isSound 395 = .ok (.if_icmp .ge 83, 3) := by decide +kernel
theorem dL_isSound_398 : decode cL_isSound 398 = .ok (.aload_n 0, 1) := by decide +kernel
theorem dL_isSound_399 : decode cL_isSound 399 = .ok (.iload_n 2, 1) := by decide +kernel
theorem dL_isSound_400 : decode cL_isSound 400 = .ok (.invokevirtual 137, 3) := by decide +kernel
theorem dL_isSound_403 : decode cL_isSound 403 = .ok (.istore_n 3, 1) := by decide +kernel
theorem dL_isSound_404 : decode cL_isSound 404 = .ok (.iload_n 3, 1) := by decide +kernel
theorem dL_isSound_405 : decode cL_isSound 405 = .ok (.ifCond .ge 6, 3) := by decide +kernel
theorem dL_isSound_408 : decode cL_isSound 408 = .ok (.goto 64, 3) := by decide +kernel
theorem dL_isSound_411 : decode cL_isSound 411 = .ok (.aload_n 0, 1) := by decide +kernel
theorem dL_isSound_412 : decode cL_isSound 412 = .ok (.iload_n 2, 1) := by decide +kernel
theorem dL_isSound_413 : decode cL_isSound 413 = .ok (.invokevirtual 186, 3) := by decide +kernel
theorem dL_isSound_416 : decode cL_isSound 416 = .ok (.istore 4, 2) := by decide +kernel
theorem dL_isSound_418 : decode cL_isSound 418 = .ok (.iload 4, 2) := by decide +kernel
theorem dL_isSound_420 : decode cL_isSound 420 = .ok (.ifCond .ne 7, 3) := by decide +kernel
theorem dL_isSound_423 : decode cL_isSound 423 = .ok (.iconst 1, 1) := by decide +kernel
theorem dL_isSound_424 : decode cL_isSound 424 = .ok (.goto 4, 3) := by decide +kernel
theorem dL_isSound_427 : decode cL_isSound 427 = .ok (.iconst 0, 1) := by decide +kernel
theorem dL_isSound_428 : decode cL_isSound 428 = .ok (.aload_n 0, 1) := by decide +kernel
theorem dL_isSound_429 : decode cL_isSound 429 = .ok (.iload_n 3, 1) := by decide +kernel
theorem dL_isSound_430 : decode cL_isSound 430 = .ok (.iload_n 1, 1) := by decide +kernel
theorem dL_isSound_431 : decode cL_isSound 431 = .ok (.invokevirtual 157, 3) := by decide +kernel
theorem dL_isSound_434 : decode cL_isSound 434 = .ok (.if_icmp .ne 36, 3) := by decide +kernel
theorem dL_isSound_437 : decode cL_isSound 437 = .ok (.iload 4, 2) := by decide +kernel
theorem dL_isSound_439 : decode cL_isSound 439 = .ok (.iconst 1, 1) := by decide +kernel
theorem dL_isSound_440 : decode cL_isSound 440 = .ok (.if_icmp .ne 7, 3) := by decide +kernel
theorem dL_isSound_443 : decode cL_isSound 443 = .ok (.iconst 1, 1) := by decide +kernel
theorem dL_isSound_444 : decode cL_isSound 444 = .ok (.goto 4, 3) := by decide +kernel
theorem dL_isSound_447 : decode cL_isSound 447 = .ok (.iconst 0, 1) := by decide +kernel
theorem dL_isSound_448 : decode cL_isSound 448 = .ok (.aload_n 0, 1) := by decide +kernel
theorem dL_isSound_449 : decode cL_isSound 449 = .ok (.iload_n 1, 1) := by decide +kernel
theorem dL_isSound_450 : decode cL_isSound 450 = .ok (.iload_n 3, 1) := by decide +kernel
theorem dL_isSound_451 : decode cL_isSound 451 = .ok (.invokevirtual 157, 3) := by decide +kernel
theorem dL_isSound_454 : decode cL_isSound 454 = .ok (.ifCond .eq 12, 3) := by decide +kernel
theorem dL_isSound_457 : decode cL_isSound 457 = .ok (.iload_n 3, 1) := by decide +kernel
theorem dL_isSound_458 : decode cL_isSound 458 = .ok (.iload_n 1, 1) := by decide +kernel
theorem dL_isSound_459 : decode cL_isSound 459 = .ok (.if_icmp .eq 7, 3) := by decide +kernel
theorem dL_isSound_462 : decode cL_isSound 462 = .ok (.iconst 1, 1) := by decide +kernel
theorem dL_isSound_463 : decode cL_isSound 463 = .ok (.goto 4, 3) := by decide +kernel
theorem dL_isSound_466 : decode cL_isSound 466 = .ok (.iconst 0, 1) := by decide +kernel
theorem dL_isSound_467 : decode cL_isSound 467 = .ok (.if_icmp .eq 5, 3) := by decide +kernel
theorem dL_isSound_470 : decode cL_isSound 470 = .ok (.iconst 0, 1) := by decide +kernel
theorem dL_isSound_471 : decode cL_isSound 471 = .ok (.ireturn, 1) := by decide +kernel
theorem dL_isSound_472 : decode cL_isSound 472 = .ok (.iinc 2 1, 3) := by decide +kernel
theorem dL_isSound_475 : decode cL_isSound 475 = .ok (.goto (-83), 3) := by decide +kernel
theorem dL_isSound_478 : decode cL_isSound 478 = .ok (.aload_n 0, 1) := by decide +kernel
theorem dL_isSound_479 : decode cL_isSound 479 = .ok (.iload_n 1, 1) := by decide +kernel
theorem dL_isSound_480 : decode cL_isSound 480 = .ok (.invokevirtual 189, 3) := by decide +kernel
theorem dL_isSound_483 : decode cL_isSound 483 = .ok (.ifCond .ne 7, 3) := by decide +kernel
theorem dL_isSound_486 : decode cL_isSound 486 = .ok (.iconst 1, 1) := by decide +kernel
theorem dL_isSound_487 : decode cL_isSound 487 = .ok (.goto 4, 3) := by decide +kernel
theorem dL_isSound_490 : decode cL_isSound 490 = .ok (.iconst 0, 1) := by decide +kernel
theorem dL_isSound_491 : decode cL_isSound 491 = .ok (.ireturn, 1) := by decide +kernel
