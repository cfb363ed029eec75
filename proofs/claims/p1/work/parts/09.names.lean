/-! names, fields, codes and decode rows (the printed text of the program, as CHECK.md's command printed it) -/
def RX0 : String := "StrataRepo$Commit"
def TX0 : u_T := fun k => match k with
  | 0 => ("StrataRepo$Commit", "tree", "LStrataRepo$Tree;", true)
  | 1 => ("StrataRepo$Commit", "word", "I", true)
  | 2 => ("StrataRepo$Commit", "first", "I", true)
  | 3 => ("StrataRepo$Commit", "second", "I", true)
  | 4 => ("StrataRepo$Commit", "depth", "I", true)
  | _ => ("StrataRepo$Commit", "ancestors", "J", true)
def tyX0 : Nat → FieldType := fun k => match k with
  | 0 => .object "StrataRepo$Tree"
  | 1 => .int
  | 2 => .int
  | 3 => .int
  | 4 => .int
  | _ => .long
theorem nmX0 : ∀ a, a < 6 → ∀ b, b < 6 → a ≠ b → (TX0 a).2.1 ≠ (TX0 b).2.1 := by decide +kernel
theorem tyX0_ok : ∀ k, k < 6 → parseFieldDescriptor (TX0 k).2.2.1 = some (tyX0 k) := by decide +kernel
abbrev cX0_init : ByteArray := prog_2_method_1_code
def yX0_init : MethodName := ⟨RX0, "<init>", "(LStrataRepo$Tree;IIIIJ)V"⟩
def yX0_descendsFrom : MethodName := ⟨RX0, "descendsFrom", "(I)Z"⟩
def RX1 : String := "StrataRepo$History"
def TX1 : u_T := fun k => match k with
  | 0 => ("StrataRepo$History", "made", "[LStrataRepo$Commit;", true)
  | 1 => ("StrataRepo$History", "none", "LStrataRepo$Commit;", true)
  | 2 => ("StrataRepo$History", "count", "I", false)
  | _ => ("StrataRepo$History", "gone", "J", false)
def tyX1 : Nat → FieldType := fun k => match k with
  | 0 => .array (.object "StrataRepo$Commit")
  | 1 => .object "StrataRepo$Commit"
  | 2 => .int
  | _ => .long
theorem nmX1 : ∀ a, a < 4 → ∀ b, b < 4 → a ≠ b → (TX1 a).2.1 ≠ (TX1 b).2.1 := by decide +kernel
theorem tyX1_ok : ∀ k, k < 4 → parseFieldDescriptor (TX1 k).2.2.1 = some (tyX1 k) := by decide +kernel
abbrev cX1_init : ByteArray := prog_3_method_1_code
def yX1_init : MethodName := ⟨RX1, "<init>", "()V"⟩
abbrev cX1_at : ByteArray := prog_3_method_2_code
def yX1_at : MethodName := ⟨RX1, "at", "(I)LStrataRepo$Commit;"⟩
abbrev cX1_keeps : ByteArray := prog_3_method_3_code
def yX1_keeps : MethodName := ⟨RX1, "keeps", "(I)Z"⟩
def yX1_add : MethodName := ⟨RX1, "add", "(LStrataRepo$Tree;III)I"⟩
def yX1_baseOf : MethodName := ⟨RX1, "baseOf", "(II)I"⟩
def yX1_withoutMerges : MethodName := ⟨RX1, "withoutMerges", "(J)J"⟩
abbrev cX1_keepOnly : ByteArray := prog_3_method_7_code
def yX1_keepOnly : MethodName := ⟨RX1, "keepOnly", "(J)I"⟩
def RX2 : String := "StrataRepo$Match"
def TX2 : u_T := fun k => match k with
  | 0 => ("StrataRepo$Match", "longest", "[I", true)
  | 1 => ("StrataRepo$Match", "placesInB", "[I", true)
  | 2 => ("StrataRepo$Match", "placesInA", "[I", true)
  | _ => ("StrataRepo$Match", "pairs", "I", false)
def tyX2 : Nat → FieldType := fun k => match k with
  | 0 => .array .int
  | 1 => .array .int
  | 2 => .array .int
  | _ => .int
theorem nmX2 : ∀ a, a < 4 → ∀ b, b < 4 → a ≠ b → (TX2 a).2.1 ≠ (TX2 b).2.1 := by decide +kernel
theorem tyX2_ok : ∀ k, k < 4 → parseFieldDescriptor (TX2 k).2.2.1 = some (tyX2 k) := by decide +kernel
abbrev cX2_init : ByteArray := prog_4_method_1_code
def yX2_init : MethodName := ⟨RX2, "<init>", "()V"⟩
def yX2_run : MethodName := ⟨RX2, "run", "(LStrataRepo$Tree;LStrataRepo$Tree;I)V"⟩
def yX2_placeInB : MethodName := ⟨RX2, "placeInB", "(I)I"⟩
def yX2_placeInA : MethodName := ⟨RX2, "placeInA", "(I)I"⟩
def yX2_pair : MethodName := ⟨RX2, "pair", "(II)V"⟩
def yX2_measure : MethodName := ⟨RX2, "measure", "(LStrataRepo$Tree;LStrataRepo$Tree;II)V"⟩
def yX2_longestFrom : MethodName := ⟨RX2, "longestFrom", "(II)I"⟩
def yX2_setLongest : MethodName := ⟨RX2, "setLongest", "(III)V"⟩
def RX3 : String := "StrataRepo$Merging"
def TX3 : u_T := fun k => match k with
  | 0 => ("StrataRepo$Merging", "toOurs", "LStrataRepo$Match;", true)
  | 1 => ("StrataRepo$Merging", "toTheirs", "LStrataRepo$Match;", true)
  | 2 => ("StrataRepo$Merging", "result", "LStrataRepo$Tree;", true)
  | 3 => ("StrataRepo$Merging", "base", "LStrataRepo$Tree;", false)
  | 4 => ("StrataRepo$Merging", "ours", "LStrataRepo$Tree;", false)
  | 5 => ("StrataRepo$Merging", "theirs", "LStrataRepo$Tree;", false)
  | 6 => ("StrataRepo$Merging", "files", "[I", true)
  | 7 => ("StrataRepo$Merging", "tops", "[I", true)
  | 8 => ("StrataRepo$Merging", "sizes", "[I", true)
  | 9 => ("StrataRepo$Merging", "ways", "[I", true)
  | 10 => ("StrataRepo$Merging", "pieces", "I", false)
  | 11 => ("StrataRepo$Merging", "next", "[I", true)
  | 12 => ("StrataRepo$Merging", "conflictPieces", "[I", true)
  | _ => ("StrataRepo$Merging", "conflictCount", "I", false)
def tyX3 : Nat → FieldType := fun k => match k with
  | 0 => .object "StrataRepo$Match"
  | 1 => .object "StrataRepo$Match"
  | 2 => .object "StrataRepo$Tree"
  | 3 => .object "StrataRepo$Tree"
  | 4 => .object "StrataRepo$Tree"
  | 5 => .object "StrataRepo$Tree"
  | 6 => .array .int
  | 7 => .array .int
  | 8 => .array .int
  | 9 => .array .int
  | 10 => .int
  | 11 => .array .int
  | 12 => .array .int
  | _ => .int
theorem nmX3 : ∀ a, a < 14 → ∀ b, b < 14 → a ≠ b → (TX3 a).2.1 ≠ (TX3 b).2.1 := by decide +kernel
theorem tyX3_ok : ∀ k, k < 14 → parseFieldDescriptor (TX3 k).2.2.1 = some (tyX3 k) := by decide +kernel
abbrev cX3_init : ByteArray := prog_5_method_1_code
def yX3_init : MethodName := ⟨RX3, "<init>", "()V"⟩
def yX3_start : MethodName := ⟨RX3, "start", "(LStrataRepo$Tree;LStrataRepo$Tree;LStrataRepo$Tree;)V"⟩
def yX3_conflictCount : MethodName := ⟨RX3, "conflictCount", "()I"⟩
def yX3_openCount : MethodName := ⟨RX3, "openCount", "()I"⟩
def yX3_setWay : MethodName := ⟨RX3, "setWay", "(II)V"⟩
def yX3_build : MethodName := ⟨RX3, "build", "()V"⟩
def yX3_pieceOf : MethodName := ⟨RX3, "pieceOf", "(I)I"⟩
def yX3_fileOf : MethodName := ⟨RX3, "fileOf", "(I)I"⟩
def yX3_sizeOf : MethodName := ⟨RX3, "sizeOf", "(II)I"⟩
def yX3_lineOf : MethodName := ⟨RX3, "lineOf", "(III)I"⟩
def yX3_isPiece : MethodName := ⟨RX3, "isPiece", "(I)Z"⟩
def yX3_topOf : MethodName := ⟨RX3, "topOf", "(II)I"⟩
def yX3_wayOf : MethodName := ⟨RX3, "wayOf", "(I)I"⟩
def yX3_treeOfSide : MethodName := ⟨RX3, "treeOfSide", "(I)LStrataRepo$Tree;"⟩
def yX3_cutFile : MethodName := ⟨RX3, "cutFile", "(I)V"⟩
def yX3_addPiece : MethodName := ⟨RX3, "addPiece", "(IIII)V"⟩
def yX3_addSpan : MethodName := ⟨RX3, "addSpan", "(II)V"⟩
def yX3_choose : MethodName := ⟨RX3, "choose", "(I)V"⟩
def yX3_isSame : MethodName := ⟨RX3, "isSame", "(III)Z"⟩
def yX3_append : MethodName := ⟨RX3, "append", "(II)V"⟩
def yX3_appendHeldLine : MethodName := ⟨RX3, "appendHeldLine", "(I)V"⟩
def RX4 : String := "StrataRepo$Tree"
def TX4 : u_T := fun k => match k with
  | 0 => ("StrataRepo$Tree", "sizes", "[I", true)
  | _ => ("StrataRepo$Tree", "cells", "[I", true)
def tyX4 : Nat → FieldType := fun k => match k with
  | 0 => .array .int
  | _ => .array .int
theorem nmX4 : ∀ a, a < 2 → ∀ b, b < 2 → a ≠ b → (TX4 a).2.1 ≠ (TX4 b).2.1 := by decide +kernel
theorem tyX4_ok : ∀ k, k < 2 → parseFieldDescriptor (TX4 k).2.2.1 = some (tyX4 k) := by decide +kernel
abbrev cX4_init : ByteArray := prog_6_method_1_code
def yX4_init : MethodName := ⟨RX4, "<init>", "()V"⟩
abbrev cX4_sizeOf : ByteArray := prog_6_method_2_code
def yX4_sizeOf : MethodName := ⟨RX4, "sizeOf", "(I)I"⟩
def yX4_countOf : MethodName := ⟨RX4, "countOf", "(I)I"⟩
abbrev cX4_has : ByteArray := prog_6_method_4_code
def yX4_has : MethodName := ⟨RX4, "has", "(I)Z"⟩
def yX4_lineOf : MethodName := ⟨RX4, "lineOf", "(II)I"⟩
abbrev cX4_fileCount : ByteArray := prog_6_method_6_code
def yX4_fileCount : MethodName := ⟨RX4, "fileCount", "()I"⟩
def yX4_lineCount : MethodName := ⟨RX4, "lineCount", "()I"⟩
abbrev cX4_putFile : ByteArray := prog_6_method_8_code
def yX4_putFile : MethodName := ⟨RX4, "putFile", "(I)V"⟩
def yX4_takeFile : MethodName := ⟨RX4, "takeFile", "(I)V"⟩
def yX4_clear : MethodName := ⟨RX4, "clear", "()V"⟩
def yX4_setLine : MethodName := ⟨RX4, "setLine", "(III)V"⟩
def yX4_putLine : MethodName := ⟨RX4, "putLine", "(III)V"⟩
def yX4_takeLine : MethodName := ⟨RX4, "takeLine", "(II)V"⟩
def yX4_addLine : MethodName := ⟨RX4, "addLine", "(II)V"⟩
abbrev cX4_become : ByteArray := prog_6_method_15_code
def yX4_become : MethodName := ⟨RX4, "become", "(LStrataRepo$Tree;)V"⟩
abbrev cX4_othersThan : ByteArray := prog_6_method_16_code
def yX4_othersThan : MethodName := ⟨RX4, "othersThan", "(LStrataRepo$Tree;)I"⟩
abbrev cX4_hasSame : ByteArray := prog_6_method_17_code
def yX4_hasSame : MethodName := ⟨RX4, "hasSame", "(ILStrataRepo$Tree;)Z"⟩
def RX5 : String := "StrataRepo"
def TX5 : u_T := fun k => match k with
  | 0 => ("StrataRepo", "desk", "LStrataRepo$Tree;", true)
  | 1 => ("StrataRepo", "history", "LStrataRepo$History;", true)
  | 2 => ("StrataRepo", "tips", "[I", true)
  | 3 => ("StrataRepo", "head", "I", false)
  | 4 => ("StrataRepo", "match", "LStrataRepo$Match;", true)
  | 5 => ("StrataRepo", "merging", "LStrataRepo$Merging;", true)
  | 6 => ("StrataRepo", "suspects", "J", false)
  | 7 => ("StrataRepo", "workKind", "I", false)
  | 8 => ("StrataRepo", "workStart", "I", false)
  | 9 => ("StrataRepo", "workSource", "I", false)
  | 10 => ("StrataRepo", "workQueue", "J", false)
  | _ => ("StrataRepo", "workMade", "Z", false)
def tyX5 : Nat → FieldType := fun k => match k with
  | 0 => .object "StrataRepo$Tree"
  | 1 => .object "StrataRepo$History"
  | 2 => .array .int
  | 3 => .int
  | 4 => .object "StrataRepo$Match"
  | 5 => .object "StrataRepo$Merging"
  | 6 => .long
  | 7 => .int
  | 8 => .int
  | 9 => .int
  | 10 => .long
  | _ => .boolean
theorem nmX5 : ∀ a, a < 12 → ∀ b, b < 12 → a ≠ b → (TX5 a).2.1 ≠ (TX5 b).2.1 := by decide +kernel
theorem tyX5_ok : ∀ k, k < 12 → parseFieldDescriptor (TX5 k).2.2.1 = some (tyX5 k) := by decide +kernel
abbrev cX5_init : ByteArray := prog_1_method_1_code
def yX5_init : MethodName := ⟨RX5, "<init>", "()V"⟩
abbrev cX5_create : ByteArray := prog_1_method_2_code
def yX5_create : MethodName := ⟨RX5, "create", "(I)I"⟩
abbrev cX5_delete : ByteArray := prog_1_method_3_code
def yX5_delete : MethodName := ⟨RX5, "delete", "(I)I"⟩
abbrev cX5_insert : ByteArray := prog_1_method_4_code
def yX5_insert : MethodName := ⟨RX5, "insert", "(III)I"⟩
abbrev cX5_erase : ByteArray := prog_1_method_5_code
def yX5_erase : MethodName := ⟨RX5, "erase", "(II)I"⟩
abbrev cX5_replace : ByteArray := prog_1_method_6_code
def yX5_replace : MethodName := ⟨RX5, "replace", "(III)I"⟩
abbrev cX5_discard : ByteArray := prog_1_method_7_code
def yX5_discard : MethodName := ⟨RX5, "discard", "()I"⟩
abbrev cX5_commit : ByteArray := prog_1_method_8_code
def yX5_commit : MethodName := ⟨RX5, "commit", "(I)I"⟩
abbrev cX5_branch : ByteArray := prog_1_method_9_code
def yX5_branch : MethodName := ⟨RX5, "branch", "(I)I"⟩
abbrev cX5_go : ByteArray := prog_1_method_10_code
def yX5_go : MethodName := ⟨RX5, "go", "(I)I"⟩
abbrev cX5_drop : ByteArray := prog_1_method_11_code
def yX5_drop : MethodName := ⟨RX5, "drop", "(I)I"⟩
abbrev cX5_reset : ByteArray := prog_1_method_12_code
def yX5_reset : MethodName := ⟨RX5, "reset", "(I)I"⟩
abbrev cX5_sweep : ByteArray := prog_1_method_13_code
def yX5_sweep : MethodName := ⟨RX5, "sweep", "()I"⟩
abbrev cX5_merge : ByteArray := prog_1_method_14_code
def yX5_merge : MethodName := ⟨RX5, "merge", "(I)I"⟩
abbrev cX5_carry : ByteArray := prog_1_method_15_code
def yX5_carry : MethodName := ⟨RX5, "carry", "(I)I"⟩
abbrev cX5_takeBack : ByteArray := prog_1_method_16_code
def yX5_takeBack : MethodName := ⟨RX5, "takeBack", "(I)I"⟩
abbrev cX5_replay : ByteArray := prog_1_method_17_code
def yX5_replay : MethodName := ⟨RX5, "replay", "(I)I"⟩
abbrev cX5_settle : ByteArray := prog_1_method_18_code
def yX5_settle : MethodName := ⟨RX5, "settle", "(II)I"⟩
abbrev cX5_goOn : ByteArray := prog_1_method_19_code
def yX5_goOn : MethodName := ⟨RX5, "goOn", "()I"⟩
abbrev cX5_giveUp : ByteArray := prog_1_method_20_code
def yX5_giveUp : MethodName := ⟨RX5, "giveUp", "()I"⟩
abbrev cX5_pending : ByteArray := prog_1_method_21_code
def yX5_pending : MethodName := ⟨RX5, "pending", "()I"⟩
abbrev cX5_conflicts : ByteArray := prog_1_method_22_code
def yX5_conflicts : MethodName := ⟨RX5, "conflicts", "()I"⟩
abbrev cX5_unsettled : ByteArray := prog_1_method_23_code
def yX5_unsettled : MethodName := ⟨RX5, "unsettled", "()I"⟩
abbrev cX5_left : ByteArray := prog_1_method_24_code
def yX5_left : MethodName := ⟨RX5, "left", "()I"⟩
abbrev cX5_conflictFile : ByteArray := prog_1_method_25_code
def yX5_conflictFile : MethodName := ⟨RX5, "conflictFile", "(I)I"⟩
abbrev cX5_pieceSize : ByteArray := prog_1_method_26_code
def yX5_pieceSize : MethodName := ⟨RX5, "pieceSize", "(II)I"⟩
abbrev cX5_pieceLine : ByteArray := prog_1_method_27_code
def yX5_pieceLine : MethodName := ⟨RX5, "pieceLine", "(III)I"⟩
abbrev cX5_deskLines : ByteArray := prog_1_method_28_code
def yX5_deskLines : MethodName := ⟨RX5, "deskLines", "(I)I"⟩
abbrev cX5_deskLine : ByteArray := prog_1_method_29_code
def yX5_deskLine : MethodName := ⟨RX5, "deskLine", "(II)I"⟩
abbrev cX5_isClean : ByteArray := prog_1_method_30_code
def yX5_isClean : MethodName := ⟨RX5, "isClean", "()Z"⟩
abbrev cX5_commits : ByteArray := prog_1_method_31_code
def yX5_commits : MethodName := ⟨RX5, "commits", "()I"⟩
abbrev cX5_isThere : ByteArray := prog_1_method_32_code
def yX5_isThere : MethodName := ⟨RX5, "isThere", "(I)Z"⟩
abbrev cX5_isReached : ByteArray := prog_1_method_33_code
def yX5_isReached : MethodName := ⟨RX5, "isReached", "(I)Z"⟩
abbrev cX5_parent : ByteArray := prog_1_method_34_code
def yX5_parent : MethodName := ⟨RX5, "parent", "(IZ)I"⟩
abbrev cX5_wordOf : ByteArray := prog_1_method_35_code
def yX5_wordOf : MethodName := ⟨RX5, "wordOf", "(I)I"⟩
abbrev cX5_lines : ByteArray := prog_1_method_36_code
def yX5_lines : MethodName := ⟨RX5, "lines", "(II)I"⟩
abbrev cX5_lineAt : ByteArray := prog_1_method_37_code
def yX5_lineAt : MethodName := ⟨RX5, "lineAt", "(III)I"⟩
abbrev cX5_head : ByteArray := prog_1_method_38_code
def yX5_head : MethodName := ⟨RX5, "head", "()I"⟩
abbrev cX5_commitOf : ByteArray := prog_1_method_39_code
def yX5_commitOf : MethodName := ⟨RX5, "commitOf", "(I)I"⟩
abbrev cX5_isAncestor : ByteArray := prog_1_method_40_code
def yX5_isAncestor : MethodName := ⟨RX5, "isAncestor", "(II)Z"⟩
abbrev cX5_base : ByteArray := prog_1_method_41_code
def yX5_base : MethodName := ⟨RX5, "base", "(II)I"⟩
abbrev cX5_ahead : ByteArray := prog_1_method_42_code
def yX5_ahead : MethodName := ⟨RX5, "ahead", "(II)I"⟩
abbrev cX5_touched : ByteArray := prog_1_method_43_code
def yX5_touched : MethodName := ⟨RX5, "touched", "(II)I"⟩
abbrev cX5_added : ByteArray := prog_1_method_44_code
def yX5_added : MethodName := ⟨RX5, "added", "(III)I"⟩
abbrev cX5_pairOf : ByteArray := prog_1_method_45_code
def yX5_pairOf : MethodName := ⟨RX5, "pairOf", "(IIII)I"⟩
abbrev cX5_blame : ByteArray := prog_1_method_46_code
def yX5_blame : MethodName := ⟨RX5, "blame", "(III)I"⟩
abbrev cX5_depthOf : ByteArray := prog_1_method_47_code
def yX5_depthOf : MethodName := ⟨RX5, "depthOf", "(I)I"⟩
abbrev cX5_seek : ByteArray := prog_1_method_48_code
def yX5_seek : MethodName := ⟨RX5, "seek", "(II)I"⟩
abbrev cX5_probe : ByteArray := prog_1_method_49_code
def yX5_probe : MethodName := ⟨RX5, "probe", "()I"⟩
abbrev cX5_tell : ByteArray := prog_1_method_50_code
def yX5_tell : MethodName := ⟨RX5, "tell", "(Z)I"⟩
abbrev cX5_culprit : ByteArray := prog_1_method_51_code
def yX5_culprit : MethodName := ⟨RX5, "culprit", "()I"⟩
abbrev cX5_wouldMerge : ByteArray := prog_1_method_52_code
def yX5_wouldMerge : MethodName := ⟨RX5, "wouldMerge", "(I)I"⟩
abbrev cX5_wouldConflict : ByteArray := prog_1_method_53_code
def yX5_wouldConflict : MethodName := ⟨RX5, "wouldConflict", "(I)I"⟩
abbrev cX5_meanLines : ByteArray := prog_1_method_54_code
def yX5_meanLines : MethodName := ⟨RX5, "meanLines", "()D"⟩
abbrev cX5_digest : ByteArray := prog_1_method_55_code
def yX5_digest : MethodName := ⟨RX5, "digest", "()J"⟩
def yX5_withCommit : MethodName := ⟨RX5, "withCommit", "(JI)J"⟩
abbrev cX5_withTree : ByteArray := prog_1_method_57_code
def yX5_withTree : MethodName := ⟨RX5, "withTree", "(JLStrataRepo$Tree;)J"⟩
abbrev cX5_withConflicts : ByteArray := prog_1_method_58_code
def yX5_withConflicts : MethodName := ⟨RX5, "withConflicts", "(J)J"⟩
abbrev cX5_needFile : ByteArray := prog_1_method_59_code
def yX5_needFile : MethodName := ⟨RX5, "needFile", "(I)V"⟩
abbrev cX5_needNumber : ByteArray := prog_1_method_60_code
def yX5_needNumber : MethodName := ⟨RX5, "needNumber", "(I)V"⟩
abbrev cX5_needPlace : ByteArray := prog_1_method_61_code
def yX5_needPlace : MethodName := ⟨RX5, "needPlace", "(II)V"⟩
def yX5_needSide : MethodName := ⟨RX5, "needSide", "(I)V"⟩
abbrev cX5_needDeskPlace : ByteArray := prog_1_method_63_code
def yX5_needDeskPlace : MethodName := ⟨RX5, "needDeskPlace", "(II)V"⟩
abbrev cX5_needThere : ByteArray := prog_1_method_64_code
def yX5_needThere : MethodName := ⟨RX5, "needThere", "(I)V"⟩
abbrev cX5_needBoth : ByteArray := prog_1_method_65_code
def yX5_needBoth : MethodName := ⟨RX5, "needBoth", "(II)V"⟩
abbrev cX5_needLine : ByteArray := prog_1_method_66_code
def yX5_needLine : MethodName := ⟨RX5, "needLine", "(III)V"⟩
abbrev cX5_needBranch : ByteArray := prog_1_method_67_code
def yX5_needBranch : MethodName := ⟨RX5, "needBranch", "(I)V"⟩
abbrev cX5_needConflict : ByteArray := prog_1_method_68_code
def yX5_needConflict : MethodName := ⟨RX5, "needConflict", "(I)V"⟩
abbrev cX5_needNoWork : ByteArray := prog_1_method_69_code
def yX5_needNoWork : MethodName := ⟨RX5, "needNoWork", "()V"⟩
abbrev cX5_needWork : ByteArray := prog_1_method_70_code
def yX5_needWork : MethodName := ⟨RX5, "needWork", "()V"⟩
abbrev cX5_needRoom : ByteArray := prog_1_method_71_code
def yX5_needRoom : MethodName := ⟨RX5, "needRoom", "(I)V"⟩
abbrev cX5_needReady : ByteArray := prog_1_method_72_code
def yX5_needReady : MethodName := ⟨RX5, "needReady", "()V"⟩
abbrev cX5_needReadyFor : ByteArray := prog_1_method_73_code
def yX5_needReadyFor : MethodName := ⟨RX5, "needReadyFor", "(I)V"⟩
def yX5_greatestOf : MethodName := ⟨RX5, "greatestOf", "(J)I"⟩
abbrev cX5_headCommit : ByteArray := prog_1_method_75_code
def yX5_headCommit : MethodName := ⟨RX5, "headCommit", "()I"⟩
abbrev cX5_treeOf : ByteArray := prog_1_method_76_code
def yX5_treeOf : MethodName := ⟨RX5, "treeOf", "(I)LStrataRepo$Tree;"⟩
def yX5_parentTreeOf : MethodName := ⟨RX5, "parentTreeOf", "(I)LStrataRepo$Tree;"⟩
def yX5_setTip : MethodName := ⟨RX5, "setTip", "(II)V"⟩
def yX5_moveHead : MethodName := ⟨RX5, "moveHead", "(I)V"⟩
def yX5_branchCount : MethodName := ⟨RX5, "branchCount", "()I"⟩
abbrev cX5_reached : ByteArray := prog_1_method_81_code
def yX5_reached : MethodName := ⟨RX5, "reached", "()J"⟩
def yX5_placeBefore : MethodName := ⟨RX5, "placeBefore", "(ILStrataRepo$Commit;II)I"⟩
def yX5_tryMerge : MethodName := ⟨RX5, "tryMerge", "(I)I"⟩
def yX5_keepMerge : MethodName := ⟨RX5, "keepMerge", "(I)V"⟩
def yX5_waitWith : MethodName := ⟨RX5, "waitWith", "(II)V"⟩
def yX5_keepOrWait : MethodName := ⟨RX5, "keepOrWait", "(II)I"⟩
def yX5_keepIfOther : MethodName := ⟨RX5, "keepIfOther", "(I)Z"⟩
def yX5_carryQueue : MethodName := ⟨RX5, "carryQueue", "()I"⟩
def RX6 : String := "StrataRepoModel"
def TX6 : u_T := fun k => match k with
  | 0 => ("StrataRepoModel", "thrown", "I", false)
  | 1 => ("StrataRepoModel", "desk", "[[I", false)
  | 2 => ("StrataRepoModel", "commits", "I", false)
  | 3 => ("StrataRepoModel", "tree", "[[[I", true)
  | 4 => ("StrataRepoModel", "word", "[I", true)
  | 5 => ("StrataRepoModel", "parent", "[[I", true)
  | 6 => ("StrataRepoModel", "ancestors", "[J", true)
  | 7 => ("StrataRepoModel", "gone", "J", false)
  | 8 => ("StrataRepoModel", "isBranch", "[Z", true)
  | 9 => ("StrataRepoModel", "at", "[I", true)
  | 10 => ("StrataRepoModel", "head", "I", false)
  | 11 => ("StrataRepoModel", "kind", "I", false)
  | 12 => ("StrataRepoModel", "baseTree", "[[I", false)
  | 13 => ("StrataRepoModel", "ourTree", "[[I", false)
  | 14 => ("StrataRepoModel", "theirTree", "[[I", false)
  | 15 => ("StrataRepoModel", "ways", "[I", false)
  | 16 => ("StrataRepoModel", "about", "I", false)
  | 17 => ("StrataRepoModel", "behind", "J", false)
  | 18 => ("StrataRepoModel", "isMade", "Z", false)
  | 19 => ("StrataRepoModel", "before", "I", false)
  | 20 => ("StrataRepoModel", "suspects", "J", false)
  | 21 => ("StrataRepoModel", "longest", "[[I", true)
  | 22 => ("StrataRepoModel", "met", "I", false)
  | 23 => ("StrataRepoModel", "wanted", "I", false)
  | 24 => ("StrataRepoModel", "foundFile", "I", false)
  | 25 => ("StrataRepoModel", "found", "[[I", true)
  | 26 => ("StrataRepoModel", "laid", "[I", false)
  | 27 => ("StrataRepoModel", "many", "I", false)
  | 28 => ("StrataRepoModel", "foundPlace", "I", false)
  | _ => ("StrataRepoModel", "sum", "J", false)
def tyX6 : Nat → FieldType := fun k => match k with
  | 0 => .int
  | 1 => .array (.array .int)
  | 2 => .int
  | 3 => .array (.array (.array .int))
  | 4 => .array .int
  | 5 => .array (.array .int)
  | 6 => .array .long
  | 7 => .long
  | 8 => .array .boolean
  | 9 => .array .int
  | 10 => .int
  | 11 => .int
  | 12 => .array (.array .int)
  | 13 => .array (.array .int)
  | 14 => .array (.array .int)
  | 15 => .array .int
  | 16 => .int
  | 17 => .long
  | 18 => .boolean
  | 19 => .int
  | 20 => .long
  | 21 => .array (.array .int)
  | 22 => .int
  | 23 => .int
  | 24 => .int
  | 25 => .array (.array .int)
  | 26 => .array .int
  | 27 => .int
  | 28 => .int
  | _ => .long
theorem nmX6 : ∀ a, a < 30 → ∀ b, b < 30 → a ≠ b → (TX6 a).2.1 ≠ (TX6 b).2.1 := by decide +kernel
theorem tyX6_ok : ∀ k, k < 30 → parseFieldDescriptor (TX6 k).2.2.1 = some (tyX6 k) := by decide +kernel
abbrev cX6_init : ByteArray := prog_8_method_1_code
def yX6_init : MethodName := ⟨RX6, "<init>", "()V"⟩
abbrev cX6_thrown : ByteArray := prog_8_method_2_code
def yX6_thrown : MethodName := ⟨RX6, "thrown", "()I"⟩
abbrev cX6_refuse : ByteArray := prog_8_method_3_code
def yX6_refuse : MethodName := ⟨RX6, "refuse", "(I)I"⟩
abbrev cX6_is : ByteArray := prog_8_method_4_code
def yX6_is : MethodName := ⟨RX6, "is", "(III)Z"⟩
abbrev cX6_isFile : ByteArray := prog_8_method_5_code
def yX6_isFile : MethodName := ⟨RX6, "isFile", "(I)Z"⟩
abbrev cX6_isCommit : ByteArray := prog_8_method_6_code
def yX6_isCommit : MethodName := ⟨RX6, "isCommit", "(I)Z"⟩
def yX6_has : MethodName := ⟨RX6, "has", "(JI)Z"⟩
abbrev cX6_isThereBranch : ByteArray := prog_8_method_8_code
def yX6_isThereBranch : MethodName := ⟨RX6, "isThereBranch", "(I)Z"⟩
abbrev cX6_none : ByteArray := prog_8_method_9_code
def yX6_none : MethodName := ⟨RX6, "none", "()[[I"⟩
abbrev cX6_treeOf : ByteArray := prog_8_method_10_code
def yX6_treeOf : MethodName := ⟨RX6, "treeOf", "(I)[[I"⟩
abbrev cX6_headTree : ByteArray := prog_8_method_11_code
def yX6_headTree : MethodName := ⟨RX6, "headTree", "()[[I"⟩
abbrev cX6_differing : ByteArray := prog_8_method_12_code
def yX6_differing : MethodName := ⟨RX6, "differing", "([[I[[I)I"⟩
abbrev cX6_clean : ByteArray := prog_8_method_13_code
def yX6_clean : MethodName := ⟨RX6, "clean", "()Z"⟩
abbrev cX6_takeDesk : ByteArray := prog_8_method_14_code
def yX6_takeDesk : MethodName := ⟨RX6, "takeDesk", "()V"⟩
abbrev cX6_create : ByteArray := prog_8_method_15_code
def yX6_create : MethodName := ⟨RX6, "create", "(I)I"⟩
abbrev cX6_delete : ByteArray := prog_8_method_16_code
def yX6_delete : MethodName := ⟨RX6, "delete", "(I)I"⟩
abbrev cX6_insert : ByteArray := prog_8_method_17_code
def yX6_insert : MethodName := ⟨RX6, "insert", "(III)I"⟩
abbrev cX6_hasPlace : ByteArray := prog_8_method_18_code
def yX6_hasPlace : MethodName := ⟨RX6, "hasPlace", "(II)Z"⟩
abbrev cX6_erase : ByteArray := prog_8_method_19_code
def yX6_erase : MethodName := ⟨RX6, "erase", "(II)I"⟩
abbrev cX6_replace : ByteArray := prog_8_method_20_code
def yX6_replace : MethodName := ⟨RX6, "replace", "(III)I"⟩
abbrev cX6_discard : ByteArray := prog_8_method_21_code
def yX6_discard : MethodName := ⟨RX6, "discard", "()I"⟩
def yX6_make : MethodName := ⟨RX6, "make", "([[IIII)I"⟩
abbrev cX6_commit : ByteArray := prog_8_method_23_code
def yX6_commit : MethodName := ⟨RX6, "commit", "(I)I"⟩
abbrev cX6_branch : ByteArray := prog_8_method_24_code
def yX6_branch : MethodName := ⟨RX6, "branch", "(I)I"⟩
abbrev cX6_go : ByteArray := prog_8_method_25_code
def yX6_go : MethodName := ⟨RX6, "go", "(I)I"⟩
abbrev cX6_reached : ByteArray := prog_8_method_26_code
def yX6_reached : MethodName := ⟨RX6, "reached", "()J"⟩
abbrev cX6_drop : ByteArray := prog_8_method_27_code
def yX6_drop : MethodName := ⟨RX6, "drop", "(I)I"⟩
def yX6_moveTo : MethodName := ⟨RX6, "moveTo", "(I)I"⟩
abbrev cX6_reset : ByteArray := prog_8_method_29_code
def yX6_reset : MethodName := ⟨RX6, "reset", "(I)I"⟩
abbrev cX6_made : ByteArray := prog_8_method_30_code
def yX6_made : MethodName := ⟨RX6, "made", "()J"⟩
abbrev cX6_sweep : ByteArray := prog_8_method_31_code
def yX6_sweep : MethodName := ⟨RX6, "sweep", "()I"⟩
def yX6_match : MethodName := ⟨RX6, "match", "([I[I)[I"⟩
def yX6_meet : MethodName := ⟨RX6, "meet", "(I[I[I[I)V"⟩
def yX6_lay : MethodName := ⟨RX6, "lay", "([I)V"⟩
def yX6_wayOf : MethodName := ⟨RX6, "wayOf", "([II)I"⟩
def yX6_mergePiece : MethodName := ⟨RX6, "mergePiece", "(I[I[I[I[I)V"⟩
def yX6_mergeLines : MethodName := ⟨RX6, "mergeLines", "(I[I[I[I[I)[I"⟩
def yX6_mergeFile : MethodName := ⟨RX6, "mergeFile", "(I[I[I[I[I)[I"⟩
def yX6_merged : MethodName := ⟨RX6, "merged", "([[I[[I[[I[II)[[I"⟩
def yX6_setUp : MethodName := ⟨RX6, "setUp", "(II[[I[[I)I"⟩
def yX6_setUpCarry : MethodName := ⟨RX6, "setUpCarry", "(II)I"⟩
def yX6_finish : MethodName := ⟨RX6, "finish", "(Z)Z"⟩
def yX6_baseOf : MethodName := ⟨RX6, "baseOf", "(II)I"⟩
def yX6_isAnc : MethodName := ⟨RX6, "isAnc", "(II)Z"⟩
abbrev cX6_canMix : ByteArray := prog_8_method_45_code
def yX6_canMix : MethodName := ⟨RX6, "canMix", "(IZ)Z"⟩
abbrev cX6_canCarry : ByteArray := prog_8_method_46_code
def yX6_canCarry : MethodName := ⟨RX6, "canCarry", "(IZ)Z"⟩
abbrev cX6_merge : ByteArray := prog_8_method_47_code
def yX6_merge : MethodName := ⟨RX6, "merge", "(I)I"⟩
abbrev cX6_carry : ByteArray := prog_8_method_48_code
def yX6_carry : MethodName := ⟨RX6, "carry", "(I)I"⟩
abbrev cX6_takeBack : ByteArray := prog_8_method_49_code
def yX6_takeBack : MethodName := ⟨RX6, "takeBack", "(I)I"⟩
def yX6_replayOn : MethodName := ⟨RX6, "replayOn", "()I"⟩
abbrev cX6_replay : ByteArray := prog_8_method_51_code
def yX6_replay : MethodName := ⟨RX6, "replay", "(I)I"⟩
abbrev cX6_open : ByteArray := prog_8_method_52_code
def yX6_open : MethodName := ⟨RX6, "open", "()I"⟩
abbrev cX6_settle : ByteArray := prog_8_method_53_code
def yX6_settle : MethodName := ⟨RX6, "settle", "(II)I"⟩
abbrev cX6_goOn : ByteArray := prog_8_method_54_code
def yX6_goOn : MethodName := ⟨RX6, "goOn", "()I"⟩
abbrev cX6_giveUp : ByteArray := prog_8_method_55_code
def yX6_giveUp : MethodName := ⟨RX6, "giveUp", "()I"⟩
abbrev cX6_pending : ByteArray := prog_8_method_56_code
def yX6_pending : MethodName := ⟨RX6, "pending", "()I"⟩
abbrev cX6_conflicts : ByteArray := prog_8_method_57_code
def yX6_conflicts : MethodName := ⟨RX6, "conflicts", "()I"⟩
abbrev cX6_unsettled : ByteArray := prog_8_method_58_code
def yX6_unsettled : MethodName := ⟨RX6, "unsettled", "()I"⟩
abbrev cX6_leftNow : ByteArray := prog_8_method_59_code
def yX6_leftNow : MethodName := ⟨RX6, "leftNow", "()I"⟩
abbrev cX6_left : ByteArray := prog_8_method_60_code
def yX6_left : MethodName := ⟨RX6, "left", "()I"⟩
abbrev cX6_finds : ByteArray := prog_8_method_61_code
def yX6_finds : MethodName := ⟨RX6, "finds", "(I)Z"⟩
abbrev cX6_conflictFile : ByteArray := prog_8_method_62_code
def yX6_conflictFile : MethodName := ⟨RX6, "conflictFile", "(I)I"⟩
def yX6_sizeOf : MethodName := ⟨RX6, "sizeOf", "(I)I"⟩
abbrev cX6_pieceSize : ByteArray := prog_8_method_64_code
def yX6_pieceSize : MethodName := ⟨RX6, "pieceSize", "(II)I"⟩
abbrev cX6_pieceLine : ByteArray := prog_8_method_65_code
def yX6_pieceLine : MethodName := ⟨RX6, "pieceLine", "(III)I"⟩
abbrev cX6_length : ByteArray := prog_8_method_66_code
def yX6_length : MethodName := ⟨RX6, "length", "([I)I"⟩
abbrev cX6_deskLines : ByteArray := prog_8_method_67_code
def yX6_deskLines : MethodName := ⟨RX6, "deskLines", "(I)I"⟩
abbrev cX6_deskLine : ByteArray := prog_8_method_68_code
def yX6_deskLine : MethodName := ⟨RX6, "deskLine", "(II)I"⟩
abbrev cX6_isClean : ByteArray := prog_8_method_69_code
def yX6_isClean : MethodName := ⟨RX6, "isClean", "()Z"⟩
abbrev cX6_commits : ByteArray := prog_8_method_70_code
def yX6_commits : MethodName := ⟨RX6, "commits", "()I"⟩
abbrev cX6_isThere : ByteArray := prog_8_method_71_code
def yX6_isThere : MethodName := ⟨RX6, "isThere", "(I)Z"⟩
abbrev cX6_asks : ByteArray := prog_8_method_72_code
def yX6_asks : MethodName := ⟨RX6, "asks", "(I)Z"⟩
abbrev cX6_asks_ : ByteArray := prog_8_method_73_code
def yX6_asks_ : MethodName := ⟨RX6, "asks", "(II)Z"⟩
abbrev cX6_isReached : ByteArray := prog_8_method_74_code
def yX6_isReached : MethodName := ⟨RX6, "isReached", "(I)Z"⟩
abbrev cX6_parent : ByteArray := prog_8_method_75_code
def yX6_parent : MethodName := ⟨RX6, "parent", "(IZ)I"⟩
abbrev cX6_wordOf : ByteArray := prog_8_method_76_code
def yX6_wordOf : MethodName := ⟨RX6, "wordOf", "(I)I"⟩
abbrev cX6_lines : ByteArray := prog_8_method_77_code
def yX6_lines : MethodName := ⟨RX6, "lines", "(II)I"⟩
abbrev cX6_asksLine : ByteArray := prog_8_method_78_code
def yX6_asksLine : MethodName := ⟨RX6, "asksLine", "(III)Z"⟩
abbrev cX6_lineAt : ByteArray := prog_8_method_79_code
def yX6_lineAt : MethodName := ⟨RX6, "lineAt", "(III)I"⟩
abbrev cX6_head : ByteArray := prog_8_method_80_code
def yX6_head : MethodName := ⟨RX6, "head", "()I"⟩
abbrev cX6_commitOf : ByteArray := prog_8_method_81_code
def yX6_commitOf : MethodName := ⟨RX6, "commitOf", "(I)I"⟩
abbrev cX6_isAncestor : ByteArray := prog_8_method_82_code
def yX6_isAncestor : MethodName := ⟨RX6, "isAncestor", "(II)Z"⟩
abbrev cX6_base : ByteArray := prog_8_method_83_code
def yX6_base : MethodName := ⟨RX6, "base", "(II)I"⟩
abbrev cX6_ahead : ByteArray := prog_8_method_84_code
def yX6_ahead : MethodName := ⟨RX6, "ahead", "(II)I"⟩
abbrev cX6_touched : ByteArray := prog_8_method_85_code
def yX6_touched : MethodName := ⟨RX6, "touched", "(II)I"⟩
def yX6_linesOf : MethodName := ⟨RX6, "linesOf", "(II)[I"⟩
abbrev cX6_added : ByteArray := prog_8_method_87_code
def yX6_added : MethodName := ⟨RX6, "added", "(III)I"⟩
abbrev cX6_pairOf : ByteArray := prog_8_method_88_code
def yX6_pairOf : MethodName := ⟨RX6, "pairOf", "(IIII)I"⟩
abbrev cX6_blame : ByteArray := prog_8_method_89_code
def yX6_blame : MethodName := ⟨RX6, "blame", "(III)I"⟩
def yX6_from : MethodName := ⟨RX6, "from", "(III)I"⟩
def yX6_depth : MethodName := ⟨RX6, "depth", "(I)I"⟩
abbrev cX6_depthOf : ByteArray := prog_8_method_92_code
def yX6_depthOf : MethodName := ⟨RX6, "depthOf", "(I)I"⟩
abbrev cX6_seek : ByteArray := prog_8_method_93_code
def yX6_seek : MethodName := ⟨RX6, "seek", "(II)I"⟩
abbrev cX6_probeNow : ByteArray := prog_8_method_94_code
def yX6_probeNow : MethodName := ⟨RX6, "probeNow", "()I"⟩
abbrev cX6_probe : ByteArray := prog_8_method_95_code
def yX6_probe : MethodName := ⟨RX6, "probe", "()I"⟩
abbrev cX6_tell : ByteArray := prog_8_method_96_code
def yX6_tell : MethodName := ⟨RX6, "tell", "(Z)I"⟩
abbrev cX6_culpritNow : ByteArray := prog_8_method_97_code
def yX6_culpritNow : MethodName := ⟨RX6, "culpritNow", "()I"⟩
abbrev cX6_culprit : ByteArray := prog_8_method_98_code
def yX6_culprit : MethodName := ⟨RX6, "culprit", "()I"⟩
abbrev cX6_wouldMerge : ByteArray := prog_8_method_99_code
def yX6_wouldMerge : MethodName := ⟨RX6, "wouldMerge", "(I)I"⟩
abbrev cX6_wouldConflict : ByteArray := prog_8_method_100_code
def yX6_wouldConflict : MethodName := ⟨RX6, "wouldConflict", "(I)I"⟩
abbrev cX6_meanLines : ByteArray := prog_8_method_101_code
def yX6_meanLines : MethodName := ⟨RX6, "meanLines", "()D"⟩
abbrev cX6_add : ByteArray := prog_8_method_102_code
def yX6_add : MethodName := ⟨RX6, "add", "(I)V"⟩
abbrev cX6_addTree : ByteArray := prog_8_method_103_code
def yX6_addTree : MethodName := ⟨RX6, "addTree", "([[I)V"⟩
abbrev cX6_digest : ByteArray := prog_8_method_104_code
def yX6_digest : MethodName := ⟨RX6, "digest", "()J"⟩
def RJx145de : String := "java/io/Serializable"
def TJx145de : u_T := fun k => match k with
  | _ => ("", "", "", false)
def tyJx145de : Nat → FieldType := fun k => match k with
  | _ => .int
theorem nmJx145de : ∀ a, a < 0 → ∀ b, b < 0 → a ≠ b → (TJx145de a).2.1 ≠ (TJx145de b).2.1 := by decide +kernel
theorem tyJx145de_ok : ∀ k, k < 0 → parseFieldDescriptor (TJx145de k).2.2.1 = some (tyJx145de k) := by decide +kernel
def RJ5 : String := "java/lang/AbstractStringBuilder"
def TJ5 : u_T := fun k => match k with
  | _ => ("", "", "", false)
def tyJ5 : Nat → FieldType := fun k => match k with
  | _ => .int
theorem nmJ5 : ∀ a, a < 0 → ∀ b, b < 0 → a ≠ b → (TJ5 a).2.1 ≠ (TJ5 b).2.1 := by decide +kernel
theorem tyJ5_ok : ∀ k, k < 0 → parseFieldDescriptor (TJ5 k).2.2.1 = some (tyJ5 k) := by decide +kernel
def yJ5_init_d00df : MethodName := ⟨RJ5, "<init>", "(I)V"⟩
def yJ5_length_8abf5 : MethodName := ⟨RJ5, "length", "()I"⟩
def yJ5_ensureCapacityInternal_d00df : MethodName := ⟨RJ5, "ensureCapacityInternal", "(I)V"⟩
def yJ5_newCapacity_0f7a4 : MethodName := ⟨RJ5, "newCapacity", "(I)I"⟩
def yJ5_inflate_da8c8 : MethodName := ⟨RJ5, "inflate", "()V"⟩
def yJ5_append_cf1ce : MethodName := ⟨RJ5, "append", "(Ljava/lang/String;)Ljava/lang/AbstractStringBuilder;"⟩
def yJ5_appendNull_278bc : MethodName := ⟨RJ5, "appendNull", "()Ljava/lang/AbstractStringBuilder;"⟩
def yJ5_append_c97b9 : MethodName := ⟨RJ5, "append", "(I)Ljava/lang/AbstractStringBuilder;"⟩
def yJ5_getValue_6d5f1 : MethodName := ⟨RJ5, "getValue", "()[B"⟩
def yJ5_isLatin1_aae02 : MethodName := ⟨RJ5, "isLatin1", "()Z"⟩
def yJ5_inflateIfNeededFor_a7421 : MethodName := ⟨RJ5, "inflateIfNeededFor", "(Ljava/lang/String;)V"⟩
def yJ5_putStringAt_47b60 : MethodName := ⟨RJ5, "putStringAt", "(ILjava/lang/String;)V"⟩
def RJx2cfe8 : String := "java/lang/Appendable"
def TJx2cfe8 : u_T := fun k => match k with
  | _ => ("", "", "", false)
def tyJx2cfe8 : Nat → FieldType := fun k => match k with
  | _ => .int
theorem nmJx2cfe8 : ∀ a, a < 0 → ∀ b, b < 0 → a ≠ b → (TJx2cfe8 a).2.1 ≠ (TJx2cfe8 b).2.1 := by decide +kernel
theorem tyJx2cfe8_ok : ∀ k, k < 0 → parseFieldDescriptor (TJx2cfe8 k).2.2.1 = some (tyJx2cfe8 k) := by decide +kernel
def RJx9f9b0 : String := "java/lang/CharSequence"
def TJx9f9b0 : u_T := fun k => match k with
  | _ => ("", "", "", false)
def tyJx9f9b0 : Nat → FieldType := fun k => match k with
  | _ => .int
theorem nmJx9f9b0 : ∀ a, a < 0 → ∀ b, b < 0 → a ≠ b → (TJx9f9b0 a).2.1 ≠ (TJx9f9b0 b).2.1 := by decide +kernel
theorem tyJx9f9b0_ok : ∀ k, k < 0 → parseFieldDescriptor (TJx9f9b0 k).2.2.1 = some (tyJx9f9b0 k) := by decide +kernel
def RJx8e188 : String := "java/lang/Cloneable"
def TJx8e188 : u_T := fun k => match k with
  | _ => ("", "", "", false)
def tyJx8e188 : Nat → FieldType := fun k => match k with
  | _ => .int
theorem nmJx8e188 : ∀ a, a < 0 → ∀ b, b < 0 → a ≠ b → (TJx8e188 a).2.1 ≠ (TJx8e188 b).2.1 := by decide +kernel
theorem tyJx8e188_ok : ∀ k, k < 0 → parseFieldDescriptor (TJx8e188 k).2.2.1 = some (tyJx8e188 k) := by decide +kernel
def RJxb160c : String := "java/lang/Comparable"
def TJxb160c : u_T := fun k => match k with
  | _ => ("", "", "", false)
def tyJxb160c : Nat → FieldType := fun k => match k with
  | _ => .int
theorem nmJxb160c : ∀ a, a < 0 → ∀ b, b < 0 → a ≠ b → (TJxb160c a).2.1 ≠ (TJxb160c b).2.1 := by decide +kernel
theorem tyJxb160c_ok : ∀ k, k < 0 → parseFieldDescriptor (TJxb160c k).2.2.1 = some (tyJxb160c k) := by decide +kernel
def RJ6 : String := "java/lang/Integer"
def TJ6 : u_T := fun k => match k with
  | _ => ("", "", "", false)
def tyJ6 : Nat → FieldType := fun k => match k with
  | _ => .int
theorem nmJ6 : ∀ a, a < 0 → ∀ b, b < 0 → a ≠ b → (TJ6 a).2.1 ≠ (TJ6 b).2.1 := by decide +kernel
theorem tyJ6_ok : ∀ k, k < 0 → parseFieldDescriptor (TJ6 k).2.2.1 = some (tyJ6 k) := by decide +kernel
def yJ6_getChars_ba4f3 : MethodName := ⟨RJ6, "getChars", "(II[B)I"⟩
def yJ6_stringSize_0f7a4 : MethodName := ⟨RJ6, "stringSize", "(I)I"⟩
def yJ6_numberOfLeadingZeros_0f7a4 : MethodName := ⟨RJ6, "numberOfLeadingZeros", "(I)I"⟩
def yJ6_numberOfTrailingZeros_0f7a4 : MethodName := ⟨RJ6, "numberOfTrailingZeros", "(I)I"⟩
def RJ13 : String := "java/lang/Long"
def TJ13 : u_T := fun k => match k with
  | _ => ("", "", "", false)
def tyJ13 : Nat → FieldType := fun k => match k with
  | _ => .int
theorem nmJ13 : ∀ a, a < 0 → ∀ b, b < 0 → a ≠ b → (TJ13 a).2.1 ≠ (TJ13 b).2.1 := by decide +kernel
theorem tyJ13_ok : ∀ k, k < 0 → parseFieldDescriptor (TJ13 k).2.2.1 = some (tyJ13 k) := by decide +kernel
def yJ13_numberOfLeadingZeros_95d88 : MethodName := ⟨RJ13, "numberOfLeadingZeros", "(J)I"⟩
def yJ13_numberOfTrailingZeros_95d88 : MethodName := ⟨RJ13, "numberOfTrailingZeros", "(J)I"⟩
abbrev cJ13_bitCount_95d88 : ByteArray := prog_16_method_50_code
def yJ13_bitCount_95d88 : MethodName := ⟨RJ13, "bitCount", "(J)I"⟩
def RJ9 : String := "java/lang/Math"
def TJ9 : u_T := fun k => match k with
  | _ => ("", "", "", false)
def tyJ9 : Nat → FieldType := fun k => match k with
  | _ => .int
theorem nmJ9 : ∀ a, a < 0 → ∀ b, b < 0 → a ≠ b → (TJ9 a).2.1 ≠ (TJ9 b).2.1 := by decide +kernel
theorem tyJ9_ok : ∀ k, k < 0 → parseFieldDescriptor (TJ9 k).2.2.1 = some (tyJ9 k) := by decide +kernel
def yJ9_max_7cf53 : MethodName := ⟨RJ9, "max", "(II)I"⟩
def yJ9_min_7cf53 : MethodName := ⟨RJ9, "min", "(II)I"⟩
def RJxd2413 : String := "java/lang/Number"
def TJxd2413 : u_T := fun k => match k with
  | _ => ("", "", "", false)
def tyJxd2413 : Nat → FieldType := fun k => match k with
  | _ => .int
theorem nmJxd2413 : ∀ a, a < 0 → ∀ b, b < 0 → a ≠ b → (TJxd2413 a).2.1 ≠ (TJxd2413 b).2.1 := by decide +kernel
theorem tyJxd2413_ok : ∀ k, k < 0 → parseFieldDescriptor (TJxd2413 k).2.2.1 = some (tyJxd2413 k) := by decide +kernel
def RJ0 : String := "java/lang/String"
def TJ0 : u_T := fun k => match k with
  | 0 => ("java/lang/String", "value", "[B", true)
  | 1 => ("java/lang/String", "coder", "B", true)
  | 2 => ("java/lang/String", "hash", "I", false)
  | _ => ("java/lang/String", "hashIsZero", "Z", false)
def tyJ0 : Nat → FieldType := fun k => match k with
  | 0 => .array .byte
  | 1 => .byte
  | 2 => .int
  | _ => .boolean
theorem nmJ0 : ∀ a, a < 4 → ∀ b, b < 4 → a ≠ b → (TJ0 a).2.1 ≠ (TJ0 b).2.1 := by decide +kernel
theorem tyJ0_ok : ∀ k, k < 4 → parseFieldDescriptor (TJ0 k).2.2.1 = some (tyJ0 k) := by decide +kernel
def yJ0_init_81219 : MethodName := ⟨RJ0, "<init>", "(Ljava/lang/StringBuilder;)V"⟩
def yJ0_length_8abf5 : MethodName := ⟨RJ0, "length", "()I"⟩
def yJ0_getBytes_840e7 : MethodName := ⟨RJ0, "getBytes", "([BIB)V"⟩
def yJ0_init_db425 : MethodName := ⟨RJ0, "<init>", "(Ljava/lang/AbstractStringBuilder;Ljava/lang/Void;)V"⟩
def yJ0_coder_7d493 : MethodName := ⟨RJ0, "coder", "()B"⟩
def yJ0_checkBoundsOffCount_cabcc : MethodName := ⟨RJ0, "checkBoundsOffCount", "(III)I"⟩
def yJ0_checkBoundsBeginEnd_23922 : MethodName := ⟨RJ0, "checkBoundsBeginEnd", "(III)V"⟩
def RJ4 : String := "java/lang/StringBuilder"
def TJ4 : u_T := fun k => match k with
  | 0 => ("java/lang/AbstractStringBuilder", "value", "[B", false)
  | 1 => ("java/lang/AbstractStringBuilder", "coder", "B", false)
  | 2 => ("java/lang/AbstractStringBuilder", "maybeLatin1", "Z", false)
  | _ => ("java/lang/AbstractStringBuilder", "count", "I", false)
def tyJ4 : Nat → FieldType := fun k => match k with
  | 0 => .array .byte
  | 1 => .byte
  | 2 => .boolean
  | _ => .int
theorem nmJ4 : ∀ a, a < 4 → ∀ b, b < 4 → a ≠ b → (TJ4 a).2.1 ≠ (TJ4 b).2.1 := by decide +kernel
theorem tyJ4_ok : ∀ k, k < 4 → parseFieldDescriptor (TJ4 k).2.2.1 = some (tyJ4 k) := by decide +kernel
def yJ4_init_da8c8 : MethodName := ⟨RJ4, "<init>", "()V"⟩
def yJ4_append_15ec4 : MethodName := ⟨RJ4, "append", "(Ljava/lang/String;)Ljava/lang/StringBuilder;"⟩
def yJ4_append_bf812 : MethodName := ⟨RJ4, "append", "(I)Ljava/lang/StringBuilder;"⟩
def yJ4_toString_0e30d : MethodName := ⟨RJ4, "toString", "()Ljava/lang/String;"⟩
def yJ4_length_8abf5 : MethodName := ⟨RJ4, "length", "()I"⟩
def RJ1 : String := "java/lang/StringLatin1"
def TJ1 : u_T := fun k => match k with
  | _ => ("", "", "", false)
def tyJ1 : Nat → FieldType := fun k => match k with
  | _ => .int
theorem nmJ1 : ∀ a, a < 0 → ∀ b, b < 0 → a ≠ b → (TJ1 a).2.1 ≠ (TJ1 b).2.1 := by decide +kernel
theorem tyJ1_ok : ∀ k, k < 0 → parseFieldDescriptor (TJ1 k).2.2.1 = some (tyJ1 k) := by decide +kernel
def yJ1_inflate_0e8fd : MethodName := ⟨RJ1, "inflate", "([BI[BII)V"⟩
def RJ2 : String := "java/lang/StringUTF16"
def TJ2 : u_T := fun k => match k with
  | _ => ("", "", "", false)
def tyJ2 : Nat → FieldType := fun k => match k with
  | _ => .int
theorem nmJ2 : ∀ a, a < 0 → ∀ b, b < 0 → a ≠ b → (TJ2 a).2.1 ≠ (TJ2 b).2.1 := by decide +kernel
theorem tyJ2_ok : ∀ k, k < 0 → parseFieldDescriptor (TJ2 k).2.2.1 = some (tyJ2 k) := by decide +kernel
def yJ2_newBytesFor_77867 : MethodName := ⟨RJ2, "newBytesFor", "(I)[B"⟩
def yJ2_newBytesLength_0f7a4 : MethodName := ⟨RJ2, "newBytesLength", "(I)I"⟩
def yJ2_putChar_b72d1 : MethodName := ⟨RJ2, "putChar", "([BII)V"⟩
def yJ2_getChar_3b067 : MethodName := ⟨RJ2, "getChar", "([BI)C"⟩
def yJ2_length_9d52b : MethodName := ⟨RJ2, "length", "([B)I"⟩
def yJ2_coderFromArrayLen_85cad : MethodName := ⟨RJ2, "coderFromArrayLen", "([BI)B"⟩
def yJ2_compress_39247 : MethodName := ⟨RJ2, "compress", "([BII)[B"⟩
def yJ2_compress_5af95 : MethodName := ⟨RJ2, "compress", "([BI[BII)I"⟩
def yJ2_getChars_46870 : MethodName := ⟨RJ2, "getChars", "(III[B)I"⟩
def yJ2_putCharsAt_cd4e5 : MethodName := ⟨RJ2, "putCharsAt", "([BICCCC)I"⟩
def yJ2_inflate_0e8fd : MethodName := ⟨RJ2, "inflate", "([BI[BII)V"⟩
def yJ2_getChars_ba4f3 : MethodName := ⟨RJ2, "getChars", "(II[B)I"⟩
def yJ2_checkBoundsBeginEnd_d044e : MethodName := ⟨RJ2, "checkBoundsBeginEnd", "(II[B)V"⟩
def yJ2_checkBoundsOffCount_d044e : MethodName := ⟨RJ2, "checkBoundsOffCount", "(II[B)V"⟩
def RJ10 : String := "java/lang/System"
def TJ10 : u_T := fun k => match k with
  | _ => ("", "", "", false)
def tyJ10 : Nat → FieldType := fun k => match k with
  | _ => .int
theorem nmJ10 : ∀ a, a < 0 → ∀ b, b < 0 → a ≠ b → (TJ10 a).2.1 ≠ (TJ10 b).2.1 := by decide +kernel
theorem tyJ10_ok : ∀ k, k < 0 → parseFieldDescriptor (TJ10 k).2.2.1 = some (tyJ10 k) := by decide +kernel
def RJxfd54e : String := "java/lang/constant/Constable"
def TJxfd54e : u_T := fun k => match k with
  | _ => ("", "", "", false)
def tyJxfd54e : Nat → FieldType := fun k => match k with
  | _ => .int
theorem nmJxfd54e : ∀ a, a < 0 → ∀ b, b < 0 → a ≠ b → (TJxfd54e a).2.1 ≠ (TJxfd54e b).2.1 := by decide +kernel
theorem tyJxfd54e_ok : ∀ k, k < 0 → parseFieldDescriptor (TJxfd54e k).2.2.1 = some (tyJxfd54e k) := by decide +kernel
def RJx3cf43 : String := "java/lang/constant/ConstantDesc"
def TJx3cf43 : u_T := fun k => match k with
  | _ => ("", "", "", false)
def tyJx3cf43 : Nat → FieldType := fun k => match k with
  | _ => .int
theorem nmJx3cf43 : ∀ a, a < 0 → ∀ b, b < 0 → a ≠ b → (TJx3cf43 a).2.1 ≠ (TJx3cf43 b).2.1 := by decide +kernel
theorem tyJx3cf43_ok : ∀ k, k < 0 → parseFieldDescriptor (TJx3cf43 k).2.2.1 = some (tyJx3cf43 k) := by decide +kernel
def RJ7 : String := "java/util/Arrays"
def TJ7 : u_T := fun k => match k with
  | _ => ("", "", "", false)
def tyJ7 : Nat → FieldType := fun k => match k with
  | _ => .int
theorem nmJ7 : ∀ a, a < 0 → ∀ b, b < 0 → a ≠ b → (TJ7 a).2.1 ≠ (TJ7 b).2.1 := by decide +kernel
theorem tyJ7_ok : ∀ k, k < 0 → parseFieldDescriptor (TJ7 k).2.2.1 = some (tyJ7 k) := by decide +kernel
abbrev cJ7_equals_bbcde : ByteArray := prog_26_method_83_code
def yJ7_equals_bbcde : MethodName := ⟨RJ7, "equals", "([I[I)Z"⟩
abbrev cJ7_fill_53178 : ByteArray := prog_26_method_103_code
def yJ7_fill_53178 : MethodName := ⟨RJ7, "fill", "([II)V"⟩
def yJ7_copyOf_9075b : MethodName := ⟨RJ7, "copyOf", "([BI)[B"⟩
def yJ7_copyOf_59c91 : MethodName := ⟨RJ7, "copyOf", "([II)[I"⟩
def yJ7_checkLength_df160 : MethodName := ⟨RJ7, "checkLength", "(II)V"⟩
def yJ7_copyOfRange_39247 : MethodName := ⟨RJ7, "copyOfRange", "([BII)[B"⟩
def yJ7_copyOfRangeByte_39247 : MethodName := ⟨RJ7, "copyOfRangeByte", "([BII)[B"⟩
def yJ7_copyOfRange_feecc : MethodName := ⟨RJ7, "copyOfRange", "([III)[I"⟩
def yJ7_copyOfRangeInt_feecc : MethodName := ⟨RJ7, "copyOfRangeInt", "([III)[I"⟩
def RJx9a822 : String := "jdk/internal/misc/Unsafe"
def TJx9a822 : u_T := fun k => match k with
  | _ => ("", "", "", false)
def tyJx9a822 : Nat → FieldType := fun k => match k with
  | _ => .int
theorem nmJx9a822 : ∀ a, a < 0 → ∀ b, b < 0 → a ≠ b → (TJx9a822 a).2.1 ≠ (TJx9a822 b).2.1 := by decide +kernel
theorem tyJx9a822_ok : ∀ k, k < 0 → parseFieldDescriptor (TJx9a822 k).2.2.1 = some (tyJx9a822 k) := by decide +kernel
def yJx9a822_getLongUnaligned_f02c6 : MethodName := ⟨RJx9a822, "getLongUnaligned", "(Ljava/lang/Object;J)J"⟩
def yJx9a822_getIntUnaligned_25a47 : MethodName := ⟨RJx9a822, "getIntUnaligned", "(Ljava/lang/Object;J)I"⟩
def yJx9a822_pickPos_7cf53 : MethodName := ⟨RJx9a822, "pickPos", "(II)I"⟩
def yJx9a822_makeLong_0477f : MethodName := ⟨RJx9a822, "makeLong", "(BBBBBBBB)J"⟩
def yJx9a822_makeLong_4b46d : MethodName := ⟨RJx9a822, "makeLong", "(SSSS)J"⟩
def yJx9a822_makeLong_a216e : MethodName := ⟨RJx9a822, "makeLong", "(II)J"⟩
def yJx9a822_makeInt_4e28c : MethodName := ⟨RJx9a822, "makeInt", "(SS)I"⟩
def yJx9a822_makeInt_86272 : MethodName := ⟨RJx9a822, "makeInt", "(BBBB)I"⟩
def yJx9a822_toUnsignedInt_4d018 : MethodName := ⟨RJx9a822, "toUnsignedInt", "(B)I"⟩
def yJx9a822_toUnsignedInt_f1ed4 : MethodName := ⟨RJx9a822, "toUnsignedInt", "(S)I"⟩
def yJx9a822_toUnsignedLong_c5be9 : MethodName := ⟨RJx9a822, "toUnsignedLong", "(B)J"⟩
def yJx9a822_toUnsignedLong_51cfc : MethodName := ⟨RJx9a822, "toUnsignedLong", "(S)J"⟩
def yJx9a822_toUnsignedLong_3e8ac : MethodName := ⟨RJx9a822, "toUnsignedLong", "(I)J"⟩
def RJxf92f9 : String := "jdk/internal/misc/UnsafeConstants"
def TJxf92f9 : u_T := fun k => match k with
  | _ => ("", "", "", false)
def tyJxf92f9 : Nat → FieldType := fun k => match k with
  | _ => .int
theorem nmJxf92f9 : ∀ a, a < 0 → ∀ b, b < 0 → a ≠ b → (TJxf92f9 a).2.1 ≠ (TJxf92f9 b).2.1 := by decide +kernel
theorem tyJxf92f9_ok : ∀ k, k < 0 → parseFieldDescriptor (TJxf92f9 k).2.2.1 = some (tyJxf92f9 k) := by decide +kernel
def RJ8 : String := "jdk/internal/util/ArraysSupport"
def TJ8 : u_T := fun k => match k with
  | _ => ("", "", "", false)
def tyJ8 : Nat → FieldType := fun k => match k with
  | _ => .int
theorem nmJ8 : ∀ a, a < 0 → ∀ b, b < 0 → a ≠ b → (TJ8 a).2.1 ≠ (TJ8 b).2.1 := by decide +kernel
theorem tyJ8_ok : ∀ k, k < 0 → parseFieldDescriptor (TJ8 k).2.2.1 = some (tyJ8 k) := by decide +kernel
def yJ8_vectorizedMismatch_456ae : MethodName := ⟨RJ8, "vectorizedMismatch", "(Ljava/lang/Object;JLjava/lang/Object;JII)I"⟩
def yJ8_mismatch_05dfe : MethodName := ⟨RJ8, "mismatch", "([I[II)I"⟩
def yJ8_newLength_cabcc : MethodName := ⟨RJ8, "newLength", "(III)I"⟩
def yJ8_hugeLength_7cf53 : MethodName := ⟨RJ8, "hugeLength", "(II)I"⟩
def RJ3 : String := "jdk/internal/util/Preconditions"
def TJ3 : u_T := fun k => match k with
  | _ => ("", "", "", false)
def tyJ3 : Nat → FieldType := fun k => match k with
  | _ => .int
theorem nmJ3 : ∀ a, a < 0 → ∀ b, b < 0 → a ≠ b → (TJ3 a).2.1 ≠ (TJ3 b).2.1 := by decide +kernel
theorem tyJ3_ok : ∀ k, k < 0 → parseFieldDescriptor (TJ3 k).2.2.1 = some (tyJ3 k) := by decide +kernel
def yJ3_checkFromToIndex_8c36e : MethodName := ⟨RJ3, "checkFromToIndex", "(IIILjava/util/function/BiFunction;)I"⟩
def yJ3_checkFromIndexSize_8c36e : MethodName := ⟨RJ3, "checkFromIndexSize", "(IIILjava/util/function/BiFunction;)I"⟩
def RL : String := "StrataRepoLaw"
abbrev cL_create : ByteArray := method_3_code
abbrev cL_delete : ByteArray := method_4_code
abbrev cL_insert : ByteArray := method_5_code
abbrev cL_erase : ByteArray := method_6_code
abbrev cL_replace : ByteArray := method_7_code
abbrev cL_discard : ByteArray := method_8_code
abbrev cL_commit : ByteArray := method_9_code
abbrev cL_branch : ByteArray := method_10_code
abbrev cL_go : ByteArray := method_11_code
abbrev cL_drop : ByteArray := method_12_code
abbrev cL_reset : ByteArray := method_13_code
abbrev cL_sweep : ByteArray := method_14_code
abbrev cL_merge : ByteArray := method_15_code
abbrev cL_carry : ByteArray := method_16_code
abbrev cL_takeBack : ByteArray := method_17_code
abbrev cL_replay : ByteArray := method_18_code
abbrev cL_settle : ByteArray := method_19_code
abbrev cL_goOn : ByteArray := method_20_code
abbrev cL_giveUp : ByteArray := method_21_code
abbrev cL_conflictFile : ByteArray := method_22_code
abbrev cL_pieceSize : ByteArray := method_23_code
abbrev cL_pieceLine : ByteArray := method_24_code
abbrev cL_deskLines : ByteArray := method_25_code
abbrev cL_deskLine : ByteArray := method_26_code
abbrev cL_isReached : ByteArray := method_27_code
abbrev cL_parent : ByteArray := method_28_code
abbrev cL_wordOf : ByteArray := method_29_code
abbrev cL_lines : ByteArray := method_30_code
abbrev cL_lineAt : ByteArray := method_31_code
abbrev cL_isAncestor : ByteArray := method_32_code
abbrev cL_base : ByteArray := method_33_code
abbrev cL_ahead : ByteArray := method_34_code
abbrev cL_touched : ByteArray := method_35_code
abbrev cL_added : ByteArray := method_36_code
abbrev cL_pairOf : ByteArray := method_37_code
abbrev cL_blame : ByteArray := method_38_code
abbrev cL_depthOf : ByteArray := method_39_code
abbrev cL_seek : ByteArray := method_40_code
abbrev cL_tell : ByteArray := method_41_code
abbrev cL_wouldMerge : ByteArray := method_42_code
abbrev cL_wouldConflict : ByteArray := method_43_code
abbrev cL_law : ByteArray := code
abbrev vwCl : List vw_C := [(RJ0, TJ0, 4), (RJ4, TJ4, 4), (RX0, TX0, 6), (RX1, TX1, 4), (RX2, TX2, 4), (RX3, TX3, 14), (RX4, TX4, 2), (RX5, TX5, 12), (RX6, TX6, 30)]
theorem dX0_init_0 : decode cX0_init 0 = .ok (.aload_n 0, 1) := by decide +kernel
theorem dX0_init_1 : decode cX0_init 1 = .ok (.invokespecial 3, 3) := by decide +kernel
theorem dX0_init_4 : decode cX0_init 4 = .ok (.aload_n 0, 1) := by decide +kernel
theorem dX0_init_5 : decode cX0_init 5 = .ok (.aload_n 1, 1) := by decide +kernel
theorem dX0_init_6 : decode cX0_init 6 = .ok (.putfield 9, 3) := by decide +kernel
theorem dX0_init_9 : decode cX0_init 9 = .ok (.aload_n 0, 1) := by decide +kernel
theorem dX0_init_10 : decode cX0_init 10 = .ok (.iload_n 2, 1) := by decide +kernel
theorem dX0_init_11 : decode cX0_init 11 = .ok (.putfield 15, 3) := by decide +kernel
theorem dX0_init_14 : decode cX0_init 14 = .ok (.aload_n 0, 1) := by decide +kernel
theorem dX0_init_15 : decode cX0_init 15 = .ok (.iload_n 3, 1) := by decide +kernel
theorem dX0_init_16 : decode cX0_init 16 = .ok (.putfield 19, 3) := by decide +kernel
theorem dX0_init_19 : decode cX0_init 19 = .ok (.aload_n 0, 1) := by decide +kernel
theorem dX0_init_20 : decode cX0_init 20 = .ok (.iload 4, 2) := by decide +kernel
theorem dX0_init_22 : decode cX0_init 22 = .ok (.putfield 22, 3) := by decide +kernel
theorem dX0_init_25 : decode cX0_init 25 = .ok (.aload_n 0, 1) := by decide +kernel
theorem dX0_init_26 : decode cX0_init 26 = .ok (.iload 5, 2) := by decide +kernel
theorem dX0_init_28 : decode cX0_init 28 = .ok (.putfield 25, 3) := by decide +kernel
theorem dX0_init_31 : decode cX0_init 31 = .ok (.aload_n 0, 1) := by decide +kernel
theorem dX0_init_32 : decode cX0_init 32 = .ok (.lload 6, 2) := by decide +kernel
theorem dX0_init_34 : decode cX0_init 34 = .ok (.putfield 28, 3) := by decide +kernel
theorem dX0_init_37 : decode cX0_init 37 = .ok (.return_, 1) := by decide +kernel
theorem dX1_init_0 : decode cX1_init 0 = .ok (.aload_n 0, 1) := by decide +kernel
theorem dX1_init_1 : decode cX1_init 1 = .ok (.invokespecial 3, 3) := by decide +kernel
theorem dX1_init_4 : decode cX1_init 4 = .ok (.aload_n 0, 1) := by decide +kernel
theorem dX1_init_5 : decode cX1_init 5 = .ok (.bipush 60, 2) := by decide +kernel
theorem dX1_init_7 : decode cX1_init 7 = .ok (.anewarray 9, 3) := by decide +kernel
theorem dX1_init_10 : decode cX1_init 10 = .ok (.putfield 11, 3) := by decide +kernel
theorem dX1_init_13 : decode cX1_init 13 = .ok (.aload_n 0, 1) := by decide +kernel
theorem dX1_init_14 : decode cX1_init 14 = .ok (.new 9, 3) := by decide +kernel
theorem dX1_init_17 : decode cX1_init 17 = .ok (.dup, 1) := by decide +kernel
theorem dX1_init_18 : decode cX1_init 18 = .ok (.new 17, 3) := by decide +kernel
theorem dX1_init_21 : decode cX1_init 21 = .ok (.dup, 1) := by decide +kernel
theorem dX1_init_22 : decode cX1_init 22 = .ok (.invokespecial 19, 3) := by decide +kernel
theorem dX1_init_25 : decode cX1_init 25 = .ok (.iconst (-1), 1) := by decide +kernel
theorem dX1_init_26 : decode cX1_init 26 = .ok (.iconst (-1), 1) := by decide +kernel
theorem dX1_init_27 : decode cX1_init 27 = .ok (.iconst (-1), 1) := by decide +kernel
theorem dX1_init_28 : decode cX1_init 28 = .ok (.iconst 0, 1) := by decide +kernel
theorem dX1_init_29 : decode cX1_init 29 = .ok (.lconst 0, 1) := by decide +kernel
theorem dX1_init_30 : decode cX1_init 30 = .ok (.invokespecial 20, 3) := by decide +kernel
theorem dX1_init_33 : decode cX1_init 33 = .ok (.putfield 23, 3) := by decide +kernel
theorem dX1_init_36 : decode cX1_init 36 = .ok (.aload_n 0, 1) := by decide +kernel
theorem dX1_init_37 : decode cX1_init 37 = .ok (.iconst 0, 1) := by decide +kernel
theorem dX1_init_38 : decode cX1_init 38 = .ok (.putfield 27, 3) := by decide +kernel
theorem dX1_init_41 : decode cX1_init 41 = .ok (.aload_n 0, 1) := by decide +kernel
theorem dX1_init_42 : decode cX1_init 42 = .ok (.lconst 0, 1) := by decide +kernel
theorem dX1_init_43 : decode cX1_init 43 = .ok (.putfield 31, 3) := by decide +kernel
theorem dX1_init_46 : decode cX1_init 46 = .ok (.return_, 1) := by decide +kernel
theorem dX1_at_0 : decode cX1_at 0 = .ok (.iload_n 1, 1) := by decide +kernel
theorem dX1_at_1 : decode cX1_at 1 = .ok (.ifCond .lt 9, 3) := by decide +kernel
theorem dX1_at_10 : decode cX1_at 10 = .ok (.aload_n 0, 1) := by decide +kernel
theorem dX1_at_11 : decode cX1_at 11 = .ok (.getfield 23, 3) := by decide +kernel
theorem dX1_at_14 : decode cX1_at 14 = .ok (.areturn, 1) := by decide +kernel
theorem dX1_keeps_0 : decode cX1_keeps 0 = .ok (.iload_n 1, 1) := by decide +kernel
theorem dX1_keeps_1 : decode cX1_keeps 1 = .ok (.ifCond .lt 28, 3) := by decide +kernel
theorem dX1_keeps_4 : decode cX1_keeps 4 = .ok (.iload_n 1, 1) := by decide +kernel
theorem dX1_keeps_5 : decode cX1_keeps 5 = .ok (.aload_n 0, 1) := by decide +kernel
theorem dX1_keeps_6 : decode cX1_keeps 6 = .ok (.getfield 27, 3) := by decide +kernel
theorem dX1_keeps_9 : decode cX1_keeps 9 = .ok (.if_icmp .ge 20, 3) := by decide +kernel
theorem dX1_keeps_29 : decode cX1_keeps 29 = .ok (.iconst 0, 1) := by decide +kernel
theorem dX1_keeps_30 : decode cX1_keeps 30 = .ok (.ireturn, 1) := by decide +kernel
theorem dX1_keepOnly_0 : decode cX1_keepOnly 0 = .ok (.lconst 1, 1) := by decide +kernel
theorem dX1_keepOnly_1 : decode cX1_keepOnly 1 = .ok (.aload_n 0, 1) := by decide +kernel
theorem dX1_keepOnly_2 : decode cX1_keepOnly 2 = .ok (.getfield 27, 3) := by decide +kernel
theorem dX1_keepOnly_5 : decode cX1_keepOnly 5 = .ok (.lshl, 1) := by decide +kernel
theorem dX1_keepOnly_6 : decode cX1_keepOnly 6 = .ok (.lconst 1, 1) := by decide +kernel
theorem dX1_keepOnly_7 : decode cX1_keepOnly 7 = .ok (.lsub, 1) := by decide +kernel
theorem dX1_keepOnly_8 : decode cX1_keepOnly 8 = .ok (.aload_n 0, 1) := by decide +kernel
theorem dX1_keepOnly_9 : decode cX1_keepOnly 9 = .ok (.getfield 31, 3) := by decide +kernel
theorem dX1_keepOnly_12 : decode cX1_keepOnly 12 = .ok (.ldc2_w 62, 3) := by decide +kernel
theorem dX1_keepOnly_15 : decode cX1_keepOnly 15 = .ok (.lxor, 1) := by decide +kernel
theorem dX1_keepOnly_16 : decode cX1_keepOnly 16 = .ok (.land, 1) := by decide +kernel
theorem dX1_keepOnly_17 : decode cX1_keepOnly 17 = .ok (.lload_n 1, 1) := by decide +kernel
theorem dX1_keepOnly_18 : decode cX1_keepOnly 18 = .ok (.ldc2_w 62, 3) := by decide +kernel
theorem dX1_keepOnly_21 : decode cX1_keepOnly 21 = .ok (.lxor, 1) := by decide +kernel
theorem dX1_keepOnly_22 : decode cX1_keepOnly 22 = .ok (.land, 1) := by decide +kernel
theorem dX1_keepOnly_23 : decode cX1_keepOnly 23 = .ok (.lstore_n 3, 1) := by decide +kernel
theorem dX1_keepOnly_24 : decode cX1_keepOnly 24 = .ok (.aload_n 0, 1) := by decide +kernel
theorem dX1_keepOnly_25 : decode cX1_keepOnly 25 = .ok (.dup, 1) := by decide +kernel
theorem dX1_keepOnly_26 : decode cX1_keepOnly 26 = .ok (.getfield 31, 3) := by decide +kernel
theorem dX1_keepOnly_29 : decode cX1_keepOnly 29 = .ok (.lload_n 3, 1) := by decide +kernel
theorem dX1_keepOnly_30 : decode cX1_keepOnly 30 = .ok (.lor, 1) := by decide +kernel
theorem dX1_keepOnly_31 : decode cX1_keepOnly 31 = .ok (.putfield 31, 3) := by decide +kernel
theorem dX1_keepOnly_34 : decode cX1_keepOnly 34 = .ok (.lload_n 3, 1) := by decide +kernel
theorem dX1_keepOnly_35 : decode cX1_keepOnly 35 = .ok (.invokestatic 64, 3) := by decide +kernel
theorem dX1_keepOnly_38 : decode cX1_keepOnly 38 = .ok (.ireturn, 1) := by decide +kernel
theorem dX2_init_0 : decode cX2_init 0 = .ok (.aload_n 0, 1) := by decide +kernel
theorem dX2_init_1 : decode cX2_init 1 = .ok (.invokespecial 3, 3) := by decide +kernel
theorem dX2_init_4 : decode cX2_init 4 = .ok (.aload_n 0, 1) := by decide +kernel
theorem dX2_init_5 : decode cX2_init 5 = .ok (.sipush 1681, 3) := by decide +kernel
theorem dX2_init_8 : decode cX2_init 8 = .ok (.newarray .int, 2) := by decide +kernel
theorem dX2_init_10 : decode cX2_init 10 = .ok (.putfield 11, 3) := by decide +kernel
theorem dX2_init_13 : decode cX2_init 13 = .ok (.aload_n 0, 1) := by decide +kernel
theorem dX2_init_14 : decode cX2_init 14 = .ok (.bipush 40, 2) := by decide +kernel
theorem dX2_init_16 : decode cX2_init 16 = .ok (.newarray .int, 2) := by decide +kernel
theorem dX2_init_18 : decode cX2_init 18 = .ok (.putfield 15, 3) := by decide +kernel
theorem dX2_init_21 : decode cX2_init 21 = .ok (.aload_n 0, 1) := by decide +kernel
theorem dX2_init_22 : decode cX2_init 22 = .ok (.bipush 40, 2) := by decide +kernel
theorem dX2_init_24 : decode cX2_init 24 = .ok (.newarray .int, 2) := by decide +kernel
theorem dX2_init_26 : decode cX2_init 26 = .ok (.putfield 18, 3) := by decide +kernel
theorem dX2_init_29 : decode cX2_init 29 = .ok (.aload_n 0, 1) := by decide +kernel
theorem dX2_init_30 : decode cX2_init 30 = .ok (.iconst 0, 1) := by decide +kernel
theorem dX2_init_31 : decode cX2_init 31 = .ok (.putfield 21, 3) := by decide +kernel
theorem dX2_init_34 : decode cX2_init 34 = .ok (.return_, 1) := by decide +kernel
theorem dX3_init_0 : decode cX3_init 0 = .ok (.aload_n 0, 1) := by decide +kernel
theorem dX3_init_1 : decode cX3_init 1 = .ok (.invokespecial 3, 3) := by decide +kernel
theorem dX3_init_4 : decode cX3_init 4 = .ok (.aload_n 0, 1) := by decide +kernel
theorem dX3_init_5 : decode cX3_init 5 = .ok (.new 9, 3) := by decide +kernel
theorem dX3_init_8 : decode cX3_init 8 = .ok (.dup, 1) := by decide +kernel
theorem dX3_init_9 : decode cX3_init 9 = .ok (.invokespecial 11, 3) := by decide +kernel
theorem dX3_init_12 : decode cX3_init 12 = .ok (.putfield 12, 3) := by decide +kernel
theorem dX3_init_15 : decode cX3_init 15 = .ok (.aload_n 0, 1) := by decide +kernel
theorem dX3_init_16 : decode cX3_init 16 = .ok (.new 9, 3) := by decide +kernel
theorem dX3_init_19 : decode cX3_init 19 = .ok (.dup, 1) := by decide +kernel
theorem dX3_init_20 : decode cX3_init 20 = .ok (.invokespecial 11, 3) := by decide +kernel
theorem dX3_init_23 : decode cX3_init 23 = .ok (.putfield 18, 3) := by decide +kernel
theorem dX3_init_26 : decode cX3_init 26 = .ok (.aload_n 0, 1) := by decide +kernel
theorem dX3_init_27 : decode cX3_init 27 = .ok (.new 21, 3) := by decide +kernel
theorem dX3_init_30 : decode cX3_init 30 = .ok (.dup, 1) := by decide +kernel
theorem dX3_init_31 : decode cX3_init 31 = .ok (.invokespecial 23, 3) := by decide +kernel
theorem dX3_init_34 : decode cX3_init 34 = .ok (.putfield 24, 3) := by decide +kernel
theorem dX3_init_37 : decode cX3_init 37 = .ok (.aload_n 0, 1) := by decide +kernel
theorem dX3_init_38 : decode cX3_init 38 = .ok (.aload_n 0, 1) := by decide +kernel
theorem dX3_init_39 : decode cX3_init 39 = .ok (.getfield 24, 3) := by decide +kernel
theorem dX3_init_42 : decode cX3_init 42 = .ok (.putfield 28, 3) := by decide +kernel
theorem dX3_init_45 : decode cX3_init 45 = .ok (.aload_n 0, 1) := by decide +kernel
theorem dX3_init_46 : decode cX3_init 46 = .ok (.aload_n 0, 1) := by decide +kernel
theorem dX3_init_47 : decode cX3_init 47 = .ok (.getfield 24, 3) := by decide +kernel
theorem dX3_init_50 : decode cX3_init 50 = .ok (.putfield 31, 3) := by decide +kernel
theorem dX3_init_53 : decode cX3_init 53 = .ok (.aload_n 0, 1) := by decide +kernel
theorem dX3_init_54 : decode cX3_init 54 = .ok (.aload_n 0, 1) := by decide +kernel
theorem dX3_init_55 : decode cX3_init 55 = .ok (.getfield 24, 3) := by decide +kernel
theorem dX3_init_58 : decode cX3_init 58 = .ok (.putfield 34, 3) := by decide +kernel
theorem dX3_init_61 : decode cX3_init 61 = .ok (.aload_n 0, 1) := by decide +kernel
theorem dX3_init_62 : decode cX3_init 62 = .ok (.sipush 328, 3) := by decide +kernel
theorem dX3_init_65 : decode cX3_init 65 = .ok (.newarray .int, 2) := by decide +kernel
theorem dX3_init_67 : decode cX3_init 67 = .ok (.putfield 37, 3) := by decide +kernel
theorem dX3_init_70 : decode cX3_init 70 = .ok (.aload_n 0, 1) := by decide +kernel
theorem dX3_init_71 : decode cX3_init 71 = .ok (.sipush 984, 3) := by decide +kernel
theorem dX3_init_74 : decode cX3_init 74 = .ok (.newarray .int, 2) := by decide +kernel
theorem dX3_init_76 : decode cX3_init 76 = .ok (.putfield 41, 3) := by decide +kernel
theorem dX3_init_79 : decode cX3_init 79 = .ok (.aload_n 0, 1) := by decide +kernel
theorem dX3_init_80 : decode cX3_init 80 = .ok (.sipush 984, 3) := by decide +kernel
theorem dX3_init_83 : decode cX3_init 83 = .ok (.newarray .int, 2) := by decide +kernel
theorem dX3_init_85 : decode cX3_init 85 = .ok (.putfield 44, 3) := by decide +kernel
theorem dX3_init_88 : decode cX3_init 88 = .ok (.aload_n 0, 1) := by decide +kernel
theorem dX3_init_89 : decode cX3_init 89 = .ok (.sipush 328, 3) := by decide +kernel
theorem dX3_init_92 : decode cX3_init 92 = .ok (.newarray .int, 2) := by decide +kernel
theorem dX3_init_94 : decode cX3_init 94 = .ok (.putfield 47, 3) := by decide +kernel
theorem dX3_init_97 : decode cX3_init 97 = .ok (.aload_n 0, 1) := by decide +kernel
theorem dX3_init_98 : decode cX3_init 98 = .ok (.iconst 0, 1) := by decide +kernel
theorem dX3_init_99 : decode cX3_init 99 = .ok (.putfield 50, 3) := by decide +kernel
theorem dX3_init_102 : decode cX3_init 102 = .ok (.aload_n 0, 1) := by decide +kernel
theorem dX3_init_103 : decode cX3_init 103 = .ok (.iconst 3, 1) := by decide +kernel
theorem dX3_init_104 : decode cX3_init 104 = .ok (.newarray .int, 2) := by decide +kernel
theorem dX3_init_106 : decode cX3_init 106 = .ok (.putfield 54, 3) := by decide +kernel
theorem dX3_init_109 : decode cX3_init 109 = .ok (.aload_n 0, 1) := by decide +kernel
theorem dX3_init_110 : decode cX3_init 110 = .ok (.sipush 328, 3) := by decide +kernel
theorem dX3_init_113 : decode cX3_init 113 = .ok (.newarray .int, 2) := by decide +kernel
theorem dX3_init_115 : decode cX3_init 115 = .ok (.putfield 57, 3) := by decide +kernel
theorem dX3_init_118 : decode cX3_init 118 = .ok (.aload_n 0, 1) := by decide +kernel
theorem dX3_init_119 : decode cX3_init 119 = .ok (.iconst 0, 1) := by decide +kernel
theorem dX3_init_120 : decode cX3_init 120 = .ok (.putfield 60, 3) := by decide +kernel
theorem dX3_init_123 : decode cX3_init 123 = .ok (.return_, 1) := by decide +kernel
theorem dX4_init_0 : decode cX4_init 0 = .ok (.aload_n 0, 1) := by decide +kernel
theorem dX4_init_1 : decode cX4_init 1 = .ok (.invokespecial 3, 3) := by decide +kernel
theorem dX4_init_4 : decode cX4_init 4 = .ok (.aload_n 0, 1) := by decide +kernel
theorem dX4_init_5 : decode cX4_init 5 = .ok (.bipush 8, 2) := by decide +kernel
theorem dX4_init_7 : decode cX4_init 7 = .ok (.newarray .int, 2) := by decide +kernel
theorem dX4_init_9 : decode cX4_init 9 = .ok (.putfield 9, 3) := by decide +kernel
theorem dX4_init_12 : decode cX4_init 12 = .ok (.aload_n 0, 1) := by decide +kernel
theorem dX4_init_13 : decode cX4_init 13 = .ok (.sipush 320, 3) := by decide +kernel
theorem dX4_init_16 : decode cX4_init 16 = .ok (.newarray .int, 2) := by decide +kernel
theorem dX4_init_18 : decode cX4_init 18 = .ok (.putfield 15, 3) := by decide +kernel
theorem dX4_init_21 : decode cX4_init 21 = .ok (.aload_n 0, 1) := by decide +kernel
theorem dX4_init_22 : decode cX4_init 22 = .ok (.getfield 9, 3) := by decide +kernel
theorem dX4_init_25 : decode cX4_init 25 = .ok (.iconst (-1), 1) := by decide +kernel
theorem dX4_init_26 : decode cX4_init 26 = .ok (.invokestatic 18, 3) := by decide +kernel
theorem dX4_init_29 : decode cX4_init 29 = .ok (.return_, 1) := by decide +kernel
theorem dX4_sizeOf_0 : decode cX4_sizeOf 0 = .ok (.iload_n 1, 1) := by decide +kernel
theorem dX4_sizeOf_1 : decode cX4_sizeOf 1 = .ok (.ifCond .lt 9, 3) := by decide +kernel
theorem dX4_sizeOf_4 : decode cX4_sizeOf 4 = .ok (.iload_n 1, 1) := by decide +kernel
theorem dX4_sizeOf_5 : decode cX4_sizeOf 5 = .ok (.bipush 8, 2) := by decide +kernel
theorem dX4_sizeOf_7 : decode cX4_sizeOf 7 = .ok (.if_icmp .lt 7, 3) := by decide +kernel
theorem dX4_sizeOf_14 : decode cX4_sizeOf 14 = .ok (.aload_n 0, 1) := by decide +kernel
theorem dX4_sizeOf_15 : decode cX4_sizeOf 15 = .ok (.getfield 9, 3) := by decide +kernel
theorem dX4_sizeOf_18 : decode cX4_sizeOf 18 = .ok (.iload_n 1, 1) := by decide +kernel
theorem dX4_sizeOf_19 : decode cX4_sizeOf 19 = .ok (.iaload, 1) := by decide +kernel
theorem dX4_sizeOf_20 : decode cX4_sizeOf 20 = .ok (.ireturn, 1) := by decide +kernel
theorem dX4_has_0 : decode cX4_has 0 = .ok (.aload_n 0, 1) := by decide +kernel
theorem dX4_has_1 : decode cX4_has 1 = .ok (.iload_n 1, 1) := by decide +kernel
theorem dX4_has_2 : decode cX4_has 2 = .ok (.invokevirtual 30, 3) := by decide +kernel
theorem dX4_has_5 : decode cX4_has 5 = .ok (.ifCond .lt 7, 3) := by decide +kernel
theorem dX4_has_12 : decode cX4_has 12 = .ok (.iconst 0, 1) := by decide +kernel
theorem dX4_has_13 : decode cX4_has 13 = .ok (.ireturn, 1) := by decide +kernel
theorem dX4_fileCount_0 : decode cX4_fileCount 0 = .ok (.iconst 0, 1) := by decide +kernel
theorem dX4_fileCount_1 : decode cX4_fileCount 1 = .ok (.istore_n 1, 1) := by decide +kernel
theorem dX4_fileCount_2 : decode cX4_fileCount 2 = .ok (.iconst 0, 1) := by decide +kernel
theorem dX4_fileCount_3 : decode cX4_fileCount 3 = .ok (.istore_n 2, 1) := by decide +kernel
theorem dX4_fileCount_4 : decode cX4_fileCount 4 = .ok (.iload_n 2, 1) := by decide +kernel
theorem dX4_fileCount_5 : decode cX4_fileCount 5 = .ok (.bipush 8, 2) := by decide +kernel
theorem dX4_fileCount_7 : decode cX4_fileCount 7 = .ok (.if_icmp .ge 21, 3) := by decide +kernel
theorem dX4_fileCount_10 : decode cX4_fileCount 10 = .ok (.aload_n 0, 1) := by decide +kernel
theorem dX4_fileCount_11 : decode cX4_fileCount 11 = .ok (.getfield 9, 3) := by decide +kernel
theorem dX4_fileCount_14 : decode cX4_fileCount 14 = .ok (.iload_n 2, 1) := by decide +kernel
theorem dX4_fileCount_15 : decode cX4_fileCount 15 = .ok (.iaload, 1) := by decide +kernel
theorem dX4_fileCount_16 : decode cX4_fileCount 16 = .ok (.ifCond .lt 6, 3) := by decide +kernel
theorem dX4_fileCount_19 : decode cX4_fileCount 19 = .ok (.iinc 1 1, 3) := by decide +kernel
theorem dX4_fileCount_22 : decode cX4_fileCount 22 = .ok (.iinc 2 1, 3) := by decide +kernel
theorem dX4_fileCount_25 : decode cX4_fileCount 25 = .ok (.goto (-21), 3) := by decide +kernel
theorem dX4_fileCount_28 : decode cX4_fileCount 28 = .ok (.iload_n 1, 1) := by decide +kernel
theorem dX4_fileCount_29 : decode cX4_fileCount 29 = .ok (.ireturn, 1) := by decide +kernel
theorem dX4_putFile_0 : decode cX4_putFile 0 = .ok (.iload_n 1, 1) := by decide +kernel
theorem dX4_putFile_1 : decode cX4_putFile 1 = .ok (.ifCond .lt 25, 3) := by decide +kernel
theorem dX4_putFile_4 : decode cX4_putFile 4 = .ok (.iload_n 1, 1) := by decide +kernel
theorem dX4_putFile_5 : decode cX4_putFile 5 = .ok (.bipush 8, 2) := by decide +kernel
theorem dX4_putFile_7 : decode cX4_putFile 7 = .ok (.if_icmp .ge 19, 3) := by decide +kernel
theorem dX4_putFile_10 : decode cX4_putFile 10 = .ok (.aload_n 0, 1) := by decide +kernel
theorem dX4_putFile_11 : decode cX4_putFile 11 = .ok (.getfield 9, 3) := by decide +kernel
theorem dX4_putFile_14 : decode cX4_putFile 14 = .ok (.iload_n 1, 1) := by decide +kernel
theorem dX4_putFile_15 : decode cX4_putFile 15 = .ok (.iaload, 1) := by decide +kernel
theorem dX4_putFile_16 : decode cX4_putFile 16 = .ok (.ifCond .ge 10, 3) := by decide +kernel
theorem dX4_putFile_19 : decode cX4_putFile 19 = .ok (.aload_n 0, 1) := by decide +kernel
theorem dX4_putFile_20 : decode cX4_putFile 20 = .ok (.getfield 9, 3) := by decide +kernel
theorem dX4_putFile_23 : decode cX4_putFile 23 = .ok (.iload_n 1, 1) := by decide +kernel
theorem dX4_putFile_24 : decode cX4_putFile 24 = .ok (.iconst 0, 1) := by decide +kernel
theorem dX4_putFile_25 : decode cX4_putFile 25 = .ok (.iastore, 1) := by decide +kernel
theorem dX4_putFile_26 : decode cX4_putFile 26 = .ok (.return_, 1) := by decide +kernel
theorem dX4_become_0 : decode cX4_become 0 = .ok (.aload_n 1, 1) := by decide +kernel
theorem dX4_become_1 : decode cX4_become 1 = .ok (.getfield 9, 3) := by decide +kernel
theorem dX4_become_4 : decode cX4_become 4 = .ok (.iconst 0, 1) := by decide +kernel
theorem dX4_become_5 : decode cX4_become 5 = .ok (.aload_n 0, 1) := by decide +kernel
theorem dX4_become_6 : decode cX4_become 6 = .ok (.getfield 9, 3) := by decide +kernel
theorem dX4_become_9 : decode cX4_become 9 = .ok (.iconst 0, 1) := by decide +kernel
theorem dX4_become_10 : decode cX4_become 10 = .ok (.bipush 8, 2) := by decide +kernel
theorem dX4_become_12 : decode cX4_become 12 = .ok (.invokestatic 34, 3) := by decide +kernel
theorem dX4_become_15 : decode cX4_become 15 = .ok (.aload_n 1, 1) := by decide +kernel
theorem dX4_become_16 : decode cX4_become 16 = .ok (.getfield 15, 3) := by decide +kernel
theorem dX4_become_19 : decode cX4_become 19 = .ok (.iconst 0, 1) := by decide +kernel
theorem dX4_become_20 : decode cX4_become 20 = .ok (.aload_n 0, 1) := by decide +kernel
theorem dX4_become_21 : decode cX4_become 21 = .ok (.getfield 15, 3) := by decide +kernel
theorem dX4_become_24 : decode cX4_become 24 = .ok (.iconst 0, 1) := by decide +kernel
theorem dX4_become_25 : decode cX4_become 25 = .ok (.sipush 320, 3) := by decide +kernel
theorem dX4_become_28 : decode cX4_become 28 = .ok (.invokestatic 34, 3) := by decide +kernel
theorem dX4_become_31 : decode cX4_become 31 = .ok (.return_, 1) := by decide +kernel
theorem dX4_othersThan_0 : decode cX4_othersThan 0 = .ok (.iconst 0, 1) := by decide +kernel
theorem dX4_othersThan_1 : decode cX4_othersThan 1 = .ok (.istore_n 2, 1) := by decide +kernel
theorem dX4_othersThan_2 : decode cX4_othersThan 2 = .ok (.iconst 0, 1) := by decide +kernel
theorem dX4_othersThan_3 : decode cX4_othersThan 3 = .ok (.istore_n 3, 1) := by decide +kernel
theorem dX4_othersThan_4 : decode cX4_othersThan 4 = .ok (.iload_n 3, 1) := by decide +kernel
theorem dX4_othersThan_5 : decode cX4_othersThan 5 = .ok (.bipush 8, 2) := by decide +kernel
theorem dX4_othersThan_7 : decode cX4_othersThan 7 = .ok (.if_icmp .ge 21, 3) := by decide +kernel
theorem dX4_othersThan_10 : decode cX4_othersThan 10 = .ok (.aload_n 0, 1) := by decide +kernel
theorem dX4_othersThan_11 : decode cX4_othersThan 11 = .ok (.iload_n 3, 1) := by decide +kernel
theorem dX4_othersThan_12 : decode cX4_othersThan 12 = .ok (.aload_n 1, 1) := by decide +kernel
theorem dX4_othersThan_13 : decode cX4_othersThan 13 = .ok (.invokevirtual 40, 3) := by decide +kernel
theorem dX4_othersThan_16 : decode cX4_othersThan 16 = .ok (.ifCond .ne 6, 3) := by decide +kernel
theorem dX4_othersThan_22 : decode cX4_othersThan 22 = .ok (.iinc 3 1, 3) := by decide +kernel
theorem dX4_othersThan_25 : decode cX4_othersThan 25 = .ok (.goto (-21), 3) := by decide +kernel
theorem dX4_othersThan_28 : decode cX4_othersThan 28 = .ok (.iload_n 2, 1) := by decide +kernel
theorem dX4_othersThan_29 : decode cX4_othersThan 29 = .ok (.ireturn, 1) := by decide +kernel
theorem dX4_hasSame_0 : decode cX4_hasSame 0 = .ok (.aload_n 0, 1) := by decide +kernel
theorem dX4_hasSame_1 : decode cX4_hasSame 1 = .ok (.iload_n 1, 1) := by decide +kernel
theorem dX4_hasSame_2 : decode cX4_hasSame 2 = .ok (.invokevirtual 30, 3) := by decide +kernel
theorem dX4_hasSame_5 : decode cX4_hasSame 5 = .ok (.istore_n 3, 1) := by decide +kernel
theorem dX4_hasSame_6 : decode cX4_hasSame 6 = .ok (.iload_n 3, 1) := by decide +kernel
theorem dX4_hasSame_7 : decode cX4_hasSame 7 = .ok (.aload_n 2, 1) := by decide +kernel
theorem dX4_hasSame_8 : decode cX4_hasSame 8 = .ok (.iload_n 1, 1) := by decide +kernel
theorem dX4_hasSame_9 : decode cX4_hasSame 9 = .ok (.invokevirtual 30, 3) := by decide +kernel
theorem dX4_hasSame_12 : decode cX4_hasSame 12 = .ok (.if_icmp .eq 5, 3) := by decide +kernel
theorem dX4_hasSame_17 : decode cX4_hasSame 17 = .ok (.iconst 0, 1) := by decide +kernel
theorem dX4_hasSame_18 : decode cX4_hasSame 18 = .ok (.istore 4, 2) := by decide +kernel
theorem dX4_hasSame_20 : decode cX4_hasSame 20 = .ok (.iload 4, 2) := by decide +kernel
theorem dX4_hasSame_22 : decode cX4_hasSame 22 = .ok (.iload_n 3, 1) := by decide +kernel
theorem dX4_hasSame_23 : decode cX4_hasSame 23 = .ok (.if_icmp .ge 28, 3) := by decide +kernel
theorem dX4_hasSame_51 : decode cX4_hasSame 51 = .ok (.iconst 1, 1) := by decide +kernel
theorem dX4_hasSame_52 : decode cX4_hasSame 52 = .ok (.ireturn, 1) := by decide +kernel
theorem dX5_init_0 : decode cX5_init 0 = .ok (.aload_n 0, 1) := by decide +kernel
theorem dX5_init_1 : decode cX5_init 1 = .ok (.invokespecial 1, 3) := by decide +kernel
theorem dX5_init_4 : decode cX5_init 4 = .ok (.aload_n 0, 1) := by decide +kernel
theorem dX5_init_5 : decode cX5_init 5 = .ok (.new 7, 3) := by decide +kernel
theorem dX5_init_8 : decode cX5_init 8 = .ok (.dup, 1) := by decide +kernel
theorem dX5_init_9 : decode cX5_init 9 = .ok (.invokespecial 9, 3) := by decide +kernel
theorem dX5_init_12 : decode cX5_init 12 = .ok (.putfield 10, 3) := by decide +kernel
theorem dX5_init_15 : decode cX5_init 15 = .ok (.aload_n 0, 1) := by decide +kernel
theorem dX5_init_16 : decode cX5_init 16 = .ok (.new 16, 3) := by decide +kernel
theorem dX5_init_19 : decode cX5_init 19 = .ok (.dup, 1) := by decide +kernel
theorem dX5_init_20 : decode cX5_init 20 = .ok (.invokespecial 18, 3) := by decide +kernel
theorem dX5_init_23 : decode cX5_init 23 = .ok (.putfield 19, 3) := by decide +kernel
theorem dX5_init_26 : decode cX5_init 26 = .ok (.aload_n 0, 1) := by decide +kernel
theorem dX5_init_27 : decode cX5_init 27 = .ok (.bipush 8, 2) := by decide +kernel
theorem dX5_init_29 : decode cX5_init 29 = .ok (.newarray .int, 2) := by decide +kernel
theorem dX5_init_31 : decode cX5_init 31 = .ok (.putfield 23, 3) := by decide +kernel
theorem dX5_init_34 : decode cX5_init 34 = .ok (.aload_n 0, 1) := by decide +kernel
theorem dX5_init_35 : decode cX5_init 35 = .ok (.iconst 0, 1) := by decide +kernel
theorem dX5_init_36 : decode cX5_init 36 = .ok (.putfield 27, 3) := by decide +kernel
theorem dX5_init_39 : decode cX5_init 39 = .ok (.aload_n 0, 1) := by decide +kernel
theorem dX5_init_40 : decode cX5_init 40 = .ok (.new 31, 3) := by decide +kernel
theorem dX5_init_43 : decode cX5_init 43 = .ok (.dup, 1) := by decide +kernel
theorem dX5_init_44 : decode cX5_init 44 = .ok (.invokespecial 33, 3) := by decide +kernel
theorem dX5_init_47 : decode cX5_init 47 = .ok (.putfield 34, 3) := by decide +kernel
theorem dX5_init_50 : decode cX5_init 50 = .ok (.aload_n 0, 1) := by decide +kernel
theorem dX5_init_51 : decode cX5_init 51 = .ok (.new 38, 3) := by decide +kernel
theorem dX5_init_54 : decode cX5_init 54 = .ok (.dup, 1) := by decide +kernel
theorem dX5_init_55 : decode cX5_init 55 = .ok (.invokespecial 40, 3) := by decide +kernel
theorem dX5_init_58 : decode cX5_init 58 = .ok (.putfield 41, 3) := by decide +kernel
theorem dX5_init_61 : decode cX5_init 61 = .ok (.aload_n 0, 1) := by decide +kernel
theorem dX5_init_62 : decode cX5_init 62 = .ok (.lconst 0, 1) := by decide +kernel
theorem dX5_init_63 : decode cX5_init 63 = .ok (.putfield 45, 3) := by decide +kernel
theorem dX5_init_66 : decode cX5_init 66 = .ok (.aload_n 0, 1) := by decide +kernel
theorem dX5_init_67 : decode cX5_init 67 = .ok (.iconst 0, 1) := by decide +kernel
theorem dX5_init_68 : decode cX5_init 68 = .ok (.putfield 49, 3) := by decide +kernel
theorem dX5_init_71 : decode cX5_init 71 = .ok (.aload_n 0, 1) := by decide +kernel
theorem dX5_init_72 : decode cX5_init 72 = .ok (.iconst (-1), 1) := by decide +kernel
theorem dX5_init_73 : decode cX5_init 73 = .ok (.putfield 52, 3) := by decide +kernel
theorem dX5_init_76 : decode cX5_init 76 = .ok (.aload_n 0, 1) := by decide +kernel
theorem dX5_init_77 : decode cX5_init 77 = .ok (.iconst (-1), 1) := by decide +kernel
theorem dX5_init_78 : decode cX5_init 78 = .ok (.putfield 55, 3) := by decide +kernel
theorem dX5_init_81 : decode cX5_init 81 = .ok (.aload_n 0, 1) := by decide +kernel
theorem dX5_init_82 : decode cX5_init 82 = .ok (.lconst 0, 1) := by decide +kernel
theorem dX5_init_83 : decode cX5_init 83 = .ok (.putfield 58, 3) := by decide +kernel
theorem dX5_init_86 : decode cX5_init 86 = .ok (.aload_n 0, 1) := by decide +kernel
theorem dX5_init_87 : decode cX5_init 87 = .ok (.iconst 0, 1) := by decide +kernel
theorem dX5_init_88 : decode cX5_init 88 = .ok (.putfield 61, 3) := by decide +kernel
theorem dX5_init_91 : decode cX5_init 91 = .ok (.aload_n 0, 1) := by decide +kernel
theorem dX5_init_92 : decode cX5_init 92 = .ok (.getfield 23, 3) := by decide +kernel
theorem dX5_init_95 : decode cX5_init 95 = .ok (.bipush (-2), 2) := by decide +kernel
theorem dX5_init_97 : decode cX5_init 97 = .ok (.invokestatic 65, 3) := by decide +kernel
theorem dX5_init_100 : decode cX5_init 100 = .ok (.aload_n 0, 1) := by decide +kernel
theorem dX5_init_101 : decode cX5_init 101 = .ok (.getfield 23, 3) := by decide +kernel
theorem dX5_init_104 : decode cX5_init 104 = .ok (.iconst 0, 1) := by decide +kernel
theorem dX5_init_105 : decode cX5_init 105 = .ok (.iconst (-1), 1) := by decide +kernel
theorem dX5_init_106 : decode cX5_init 106 = .ok (.iastore, 1) := by decide +kernel
theorem dX5_init_107 : decode cX5_init 107 = .ok (.return_, 1) := by decide +kernel
theorem dX5_create_0 : decode cX5_create 0 = .ok (.iload_n 1, 1) := by decide +kernel
theorem dX5_create_1 : decode cX5_create 1 = .ok (.invokestatic 71, 3) := by decide +kernel
theorem dX5_create_4 : decode cX5_create 4 = .ok (.aload_n 0, 1) := by decide +kernel
theorem dX5_create_5 : decode cX5_create 5 = .ok (.invokevirtual 75, 3) := by decide +kernel
theorem dX5_create_8 : decode cX5_create 8 = .ok (.aload_n 0, 1) := by decide +kernel
theorem dX5_create_9 : decode cX5_create 9 = .ok (.getfield 10, 3) := by decide +kernel
theorem dX5_create_12 : decode cX5_create 12 = .ok (.iload_n 1, 1) := by decide +kernel
theorem dX5_create_13 : decode cX5_create 13 = .ok (.invokevirtual 78, 3) := by decide +kernel
theorem dX5_create_16 : decode cX5_create 16 = .ok (.ifCond .eq 13, 3) := by decide +kernel
theorem dX5_create_29 : decode cX5_create 29 = .ok (.aload_n 0, 1) := by decide +kernel
theorem dX5_create_30 : decode cX5_create 30 = .ok (.getfield 10, 3) := by decide +kernel
theorem dX5_create_33 : decode cX5_create 33 = .ok (.iload_n 1, 1) := by decide +kernel
theorem dX5_create_34 : decode cX5_create 34 = .ok (.invokevirtual 89, 3) := by decide +kernel
theorem dX5_create_37 : decode cX5_create 37 = .ok (.aload_n 0, 1) := by decide +kernel
theorem dX5_create_38 : decode cX5_create 38 = .ok (.getfield 10, 3) := by decide +kernel
theorem dX5_create_41 : decode cX5_create 41 = .ok (.invokevirtual 92, 3) := by decide +kernel
theorem dX5_create_44 : decode cX5_create 44 = .ok (.ireturn, 1) := by decide +kernel
theorem dX5_delete_0 : decode cX5_delete 0 = .ok (.iload_n 1, 1) := by decide +kernel
theorem dX5_delete_1 : decode cX5_delete 1 = .ok (.invokestatic 71, 3) := by decide +kernel
theorem dX5_delete_4 : decode cX5_delete 4 = .ok (.aload_n 0, 1) := by decide +kernel
theorem dX5_delete_5 : decode cX5_delete 5 = .ok (.invokevirtual 75, 3) := by decide +kernel
theorem dX5_delete_8 : decode cX5_delete 8 = .ok (.aload_n 0, 1) := by decide +kernel
theorem dX5_delete_9 : decode cX5_delete 9 = .ok (.getfield 10, 3) := by decide +kernel
theorem dX5_delete_12 : decode cX5_delete 12 = .ok (.iload_n 1, 1) := by decide +kernel
theorem dX5_delete_13 : decode cX5_delete 13 = .ok (.invokevirtual 96, 3) := by decide +kernel
theorem dX5_delete_16 : decode cX5_delete 16 = .ok (.istore_n 2, 1) := by decide +kernel
theorem dX5_delete_17 : decode cX5_delete 17 = .ok (.iload_n 2, 1) := by decide +kernel
theorem dX5_delete_18 : decode cX5_delete 18 = .ok (.ifCond .ge 13, 3) := by decide +kernel
theorem dX5_delete_21 : decode cX5_delete 21 = .ok (.new 82, 3) := by decide +kernel
theorem dX5_delete_24 : decode cX5_delete 24 = .ok (.dup, 1) := by decide +kernel
theorem dX5_delete_25 : decode cX5_delete 25 = .ok (.ldc 100, 2) := by decide +kernel
theorem dX5_delete_27 : decode cX5_delete 27 = .ok (.invokespecial 86, 3) := by decide +kernel
theorem dX5_delete_30 : decode cX5_delete 30 = .ok (.athrow, 1) := by decide +kernel
theorem dX5_insert_0 : decode cX5_insert 0 = .ok (.iload_n 1, 1) := by decide +kernel
theorem dX5_insert_1 : decode cX5_insert 1 = .ok (.invokestatic 71, 3) := by decide +kernel
theorem dX5_insert_4 : decode cX5_insert 4 = .ok (.iload_n 3, 1) := by decide +kernel
theorem dX5_insert_5 : decode cX5_insert 5 = .ok (.invokestatic 105, 3) := by decide +kernel
theorem dX5_insert_8 : decode cX5_insert 8 = .ok (.aload_n 0, 1) := by decide +kernel
theorem dX5_insert_9 : decode cX5_insert 9 = .ok (.invokevirtual 75, 3) := by decide +kernel
theorem dX5_insert_12 : decode cX5_insert 12 = .ok (.aload_n 0, 1) := by decide +kernel
theorem dX5_insert_13 : decode cX5_insert 13 = .ok (.getfield 10, 3) := by decide +kernel
theorem dX5_insert_16 : decode cX5_insert 16 = .ok (.iload_n 1, 1) := by decide +kernel
theorem dX5_insert_17 : decode cX5_insert 17 = .ok (.invokevirtual 96, 3) := by decide +kernel
theorem dX5_insert_20 : decode cX5_insert 20 = .ok (.istore 4, 2) := by decide +kernel
theorem dX5_insert_22 : decode cX5_insert 22 = .ok (.iload 4, 2) := by decide +kernel
theorem dX5_insert_24 : decode cX5_insert 24 = .ok (.ifCond .lt 20, 3) := by decide +kernel
theorem dX5_insert_44 : decode cX5_insert 44 = .ok (.new 82, 3) := by decide +kernel
theorem dX5_insert_47 : decode cX5_insert 47 = .ok (.dup, 1) := by decide +kernel
theorem dX5_insert_48 : decode cX5_insert 48 = .ok (.ldc 108, 2) := by decide +kernel
theorem dX5_insert_50 : decode cX5_insert 50 = .ok (.invokespecial 86, 3) := by decide +kernel
theorem dX5_insert_53 : decode cX5_insert 53 = .ok (.athrow, 1) := by decide +kernel
theorem dX5_erase_0 : decode cX5_erase 0 = .ok (.iload_n 1, 1) := by decide +kernel
theorem dX5_erase_1 : decode cX5_erase 1 = .ok (.invokestatic 71, 3) := by decide +kernel
theorem dX5_erase_4 : decode cX5_erase 4 = .ok (.aload_n 0, 1) := by decide +kernel
theorem dX5_erase_5 : decode cX5_erase 5 = .ok (.invokevirtual 75, 3) := by decide +kernel
theorem dX5_erase_8 : decode cX5_erase 8 = .ok (.aload_n 0, 1) := by decide +kernel
theorem dX5_erase_9 : decode cX5_erase 9 = .ok (.iload_n 1, 1) := by decide +kernel
theorem dX5_erase_10 : decode cX5_erase 10 = .ok (.iload_n 2, 1) := by decide +kernel
theorem dX5_erase_11 : decode cX5_erase 11 = .ok (.invokevirtual 114, 3) := by decide +kernel
theorem dX5_replace_0 : decode cX5_replace 0 = .ok (.iload_n 1, 1) := by decide +kernel
theorem dX5_replace_1 : decode cX5_replace 1 = .ok (.invokestatic 71, 3) := by decide +kernel
theorem dX5_replace_4 : decode cX5_replace 4 = .ok (.iload_n 3, 1) := by decide +kernel
theorem dX5_replace_5 : decode cX5_replace 5 = .ok (.invokestatic 105, 3) := by decide +kernel
theorem dX5_replace_8 : decode cX5_replace 8 = .ok (.aload_n 0, 1) := by decide +kernel
theorem dX5_replace_9 : decode cX5_replace 9 = .ok (.invokevirtual 75, 3) := by decide +kernel
theorem dX5_replace_12 : decode cX5_replace 12 = .ok (.aload_n 0, 1) := by decide +kernel
theorem dX5_replace_13 : decode cX5_replace 13 = .ok (.iload_n 1, 1) := by decide +kernel
theorem dX5_replace_14 : decode cX5_replace 14 = .ok (.iload_n 2, 1) := by decide +kernel
theorem dX5_replace_15 : decode cX5_replace 15 = .ok (.invokevirtual 114, 3) := by decide +kernel
theorem dX5_discard_0 : decode cX5_discard 0 = .ok (.aload_n 0, 1) := by decide +kernel
theorem dX5_discard_1 : decode cX5_discard 1 = .ok (.invokevirtual 75, 3) := by decide +kernel
theorem dX5_discard_4 : decode cX5_discard 4 = .ok (.aload_n 0, 1) := by decide +kernel
theorem dX5_discard_5 : decode cX5_discard 5 = .ok (.aload_n 0, 1) := by decide +kernel
theorem dX5_discard_6 : decode cX5_discard 6 = .ok (.invokevirtual 128, 3) := by decide +kernel
theorem dX5_discard_9 : decode cX5_discard 9 = .ok (.invokevirtual 131, 3) := by decide +kernel
theorem dX5_discard_12 : decode cX5_discard 12 = .ok (.astore_n 1, 1) := by decide +kernel
theorem dX5_discard_13 : decode cX5_discard 13 = .ok (.aload_n 0, 1) := by decide +kernel
theorem dX5_discard_14 : decode cX5_discard 14 = .ok (.getfield 10, 3) := by decide +kernel
theorem dX5_discard_17 : decode cX5_discard 17 = .ok (.aload_n 1, 1) := by decide +kernel
theorem dX5_discard_18 : decode cX5_discard 18 = .ok (.invokevirtual 135, 3) := by decide +kernel
theorem dX5_discard_21 : decode cX5_discard 21 = .ok (.istore_n 2, 1) := by decide +kernel
theorem dX5_discard_22 : decode cX5_discard 22 = .ok (.aload_n 0, 1) := by decide +kernel
theorem dX5_discard_23 : decode cX5_discard 23 = .ok (.getfield 10, 3) := by decide +kernel
theorem dX5_discard_26 : decode cX5_discard 26 = .ok (.aload_n 1, 1) := by decide +kernel
theorem dX5_discard_27 : decode cX5_discard 27 = .ok (.invokevirtual 139, 3) := by decide +kernel
theorem dX5_discard_30 : decode cX5_discard 30 = .ok (.iload_n 2, 1) := by decide +kernel
theorem dX5_discard_31 : decode cX5_discard 31 = .ok (.ireturn, 1) := by decide +kernel
theorem dX5_commit_0 : decode cX5_commit 0 = .ok (.iload_n 1, 1) := by decide +kernel
theorem dX5_commit_1 : decode cX5_commit 1 = .ok (.invokestatic 105, 3) := by decide +kernel
theorem dX5_commit_4 : decode cX5_commit 4 = .ok (.aload_n 0, 1) := by decide +kernel
theorem dX5_commit_5 : decode cX5_commit 5 = .ok (.invokevirtual 75, 3) := by decide +kernel
theorem dX5_commit_8 : decode cX5_commit 8 = .ok (.aload_n 0, 1) := by decide +kernel
theorem dX5_commit_9 : decode cX5_commit 9 = .ok (.iconst 1, 1) := by decide +kernel
theorem dX5_commit_10 : decode cX5_commit 10 = .ok (.invokevirtual 143, 3) := by decide +kernel
theorem dX5_commit_13 : decode cX5_commit 13 = .ok (.aload_n 0, 1) := by decide +kernel
theorem dX5_commit_14 : decode cX5_commit 14 = .ok (.invokevirtual 146, 3) := by decide +kernel
theorem dX5_commit_17 : decode cX5_commit 17 = .ok (.ifCond .eq 13, 3) := by decide +kernel
theorem dX5_commit_20 : decode cX5_commit 20 = .ok (.new 82, 3) := by decide +kernel
theorem dX5_commit_23 : decode cX5_commit 23 = .ok (.dup, 1) := by decide +kernel
theorem dX5_commit_24 : decode cX5_commit 24 = .ok (.ldc 150, 2) := by decide +kernel
theorem dX5_commit_26 : decode cX5_commit 26 = .ok (.invokespecial 86, 3) := by decide +kernel
theorem dX5_commit_29 : decode cX5_commit 29 = .ok (.athrow, 1) := by decide +kernel
theorem dX5_branch_0 : decode cX5_branch 0 = .ok (.iload_n 1, 1) := by decide +kernel
theorem dX5_branch_1 : decode cX5_branch 1 = .ok (.ifCond .lt 9, 3) := by decide +kernel
theorem dX5_branch_4 : decode cX5_branch 4 = .ok (.iload_n 1, 1) := by decide +kernel
theorem dX5_branch_5 : decode cX5_branch 5 = .ok (.bipush 8, 2) := by decide +kernel
theorem dX5_branch_7 : decode cX5_branch 7 = .ok (.if_icmp .lt 13, 3) := by decide +kernel
theorem dX5_branch_10 : decode cX5_branch 10 = .ok (.new 159, 3) := by decide +kernel
theorem dX5_branch_13 : decode cX5_branch 13 = .ok (.dup, 1) := by decide +kernel
theorem dX5_branch_14 : decode cX5_branch 14 = .ok (.ldc 161, 2) := by decide +kernel
theorem dX5_branch_16 : decode cX5_branch 16 = .ok (.invokespecial 163, 3) := by decide +kernel
theorem dX5_branch_19 : decode cX5_branch 19 = .ok (.athrow, 1) := by decide +kernel
theorem dX5_branch_20 : decode cX5_branch 20 = .ok (.aload_n 0, 1) := by decide +kernel
theorem dX5_branch_21 : decode cX5_branch 21 = .ok (.invokevirtual 75, 3) := by decide +kernel
theorem dX5_branch_24 : decode cX5_branch 24 = .ok (.aload_n 0, 1) := by decide +kernel
theorem dX5_branch_25 : decode cX5_branch 25 = .ok (.iload_n 1, 1) := by decide +kernel
theorem dX5_branch_26 : decode cX5_branch 26 = .ok (.invokevirtual 164, 3) := by decide +kernel
theorem dX5_branch_29 : decode cX5_branch 29 = .ok (.bipush (-2), 2) := by decide +kernel
theorem dX5_branch_31 : decode cX5_branch 31 = .ok (.if_icmp .ne 11, 3) := by decide +kernel
theorem dX5_branch_34 : decode cX5_branch 34 = .ok (.aload_n 0, 1) := by decide +kernel
theorem dX5_branch_35 : decode cX5_branch 35 = .ok (.invokevirtual 128, 3) := by decide +kernel
theorem dX5_branch_38 : decode cX5_branch 38 = .ok (.iconst (-1), 1) := by decide +kernel
theorem dX5_branch_39 : decode cX5_branch 39 = .ok (.if_icmp .ne 13, 3) := by decide +kernel
theorem dX5_branch_42 : decode cX5_branch 42 = .ok (.new 82, 3) := by decide +kernel
theorem dX5_branch_45 : decode cX5_branch 45 = .ok (.dup, 1) := by decide +kernel
theorem dX5_branch_46 : decode cX5_branch 46 = .ok (.ldc 167, 2) := by decide +kernel
theorem dX5_branch_48 : decode cX5_branch 48 = .ok (.invokespecial 86, 3) := by decide +kernel
theorem dX5_branch_51 : decode cX5_branch 51 = .ok (.athrow, 1) := by decide +kernel
theorem dX5_go_0 : decode cX5_go 0 = .ok (.aload_n 0, 1) := by decide +kernel
theorem dX5_go_1 : decode cX5_go 1 = .ok (.iload_n 1, 1) := by decide +kernel
theorem dX5_go_2 : decode cX5_go 2 = .ok (.invokevirtual 172, 3) := by decide +kernel
theorem dX5_go_5 : decode cX5_go 5 = .ok (.aload_n 0, 1) := by decide +kernel
theorem dX5_go_6 : decode cX5_go 6 = .ok (.invokevirtual 75, 3) := by decide +kernel
theorem dX5_go_9 : decode cX5_go 9 = .ok (.aload_n 0, 1) := by decide +kernel
theorem dX5_go_10 : decode cX5_go 10 = .ok (.invokevirtual 146, 3) := by decide +kernel
theorem dX5_go_13 : decode cX5_go 13 = .ok (.ifCond .ne 13, 3) := by decide +kernel
theorem dX5_go_26 : decode cX5_go 26 = .ok (.aload_n 0, 1) := by decide +kernel
theorem dX5_go_27 : decode cX5_go 27 = .ok (.getfield 27, 3) := by decide +kernel
theorem dX5_go_30 : decode cX5_go 30 = .ok (.istore_n 2, 1) := by decide +kernel
theorem dX5_go_31 : decode cX5_go 31 = .ok (.aload_n 0, 1) := by decide +kernel
theorem dX5_go_32 : decode cX5_go 32 = .ok (.iload_n 1, 1) := by decide +kernel
theorem dX5_go_33 : decode cX5_go 33 = .ok (.putfield 27, 3) := by decide +kernel
theorem dX5_go_36 : decode cX5_go 36 = .ok (.aload_n 0, 1) := by decide +kernel
theorem dX5_go_37 : decode cX5_go 37 = .ok (.getfield 10, 3) := by decide +kernel
theorem dX5_go_40 : decode cX5_go 40 = .ok (.aload_n 0, 1) := by decide +kernel
theorem dX5_go_41 : decode cX5_go 41 = .ok (.aload_n 0, 1) := by decide +kernel
theorem dX5_go_42 : decode cX5_go 42 = .ok (.invokevirtual 128, 3) := by decide +kernel
theorem dX5_go_45 : decode cX5_go 45 = .ok (.invokevirtual 131, 3) := by decide +kernel
theorem dX5_go_48 : decode cX5_go 48 = .ok (.invokevirtual 139, 3) := by decide +kernel
theorem dX5_go_51 : decode cX5_go 51 = .ok (.iload_n 2, 1) := by decide +kernel
theorem dX5_go_52 : decode cX5_go 52 = .ok (.ireturn, 1) := by decide +kernel
theorem dX5_drop_0 : decode cX5_drop 0 = .ok (.aload_n 0, 1) := by decide +kernel
theorem dX5_drop_1 : decode cX5_drop 1 = .ok (.iload_n 1, 1) := by decide +kernel
theorem dX5_drop_2 : decode cX5_drop 2 = .ok (.invokevirtual 172, 3) := by decide +kernel
theorem dX5_drop_5 : decode cX5_drop 5 = .ok (.aload_n 0, 1) := by decide +kernel
theorem dX5_drop_6 : decode cX5_drop 6 = .ok (.invokevirtual 75, 3) := by decide +kernel
theorem dX5_drop_9 : decode cX5_drop 9 = .ok (.iload_n 1, 1) := by decide +kernel
theorem dX5_drop_10 : decode cX5_drop 10 = .ok (.aload_n 0, 1) := by decide +kernel
theorem dX5_drop_11 : decode cX5_drop 11 = .ok (.getfield 27, 3) := by decide +kernel
theorem dX5_drop_14 : decode cX5_drop 14 = .ok (.if_icmp .ne 13, 3) := by decide +kernel
theorem dX5_drop_17 : decode cX5_drop 17 = .ok (.new 82, 3) := by decide +kernel
theorem dX5_drop_20 : decode cX5_drop 20 = .ok (.dup, 1) := by decide +kernel
theorem dX5_drop_21 : decode cX5_drop 21 = .ok (.ldc 177, 2) := by decide +kernel
theorem dX5_drop_23 : decode cX5_drop 23 = .ok (.invokespecial 86, 3) := by decide +kernel
theorem dX5_drop_26 : decode cX5_drop 26 = .ok (.athrow, 1) := by decide +kernel
theorem dX5_reset_0 : decode cX5_reset 0 = .ok (.aload_n 0, 1) := by decide +kernel
theorem dX5_reset_1 : decode cX5_reset 1 = .ok (.iload_n 1, 1) := by decide +kernel
theorem dX5_reset_2 : decode cX5_reset 2 = .ok (.invokevirtual 191, 3) := by decide +kernel
theorem dX5_sweep_0 : decode cX5_sweep 0 = .ok (.aload_n 0, 1) := by decide +kernel
theorem dX5_sweep_1 : decode cX5_sweep 1 = .ok (.invokevirtual 75, 3) := by decide +kernel
theorem dX5_sweep_4 : decode cX5_sweep 4 = .ok (.aload_n 0, 1) := by decide +kernel
theorem dX5_sweep_5 : decode cX5_sweep 5 = .ok (.lconst 0, 1) := by decide +kernel
theorem dX5_sweep_6 : decode cX5_sweep 6 = .ok (.putfield 45, 3) := by decide +kernel
theorem dX5_sweep_9 : decode cX5_sweep 9 = .ok (.aload_n 0, 1) := by decide +kernel
theorem dX5_sweep_10 : decode cX5_sweep 10 = .ok (.getfield 19, 3) := by decide +kernel
theorem dX5_sweep_13 : decode cX5_sweep 13 = .ok (.aload_n 0, 1) := by decide +kernel
theorem dX5_sweep_14 : decode cX5_sweep 14 = .ok (.invokevirtual 179, 3) := by decide +kernel
theorem dX5_sweep_17 : decode cX5_sweep 17 = .ok (.invokevirtual 197, 3) := by decide +kernel
theorem dX5_sweep_20 : decode cX5_sweep 20 = .ok (.ireturn, 1) := by decide +kernel
theorem dX5_merge_0 : decode cX5_merge 0 = .ok (.aload_n 0, 1) := by decide +kernel
theorem dX5_merge_1 : decode cX5_merge 1 = .ok (.iload_n 1, 1) := by decide +kernel
theorem dX5_merge_2 : decode cX5_merge 2 = .ok (.invokevirtual 172, 3) := by decide +kernel
theorem dX5_merge_5 : decode cX5_merge 5 = .ok (.aload_n 0, 1) := by decide +kernel
theorem dX5_merge_6 : decode cX5_merge 6 = .ok (.iload_n 1, 1) := by decide +kernel
theorem dX5_merge_7 : decode cX5_merge 7 = .ok (.invokevirtual 200, 3) := by decide +kernel
theorem dX5_carry_0 : decode cX5_carry 0 = .ok (.aload_n 0, 1) := by decide +kernel
theorem dX5_carry_1 : decode cX5_carry 1 = .ok (.iload_n 1, 1) := by decide +kernel
theorem dX5_carry_2 : decode cX5_carry 2 = .ok (.invokevirtual 191, 3) := by decide +kernel
theorem dX5_takeBack_0 : decode cX5_takeBack 0 = .ok (.aload_n 0, 1) := by decide +kernel
theorem dX5_takeBack_1 : decode cX5_takeBack 1 = .ok (.iload_n 1, 1) := by decide +kernel
theorem dX5_takeBack_2 : decode cX5_takeBack 2 = .ok (.invokevirtual 191, 3) := by decide +kernel
theorem dX5_replay_0 : decode cX5_replay 0 = .ok (.aload_n 0, 1) := by decide +kernel
theorem dX5_replay_1 : decode cX5_replay 1 = .ok (.iload_n 1, 1) := by decide +kernel
theorem dX5_replay_2 : decode cX5_replay 2 = .ok (.invokevirtual 172, 3) := by decide +kernel
theorem dX5_replay_5 : decode cX5_replay 5 = .ok (.aload_n 0, 1) := by decide +kernel
theorem dX5_replay_6 : decode cX5_replay 6 = .ok (.iload_n 1, 1) := by decide +kernel
theorem dX5_replay_7 : decode cX5_replay 7 = .ok (.invokevirtual 200, 3) := by decide +kernel
theorem dX5_settle_0 : decode cX5_settle 0 = .ok (.aload_n 0, 1) := by decide +kernel
theorem dX5_settle_1 : decode cX5_settle 1 = .ok (.invokevirtual 244, 3) := by decide +kernel
theorem dX5_goOn_0 : decode cX5_goOn 0 = .ok (.aload_n 0, 1) := by decide +kernel
theorem dX5_goOn_1 : decode cX5_goOn 1 = .ok (.invokevirtual 244, 3) := by decide +kernel
theorem dX5_giveUp_0 : decode cX5_giveUp 0 = .ok (.aload_n 0, 1) := by decide +kernel
theorem dX5_giveUp_1 : decode cX5_giveUp 1 = .ok (.invokevirtual 244, 3) := by decide +kernel
theorem dX5_pending_0 : decode cX5_pending 0 = .ok (.aload_n 0, 1) := by decide +kernel
theorem dX5_pending_1 : decode cX5_pending 1 = .ok (.getfield 49, 3) := by decide +kernel
theorem dX5_pending_4 : decode cX5_pending 4 = .ok (.ireturn, 1) := by decide +kernel
theorem dX5_conflicts_0 : decode cX5_conflicts 0 = .ok (.aload_n 0, 1) := by decide +kernel
theorem dX5_conflicts_1 : decode cX5_conflicts 1 = .ok (.getfield 49, 3) := by decide +kernel
theorem dX5_conflicts_4 : decode cX5_conflicts 4 = .ok (.ifCond .ne 7, 3) := by decide +kernel
theorem dX5_conflicts_7 : decode cX5_conflicts 7 = .ok (.iconst 0, 1) := by decide +kernel
theorem dX5_conflicts_8 : decode cX5_conflicts 8 = .ok (.goto 10, 3) := by decide +kernel
theorem dX5_conflicts_18 : decode cX5_conflicts 18 = .ok (.ireturn, 1) := by decide +kernel
theorem dX5_unsettled_0 : decode cX5_unsettled 0 = .ok (.aload_n 0, 1) := by decide +kernel
theorem dX5_unsettled_1 : decode cX5_unsettled 1 = .ok (.getfield 49, 3) := by decide +kernel
theorem dX5_unsettled_4 : decode cX5_unsettled 4 = .ok (.ifCond .ne 7, 3) := by decide +kernel
theorem dX5_unsettled_7 : decode cX5_unsettled 7 = .ok (.iconst 0, 1) := by decide +kernel
theorem dX5_unsettled_8 : decode cX5_unsettled 8 = .ok (.goto 10, 3) := by decide +kernel
theorem dX5_unsettled_18 : decode cX5_unsettled 18 = .ok (.ireturn, 1) := by decide +kernel
theorem dX5_left_0 : decode cX5_left 0 = .ok (.aload_n 0, 1) := by decide +kernel
theorem dX5_left_1 : decode cX5_left 1 = .ok (.getfield 49, 3) := by decide +kernel
theorem dX5_left_4 : decode cX5_left 4 = .ok (.iconst 4, 1) := by decide +kernel
theorem dX5_left_5 : decode cX5_left 5 = .ok (.if_icmp .ne 13, 3) := by decide +kernel
theorem dX5_left_18 : decode cX5_left 18 = .ok (.iconst 0, 1) := by decide +kernel
theorem dX5_left_19 : decode cX5_left 19 = .ok (.ireturn, 1) := by decide +kernel
theorem dX5_conflictFile_0 : decode cX5_conflictFile 0 = .ok (.aload_n 0, 1) := by decide +kernel
theorem dX5_conflictFile_1 : decode cX5_conflictFile 1 = .ok (.iload_n 1, 1) := by decide +kernel
theorem dX5_conflictFile_2 : decode cX5_conflictFile 2 = .ok (.invokevirtual 247, 3) := by decide +kernel
theorem dX5_pieceSize_0 : decode cX5_pieceSize 0 = .ok (.aload_n 0, 1) := by decide +kernel
theorem dX5_pieceSize_1 : decode cX5_pieceSize 1 = .ok (.iload_n 1, 1) := by decide +kernel
theorem dX5_pieceSize_2 : decode cX5_pieceSize 2 = .ok (.invokevirtual 247, 3) := by decide +kernel
theorem dX5_pieceLine_0 : decode cX5_pieceLine 0 = .ok (.aload_n 0, 1) := by decide +kernel
theorem dX5_pieceLine_1 : decode cX5_pieceLine 1 = .ok (.iload_n 1, 1) := by decide +kernel
theorem dX5_pieceLine_2 : decode cX5_pieceLine 2 = .ok (.invokevirtual 247, 3) := by decide +kernel
theorem dX5_deskLines_0 : decode cX5_deskLines 0 = .ok (.iload_n 1, 1) := by decide +kernel
theorem dX5_deskLines_1 : decode cX5_deskLines 1 = .ok (.invokestatic 71, 3) := by decide +kernel
theorem dX5_deskLines_4 : decode cX5_deskLines 4 = .ok (.aload_n 0, 1) := by decide +kernel
theorem dX5_deskLines_5 : decode cX5_deskLines 5 = .ok (.getfield 10, 3) := by decide +kernel
theorem dX5_deskLines_8 : decode cX5_deskLines 8 = .ok (.iload_n 1, 1) := by decide +kernel
theorem dX5_deskLines_9 : decode cX5_deskLines 9 = .ok (.invokevirtual 96, 3) := by decide +kernel
theorem dX5_deskLines_12 : decode cX5_deskLines 12 = .ok (.ireturn, 1) := by decide +kernel
theorem dX5_deskLine_0 : decode cX5_deskLine 0 = .ok (.iload_n 1, 1) := by decide +kernel
theorem dX5_deskLine_1 : decode cX5_deskLine 1 = .ok (.invokestatic 71, 3) := by decide +kernel
theorem dX5_deskLine_4 : decode cX5_deskLine 4 = .ok (.iload_n 2, 1) := by decide +kernel
theorem dX5_deskLine_5 : decode cX5_deskLine 5 = .ok (.aload_n 0, 1) := by decide +kernel
theorem dX5_deskLine_6 : decode cX5_deskLine 6 = .ok (.getfield 10, 3) := by decide +kernel
theorem dX5_deskLine_9 : decode cX5_deskLine 9 = .ok (.iload_n 1, 1) := by decide +kernel
theorem dX5_deskLine_10 : decode cX5_deskLine 10 = .ok (.invokevirtual 96, 3) := by decide +kernel
theorem dX5_deskLine_13 : decode cX5_deskLine 13 = .ok (.invokestatic 280, 3) := by decide +kernel
theorem dX5_isClean_0 : decode cX5_isClean 0 = .ok (.aload_n 0, 1) := by decide +kernel
theorem dX5_isClean_1 : decode cX5_isClean 1 = .ok (.getfield 10, 3) := by decide +kernel
theorem dX5_isClean_4 : decode cX5_isClean 4 = .ok (.aload_n 0, 1) := by decide +kernel
theorem dX5_isClean_5 : decode cX5_isClean 5 = .ok (.aload_n 0, 1) := by decide +kernel
theorem dX5_isClean_6 : decode cX5_isClean 6 = .ok (.invokevirtual 128, 3) := by decide +kernel
theorem dX5_isClean_9 : decode cX5_isClean 9 = .ok (.invokevirtual 131, 3) := by decide +kernel
theorem dX5_isClean_12 : decode cX5_isClean 12 = .ok (.invokevirtual 135, 3) := by decide +kernel
theorem dX5_isClean_15 : decode cX5_isClean 15 = .ok (.ifCond .ne 7, 3) := by decide +kernel
theorem dX5_isClean_18 : decode cX5_isClean 18 = .ok (.iconst 1, 1) := by decide +kernel
theorem dX5_isClean_19 : decode cX5_isClean 19 = .ok (.goto 4, 3) := by decide +kernel
theorem dX5_isClean_23 : decode cX5_isClean 23 = .ok (.ireturn, 1) := by decide +kernel
theorem dX5_commits_0 : decode cX5_commits 0 = .ok (.aload_n 0, 1) := by decide +kernel
theorem dX5_commits_1 : decode cX5_commits 1 = .ok (.getfield 19, 3) := by decide +kernel
theorem dX5_commits_4 : decode cX5_commits 4 = .ok (.getfield 286, 3) := by decide +kernel
theorem dX5_commits_7 : decode cX5_commits 7 = .ok (.ireturn, 1) := by decide +kernel
theorem dX5_isThere_0 : decode cX5_isThere 0 = .ok (.aload_n 0, 1) := by decide +kernel
theorem dX5_isThere_1 : decode cX5_isThere 1 = .ok (.getfield 19, 3) := by decide +kernel
theorem dX5_isThere_4 : decode cX5_isThere 4 = .ok (.iload_n 1, 1) := by decide +kernel
theorem dX5_isThere_5 : decode cX5_isThere 5 = .ok (.invokevirtual 289, 3) := by decide +kernel
theorem dX5_isThere_8 : decode cX5_isThere 8 = .ok (.ireturn, 1) := by decide +kernel
theorem dX5_isReached_0 : decode cX5_isReached 0 = .ok (.aload_n 0, 1) := by decide +kernel
theorem dX5_isReached_1 : decode cX5_isReached 1 = .ok (.iload_n 1, 1) := by decide +kernel
theorem dX5_isReached_2 : decode cX5_isReached 2 = .ok (.invokevirtual 191, 3) := by decide +kernel
theorem dX5_parent_0 : decode cX5_parent 0 = .ok (.aload_n 0, 1) := by decide +kernel
theorem dX5_parent_1 : decode cX5_parent 1 = .ok (.iload_n 1, 1) := by decide +kernel
theorem dX5_parent_2 : decode cX5_parent 2 = .ok (.invokevirtual 191, 3) := by decide +kernel
theorem dX5_wordOf_0 : decode cX5_wordOf 0 = .ok (.aload_n 0, 1) := by decide +kernel
theorem dX5_wordOf_1 : decode cX5_wordOf 1 = .ok (.iload_n 1, 1) := by decide +kernel
theorem dX5_wordOf_2 : decode cX5_wordOf 2 = .ok (.invokevirtual 191, 3) := by decide +kernel
theorem dX5_lines_0 : decode cX5_lines 0 = .ok (.aload_n 0, 1) := by decide +kernel
theorem dX5_lines_1 : decode cX5_lines 1 = .ok (.iload_n 1, 1) := by decide +kernel
theorem dX5_lines_2 : decode cX5_lines 2 = .ok (.invokevirtual 191, 3) := by decide +kernel
theorem dX5_lineAt_0 : decode cX5_lineAt 0 = .ok (.aload_n 0, 1) := by decide +kernel
theorem dX5_lineAt_1 : decode cX5_lineAt 1 = .ok (.iload_n 1, 1) := by decide +kernel
theorem dX5_lineAt_2 : decode cX5_lineAt 2 = .ok (.iload_n 2, 1) := by decide +kernel
theorem dX5_lineAt_3 : decode cX5_lineAt 3 = .ok (.iload_n 3, 1) := by decide +kernel
theorem dX5_lineAt_4 : decode cX5_lineAt 4 = .ok (.invokevirtual 301, 3) := by decide +kernel
theorem dX5_head_0 : decode cX5_head 0 = .ok (.aload_n 0, 1) := by decide +kernel
theorem dX5_head_1 : decode cX5_head 1 = .ok (.getfield 27, 3) := by decide +kernel
theorem dX5_head_4 : decode cX5_head 4 = .ok (.ireturn, 1) := by decide +kernel
theorem dX5_commitOf_0 : decode cX5_commitOf 0 = .ok (.iload_n 1, 1) := by decide +kernel
theorem dX5_commitOf_1 : decode cX5_commitOf 1 = .ok (.ifCond .lt 9, 3) := by decide +kernel
theorem dX5_commitOf_4 : decode cX5_commitOf 4 = .ok (.iload_n 1, 1) := by decide +kernel
theorem dX5_commitOf_5 : decode cX5_commitOf 5 = .ok (.bipush 8, 2) := by decide +kernel
theorem dX5_commitOf_7 : decode cX5_commitOf 7 = .ok (.if_icmp .lt 8, 3) := by decide +kernel
theorem dX5_commitOf_10 : decode cX5_commitOf 10 = .ok (.bipush (-2), 2) := by decide +kernel
theorem dX5_commitOf_12 : decode cX5_commitOf 12 = .ok (.goto 9, 3) := by decide +kernel
theorem dX5_commitOf_15 : decode cX5_commitOf 15 = .ok (.aload_n 0, 1) := by decide +kernel
theorem dX5_commitOf_16 : decode cX5_commitOf 16 = .ok (.getfield 23, 3) := by decide +kernel
theorem dX5_commitOf_19 : decode cX5_commitOf 19 = .ok (.iload_n 1, 1) := by decide +kernel
theorem dX5_commitOf_20 : decode cX5_commitOf 20 = .ok (.iaload, 1) := by decide +kernel
theorem dX5_commitOf_21 : decode cX5_commitOf 21 = .ok (.ireturn, 1) := by decide +kernel
theorem dX5_isAncestor_0 : decode cX5_isAncestor 0 = .ok (.aload_n 0, 1) := by decide +kernel
theorem dX5_isAncestor_1 : decode cX5_isAncestor 1 = .ok (.iload_n 1, 1) := by decide +kernel
theorem dX5_isAncestor_2 : decode cX5_isAncestor 2 = .ok (.iload_n 2, 1) := by decide +kernel
theorem dX5_isAncestor_3 : decode cX5_isAncestor 3 = .ok (.invokevirtual 304, 3) := by decide +kernel
theorem dX5_base_0 : decode cX5_base 0 = .ok (.aload_n 0, 1) := by decide +kernel
theorem dX5_base_1 : decode cX5_base 1 = .ok (.iload_n 1, 1) := by decide +kernel
theorem dX5_base_2 : decode cX5_base 2 = .ok (.iload_n 2, 1) := by decide +kernel
theorem dX5_base_3 : decode cX5_base 3 = .ok (.invokevirtual 304, 3) := by decide +kernel
theorem dX5_ahead_0 : decode cX5_ahead 0 = .ok (.aload_n 0, 1) := by decide +kernel
theorem dX5_ahead_1 : decode cX5_ahead 1 = .ok (.iload_n 1, 1) := by decide +kernel
theorem dX5_ahead_2 : decode cX5_ahead 2 = .ok (.iload_n 2, 1) := by decide +kernel
theorem dX5_ahead_3 : decode cX5_ahead 3 = .ok (.invokevirtual 304, 3) := by decide +kernel
theorem dX5_touched_0 : decode cX5_touched 0 = .ok (.aload_n 0, 1) := by decide +kernel
theorem dX5_touched_1 : decode cX5_touched 1 = .ok (.iload_n 1, 1) := by decide +kernel
theorem dX5_touched_2 : decode cX5_touched 2 = .ok (.iload_n 2, 1) := by decide +kernel
theorem dX5_touched_3 : decode cX5_touched 3 = .ok (.invokevirtual 304, 3) := by decide +kernel
theorem dX5_added_0 : decode cX5_added 0 = .ok (.aload_n 0, 1) := by decide +kernel
theorem dX5_added_1 : decode cX5_added 1 = .ok (.iload_n 1, 1) := by decide +kernel
theorem dX5_added_2 : decode cX5_added 2 = .ok (.iload_n 2, 1) := by decide +kernel
theorem dX5_added_3 : decode cX5_added 3 = .ok (.invokevirtual 304, 3) := by decide +kernel
theorem dX5_pairOf_0 : decode cX5_pairOf 0 = .ok (.aload_n 0, 1) := by decide +kernel
theorem dX5_pairOf_1 : decode cX5_pairOf 1 = .ok (.iload_n 1, 1) := by decide +kernel
theorem dX5_pairOf_2 : decode cX5_pairOf 2 = .ok (.iload_n 2, 1) := by decide +kernel
theorem dX5_pairOf_3 : decode cX5_pairOf 3 = .ok (.invokevirtual 304, 3) := by decide +kernel
theorem dX5_blame_0 : decode cX5_blame 0 = .ok (.aload_n 0, 1) := by decide +kernel
theorem dX5_blame_1 : decode cX5_blame 1 = .ok (.iload_n 1, 1) := by decide +kernel
theorem dX5_blame_2 : decode cX5_blame 2 = .ok (.iload_n 2, 1) := by decide +kernel
theorem dX5_blame_3 : decode cX5_blame 3 = .ok (.iload_n 3, 1) := by decide +kernel
theorem dX5_blame_4 : decode cX5_blame 4 = .ok (.invokevirtual 301, 3) := by decide +kernel
theorem dX5_depthOf_0 : decode cX5_depthOf 0 = .ok (.aload_n 0, 1) := by decide +kernel
theorem dX5_depthOf_1 : decode cX5_depthOf 1 = .ok (.iload_n 1, 1) := by decide +kernel
theorem dX5_depthOf_2 : decode cX5_depthOf 2 = .ok (.invokevirtual 191, 3) := by decide +kernel
theorem dX5_seek_0 : decode cX5_seek 0 = .ok (.aload_n 0, 1) := by decide +kernel
theorem dX5_seek_1 : decode cX5_seek 1 = .ok (.iload_n 1, 1) := by decide +kernel
theorem dX5_seek_2 : decode cX5_seek 2 = .ok (.iload_n 2, 1) := by decide +kernel
theorem dX5_seek_3 : decode cX5_seek 3 = .ok (.invokevirtual 304, 3) := by decide +kernel
theorem dX5_probe_0 : decode cX5_probe 0 = .ok (.aload_n 0, 1) := by decide +kernel
theorem dX5_probe_1 : decode cX5_probe 1 = .ok (.getfield 45, 3) := by decide +kernel
theorem dX5_probe_4 : decode cX5_probe 4 = .ok (.invokestatic 185, 3) := by decide +kernel
theorem dX5_probe_7 : decode cX5_probe 7 = .ok (.istore_n 1, 1) := by decide +kernel
theorem dX5_probe_8 : decode cX5_probe 8 = .ok (.iload_n 1, 1) := by decide +kernel
theorem dX5_probe_9 : decode cX5_probe 9 = .ok (.iconst 2, 1) := by decide +kernel
theorem dX5_probe_10 : decode cX5_probe 10 = .ok (.if_icmp .ge 5, 3) := by decide +kernel
theorem dX5_probe_13 : decode cX5_probe 13 = .ok (.iconst (-1), 1) := by decide +kernel
theorem dX5_probe_14 : decode cX5_probe 14 = .ok (.ireturn, 1) := by decide +kernel
theorem dX5_tell_0 : decode cX5_tell 0 = .ok (.aload_n 0, 1) := by decide +kernel
theorem dX5_tell_1 : decode cX5_tell 1 = .ok (.invokevirtual 337, 3) := by decide +kernel
theorem dX5_tell_4 : decode cX5_tell 4 = .ok (.istore_n 2, 1) := by decide +kernel
theorem dX5_tell_5 : decode cX5_tell 5 = .ok (.iload_n 2, 1) := by decide +kernel
theorem dX5_tell_6 : decode cX5_tell 6 = .ok (.iconst (-1), 1) := by decide +kernel
theorem dX5_tell_7 : decode cX5_tell 7 = .ok (.if_icmp .ne 14, 3) := by decide +kernel
theorem dX5_tell_10 : decode cX5_tell 10 = .ok (.new 82, 3) := by decide +kernel
theorem dX5_tell_13 : decode cX5_tell 13 = .ok (.dup, 1) := by decide +kernel
theorem dX5_tell_14 : decode cX5_tell 14 = .ok (.ldc_w 340, 3) := by decide +kernel
theorem dX5_tell_17 : decode cX5_tell 17 = .ok (.invokespecial 86, 3) := by decide +kernel
theorem dX5_tell_20 : decode cX5_tell 20 = .ok (.athrow, 1) := by decide +kernel
theorem dX5_culprit_0 : decode cX5_culprit 0 = .ok (.aload_n 0, 1) := by decide +kernel
theorem dX5_culprit_1 : decode cX5_culprit 1 = .ok (.getfield 45, 3) := by decide +kernel
theorem dX5_culprit_4 : decode cX5_culprit 4 = .ok (.invokestatic 185, 3) := by decide +kernel
theorem dX5_culprit_7 : decode cX5_culprit 7 = .ok (.iconst 1, 1) := by decide +kernel
theorem dX5_culprit_8 : decode cX5_culprit 8 = .ok (.if_icmp .ne 13, 3) := by decide +kernel
theorem dX5_culprit_21 : decode cX5_culprit 21 = .ok (.iconst (-1), 1) := by decide +kernel
theorem dX5_culprit_22 : decode cX5_culprit 22 = .ok (.ireturn, 1) := by decide +kernel
theorem dX5_wouldMerge_0 : decode cX5_wouldMerge 0 = .ok (.aload_n 0, 1) := by decide +kernel
theorem dX5_wouldMerge_1 : decode cX5_wouldMerge 1 = .ok (.iload_n 1, 1) := by decide +kernel
theorem dX5_wouldMerge_2 : decode cX5_wouldMerge 2 = .ok (.invokevirtual 172, 3) := by decide +kernel
theorem dX5_wouldMerge_5 : decode cX5_wouldMerge 5 = .ok (.aload_n 0, 1) := by decide +kernel
theorem dX5_wouldMerge_6 : decode cX5_wouldMerge 6 = .ok (.iload_n 1, 1) := by decide +kernel
theorem dX5_wouldMerge_7 : decode cX5_wouldMerge 7 = .ok (.invokevirtual 200, 3) := by decide +kernel
theorem dX5_wouldConflict_0 : decode cX5_wouldConflict 0 = .ok (.aload_n 0, 1) := by decide +kernel
theorem dX5_wouldConflict_1 : decode cX5_wouldConflict 1 = .ok (.iload_n 1, 1) := by decide +kernel
theorem dX5_wouldConflict_2 : decode cX5_wouldConflict 2 = .ok (.invokevirtual 191, 3) := by decide +kernel
theorem dX5_meanLines_0 : decode cX5_meanLines 0 = .ok (.iconst 0, 1) := by decide +kernel
theorem dX5_meanLines_1 : decode cX5_meanLines 1 = .ok (.istore_n 1, 1) := by decide +kernel
theorem dX5_meanLines_2 : decode cX5_meanLines 2 = .ok (.iconst 0, 1) := by decide +kernel
theorem dX5_meanLines_3 : decode cX5_meanLines 3 = .ok (.istore_n 2, 1) := by decide +kernel
theorem dX5_meanLines_4 : decode cX5_meanLines 4 = .ok (.iconst 0, 1) := by decide +kernel
theorem dX5_meanLines_5 : decode cX5_meanLines 5 = .ok (.istore_n 3, 1) := by decide +kernel
theorem dX5_meanLines_6 : decode cX5_meanLines 6 = .ok (.iload_n 3, 1) := by decide +kernel
theorem dX5_meanLines_7 : decode cX5_meanLines 7 = .ok (.aload_n 0, 1) := by decide +kernel
theorem dX5_meanLines_8 : decode cX5_meanLines 8 = .ok (.getfield 19, 3) := by decide +kernel
theorem dX5_meanLines_11 : decode cX5_meanLines 11 = .ok (.getfield 286, 3) := by decide +kernel
theorem dX5_meanLines_14 : decode cX5_meanLines 14 = .ok (.if_icmp .ge 34, 3) := by decide +kernel
theorem dX5_meanLines_48 : decode cX5_meanLines 48 = .ok (.iload_n 1, 1) := by decide +kernel
theorem dX5_meanLines_49 : decode cX5_meanLines 49 = .ok (.ifCond .ne 7, 3) := by decide +kernel
theorem dX5_meanLines_52 : decode cX5_meanLines 52 = .ok (.dconst 0, 1) := by decide +kernel
theorem dX5_meanLines_53 : decode cX5_meanLines 53 = .ok (.goto 8, 3) := by decide +kernel
theorem dX5_meanLines_61 : decode cX5_meanLines 61 = .ok (.dreturn, 1) := by decide +kernel
theorem dX5_digest_0 : decode cX5_digest 0 = .ok (.ldc2_w 348, 3) := by decide +kernel
theorem dX5_digest_3 : decode cX5_digest 3 = .ok (.lstore_n 1, 1) := by decide +kernel
theorem dX5_digest_4 : decode cX5_digest 4 = .ok (.lload_n 1, 1) := by decide +kernel
theorem dX5_digest_5 : decode cX5_digest 5 = .ok (.ldc2_w 350, 3) := by decide +kernel
theorem dX5_digest_8 : decode cX5_digest 8 = .ok (.lmul, 1) := by decide +kernel
theorem dX5_digest_9 : decode cX5_digest 9 = .ok (.aload_n 0, 1) := by decide +kernel
theorem dX5_digest_10 : decode cX5_digest 10 = .ok (.invokevirtual 352, 3) := by decide +kernel
theorem dX5_digest_13 : decode cX5_digest 13 = .ok (.i2l, 1) := by decide +kernel
theorem dX5_digest_14 : decode cX5_digest 14 = .ok (.ladd, 1) := by decide +kernel
theorem dX5_digest_15 : decode cX5_digest 15 = .ok (.lstore_n 1, 1) := by decide +kernel
theorem dX5_digest_16 : decode cX5_digest 16 = .ok (.lload_n 1, 1) := by decide +kernel
theorem dX5_digest_17 : decode cX5_digest 17 = .ok (.ldc2_w 350, 3) := by decide +kernel
theorem dX5_digest_20 : decode cX5_digest 20 = .ok (.lmul, 1) := by decide +kernel
theorem dX5_digest_21 : decode cX5_digest 21 = .ok (.aload_n 0, 1) := by decide +kernel
theorem dX5_digest_22 : decode cX5_digest 22 = .ok (.invokevirtual 355, 3) := by decide +kernel
theorem dX5_digest_25 : decode cX5_digest 25 = .ok (.i2l, 1) := by decide +kernel
theorem dX5_digest_26 : decode cX5_digest 26 = .ok (.ladd, 1) := by decide +kernel
theorem dX5_digest_27 : decode cX5_digest 27 = .ok (.lstore_n 1, 1) := by decide +kernel
theorem dX5_digest_28 : decode cX5_digest 28 = .ok (.lload_n 1, 1) := by decide +kernel
theorem dX5_digest_29 : decode cX5_digest 29 = .ok (.ldc2_w 350, 3) := by decide +kernel
theorem dX5_digest_32 : decode cX5_digest 32 = .ok (.lmul, 1) := by decide +kernel
theorem dX5_digest_33 : decode cX5_digest 33 = .ok (.aload_n 0, 1) := by decide +kernel
theorem dX5_digest_34 : decode cX5_digest 34 = .ok (.invokevirtual 146, 3) := by decide +kernel
theorem dX5_digest_37 : decode cX5_digest 37 = .ok (.ifCond .eq 7, 3) := by decide +kernel
theorem dX5_digest_40 : decode cX5_digest 40 = .ok (.iconst 1, 1) := by decide +kernel
theorem dX5_digest_41 : decode cX5_digest 41 = .ok (.goto 4, 3) := by decide +kernel
theorem dX5_digest_45 : decode cX5_digest 45 = .ok (.i2l, 1) := by decide +kernel
theorem dX5_digest_46 : decode cX5_digest 46 = .ok (.ladd, 1) := by decide +kernel
theorem dX5_digest_47 : decode cX5_digest 47 = .ok (.lstore_n 1, 1) := by decide +kernel
theorem dX5_digest_48 : decode cX5_digest 48 = .ok (.lload_n 1, 1) := by decide +kernel
theorem dX5_digest_49 : decode cX5_digest 49 = .ok (.ldc2_w 350, 3) := by decide +kernel
theorem dX5_digest_52 : decode cX5_digest 52 = .ok (.lmul, 1) := by decide +kernel
theorem dX5_digest_53 : decode cX5_digest 53 = .ok (.aload_n 0, 1) := by decide +kernel
theorem dX5_digest_54 : decode cX5_digest 54 = .ok (.invokevirtual 357, 3) := by decide +kernel
theorem dX5_digest_57 : decode cX5_digest 57 = .ok (.i2l, 1) := by decide +kernel
theorem dX5_digest_58 : decode cX5_digest 58 = .ok (.ladd, 1) := by decide +kernel
theorem dX5_digest_59 : decode cX5_digest 59 = .ok (.lstore_n 1, 1) := by decide +kernel
theorem dX5_digest_60 : decode cX5_digest 60 = .ok (.lload_n 1, 1) := by decide +kernel
theorem dX5_digest_61 : decode cX5_digest 61 = .ok (.ldc2_w 350, 3) := by decide +kernel
theorem dX5_digest_64 : decode cX5_digest 64 = .ok (.lmul, 1) := by decide +kernel
theorem dX5_digest_65 : decode cX5_digest 65 = .ok (.aload_n 0, 1) := by decide +kernel
theorem dX5_digest_66 : decode cX5_digest 66 = .ok (.invokevirtual 360, 3) := by decide +kernel
theorem dX5_digest_69 : decode cX5_digest 69 = .ok (.i2l, 1) := by decide +kernel
theorem dX5_digest_70 : decode cX5_digest 70 = .ok (.ladd, 1) := by decide +kernel
theorem dX5_digest_71 : decode cX5_digest 71 = .ok (.lstore_n 1, 1) := by decide +kernel
theorem dX5_digest_72 : decode cX5_digest 72 = .ok (.lload_n 1, 1) := by decide +kernel
theorem dX5_digest_73 : decode cX5_digest 73 = .ok (.ldc2_w 350, 3) := by decide +kernel
theorem dX5_digest_76 : decode cX5_digest 76 = .ok (.lmul, 1) := by decide +kernel
theorem dX5_digest_77 : decode cX5_digest 77 = .ok (.aload_n 0, 1) := by decide +kernel
theorem dX5_digest_78 : decode cX5_digest 78 = .ok (.invokevirtual 363, 3) := by decide +kernel
theorem dX5_digest_81 : decode cX5_digest 81 = .ok (.i2l, 1) := by decide +kernel
theorem dX5_digest_82 : decode cX5_digest 82 = .ok (.ladd, 1) := by decide +kernel
theorem dX5_digest_83 : decode cX5_digest 83 = .ok (.lstore_n 1, 1) := by decide +kernel
theorem dX5_digest_84 : decode cX5_digest 84 = .ok (.lload_n 1, 1) := by decide +kernel
theorem dX5_digest_85 : decode cX5_digest 85 = .ok (.ldc2_w 350, 3) := by decide +kernel
theorem dX5_digest_88 : decode cX5_digest 88 = .ok (.lmul, 1) := by decide +kernel
theorem dX5_digest_89 : decode cX5_digest 89 = .ok (.aload_n 0, 1) := by decide +kernel
theorem dX5_digest_90 : decode cX5_digest 90 = .ok (.invokevirtual 366, 3) := by decide +kernel
theorem dX5_digest_93 : decode cX5_digest 93 = .ok (.i2l, 1) := by decide +kernel
theorem dX5_digest_94 : decode cX5_digest 94 = .ok (.ladd, 1) := by decide +kernel
theorem dX5_digest_95 : decode cX5_digest 95 = .ok (.lstore_n 1, 1) := by decide +kernel
theorem dX5_digest_96 : decode cX5_digest 96 = .ok (.lload_n 1, 1) := by decide +kernel
theorem dX5_digest_97 : decode cX5_digest 97 = .ok (.ldc2_w 350, 3) := by decide +kernel
theorem dX5_digest_100 : decode cX5_digest 100 = .ok (.lmul, 1) := by decide +kernel
theorem dX5_digest_101 : decode cX5_digest 101 = .ok (.aload_n 0, 1) := by decide +kernel
theorem dX5_digest_102 : decode cX5_digest 102 = .ok (.invokevirtual 337, 3) := by decide +kernel
theorem dX5_digest_105 : decode cX5_digest 105 = .ok (.i2l, 1) := by decide +kernel
theorem dX5_digest_106 : decode cX5_digest 106 = .ok (.ladd, 1) := by decide +kernel
theorem dX5_digest_107 : decode cX5_digest 107 = .ok (.lstore_n 1, 1) := by decide +kernel
theorem dX5_digest_108 : decode cX5_digest 108 = .ok (.lload_n 1, 1) := by decide +kernel
theorem dX5_digest_109 : decode cX5_digest 109 = .ok (.ldc2_w 350, 3) := by decide +kernel
theorem dX5_digest_112 : decode cX5_digest 112 = .ok (.lmul, 1) := by decide +kernel
theorem dX5_digest_113 : decode cX5_digest 113 = .ok (.aload_n 0, 1) := by decide +kernel
theorem dX5_digest_114 : decode cX5_digest 114 = .ok (.invokevirtual 369, 3) := by decide +kernel
theorem dX5_digest_117 : decode cX5_digest 117 = .ok (.i2l, 1) := by decide +kernel
theorem dX5_digest_118 : decode cX5_digest 118 = .ok (.ladd, 1) := by decide +kernel
theorem dX5_digest_119 : decode cX5_digest 119 = .ok (.lstore_n 1, 1) := by decide +kernel
theorem dX5_digest_120 : decode cX5_digest 120 = .ok (.iconst 0, 1) := by decide +kernel
theorem dX5_digest_121 : decode cX5_digest 121 = .ok (.istore_n 3, 1) := by decide +kernel
theorem dX5_digest_122 : decode cX5_digest 122 = .ok (.iload_n 3, 1) := by decide +kernel
theorem dX5_digest_123 : decode cX5_digest 123 = .ok (.bipush 8, 2) := by decide +kernel
theorem dX5_digest_125 : decode cX5_digest 125 = .ok (.if_icmp .ge 22, 3) := by decide +kernel
theorem dX5_digest_128 : decode cX5_digest 128 = .ok (.lload_n 1, 1) := by decide +kernel
theorem dX5_digest_129 : decode cX5_digest 129 = .ok (.ldc2_w 350, 3) := by decide +kernel
theorem dX5_digest_132 : decode cX5_digest 132 = .ok (.lmul, 1) := by decide +kernel
theorem dX5_digest_133 : decode cX5_digest 133 = .ok (.aload_n 0, 1) := by decide +kernel
theorem dX5_digest_134 : decode cX5_digest 134 = .ok (.iload_n 3, 1) := by decide +kernel
theorem dX5_digest_135 : decode cX5_digest 135 = .ok (.invokevirtual 164, 3) := by decide +kernel
theorem dX5_digest_138 : decode cX5_digest 138 = .ok (.i2l, 1) := by decide +kernel
theorem dX5_digest_139 : decode cX5_digest 139 = .ok (.ladd, 1) := by decide +kernel
theorem dX5_digest_140 : decode cX5_digest 140 = .ok (.lstore_n 1, 1) := by decide +kernel
theorem dX5_digest_141 : decode cX5_digest 141 = .ok (.iinc 3 1, 3) := by decide +kernel
theorem dX5_digest_144 : decode cX5_digest 144 = .ok (.goto (-22), 3) := by decide +kernel
theorem dX5_digest_147 : decode cX5_digest 147 = .ok (.iconst 0, 1) := by decide +kernel
theorem dX5_digest_148 : decode cX5_digest 148 = .ok (.istore_n 3, 1) := by decide +kernel
theorem dX5_digest_149 : decode cX5_digest 149 = .ok (.iload_n 3, 1) := by decide +kernel
theorem dX5_digest_150 : decode cX5_digest 150 = .ok (.aload_n 0, 1) := by decide +kernel
theorem dX5_digest_151 : decode cX5_digest 151 = .ok (.getfield 19, 3) := by decide +kernel
theorem dX5_digest_154 : decode cX5_digest 154 = .ok (.getfield 286, 3) := by decide +kernel
theorem dX5_digest_157 : decode cX5_digest 157 = .ok (.if_icmp .ge 45, 3) := by decide +kernel
theorem dX5_digest_202 : decode cX5_digest 202 = .ok (.lload_n 1, 1) := by decide +kernel
theorem dX5_digest_203 : decode cX5_digest 203 = .ok (.aload_n 0, 1) := by decide +kernel
theorem dX5_digest_204 : decode cX5_digest 204 = .ok (.getfield 10, 3) := by decide +kernel
theorem dX5_digest_207 : decode cX5_digest 207 = .ok (.invokestatic 379, 3) := by decide +kernel
theorem dX5_digest_210 : decode cX5_digest 210 = .ok (.lstore_n 1, 1) := by decide +kernel
theorem dX5_digest_211 : decode cX5_digest 211 = .ok (.aload_n 0, 1) := by decide +kernel
theorem dX5_digest_212 : decode cX5_digest 212 = .ok (.lload_n 1, 1) := by decide +kernel
theorem dX5_digest_213 : decode cX5_digest 213 = .ok (.invokevirtual 383, 3) := by decide +kernel
theorem dX5_digest_216 : decode cX5_digest 216 = .ok (.lreturn, 1) := by decide +kernel
theorem dX5_withTree_0 : decode cX5_withTree 0 = .ok (.lload_n 0, 1) := by decide +kernel
theorem dX5_withTree_1 : decode cX5_withTree 1 = .ok (.lstore_n 3, 1) := by decide +kernel
theorem dX5_withTree_2 : decode cX5_withTree 2 = .ok (.iconst 0, 1) := by decide +kernel
theorem dX5_withTree_3 : decode cX5_withTree 3 = .ok (.istore 5, 2) := by decide +kernel
theorem dX5_withTree_5 : decode cX5_withTree 5 = .ok (.iload 5, 2) := by decide +kernel
theorem dX5_withTree_7 : decode cX5_withTree 7 = .ok (.bipush 8, 2) := by decide +kernel
theorem dX5_withTree_9 : decode cX5_withTree 9 = .ok (.if_icmp .ge 59, 3) := by decide +kernel
theorem dX5_withTree_12 : decode cX5_withTree 12 = .ok (.aload_n 2, 1) := by decide +kernel
theorem dX5_withTree_13 : decode cX5_withTree 13 = .ok (.iload 5, 2) := by decide +kernel
theorem dX5_withTree_15 : decode cX5_withTree 15 = .ok (.invokevirtual 96, 3) := by decide +kernel
theorem dX5_withTree_18 : decode cX5_withTree 18 = .ok (.istore 6, 2) := by decide +kernel
theorem dX5_withTree_20 : decode cX5_withTree 20 = .ok (.lload_n 3, 1) := by decide +kernel
theorem dX5_withTree_21 : decode cX5_withTree 21 = .ok (.ldc2_w 350, 3) := by decide +kernel
theorem dX5_withTree_24 : decode cX5_withTree 24 = .ok (.lmul, 1) := by decide +kernel
theorem dX5_withTree_25 : decode cX5_withTree 25 = .ok (.iload 6, 2) := by decide +kernel
theorem dX5_withTree_27 : decode cX5_withTree 27 = .ok (.i2l, 1) := by decide +kernel
theorem dX5_withTree_28 : decode cX5_withTree 28 = .ok (.ladd, 1) := by decide +kernel
theorem dX5_withTree_29 : decode cX5_withTree 29 = .ok (.lstore_n 3, 1) := by decide +kernel
theorem dX5_withTree_30 : decode cX5_withTree 30 = .ok (.iconst 0, 1) := by decide +kernel
theorem dX5_withTree_31 : decode cX5_withTree 31 = .ok (.istore 7, 2) := by decide +kernel
theorem dX5_withTree_33 : decode cX5_withTree 33 = .ok (.iload 7, 2) := by decide +kernel
theorem dX5_withTree_35 : decode cX5_withTree 35 = .ok (.iload 6, 2) := by decide +kernel
theorem dX5_withTree_37 : decode cX5_withTree 37 = .ok (.if_icmp .ge 25, 3) := by decide +kernel
theorem dX5_withTree_62 : decode cX5_withTree 62 = .ok (.iinc 5 1, 3) := by decide +kernel
theorem dX5_withTree_65 : decode cX5_withTree 65 = .ok (.goto (-60), 3) := by decide +kernel
theorem dX5_withTree_68 : decode cX5_withTree 68 = .ok (.lload_n 3, 1) := by decide +kernel
theorem dX5_withTree_69 : decode cX5_withTree 69 = .ok (.lreturn, 1) := by decide +kernel
theorem dX5_withConflicts_0 : decode cX5_withConflicts 0 = .ok (.lload_n 1, 1) := by decide +kernel
theorem dX5_withConflicts_1 : decode cX5_withConflicts 1 = .ok (.lstore_n 3, 1) := by decide +kernel
theorem dX5_withConflicts_2 : decode cX5_withConflicts 2 = .ok (.aload_n 0, 1) := by decide +kernel
theorem dX5_withConflicts_3 : decode cX5_withConflicts 3 = .ok (.invokevirtual 360, 3) := by decide +kernel
theorem dX5_withConflicts_6 : decode cX5_withConflicts 6 = .ok (.istore 5, 2) := by decide +kernel
theorem dX5_withConflicts_8 : decode cX5_withConflicts 8 = .ok (.iconst 0, 1) := by decide +kernel
theorem dX5_withConflicts_9 : decode cX5_withConflicts 9 = .ok (.istore 6, 2) := by decide +kernel
theorem dX5_withConflicts_11 : decode cX5_withConflicts 11 = .ok (.iload 6, 2) := by decide +kernel
theorem dX5_withConflicts_13 : decode cX5_withConflicts 13 = .ok (.iload 5, 2) := by decide +kernel
theorem dX5_withConflicts_15 : decode cX5_withConflicts 15 = .ok (.if_icmp .ge 54, 3) := by decide +kernel
theorem dX5_withConflicts_69 : decode cX5_withConflicts 69 = .ok (.lload_n 3, 1) := by decide +kernel
theorem dX5_withConflicts_70 : decode cX5_withConflicts 70 = .ok (.lreturn, 1) := by decide +kernel
theorem dX5_needFile_0 : decode cX5_needFile 0 = .ok (.iload_n 0, 1) := by decide +kernel
theorem dX5_needFile_1 : decode cX5_needFile 1 = .ok (.ifCond .lt 9, 3) := by decide +kernel
theorem dX5_needFile_4 : decode cX5_needFile 4 = .ok (.iload_n 0, 1) := by decide +kernel
theorem dX5_needFile_5 : decode cX5_needFile 5 = .ok (.bipush 8, 2) := by decide +kernel
theorem dX5_needFile_7 : decode cX5_needFile 7 = .ok (.if_icmp .lt 14, 3) := by decide +kernel
theorem dX5_needFile_10 : decode cX5_needFile 10 = .ok (.new 405, 3) := by decide +kernel
theorem dX5_needFile_13 : decode cX5_needFile 13 = .ok (.dup, 1) := by decide +kernel
theorem dX5_needFile_14 : decode cX5_needFile 14 = .ok (.ldc_w 407, 3) := by decide +kernel
theorem dX5_needFile_17 : decode cX5_needFile 17 = .ok (.invokespecial 409, 3) := by decide +kernel
theorem dX5_needFile_20 : decode cX5_needFile 20 = .ok (.athrow, 1) := by decide +kernel
theorem dX5_needFile_21 : decode cX5_needFile 21 = .ok (.return_, 1) := by decide +kernel
theorem dX5_needNumber_0 : decode cX5_needNumber 0 = .ok (.iload_n 0, 1) := by decide +kernel
theorem dX5_needNumber_1 : decode cX5_needNumber 1 = .ok (.ifCond .lt 10, 3) := by decide +kernel
theorem dX5_needNumber_4 : decode cX5_needNumber 4 = .ok (.iload_n 0, 1) := by decide +kernel
theorem dX5_needNumber_5 : decode cX5_needNumber 5 = .ok (.sipush 999, 3) := by decide +kernel
theorem dX5_needNumber_8 : decode cX5_needNumber 8 = .ok (.if_icmp .le 14, 3) := by decide +kernel
theorem dX5_needNumber_11 : decode cX5_needNumber 11 = .ok (.new 159, 3) := by decide +kernel
theorem dX5_needNumber_14 : decode cX5_needNumber 14 = .ok (.dup, 1) := by decide +kernel
theorem dX5_needNumber_15 : decode cX5_needNumber 15 = .ok (.ldc_w 410, 3) := by decide +kernel
theorem dX5_needNumber_18 : decode cX5_needNumber 18 = .ok (.invokespecial 163, 3) := by decide +kernel
theorem dX5_needNumber_21 : decode cX5_needNumber 21 = .ok (.athrow, 1) := by decide +kernel
theorem dX5_needNumber_22 : decode cX5_needNumber 22 = .ok (.return_, 1) := by decide +kernel
theorem dX5_needPlace_0 : decode cX5_needPlace 0 = .ok (.iload_n 0, 1) := by decide +kernel
theorem dX5_needPlace_1 : decode cX5_needPlace 1 = .ok (.ifCond .lt 8, 3) := by decide +kernel
theorem dX5_needPlace_4 : decode cX5_needPlace 4 = .ok (.iload_n 0, 1) := by decide +kernel
theorem dX5_needPlace_5 : decode cX5_needPlace 5 = .ok (.iload_n 1, 1) := by decide +kernel
theorem dX5_needPlace_6 : decode cX5_needPlace 6 = .ok (.if_icmp .lt 14, 3) := by decide +kernel
theorem dX5_needPlace_9 : decode cX5_needPlace 9 = .ok (.new 405, 3) := by decide +kernel
theorem dX5_needPlace_12 : decode cX5_needPlace 12 = .ok (.dup, 1) := by decide +kernel
theorem dX5_needPlace_13 : decode cX5_needPlace 13 = .ok (.ldc_w 412, 3) := by decide +kernel
theorem dX5_needPlace_16 : decode cX5_needPlace 16 = .ok (.invokespecial 409, 3) := by decide +kernel
theorem dX5_needPlace_19 : decode cX5_needPlace 19 = .ok (.athrow, 1) := by decide +kernel
theorem dX5_needDeskPlace_0 : decode cX5_needDeskPlace 0 = .ok (.iload_n 2, 1) := by decide +kernel
theorem dX5_needDeskPlace_1 : decode cX5_needDeskPlace 1 = .ok (.ifCond .lt 15, 3) := by decide +kernel
theorem dX5_needDeskPlace_4 : decode cX5_needDeskPlace 4 = .ok (.iload_n 2, 1) := by decide +kernel
theorem dX5_needDeskPlace_5 : decode cX5_needDeskPlace 5 = .ok (.aload_n 0, 1) := by decide +kernel
theorem dX5_needDeskPlace_6 : decode cX5_needDeskPlace 6 = .ok (.getfield 10, 3) := by decide +kernel
theorem dX5_needDeskPlace_9 : decode cX5_needDeskPlace 9 = .ok (.iload_n 1, 1) := by decide +kernel
theorem dX5_needDeskPlace_10 : decode cX5_needDeskPlace 10 = .ok (.invokevirtual 96, 3) := by decide +kernel
theorem dX5_needDeskPlace_13 : decode cX5_needDeskPlace 13 = .ok (.if_icmp .lt 14, 3) := by decide +kernel
theorem dX5_needDeskPlace_16 : decode cX5_needDeskPlace 16 = .ok (.new 82, 3) := by decide +kernel
theorem dX5_needDeskPlace_19 : decode cX5_needDeskPlace 19 = .ok (.dup, 1) := by decide +kernel
theorem dX5_needDeskPlace_20 : decode cX5_needDeskPlace 20 = .ok (.ldc_w 416, 3) := by decide +kernel
theorem dX5_needDeskPlace_23 : decode cX5_needDeskPlace 23 = .ok (.invokespecial 86, 3) := by decide +kernel
theorem dX5_needDeskPlace_26 : decode cX5_needDeskPlace 26 = .ok (.athrow, 1) := by decide +kernel
theorem dX5_needThere_0 : decode cX5_needThere 0 = .ok (.aload_n 0, 1) := by decide +kernel
theorem dX5_needThere_1 : decode cX5_needThere 1 = .ok (.getfield 19, 3) := by decide +kernel
theorem dX5_needThere_4 : decode cX5_needThere 4 = .ok (.iload_n 1, 1) := by decide +kernel
theorem dX5_needThere_5 : decode cX5_needThere 5 = .ok (.invokevirtual 289, 3) := by decide +kernel
theorem dX5_needThere_8 : decode cX5_needThere 8 = .ok (.ifCond .ne 14, 3) := by decide +kernel
theorem dX5_needThere_11 : decode cX5_needThere 11 = .ok (.new 405, 3) := by decide +kernel
theorem dX5_needThere_14 : decode cX5_needThere 14 = .ok (.dup, 1) := by decide +kernel
theorem dX5_needThere_15 : decode cX5_needThere 15 = .ok (.ldc_w 418, 3) := by decide +kernel
theorem dX5_needThere_18 : decode cX5_needThere 18 = .ok (.invokespecial 409, 3) := by decide +kernel
theorem dX5_needThere_21 : decode cX5_needThere 21 = .ok (.athrow, 1) := by decide +kernel
theorem dX5_needBoth_0 : decode cX5_needBoth 0 = .ok (.aload_n 0, 1) := by decide +kernel
theorem dX5_needBoth_1 : decode cX5_needBoth 1 = .ok (.iload_n 1, 1) := by decide +kernel
theorem dX5_needBoth_2 : decode cX5_needBoth 2 = .ok (.invokevirtual 191, 3) := by decide +kernel
theorem dX5_needLine_0 : decode cX5_needLine 0 = .ok (.aload_n 0, 1) := by decide +kernel
theorem dX5_needLine_1 : decode cX5_needLine 1 = .ok (.iload_n 1, 1) := by decide +kernel
theorem dX5_needLine_2 : decode cX5_needLine 2 = .ok (.invokevirtual 191, 3) := by decide +kernel
theorem dX5_needBranch_0 : decode cX5_needBranch 0 = .ok (.aload_n 0, 1) := by decide +kernel
theorem dX5_needBranch_1 : decode cX5_needBranch 1 = .ok (.iload_n 1, 1) := by decide +kernel
theorem dX5_needBranch_2 : decode cX5_needBranch 2 = .ok (.invokevirtual 164, 3) := by decide +kernel
theorem dX5_needBranch_5 : decode cX5_needBranch 5 = .ok (.bipush (-2), 2) := by decide +kernel
theorem dX5_needBranch_7 : decode cX5_needBranch 7 = .ok (.if_icmp .ne 14, 3) := by decide +kernel
theorem dX5_needBranch_10 : decode cX5_needBranch 10 = .ok (.new 405, 3) := by decide +kernel
theorem dX5_needBranch_13 : decode cX5_needBranch 13 = .ok (.dup, 1) := by decide +kernel
theorem dX5_needBranch_14 : decode cX5_needBranch 14 = .ok (.ldc_w 420, 3) := by decide +kernel
theorem dX5_needBranch_17 : decode cX5_needBranch 17 = .ok (.invokespecial 409, 3) := by decide +kernel
theorem dX5_needBranch_20 : decode cX5_needBranch 20 = .ok (.athrow, 1) := by decide +kernel
theorem dX5_needBranch_21 : decode cX5_needBranch 21 = .ok (.return_, 1) := by decide +kernel
theorem dX5_needConflict_0 : decode cX5_needConflict 0 = .ok (.iload_n 1, 1) := by decide +kernel
theorem dX5_needConflict_1 : decode cX5_needConflict 1 = .ok (.ifCond .lt 11, 3) := by decide +kernel
theorem dX5_needConflict_4 : decode cX5_needConflict 4 = .ok (.iload_n 1, 1) := by decide +kernel
theorem dX5_needConflict_5 : decode cX5_needConflict 5 = .ok (.aload_n 0, 1) := by decide +kernel
theorem dX5_needConflict_6 : decode cX5_needConflict 6 = .ok (.invokevirtual 360, 3) := by decide +kernel
theorem dX5_needConflict_9 : decode cX5_needConflict 9 = .ok (.if_icmp .lt 14, 3) := by decide +kernel
theorem dX5_needConflict_12 : decode cX5_needConflict 12 = .ok (.new 405, 3) := by decide +kernel
theorem dX5_needConflict_15 : decode cX5_needConflict 15 = .ok (.dup, 1) := by decide +kernel
theorem dX5_needConflict_16 : decode cX5_needConflict 16 = .ok (.ldc_w 422, 3) := by decide +kernel
theorem dX5_needConflict_19 : decode cX5_needConflict 19 = .ok (.invokespecial 409, 3) := by decide +kernel
theorem dX5_needConflict_22 : decode cX5_needConflict 22 = .ok (.athrow, 1) := by decide +kernel
theorem dX5_needNoWork_0 : decode cX5_needNoWork 0 = .ok (.aload_n 0, 1) := by decide +kernel
theorem dX5_needNoWork_1 : decode cX5_needNoWork 1 = .ok (.getfield 49, 3) := by decide +kernel
theorem dX5_needNoWork_4 : decode cX5_needNoWork 4 = .ok (.ifCond .eq 14, 3) := by decide +kernel
theorem dX5_needNoWork_18 : decode cX5_needNoWork 18 = .ok (.return_, 1) := by decide +kernel
theorem dX5_needWork_0 : decode cX5_needWork 0 = .ok (.aload_n 0, 1) := by decide +kernel
theorem dX5_needWork_1 : decode cX5_needWork 1 = .ok (.getfield 49, 3) := by decide +kernel
theorem dX5_needWork_4 : decode cX5_needWork 4 = .ok (.ifCond .ne 14, 3) := by decide +kernel
theorem dX5_needWork_7 : decode cX5_needWork 7 = .ok (.new 82, 3) := by decide +kernel
theorem dX5_needWork_10 : decode cX5_needWork 10 = .ok (.dup, 1) := by decide +kernel
theorem dX5_needWork_11 : decode cX5_needWork 11 = .ok (.ldc_w 426, 3) := by decide +kernel
theorem dX5_needWork_14 : decode cX5_needWork 14 = .ok (.invokespecial 86, 3) := by decide +kernel
theorem dX5_needWork_17 : decode cX5_needWork 17 = .ok (.athrow, 1) := by decide +kernel
theorem dX5_needRoom_0 : decode cX5_needRoom 0 = .ok (.aload_n 0, 1) := by decide +kernel
theorem dX5_needRoom_1 : decode cX5_needRoom 1 = .ok (.getfield 19, 3) := by decide +kernel
theorem dX5_needRoom_4 : decode cX5_needRoom 4 = .ok (.getfield 286, 3) := by decide +kernel
theorem dX5_needRoom_7 : decode cX5_needRoom 7 = .ok (.iload_n 1, 1) := by decide +kernel
theorem dX5_needRoom_8 : decode cX5_needRoom 8 = .ok (.iadd, 1) := by decide +kernel
theorem dX5_needRoom_9 : decode cX5_needRoom 9 = .ok (.bipush 60, 2) := by decide +kernel
theorem dX5_needRoom_11 : decode cX5_needRoom 11 = .ok (.if_icmp .le 14, 3) := by decide +kernel
theorem dX5_needRoom_25 : decode cX5_needRoom 25 = .ok (.return_, 1) := by decide +kernel
theorem dX5_needReady_0 : decode cX5_needReady 0 = .ok (.aload_n 0, 1) := by decide +kernel
theorem dX5_needReady_1 : decode cX5_needReady 1 = .ok (.invokevirtual 75, 3) := by decide +kernel
theorem dX5_needReady_4 : decode cX5_needReady 4 = .ok (.aload_n 0, 1) := by decide +kernel
theorem dX5_needReady_5 : decode cX5_needReady 5 = .ok (.invokevirtual 128, 3) := by decide +kernel
theorem dX5_needReady_8 : decode cX5_needReady 8 = .ok (.iconst (-1), 1) := by decide +kernel
theorem dX5_needReady_9 : decode cX5_needReady 9 = .ok (.if_icmp .eq 10, 3) := by decide +kernel
theorem dX5_needReady_19 : decode cX5_needReady 19 = .ok (.new 82, 3) := by decide +kernel
theorem dX5_needReady_22 : decode cX5_needReady 22 = .ok (.dup, 1) := by decide +kernel
theorem dX5_needReady_23 : decode cX5_needReady 23 = .ok (.ldc_w 430, 3) := by decide +kernel
theorem dX5_needReady_26 : decode cX5_needReady 26 = .ok (.invokespecial 86, 3) := by decide +kernel
theorem dX5_needReady_29 : decode cX5_needReady 29 = .ok (.athrow, 1) := by decide +kernel
theorem dX5_needReadyFor_0 : decode cX5_needReadyFor 0 = .ok (.aload_n 0, 1) := by decide +kernel
theorem dX5_needReadyFor_1 : decode cX5_needReadyFor 1 = .ok (.invokevirtual 212, 3) := by decide +kernel
theorem dX5_headCommit_0 : decode cX5_headCommit 0 = .ok (.aload_n 0, 1) := by decide +kernel
theorem dX5_headCommit_1 : decode cX5_headCommit 1 = .ok (.aload_n 0, 1) := by decide +kernel
theorem dX5_headCommit_2 : decode cX5_headCommit 2 = .ok (.getfield 27, 3) := by decide +kernel
theorem dX5_headCommit_5 : decode cX5_headCommit 5 = .ok (.invokevirtual 164, 3) := by decide +kernel
theorem dX5_headCommit_8 : decode cX5_headCommit 8 = .ok (.ireturn, 1) := by decide +kernel
theorem dX5_treeOf_0 : decode cX5_treeOf 0 = .ok (.aload_n 0, 1) := by decide +kernel
theorem dX5_treeOf_1 : decode cX5_treeOf 1 = .ok (.getfield 19, 3) := by decide +kernel
theorem dX5_treeOf_4 : decode cX5_treeOf 4 = .ok (.iload_n 1, 1) := by decide +kernel
theorem dX5_treeOf_5 : decode cX5_treeOf 5 = .ok (.invokevirtual 225, 3) := by decide +kernel
theorem dX5_treeOf_8 : decode cX5_treeOf 8 = .ok (.getfield 434, 3) := by decide +kernel
theorem dX5_treeOf_11 : decode cX5_treeOf 11 = .ok (.areturn, 1) := by decide +kernel
theorem dX5_reached_0 : decode cX5_reached 0 = .ok (.lconst 0, 1) := by decide +kernel
theorem dX5_reached_1 : decode cX5_reached 1 = .ok (.lstore_n 1, 1) := by decide +kernel
theorem dX5_reached_2 : decode cX5_reached 2 = .ok (.iconst 0, 1) := by decide +kernel
theorem dX5_reached_3 : decode cX5_reached 3 = .ok (.istore_n 3, 1) := by decide +kernel
theorem dX5_reached_4 : decode cX5_reached 4 = .ok (.iload_n 3, 1) := by decide +kernel
theorem dX5_reached_5 : decode cX5_reached 5 = .ok (.bipush 8, 2) := by decide +kernel
theorem dX5_reached_7 : decode cX5_reached 7 = .ok (.if_icmp .ge 28, 3) := by decide +kernel
theorem dX5_reached_10 : decode cX5_reached 10 = .ok (.lload_n 1, 1) := by decide +kernel
theorem dX5_reached_11 : decode cX5_reached 11 = .ok (.aload_n 0, 1) := by decide +kernel
theorem dX5_reached_12 : decode cX5_reached 12 = .ok (.getfield 19, 3) := by decide +kernel
theorem dX5_reached_15 : decode cX5_reached 15 = .ok (.aload_n 0, 1) := by decide +kernel
theorem dX5_reached_16 : decode cX5_reached 16 = .ok (.getfield 23, 3) := by decide +kernel
theorem dX5_reached_19 : decode cX5_reached 19 = .ok (.iload_n 3, 1) := by decide +kernel
theorem dX5_reached_20 : decode cX5_reached 20 = .ok (.iaload, 1) := by decide +kernel
theorem dX5_reached_21 : decode cX5_reached 21 = .ok (.invokevirtual 225, 3) := by decide +kernel
theorem dX5_reached_24 : decode cX5_reached 24 = .ok (.getfield 234, 3) := by decide +kernel
theorem dX5_reached_27 : decode cX5_reached 27 = .ok (.lor, 1) := by decide +kernel
theorem dX5_reached_28 : decode cX5_reached 28 = .ok (.lstore_n 1, 1) := by decide +kernel
theorem dX5_reached_29 : decode cX5_reached 29 = .ok (.iinc 3 1, 3) := by decide +kernel
theorem dX5_reached_32 : decode cX5_reached 32 = .ok (.goto (-28), 3) := by decide +kernel
theorem dX5_reached_35 : decode cX5_reached 35 = .ok (.lload_n 1, 1) := by decide +kernel
theorem dX5_reached_36 : decode cX5_reached 36 = .ok (.lreturn, 1) := by decide +kernel
theorem dX6_init_0 : decode cX6_init 0 = .ok (.aload_n 0, 1) := by decide +kernel
theorem dX6_init_1 : decode cX6_init 1 = .ok (.invokespecial 1, 3) := by decide +kernel
theorem dX6_init_4 : decode cX6_init 4 = .ok (.aload_n 0, 1) := by decide +kernel
theorem dX6_init_5 : decode cX6_init 5 = .ok (.bipush 8, 2) := by decide +kernel
theorem dX6_init_7 : decode cX6_init 7 = .ok (.anewarray 9, 3) := by decide +kernel
theorem dX6_init_10 : decode cX6_init 10 = .ok (.putfield 11, 3) := by decide +kernel
theorem dX6_init_13 : decode cX6_init 13 = .ok (.aload_n 0, 1) := by decide +kernel
theorem dX6_init_14 : decode cX6_init 14 = .ok (.bipush 60, 2) := by decide +kernel
theorem dX6_init_16 : decode cX6_init 16 = .ok (.anewarray 15, 3) := by decide +kernel
theorem dX6_init_19 : decode cX6_init 19 = .ok (.putfield 16, 3) := by decide +kernel
theorem dX6_init_22 : decode cX6_init 22 = .ok (.aload_n 0, 1) := by decide +kernel
theorem dX6_init_23 : decode cX6_init 23 = .ok (.bipush 60, 2) := by decide +kernel
theorem dX6_init_25 : decode cX6_init 25 = .ok (.newarray .int, 2) := by decide +kernel
theorem dX6_init_27 : decode cX6_init 27 = .ok (.putfield 20, 3) := by decide +kernel
theorem dX6_init_30 : decode cX6_init 30 = .ok (.aload_n 0, 1) := by decide +kernel
theorem dX6_init_31 : decode cX6_init 31 = .ok (.bipush 60, 2) := by decide +kernel
theorem dX6_init_33 : decode cX6_init 33 = .ok (.iconst 2, 1) := by decide +kernel
theorem dX6_init_34 : decode cX6_init 34 = .ok (.multianewarray 15 2, 4) := by decide +kernel
theorem dX6_init_38 : decode cX6_init 38 = .ok (.putfield 23, 3) := by decide +kernel
theorem dX6_init_41 : decode cX6_init 41 = .ok (.aload_n 0, 1) := by decide +kernel
theorem dX6_init_42 : decode cX6_init 42 = .ok (.bipush 60, 2) := by decide +kernel
theorem dX6_init_44 : decode cX6_init 44 = .ok (.newarray .long, 2) := by decide +kernel
theorem dX6_init_46 : decode cX6_init 46 = .ok (.putfield 26, 3) := by decide +kernel
theorem dX6_init_49 : decode cX6_init 49 = .ok (.aload_n 0, 1) := by decide +kernel
theorem dX6_init_50 : decode cX6_init 50 = .ok (.bipush 8, 2) := by decide +kernel
theorem dX6_init_52 : decode cX6_init 52 = .ok (.newarray .boolean, 2) := by decide +kernel
theorem dX6_init_54 : decode cX6_init 54 = .ok (.putfield 30, 3) := by decide +kernel
theorem dX6_init_57 : decode cX6_init 57 = .ok (.aload_n 0, 1) := by decide +kernel
theorem dX6_init_58 : decode cX6_init 58 = .ok (.bipush 8, 2) := by decide +kernel
theorem dX6_init_60 : decode cX6_init 60 = .ok (.newarray .int, 2) := by decide +kernel
theorem dX6_init_62 : decode cX6_init 62 = .ok (.putfield 34, 3) := by decide +kernel
theorem dX6_init_65 : decode cX6_init 65 = .ok (.aload_n 0, 1) := by decide +kernel
theorem dX6_init_66 : decode cX6_init 66 = .ok (.iconst 0, 1) := by decide +kernel
theorem dX6_init_67 : decode cX6_init 67 = .ok (.newarray .int, 2) := by decide +kernel
theorem dX6_init_69 : decode cX6_init 69 = .ok (.putfield 37, 3) := by decide +kernel
theorem dX6_init_72 : decode cX6_init 72 = .ok (.aload_n 0, 1) := by decide +kernel
theorem dX6_init_73 : decode cX6_init 73 = .ok (.bipush 41, 2) := by decide +kernel
theorem dX6_init_75 : decode cX6_init 75 = .ok (.bipush 41, 2) := by decide +kernel
theorem dX6_init_77 : decode cX6_init 77 = .ok (.multianewarray 15 2, 4) := by decide +kernel
theorem dX6_init_81 : decode cX6_init 81 = .ok (.putfield 40, 3) := by decide +kernel
theorem dX6_init_84 : decode cX6_init 84 = .ok (.aload_n 0, 1) := by decide +kernel
theorem dX6_init_85 : decode cX6_init 85 = .ok (.iconst 3, 1) := by decide +kernel
theorem dX6_init_86 : decode cX6_init 86 = .ok (.anewarray 9, 3) := by decide +kernel
theorem dX6_init_89 : decode cX6_init 89 = .ok (.putfield 43, 3) := by decide +kernel
theorem dX6_init_92 : decode cX6_init 92 = .ok (.aload_n 0, 1) := by decide +kernel
theorem dX6_init_93 : decode cX6_init 93 = .ok (.iconst 0, 1) := by decide +kernel
theorem dX6_init_94 : decode cX6_init 94 = .ok (.newarray .int, 2) := by decide +kernel
theorem dX6_init_96 : decode cX6_init 96 = .ok (.putfield 46, 3) := by decide +kernel
theorem dX6_init_99 : decode cX6_init 99 = .ok (.aload_n 0, 1) := by decide +kernel
theorem dX6_init_100 : decode cX6_init 100 = .ok (.getfield 30, 3) := by decide +kernel
theorem dX6_init_103 : decode cX6_init 103 = .ok (.iconst 0, 1) := by decide +kernel
theorem dX6_init_104 : decode cX6_init 104 = .ok (.iconst 1, 1) := by decide +kernel
theorem dX6_init_105 : decode cX6_init 105 = .ok (.bastore, 1) := by decide +kernel
theorem dX6_init_106 : decode cX6_init 106 = .ok (.aload_n 0, 1) := by decide +kernel
theorem dX6_init_107 : decode cX6_init 107 = .ok (.getfield 34, 3) := by decide +kernel
theorem dX6_init_110 : decode cX6_init 110 = .ok (.iconst (-1), 1) := by decide +kernel
theorem dX6_init_111 : decode cX6_init 111 = .ok (.invokestatic 49, 3) := by decide +kernel
theorem dX6_init_114 : decode cX6_init 114 = .ok (.return_, 1) := by decide +kernel
theorem dX6_thrown_0 : decode cX6_thrown 0 = .ok (.aload_n 0, 1) := by decide +kernel
theorem dX6_thrown_1 : decode cX6_thrown 1 = .ok (.getfield 55, 3) := by decide +kernel
theorem dX6_thrown_4 : decode cX6_thrown 4 = .ok (.ireturn, 1) := by decide +kernel
theorem dX6_refuse_0 : decode cX6_refuse 0 = .ok (.aload_n 0, 1) := by decide +kernel
theorem dX6_refuse_1 : decode cX6_refuse 1 = .ok (.iload_n 1, 1) := by decide +kernel
theorem dX6_refuse_2 : decode cX6_refuse 2 = .ok (.putfield 55, 3) := by decide +kernel
theorem dX6_refuse_5 : decode cX6_refuse 5 = .ok (.iconst 0, 1) := by decide +kernel
theorem dX6_refuse_6 : decode cX6_refuse 6 = .ok (.ireturn, 1) := by decide +kernel
theorem dX6_is_0 : decode cX6_is 0 = .ok (.iload_n 0, 1) := by decide +kernel
theorem dX6_is_1 : decode cX6_is 1 = .ok (.iload_n 1, 1) := by decide +kernel
theorem dX6_is_2 : decode cX6_is 2 = .ok (.if_icmp .lt 12, 3) := by decide +kernel
theorem dX6_is_5 : decode cX6_is 5 = .ok (.iload_n 0, 1) := by decide +kernel
theorem dX6_is_6 : decode cX6_is 6 = .ok (.iload_n 2, 1) := by decide +kernel
theorem dX6_is_7 : decode cX6_is 7 = .ok (.if_icmp .gt 7, 3) := by decide +kernel
theorem dX6_is_10 : decode cX6_is 10 = .ok (.iconst 1, 1) := by decide +kernel
theorem dX6_is_11 : decode cX6_is 11 = .ok (.goto 4, 3) := by decide +kernel
theorem dX6_is_14 : decode cX6_is 14 = .ok (.iconst 0, 1) := by decide +kernel
theorem dX6_is_15 : decode cX6_is 15 = .ok (.ireturn, 1) := by decide +kernel
theorem dX6_isFile_0 : decode cX6_isFile 0 = .ok (.iload_n 0, 1) := by decide +kernel
theorem dX6_isFile_1 : decode cX6_isFile 1 = .ok (.iconst 0, 1) := by decide +kernel
theorem dX6_isFile_2 : decode cX6_isFile 2 = .ok (.bipush 7, 2) := by decide +kernel
theorem dX6_isFile_4 : decode cX6_isFile 4 = .ok (.invokestatic 59, 3) := by decide +kernel
theorem dX6_isFile_7 : decode cX6_isFile 7 = .ok (.ireturn, 1) := by decide +kernel
theorem dX6_isCommit_0 : decode cX6_isCommit 0 = .ok (.iload_n 1, 1) := by decide +kernel
theorem dX6_isCommit_1 : decode cX6_isCommit 1 = .ok (.iconst 0, 1) := by decide +kernel
theorem dX6_isCommit_2 : decode cX6_isCommit 2 = .ok (.aload_n 0, 1) := by decide +kernel
theorem dX6_isCommit_3 : decode cX6_isCommit 3 = .ok (.getfield 63, 3) := by decide +kernel
theorem dX6_isCommit_6 : decode cX6_isCommit 6 = .ok (.iconst 1, 1) := by decide +kernel
theorem dX6_isCommit_7 : decode cX6_isCommit 7 = .ok (.isub, 1) := by decide +kernel
theorem dX6_isCommit_8 : decode cX6_isCommit 8 = .ok (.invokestatic 59, 3) := by decide +kernel
theorem dX6_isCommit_11 : decode cX6_isCommit 11 = .ok (.ifCond .eq 18, 3) := by decide +kernel
theorem dX6_isCommit_29 : decode cX6_isCommit 29 = .ok (.iconst 0, 1) := by decide +kernel
theorem dX6_isCommit_30 : decode cX6_isCommit 30 = .ok (.ireturn, 1) := by decide +kernel
theorem dX6_isThereBranch_0 : decode cX6_isThereBranch 0 = .ok (.iload_n 1, 1) := by decide +kernel
theorem dX6_isThereBranch_1 : decode cX6_isThereBranch 1 = .ok (.iconst 0, 1) := by decide +kernel
theorem dX6_isThereBranch_2 : decode cX6_isThereBranch 2 = .ok (.bipush 7, 2) := by decide +kernel
theorem dX6_isThereBranch_4 : decode cX6_isThereBranch 4 = .ok (.invokestatic 59, 3) := by decide +kernel
theorem dX6_isThereBranch_7 : decode cX6_isThereBranch 7 = .ok (.ifCond .eq 16, 3) := by decide +kernel
theorem dX6_isThereBranch_10 : decode cX6_isThereBranch 10 = .ok (.aload_n 0, 1) := by decide +kernel
theorem dX6_isThereBranch_11 : decode cX6_isThereBranch 11 = .ok (.getfield 30, 3) := by decide +kernel
theorem dX6_isThereBranch_14 : decode cX6_isThereBranch 14 = .ok (.iload_n 1, 1) := by decide +kernel
theorem dX6_isThereBranch_15 : decode cX6_isThereBranch 15 = .ok (.baload, 1) := by decide +kernel
theorem dX6_isThereBranch_16 : decode cX6_isThereBranch 16 = .ok (.ifCond .eq 7, 3) := by decide +kernel
theorem dX6_isThereBranch_19 : decode cX6_isThereBranch 19 = .ok (.iconst 1, 1) := by decide +kernel
theorem dX6_isThereBranch_20 : decode cX6_isThereBranch 20 = .ok (.goto 4, 3) := by decide +kernel
theorem dX6_isThereBranch_23 : decode cX6_isThereBranch 23 = .ok (.iconst 0, 1) := by decide +kernel
theorem dX6_isThereBranch_24 : decode cX6_isThereBranch 24 = .ok (.ireturn, 1) := by decide +kernel
theorem dX6_none_0 : decode cX6_none 0 = .ok (.bipush 8, 2) := by decide +kernel
theorem dX6_none_2 : decode cX6_none 2 = .ok (.anewarray 9, 3) := by decide +kernel
theorem dX6_none_5 : decode cX6_none 5 = .ok (.areturn, 1) := by decide +kernel
theorem dX6_treeOf_0 : decode cX6_treeOf 0 = .ok (.iload_n 1, 1) := by decide +kernel
theorem dX6_treeOf_1 : decode cX6_treeOf 1 = .ok (.iconst (-1), 1) := by decide +kernel
theorem dX6_treeOf_2 : decode cX6_treeOf 2 = .ok (.if_icmp .ne 9, 3) := by decide +kernel
theorem dX6_treeOf_5 : decode cX6_treeOf 5 = .ok (.invokestatic 74, 3) := by decide +kernel
theorem dX6_treeOf_8 : decode cX6_treeOf 8 = .ok (.goto 9, 3) := by decide +kernel
theorem dX6_treeOf_17 : decode cX6_treeOf 17 = .ok (.areturn, 1) := by decide +kernel
theorem dX6_headTree_0 : decode cX6_headTree 0 = .ok (.aload_n 0, 1) := by decide +kernel
theorem dX6_headTree_1 : decode cX6_headTree 1 = .ok (.aload_n 0, 1) := by decide +kernel
theorem dX6_headTree_2 : decode cX6_headTree 2 = .ok (.getfield 34, 3) := by decide +kernel
theorem dX6_headTree_5 : decode cX6_headTree 5 = .ok (.aload_n 0, 1) := by decide +kernel
theorem dX6_headTree_6 : decode cX6_headTree 6 = .ok (.getfield 78, 3) := by decide +kernel
theorem dX6_headTree_9 : decode cX6_headTree 9 = .ok (.iaload, 1) := by decide +kernel
theorem dX6_headTree_10 : decode cX6_headTree 10 = .ok (.invokevirtual 81, 3) := by decide +kernel
theorem dX6_headTree_13 : decode cX6_headTree 13 = .ok (.areturn, 1) := by decide +kernel
theorem dX6_differing_0 : decode cX6_differing 0 = .ok (.iconst 0, 1) := by decide +kernel
theorem dX6_differing_1 : decode cX6_differing 1 = .ok (.istore_n 2, 1) := by decide +kernel
theorem dX6_differing_2 : decode cX6_differing 2 = .ok (.iconst 0, 1) := by decide +kernel
theorem dX6_differing_3 : decode cX6_differing 3 = .ok (.istore_n 3, 1) := by decide +kernel
theorem dX6_differing_4 : decode cX6_differing 4 = .ok (.iload_n 3, 1) := by decide +kernel
theorem dX6_differing_5 : decode cX6_differing 5 = .ok (.bipush 8, 2) := by decide +kernel
theorem dX6_differing_7 : decode cX6_differing 7 = .ok (.if_icmp .ge 29, 3) := by decide +kernel
theorem dX6_differing_10 : decode cX6_differing 10 = .ok (.iload_n 2, 1) := by decide +kernel
theorem dX6_differing_11 : decode cX6_differing 11 = .ok (.aload_n 0, 1) := by decide +kernel
theorem dX6_differing_12 : decode cX6_differing 12 = .ok (.iload_n 3, 1) := by decide +kernel
theorem dX6_differing_13 : decode cX6_differing 13 = .ok (.aaload, 1) := by decide +kernel
theorem dX6_differing_14 : decode cX6_differing 14 = .ok (.aload_n 1, 1) := by decide +kernel
theorem dX6_differing_15 : decode cX6_differing 15 = .ok (.iload_n 3, 1) := by decide +kernel
theorem dX6_differing_16 : decode cX6_differing 16 = .ok (.aaload, 1) := by decide +kernel
theorem dX6_differing_17 : decode cX6_differing 17 = .ok (.invokestatic 85, 3) := by decide +kernel
theorem dX6_differing_20 : decode cX6_differing 20 = .ok (.ifCond .eq 7, 3) := by decide +kernel
theorem dX6_differing_23 : decode cX6_differing 23 = .ok (.iconst 0, 1) := by decide +kernel
theorem dX6_differing_24 : decode cX6_differing 24 = .ok (.goto 4, 3) := by decide +kernel
theorem dX6_differing_28 : decode cX6_differing 28 = .ok (.iadd, 1) := by decide +kernel
theorem dX6_differing_29 : decode cX6_differing 29 = .ok (.istore_n 2, 1) := by decide +kernel
theorem dX6_differing_30 : decode cX6_differing 30 = .ok (.iinc 3 1, 3) := by decide +kernel
theorem dX6_differing_33 : decode cX6_differing 33 = .ok (.goto (-29), 3) := by decide +kernel
theorem dX6_differing_36 : decode cX6_differing 36 = .ok (.iload_n 2, 1) := by decide +kernel
theorem dX6_differing_37 : decode cX6_differing 37 = .ok (.ireturn, 1) := by decide +kernel
theorem dX6_clean_0 : decode cX6_clean 0 = .ok (.aload_n 0, 1) := by decide +kernel
theorem dX6_clean_1 : decode cX6_clean 1 = .ok (.getfield 11, 3) := by decide +kernel
theorem dX6_clean_4 : decode cX6_clean 4 = .ok (.aload_n 0, 1) := by decide +kernel
theorem dX6_clean_5 : decode cX6_clean 5 = .ok (.invokevirtual 89, 3) := by decide +kernel
theorem dX6_clean_8 : decode cX6_clean 8 = .ok (.invokestatic 92, 3) := by decide +kernel
theorem dX6_clean_11 : decode cX6_clean 11 = .ok (.ifCond .ne 7, 3) := by decide +kernel
theorem dX6_clean_14 : decode cX6_clean 14 = .ok (.iconst 1, 1) := by decide +kernel
theorem dX6_clean_15 : decode cX6_clean 15 = .ok (.goto 4, 3) := by decide +kernel
theorem dX6_clean_19 : decode cX6_clean 19 = .ok (.ireturn, 1) := by decide +kernel
theorem dX6_takeDesk_0 : decode cX6_takeDesk 0 = .ok (.aload_n 0, 1) := by decide +kernel
theorem dX6_takeDesk_1 : decode cX6_takeDesk 1 = .ok (.aload_n 0, 1) := by decide +kernel
theorem dX6_takeDesk_2 : decode cX6_takeDesk 2 = .ok (.invokevirtual 89, 3) := by decide +kernel
theorem dX6_takeDesk_5 : decode cX6_takeDesk 5 = .ok (.invokevirtual 96, 3) := by decide +kernel
theorem dX6_takeDesk_8 : decode cX6_takeDesk 8 = .ok (.checkcast 15, 3) := by decide +kernel
theorem dX6_takeDesk_11 : decode cX6_takeDesk 11 = .ok (.putfield 11, 3) := by decide +kernel
theorem dX6_takeDesk_14 : decode cX6_takeDesk 14 = .ok (.return_, 1) := by decide +kernel
theorem dX6_create_0 : decode cX6_create 0 = .ok (.aload_n 0, 1) := by decide +kernel
theorem dX6_create_1 : decode cX6_create 1 = .ok (.iconst 0, 1) := by decide +kernel
theorem dX6_create_2 : decode cX6_create 2 = .ok (.putfield 55, 3) := by decide +kernel
theorem dX6_create_5 : decode cX6_create 5 = .ok (.iload_n 1, 1) := by decide +kernel
theorem dX6_create_6 : decode cX6_create 6 = .ok (.invokestatic 100, 3) := by decide +kernel
theorem dX6_create_9 : decode cX6_create 9 = .ok (.ifCond .ne 9, 3) := by decide +kernel
theorem dX6_create_12 : decode cX6_create 12 = .ok (.aload_n 0, 1) := by decide +kernel
theorem dX6_create_13 : decode cX6_create 13 = .ok (.iconst 1, 1) := by decide +kernel
theorem dX6_create_14 : decode cX6_create 14 = .ok (.invokevirtual 104, 3) := by decide +kernel
theorem dX6_create_17 : decode cX6_create 17 = .ok (.ireturn, 1) := by decide +kernel
theorem dX6_create_18 : decode cX6_create 18 = .ok (.aload_n 0, 1) := by decide +kernel
theorem dX6_create_19 : decode cX6_create 19 = .ok (.getfield 11, 3) := by decide +kernel
theorem dX6_create_22 : decode cX6_create 22 = .ok (.iload_n 1, 1) := by decide +kernel
theorem dX6_create_23 : decode cX6_create 23 = .ok (.aaload, 1) := by decide +kernel
theorem dX6_create_24 : decode cX6_create 24 = .ok (.ifnonnull 10, 3) := by decide +kernel
theorem dX6_create_27 : decode cX6_create 27 = .ok (.aload_n 0, 1) := by decide +kernel
theorem dX6_create_28 : decode cX6_create 28 = .ok (.getfield 108, 3) := by decide +kernel
theorem dX6_create_31 : decode cX6_create 31 = .ok (.ifCond .le 9, 3) := by decide +kernel
theorem dX6_create_40 : decode cX6_create 40 = .ok (.aload_n 0, 1) := by decide +kernel
theorem dX6_create_41 : decode cX6_create 41 = .ok (.getfield 11, 3) := by decide +kernel
theorem dX6_create_44 : decode cX6_create 44 = .ok (.iload_n 1, 1) := by decide +kernel
theorem dX6_create_45 : decode cX6_create 45 = .ok (.getstatic 111, 3) := by decide +kernel
theorem dX6_create_48 : decode cX6_create 48 = .ok (.aastore, 1) := by decide +kernel
theorem dX6_create_49 : decode cX6_create 49 = .ok (.iconst 0, 1) := by decide +kernel
theorem dX6_create_50 : decode cX6_create 50 = .ok (.istore_n 2, 1) := by decide +kernel
theorem dX6_create_51 : decode cX6_create 51 = .ok (.aload_n 0, 1) := by decide +kernel
theorem dX6_create_52 : decode cX6_create 52 = .ok (.getfield 11, 3) := by decide +kernel
theorem dX6_create_55 : decode cX6_create 55 = .ok (.astore_n 3, 1) := by decide +kernel
theorem dX6_create_56 : decode cX6_create 56 = .ok (.aload_n 3, 1) := by decide +kernel
theorem dX6_create_57 : decode cX6_create 57 = .ok (.arraylength, 1) := by decide +kernel
theorem dX6_create_58 : decode cX6_create 58 = .ok (.istore 4, 2) := by decide +kernel
theorem dX6_create_60 : decode cX6_create 60 = .ok (.iconst 0, 1) := by decide +kernel
theorem dX6_create_61 : decode cX6_create 61 = .ok (.istore 5, 2) := by decide +kernel
theorem dX6_create_63 : decode cX6_create 63 = .ok (.iload 5, 2) := by decide +kernel
theorem dX6_create_65 : decode cX6_create 65 = .ok (.iload 4, 2) := by decide +kernel
theorem dX6_create_67 : decode cX6_create 67 = .ok (.if_icmp .ge 28, 3) := by decide +kernel
theorem dX6_create_70 : decode cX6_create 70 = .ok (.aload_n 3, 1) := by decide +kernel
theorem dX6_create_71 : decode cX6_create 71 = .ok (.iload 5, 2) := by decide +kernel
theorem dX6_create_73 : decode cX6_create 73 = .ok (.aaload, 1) := by decide +kernel
theorem dX6_create_74 : decode cX6_create 74 = .ok (.astore 6, 2) := by decide +kernel
theorem dX6_create_76 : decode cX6_create 76 = .ok (.iload_n 2, 1) := by decide +kernel
theorem dX6_create_77 : decode cX6_create 77 = .ok (.aload 6, 2) := by decide +kernel
theorem dX6_create_79 : decode cX6_create 79 = .ok (.ifnonnull 7, 3) := by decide +kernel
theorem dX6_create_82 : decode cX6_create 82 = .ok (.iconst 0, 1) := by decide +kernel
theorem dX6_create_83 : decode cX6_create 83 = .ok (.goto 4, 3) := by decide +kernel
theorem dX6_create_86 : decode cX6_create 86 = .ok (.iconst 1, 1) := by decide +kernel
theorem dX6_create_87 : decode cX6_create 87 = .ok (.iadd, 1) := by decide +kernel
theorem dX6_create_88 : decode cX6_create 88 = .ok (.istore_n 2, 1) := by decide +kernel
theorem dX6_create_89 : decode cX6_create 89 = .ok (.iinc 5 1, 3) := by decide +kernel
theorem dX6_create_92 : decode cX6_create 92 = .ok (.goto (-29), 3) := by decide +kernel
theorem dX6_create_95 : decode cX6_create 95 = .ok (.iload_n 2, 1) := by decide +kernel
theorem dX6_create_96 : decode cX6_create 96 = .ok (.ireturn, 1) := by decide +kernel
theorem dX6_delete_0 : decode cX6_delete 0 = .ok (.aload_n 0, 1) := by decide +kernel
theorem dX6_delete_1 : decode cX6_delete 1 = .ok (.iconst 0, 1) := by decide +kernel
theorem dX6_delete_2 : decode cX6_delete 2 = .ok (.putfield 55, 3) := by decide +kernel
theorem dX6_delete_5 : decode cX6_delete 5 = .ok (.iload_n 1, 1) := by decide +kernel
theorem dX6_delete_6 : decode cX6_delete 6 = .ok (.invokestatic 100, 3) := by decide +kernel
theorem dX6_delete_9 : decode cX6_delete 9 = .ok (.ifCond .ne 9, 3) := by decide +kernel
theorem dX6_delete_12 : decode cX6_delete 12 = .ok (.aload_n 0, 1) := by decide +kernel
theorem dX6_delete_13 : decode cX6_delete 13 = .ok (.iconst 1, 1) := by decide +kernel
theorem dX6_delete_14 : decode cX6_delete 14 = .ok (.invokevirtual 104, 3) := by decide +kernel
theorem dX6_delete_17 : decode cX6_delete 17 = .ok (.ireturn, 1) := by decide +kernel
theorem dX6_delete_18 : decode cX6_delete 18 = .ok (.aload_n 0, 1) := by decide +kernel
theorem dX6_delete_19 : decode cX6_delete 19 = .ok (.getfield 11, 3) := by decide +kernel
theorem dX6_delete_22 : decode cX6_delete 22 = .ok (.iload_n 1, 1) := by decide +kernel
theorem dX6_delete_23 : decode cX6_delete 23 = .ok (.aaload, 1) := by decide +kernel
theorem dX6_delete_24 : decode cX6_delete 24 = .ok (.ifnull 10, 3) := by decide +kernel
theorem dX6_delete_34 : decode cX6_delete 34 = .ok (.aload_n 0, 1) := by decide +kernel
theorem dX6_delete_35 : decode cX6_delete 35 = .ok (.iconst 2, 1) := by decide +kernel
theorem dX6_delete_36 : decode cX6_delete 36 = .ok (.invokevirtual 104, 3) := by decide +kernel
theorem dX6_delete_39 : decode cX6_delete 39 = .ok (.ireturn, 1) := by decide +kernel
theorem dX6_insert_0 : decode cX6_insert 0 = .ok (.aload_n 0, 1) := by decide +kernel
theorem dX6_insert_1 : decode cX6_insert 1 = .ok (.iconst 0, 1) := by decide +kernel
theorem dX6_insert_2 : decode cX6_insert 2 = .ok (.putfield 55, 3) := by decide +kernel
theorem dX6_insert_5 : decode cX6_insert 5 = .ok (.iload_n 1, 1) := by decide +kernel
theorem dX6_insert_6 : decode cX6_insert 6 = .ok (.invokestatic 100, 3) := by decide +kernel
theorem dX6_insert_9 : decode cX6_insert 9 = .ok (.ifCond .ne 9, 3) := by decide +kernel
theorem dX6_insert_12 : decode cX6_insert 12 = .ok (.aload_n 0, 1) := by decide +kernel
theorem dX6_insert_13 : decode cX6_insert 13 = .ok (.iconst 1, 1) := by decide +kernel
theorem dX6_insert_14 : decode cX6_insert 14 = .ok (.invokevirtual 104, 3) := by decide +kernel
theorem dX6_insert_17 : decode cX6_insert 17 = .ok (.ireturn, 1) := by decide +kernel
theorem dX6_insert_18 : decode cX6_insert 18 = .ok (.iload_n 3, 1) := by decide +kernel
theorem dX6_insert_19 : decode cX6_insert 19 = .ok (.iconst 0, 1) := by decide +kernel
theorem dX6_insert_20 : decode cX6_insert 20 = .ok (.sipush 999, 3) := by decide +kernel
theorem dX6_insert_23 : decode cX6_insert 23 = .ok (.invokestatic 59, 3) := by decide +kernel
theorem dX6_insert_26 : decode cX6_insert 26 = .ok (.ifCond .ne 9, 3) := by decide +kernel
theorem dX6_insert_29 : decode cX6_insert 29 = .ok (.aload_n 0, 1) := by decide +kernel
theorem dX6_insert_30 : decode cX6_insert 30 = .ok (.iconst 2, 1) := by decide +kernel
theorem dX6_insert_31 : decode cX6_insert 31 = .ok (.invokevirtual 104, 3) := by decide +kernel
theorem dX6_insert_34 : decode cX6_insert 34 = .ok (.ireturn, 1) := by decide +kernel
theorem dX6_insert_35 : decode cX6_insert 35 = .ok (.aload_n 0, 1) := by decide +kernel
theorem dX6_insert_36 : decode cX6_insert 36 = .ok (.getfield 11, 3) := by decide +kernel
theorem dX6_insert_39 : decode cX6_insert 39 = .ok (.iload_n 1, 1) := by decide +kernel
theorem dX6_insert_40 : decode cX6_insert 40 = .ok (.aaload, 1) := by decide +kernel
theorem dX6_insert_41 : decode cX6_insert 41 = .ok (.astore 4, 2) := by decide +kernel
theorem dX6_insert_43 : decode cX6_insert 43 = .ok (.aload 4, 2) := by decide +kernel
theorem dX6_insert_45 : decode cX6_insert 45 = .ok (.ifnull 29, 3) := by decide +kernel
theorem dX6_insert_74 : decode cX6_insert 74 = .ok (.aload_n 0, 1) := by decide +kernel
theorem dX6_insert_75 : decode cX6_insert 75 = .ok (.iconst 3, 1) := by decide +kernel
theorem dX6_insert_76 : decode cX6_insert 76 = .ok (.invokevirtual 104, 3) := by decide +kernel
theorem dX6_insert_79 : decode cX6_insert 79 = .ok (.ireturn, 1) := by decide +kernel
theorem dX6_hasPlace_0 : decode cX6_hasPlace 0 = .ok (.aload_n 0, 1) := by decide +kernel
theorem dX6_hasPlace_1 : decode cX6_hasPlace 1 = .ok (.getfield 11, 3) := by decide +kernel
theorem dX6_hasPlace_4 : decode cX6_hasPlace 4 = .ok (.iload_n 1, 1) := by decide +kernel
theorem dX6_hasPlace_5 : decode cX6_hasPlace 5 = .ok (.aaload, 1) := by decide +kernel
theorem dX6_hasPlace_6 : decode cX6_hasPlace 6 = .ok (.ifnull 24, 3) := by decide +kernel
theorem dX6_hasPlace_30 : decode cX6_hasPlace 30 = .ok (.iconst 0, 1) := by decide +kernel
theorem dX6_hasPlace_31 : decode cX6_hasPlace 31 = .ok (.ireturn, 1) := by decide +kernel
theorem dX6_erase_0 : decode cX6_erase 0 = .ok (.aload_n 0, 1) := by decide +kernel
theorem dX6_erase_1 : decode cX6_erase 1 = .ok (.iconst 0, 1) := by decide +kernel
theorem dX6_erase_2 : decode cX6_erase 2 = .ok (.putfield 55, 3) := by decide +kernel
theorem dX6_erase_5 : decode cX6_erase 5 = .ok (.iload_n 1, 1) := by decide +kernel
theorem dX6_erase_6 : decode cX6_erase 6 = .ok (.invokestatic 100, 3) := by decide +kernel
theorem dX6_erase_9 : decode cX6_erase 9 = .ok (.ifCond .ne 9, 3) := by decide +kernel
theorem dX6_erase_12 : decode cX6_erase 12 = .ok (.aload_n 0, 1) := by decide +kernel
theorem dX6_erase_13 : decode cX6_erase 13 = .ok (.iconst 1, 1) := by decide +kernel
theorem dX6_erase_14 : decode cX6_erase 14 = .ok (.invokevirtual 104, 3) := by decide +kernel
theorem dX6_erase_17 : decode cX6_erase 17 = .ok (.ireturn, 1) := by decide +kernel
theorem dX6_erase_18 : decode cX6_erase 18 = .ok (.aload_n 0, 1) := by decide +kernel
theorem dX6_erase_19 : decode cX6_erase 19 = .ok (.iload_n 1, 1) := by decide +kernel
theorem dX6_erase_20 : decode cX6_erase 20 = .ok (.iload_n 2, 1) := by decide +kernel
theorem dX6_erase_21 : decode cX6_erase 21 = .ok (.invokevirtual 124, 3) := by decide +kernel
theorem dX6_erase_24 : decode cX6_erase 24 = .ok (.ifCond .eq 10, 3) := by decide +kernel
theorem dX6_erase_34 : decode cX6_erase 34 = .ok (.aload_n 0, 1) := by decide +kernel
theorem dX6_erase_35 : decode cX6_erase 35 = .ok (.iconst 2, 1) := by decide +kernel
theorem dX6_erase_36 : decode cX6_erase 36 = .ok (.invokevirtual 104, 3) := by decide +kernel
theorem dX6_erase_39 : decode cX6_erase 39 = .ok (.ireturn, 1) := by decide +kernel
theorem dX6_replace_0 : decode cX6_replace 0 = .ok (.aload_n 0, 1) := by decide +kernel
theorem dX6_replace_1 : decode cX6_replace 1 = .ok (.iconst 0, 1) := by decide +kernel
theorem dX6_replace_2 : decode cX6_replace 2 = .ok (.putfield 55, 3) := by decide +kernel
theorem dX6_replace_5 : decode cX6_replace 5 = .ok (.iload_n 1, 1) := by decide +kernel
theorem dX6_replace_6 : decode cX6_replace 6 = .ok (.invokestatic 100, 3) := by decide +kernel
theorem dX6_replace_9 : decode cX6_replace 9 = .ok (.ifCond .ne 9, 3) := by decide +kernel
theorem dX6_replace_12 : decode cX6_replace 12 = .ok (.aload_n 0, 1) := by decide +kernel
theorem dX6_replace_13 : decode cX6_replace 13 = .ok (.iconst 1, 1) := by decide +kernel
theorem dX6_replace_14 : decode cX6_replace 14 = .ok (.invokevirtual 104, 3) := by decide +kernel
theorem dX6_replace_17 : decode cX6_replace 17 = .ok (.ireturn, 1) := by decide +kernel
theorem dX6_replace_18 : decode cX6_replace 18 = .ok (.iload_n 3, 1) := by decide +kernel
theorem dX6_replace_19 : decode cX6_replace 19 = .ok (.iconst 0, 1) := by decide +kernel
theorem dX6_replace_20 : decode cX6_replace 20 = .ok (.sipush 999, 3) := by decide +kernel
theorem dX6_replace_23 : decode cX6_replace 23 = .ok (.invokestatic 59, 3) := by decide +kernel
theorem dX6_replace_26 : decode cX6_replace 26 = .ok (.ifCond .ne 9, 3) := by decide +kernel
theorem dX6_replace_29 : decode cX6_replace 29 = .ok (.aload_n 0, 1) := by decide +kernel
theorem dX6_replace_30 : decode cX6_replace 30 = .ok (.iconst 2, 1) := by decide +kernel
theorem dX6_replace_31 : decode cX6_replace 31 = .ok (.invokevirtual 104, 3) := by decide +kernel
theorem dX6_replace_34 : decode cX6_replace 34 = .ok (.ireturn, 1) := by decide +kernel
theorem dX6_replace_35 : decode cX6_replace 35 = .ok (.aload_n 0, 1) := by decide +kernel
theorem dX6_replace_36 : decode cX6_replace 36 = .ok (.iload_n 1, 1) := by decide +kernel
theorem dX6_replace_37 : decode cX6_replace 37 = .ok (.iload_n 2, 1) := by decide +kernel
theorem dX6_replace_38 : decode cX6_replace 38 = .ok (.invokevirtual 124, 3) := by decide +kernel
theorem dX6_replace_41 : decode cX6_replace 41 = .ok (.ifCond .eq 10, 3) := by decide +kernel
theorem dX6_replace_51 : decode cX6_replace 51 = .ok (.aload_n 0, 1) := by decide +kernel
theorem dX6_replace_52 : decode cX6_replace 52 = .ok (.iconst 3, 1) := by decide +kernel
theorem dX6_replace_53 : decode cX6_replace 53 = .ok (.invokevirtual 104, 3) := by decide +kernel
theorem dX6_replace_56 : decode cX6_replace 56 = .ok (.ireturn, 1) := by decide +kernel
theorem dX6_discard_0 : decode cX6_discard 0 = .ok (.aload_n 0, 1) := by decide +kernel
theorem dX6_discard_1 : decode cX6_discard 1 = .ok (.iconst 0, 1) := by decide +kernel
theorem dX6_discard_2 : decode cX6_discard 2 = .ok (.putfield 55, 3) := by decide +kernel
theorem dX6_discard_5 : decode cX6_discard 5 = .ok (.aload_n 0, 1) := by decide +kernel
theorem dX6_discard_6 : decode cX6_discard 6 = .ok (.getfield 108, 3) := by decide +kernel
theorem dX6_discard_9 : decode cX6_discard 9 = .ok (.ifCond .le 9, 3) := by decide +kernel
theorem dX6_discard_18 : decode cX6_discard 18 = .ok (.aload_n 0, 1) := by decide +kernel
theorem dX6_discard_19 : decode cX6_discard 19 = .ok (.getfield 11, 3) := by decide +kernel
theorem dX6_discard_22 : decode cX6_discard 22 = .ok (.aload_n 0, 1) := by decide +kernel
theorem dX6_discard_23 : decode cX6_discard 23 = .ok (.invokevirtual 89, 3) := by decide +kernel
theorem dX6_discard_26 : decode cX6_discard 26 = .ok (.invokestatic 92, 3) := by decide +kernel
theorem dX6_discard_29 : decode cX6_discard 29 = .ok (.istore_n 1, 1) := by decide +kernel
theorem dX6_discard_30 : decode cX6_discard 30 = .ok (.aload_n 0, 1) := by decide +kernel
theorem dX6_discard_31 : decode cX6_discard 31 = .ok (.invokevirtual 129, 3) := by decide +kernel
theorem dX6_discard_34 : decode cX6_discard 34 = .ok (.iload_n 1, 1) := by decide +kernel
theorem dX6_discard_35 : decode cX6_discard 35 = .ok (.ireturn, 1) := by decide +kernel
theorem dX6_commit_0 : decode cX6_commit 0 = .ok (.aload_n 0, 1) := by decide +kernel
theorem dX6_commit_1 : decode cX6_commit 1 = .ok (.iconst 0, 1) := by decide +kernel
theorem dX6_commit_2 : decode cX6_commit 2 = .ok (.putfield 55, 3) := by decide +kernel
theorem dX6_commit_5 : decode cX6_commit 5 = .ok (.iload_n 1, 1) := by decide +kernel
theorem dX6_commit_6 : decode cX6_commit 6 = .ok (.iconst 0, 1) := by decide +kernel
theorem dX6_commit_7 : decode cX6_commit 7 = .ok (.sipush 999, 3) := by decide +kernel
theorem dX6_commit_10 : decode cX6_commit 10 = .ok (.invokestatic 59, 3) := by decide +kernel
theorem dX6_commit_13 : decode cX6_commit 13 = .ok (.ifCond .ne 9, 3) := by decide +kernel
theorem dX6_commit_16 : decode cX6_commit 16 = .ok (.aload_n 0, 1) := by decide +kernel
theorem dX6_commit_17 : decode cX6_commit 17 = .ok (.iconst 1, 1) := by decide +kernel
theorem dX6_commit_18 : decode cX6_commit 18 = .ok (.invokevirtual 104, 3) := by decide +kernel
theorem dX6_commit_21 : decode cX6_commit 21 = .ok (.ireturn, 1) := by decide +kernel
theorem dX6_commit_22 : decode cX6_commit 22 = .ok (.aload_n 0, 1) := by decide +kernel
theorem dX6_commit_23 : decode cX6_commit 23 = .ok (.invokevirtual 132, 3) := by decide +kernel
theorem dX6_commit_26 : decode cX6_commit 26 = .ok (.ifCond .ne 19, 3) := by decide +kernel
theorem dX6_commit_45 : decode cX6_commit 45 = .ok (.aload_n 0, 1) := by decide +kernel
theorem dX6_commit_46 : decode cX6_commit 46 = .ok (.iconst 2, 1) := by decide +kernel
theorem dX6_commit_47 : decode cX6_commit 47 = .ok (.invokevirtual 104, 3) := by decide +kernel
theorem dX6_commit_50 : decode cX6_commit 50 = .ok (.goto 28, 3) := by decide +kernel
theorem dX6_commit_78 : decode cX6_commit 78 = .ok (.ireturn, 1) := by decide +kernel
theorem dX6_branch_0 : decode cX6_branch 0 = .ok (.aload_n 0, 1) := by decide +kernel
theorem dX6_branch_1 : decode cX6_branch 1 = .ok (.iconst 0, 1) := by decide +kernel
theorem dX6_branch_2 : decode cX6_branch 2 = .ok (.putfield 55, 3) := by decide +kernel
theorem dX6_branch_5 : decode cX6_branch 5 = .ok (.iload_n 1, 1) := by decide +kernel
theorem dX6_branch_6 : decode cX6_branch 6 = .ok (.iconst 0, 1) := by decide +kernel
theorem dX6_branch_7 : decode cX6_branch 7 = .ok (.bipush 7, 2) := by decide +kernel
theorem dX6_branch_9 : decode cX6_branch 9 = .ok (.invokestatic 59, 3) := by decide +kernel
theorem dX6_branch_12 : decode cX6_branch 12 = .ok (.ifCond .ne 9, 3) := by decide +kernel
theorem dX6_branch_15 : decode cX6_branch 15 = .ok (.aload_n 0, 1) := by decide +kernel
theorem dX6_branch_16 : decode cX6_branch 16 = .ok (.iconst 1, 1) := by decide +kernel
theorem dX6_branch_17 : decode cX6_branch 17 = .ok (.invokevirtual 104, 3) := by decide +kernel
theorem dX6_branch_20 : decode cX6_branch 20 = .ok (.ireturn, 1) := by decide +kernel
theorem dX6_branch_21 : decode cX6_branch 21 = .ok (.aload_n 0, 1) := by decide +kernel
theorem dX6_branch_22 : decode cX6_branch 22 = .ok (.getfield 30, 3) := by decide +kernel
theorem dX6_branch_25 : decode cX6_branch 25 = .ok (.iload_n 1, 1) := by decide +kernel
theorem dX6_branch_26 : decode cX6_branch 26 = .ok (.baload, 1) := by decide +kernel
theorem dX6_branch_27 : decode cX6_branch 27 = .ok (.ifCond .ne 23, 3) := by decide +kernel
theorem dX6_branch_30 : decode cX6_branch 30 = .ok (.aload_n 0, 1) := by decide +kernel
theorem dX6_branch_31 : decode cX6_branch 31 = .ok (.getfield 34, 3) := by decide +kernel
theorem dX6_branch_34 : decode cX6_branch 34 = .ok (.aload_n 0, 1) := by decide +kernel
theorem dX6_branch_35 : decode cX6_branch 35 = .ok (.getfield 78, 3) := by decide +kernel
theorem dX6_branch_38 : decode cX6_branch 38 = .ok (.iaload, 1) := by decide +kernel
theorem dX6_branch_39 : decode cX6_branch 39 = .ok (.iconst (-1), 1) := by decide +kernel
theorem dX6_branch_40 : decode cX6_branch 40 = .ok (.if_icmp .eq 10, 3) := by decide +kernel
theorem dX6_branch_50 : decode cX6_branch 50 = .ok (.aload_n 0, 1) := by decide +kernel
theorem dX6_branch_51 : decode cX6_branch 51 = .ok (.iconst 2, 1) := by decide +kernel
theorem dX6_branch_52 : decode cX6_branch 52 = .ok (.invokevirtual 104, 3) := by decide +kernel
theorem dX6_branch_55 : decode cX6_branch 55 = .ok (.ireturn, 1) := by decide +kernel
theorem dX6_go_0 : decode cX6_go 0 = .ok (.aload_n 0, 1) := by decide +kernel
theorem dX6_go_1 : decode cX6_go 1 = .ok (.iconst 0, 1) := by decide +kernel
theorem dX6_go_2 : decode cX6_go 2 = .ok (.putfield 55, 3) := by decide +kernel
theorem dX6_go_5 : decode cX6_go 5 = .ok (.aload_n 0, 1) := by decide +kernel
theorem dX6_go_6 : decode cX6_go 6 = .ok (.iload_n 1, 1) := by decide +kernel
theorem dX6_go_7 : decode cX6_go 7 = .ok (.invokevirtual 140, 3) := by decide +kernel
theorem dX6_go_10 : decode cX6_go 10 = .ok (.ifCond .ne 9, 3) := by decide +kernel
theorem dX6_go_13 : decode cX6_go 13 = .ok (.aload_n 0, 1) := by decide +kernel
theorem dX6_go_14 : decode cX6_go 14 = .ok (.iconst 1, 1) := by decide +kernel
theorem dX6_go_15 : decode cX6_go 15 = .ok (.invokevirtual 104, 3) := by decide +kernel
theorem dX6_go_18 : decode cX6_go 18 = .ok (.ireturn, 1) := by decide +kernel
theorem dX6_go_19 : decode cX6_go 19 = .ok (.aload_n 0, 1) := by decide +kernel
theorem dX6_go_20 : decode cX6_go 20 = .ok (.invokevirtual 132, 3) := by decide +kernel
theorem dX6_go_23 : decode cX6_go 23 = .ok (.ifCond .eq 10, 3) := by decide +kernel
theorem dX6_go_26 : decode cX6_go 26 = .ok (.aload_n 0, 1) := by decide +kernel
theorem dX6_go_27 : decode cX6_go 27 = .ok (.getfield 108, 3) := by decide +kernel
theorem dX6_go_30 : decode cX6_go 30 = .ok (.ifCond .le 9, 3) := by decide +kernel
theorem dX6_go_39 : decode cX6_go 39 = .ok (.aload_n 0, 1) := by decide +kernel
theorem dX6_go_40 : decode cX6_go 40 = .ok (.getfield 78, 3) := by decide +kernel
theorem dX6_go_43 : decode cX6_go 43 = .ok (.istore_n 2, 1) := by decide +kernel
theorem dX6_go_44 : decode cX6_go 44 = .ok (.aload_n 0, 1) := by decide +kernel
theorem dX6_go_45 : decode cX6_go 45 = .ok (.iload_n 1, 1) := by decide +kernel
theorem dX6_go_46 : decode cX6_go 46 = .ok (.putfield 78, 3) := by decide +kernel
theorem dX6_go_49 : decode cX6_go 49 = .ok (.aload_n 0, 1) := by decide +kernel
theorem dX6_go_50 : decode cX6_go 50 = .ok (.invokevirtual 129, 3) := by decide +kernel
theorem dX6_go_53 : decode cX6_go 53 = .ok (.iload_n 2, 1) := by decide +kernel
theorem dX6_go_54 : decode cX6_go 54 = .ok (.ireturn, 1) := by decide +kernel
theorem dX6_reached_0 : decode cX6_reached 0 = .ok (.lconst 0, 1) := by decide +kernel
theorem dX6_reached_1 : decode cX6_reached 1 = .ok (.lstore_n 1, 1) := by decide +kernel
theorem dX6_reached_2 : decode cX6_reached 2 = .ok (.iconst 0, 1) := by decide +kernel
theorem dX6_reached_3 : decode cX6_reached 3 = .ok (.istore_n 3, 1) := by decide +kernel
theorem dX6_reached_4 : decode cX6_reached 4 = .ok (.iload_n 3, 1) := by decide +kernel
theorem dX6_reached_5 : decode cX6_reached 5 = .ok (.bipush 8, 2) := by decide +kernel
theorem dX6_reached_7 : decode cX6_reached 7 = .ok (.if_icmp .ge 42, 3) := by decide +kernel
theorem dX6_reached_10 : decode cX6_reached 10 = .ok (.aload_n 0, 1) := by decide +kernel
theorem dX6_reached_11 : decode cX6_reached 11 = .ok (.getfield 30, 3) := by decide +kernel
theorem dX6_reached_14 : decode cX6_reached 14 = .ok (.iload_n 3, 1) := by decide +kernel
theorem dX6_reached_15 : decode cX6_reached 15 = .ok (.baload, 1) := by decide +kernel
theorem dX6_reached_16 : decode cX6_reached 16 = .ok (.ifCond .eq 27, 3) := by decide +kernel
theorem dX6_reached_19 : decode cX6_reached 19 = .ok (.aload_n 0, 1) := by decide +kernel
theorem dX6_reached_20 : decode cX6_reached 20 = .ok (.getfield 34, 3) := by decide +kernel
theorem dX6_reached_23 : decode cX6_reached 23 = .ok (.iload_n 3, 1) := by decide +kernel
theorem dX6_reached_24 : decode cX6_reached 24 = .ok (.iaload, 1) := by decide +kernel
theorem dX6_reached_25 : decode cX6_reached 25 = .ok (.iconst (-1), 1) := by decide +kernel
theorem dX6_reached_26 : decode cX6_reached 26 = .ok (.if_icmp .eq 17, 3) := by decide +kernel
theorem dX6_reached_43 : decode cX6_reached 43 = .ok (.iinc 3 1, 3) := by decide +kernel
theorem dX6_reached_46 : decode cX6_reached 46 = .ok (.goto (-42), 3) := by decide +kernel
theorem dX6_reached_49 : decode cX6_reached 49 = .ok (.lload_n 1, 1) := by decide +kernel
theorem dX6_reached_50 : decode cX6_reached 50 = .ok (.lreturn, 1) := by decide +kernel
theorem dX6_drop_0 : decode cX6_drop 0 = .ok (.aload_n 0, 1) := by decide +kernel
theorem dX6_drop_1 : decode cX6_drop 1 = .ok (.iconst 0, 1) := by decide +kernel
theorem dX6_drop_2 : decode cX6_drop 2 = .ok (.putfield 55, 3) := by decide +kernel
theorem dX6_drop_5 : decode cX6_drop 5 = .ok (.aload_n 0, 1) := by decide +kernel
theorem dX6_drop_6 : decode cX6_drop 6 = .ok (.iload_n 1, 1) := by decide +kernel
theorem dX6_drop_7 : decode cX6_drop 7 = .ok (.invokevirtual 140, 3) := by decide +kernel
theorem dX6_drop_10 : decode cX6_drop 10 = .ok (.ifCond .ne 9, 3) := by decide +kernel
theorem dX6_drop_13 : decode cX6_drop 13 = .ok (.aload_n 0, 1) := by decide +kernel
theorem dX6_drop_14 : decode cX6_drop 14 = .ok (.iconst 1, 1) := by decide +kernel
theorem dX6_drop_15 : decode cX6_drop 15 = .ok (.invokevirtual 104, 3) := by decide +kernel
theorem dX6_drop_18 : decode cX6_drop 18 = .ok (.ireturn, 1) := by decide +kernel
theorem dX6_drop_19 : decode cX6_drop 19 = .ok (.iload_n 1, 1) := by decide +kernel
theorem dX6_drop_20 : decode cX6_drop 20 = .ok (.aload_n 0, 1) := by decide +kernel
theorem dX6_drop_21 : decode cX6_drop 21 = .ok (.getfield 78, 3) := by decide +kernel
theorem dX6_drop_24 : decode cX6_drop 24 = .ok (.if_icmp .eq 10, 3) := by decide +kernel
theorem dX6_drop_34 : decode cX6_drop 34 = .ok (.aload_n 0, 1) := by decide +kernel
theorem dX6_drop_35 : decode cX6_drop 35 = .ok (.iconst 2, 1) := by decide +kernel
theorem dX6_drop_36 : decode cX6_drop 36 = .ok (.invokevirtual 104, 3) := by decide +kernel
theorem dX6_drop_39 : decode cX6_drop 39 = .ok (.ireturn, 1) := by decide +kernel
theorem dX6_reset_0 : decode cX6_reset 0 = .ok (.aload_n 0, 1) := by decide +kernel
theorem dX6_reset_1 : decode cX6_reset 1 = .ok (.iconst 0, 1) := by decide +kernel
theorem dX6_reset_2 : decode cX6_reset 2 = .ok (.putfield 55, 3) := by decide +kernel
theorem dX6_reset_5 : decode cX6_reset 5 = .ok (.aload_n 0, 1) := by decide +kernel
theorem dX6_reset_6 : decode cX6_reset 6 = .ok (.iload_n 1, 1) := by decide +kernel
theorem dX6_reset_7 : decode cX6_reset 7 = .ok (.invokevirtual 155, 3) := by decide +kernel
theorem dX6_reset_10 : decode cX6_reset 10 = .ok (.ifCond .ne 9, 3) := by decide +kernel
theorem dX6_reset_13 : decode cX6_reset 13 = .ok (.aload_n 0, 1) := by decide +kernel
theorem dX6_reset_14 : decode cX6_reset 14 = .ok (.iconst 1, 1) := by decide +kernel
theorem dX6_reset_15 : decode cX6_reset 15 = .ok (.invokevirtual 104, 3) := by decide +kernel
theorem dX6_reset_18 : decode cX6_reset 18 = .ok (.ireturn, 1) := by decide +kernel
theorem dX6_made_0 : decode cX6_made 0 = .ok (.aload_n 0, 1) := by decide +kernel
theorem dX6_made_1 : decode cX6_made 1 = .ok (.getfield 63, 3) := by decide +kernel
theorem dX6_made_4 : decode cX6_made 4 = .ok (.ifCond .ne 7, 3) := by decide +kernel
theorem dX6_made_7 : decode cX6_made 7 = .ok (.lconst 0, 1) := by decide +kernel
theorem dX6_made_8 : decode cX6_made 8 = .ok (.goto 14, 3) := by decide +kernel
theorem dX6_made_22 : decode cX6_made 22 = .ok (.lreturn, 1) := by decide +kernel
theorem dX6_sweep_0 : decode cX6_sweep 0 = .ok (.aload_n 0, 1) := by decide +kernel
theorem dX6_sweep_1 : decode cX6_sweep 1 = .ok (.iconst 0, 1) := by decide +kernel
theorem dX6_sweep_2 : decode cX6_sweep 2 = .ok (.putfield 55, 3) := by decide +kernel
theorem dX6_sweep_5 : decode cX6_sweep 5 = .ok (.aload_n 0, 1) := by decide +kernel
theorem dX6_sweep_6 : decode cX6_sweep 6 = .ok (.getfield 108, 3) := by decide +kernel
theorem dX6_sweep_9 : decode cX6_sweep 9 = .ok (.ifCond .le 9, 3) := by decide +kernel
theorem dX6_sweep_18 : decode cX6_sweep 18 = .ok (.aload_n 0, 1) := by decide +kernel
theorem dX6_sweep_19 : decode cX6_sweep 19 = .ok (.invokevirtual 161, 3) := by decide +kernel
theorem dX6_sweep_22 : decode cX6_sweep 22 = .ok (.aload_n 0, 1) := by decide +kernel
theorem dX6_sweep_23 : decode cX6_sweep 23 = .ok (.getfield 66, 3) := by decide +kernel
theorem dX6_sweep_26 : decode cX6_sweep 26 = .ok (.ldc2_w 147, 3) := by decide +kernel
theorem dX6_sweep_29 : decode cX6_sweep 29 = .ok (.lxor, 1) := by decide +kernel
theorem dX6_sweep_30 : decode cX6_sweep 30 = .ok (.land, 1) := by decide +kernel
theorem dX6_sweep_31 : decode cX6_sweep 31 = .ok (.aload_n 0, 1) := by decide +kernel
theorem dX6_sweep_32 : decode cX6_sweep 32 = .ok (.invokevirtual 143, 3) := by decide +kernel
theorem dX6_sweep_35 : decode cX6_sweep 35 = .ok (.ldc2_w 147, 3) := by decide +kernel
theorem dX6_sweep_38 : decode cX6_sweep 38 = .ok (.lxor, 1) := by decide +kernel
theorem dX6_sweep_39 : decode cX6_sweep 39 = .ok (.land, 1) := by decide +kernel
theorem dX6_sweep_40 : decode cX6_sweep 40 = .ok (.lstore_n 1, 1) := by decide +kernel
theorem dX6_sweep_41 : decode cX6_sweep 41 = .ok (.aload_n 0, 1) := by decide +kernel
theorem dX6_sweep_42 : decode cX6_sweep 42 = .ok (.dup, 1) := by decide +kernel
theorem dX6_sweep_43 : decode cX6_sweep 43 = .ok (.getfield 66, 3) := by decide +kernel
theorem dX6_sweep_46 : decode cX6_sweep 46 = .ok (.lload_n 1, 1) := by decide +kernel
theorem dX6_sweep_47 : decode cX6_sweep 47 = .ok (.lor, 1) := by decide +kernel
theorem dX6_sweep_48 : decode cX6_sweep 48 = .ok (.putfield 66, 3) := by decide +kernel
theorem dX6_sweep_51 : decode cX6_sweep 51 = .ok (.aload_n 0, 1) := by decide +kernel
theorem dX6_sweep_52 : decode cX6_sweep 52 = .ok (.lconst 0, 1) := by decide +kernel
theorem dX6_sweep_53 : decode cX6_sweep 53 = .ok (.putfield 164, 3) := by decide +kernel
theorem dX6_sweep_56 : decode cX6_sweep 56 = .ok (.lload_n 1, 1) := by decide +kernel
theorem dX6_sweep_57 : decode cX6_sweep 57 = .ok (.invokestatic 149, 3) := by decide +kernel
theorem dX6_sweep_60 : decode cX6_sweep 60 = .ok (.ireturn, 1) := by decide +kernel
theorem dX6_canMix_0 : decode cX6_canMix 0 = .ok (.aload_n 0, 1) := by decide +kernel
theorem dX6_canMix_1 : decode cX6_canMix 1 = .ok (.aload_n 0, 1) := by decide +kernel
theorem dX6_canMix_2 : decode cX6_canMix 2 = .ok (.iload_n 1, 1) := by decide +kernel
theorem dX6_canMix_3 : decode cX6_canMix 3 = .ok (.invokevirtual 140, 3) := by decide +kernel
theorem dX6_canMix_6 : decode cX6_canMix 6 = .ok (.ifCond .ne 7, 3) := by decide +kernel
theorem dX6_canMix_9 : decode cX6_canMix 9 = .ok (.iconst 1, 1) := by decide +kernel
theorem dX6_canMix_10 : decode cX6_canMix 10 = .ok (.goto 58, 3) := by decide +kernel
theorem dX6_canMix_13 : decode cX6_canMix 13 = .ok (.aload_n 0, 1) := by decide +kernel
theorem dX6_canMix_14 : decode cX6_canMix 14 = .ok (.getfield 34, 3) := by decide +kernel
theorem dX6_canMix_17 : decode cX6_canMix 17 = .ok (.aload_n 0, 1) := by decide +kernel
theorem dX6_canMix_18 : decode cX6_canMix 18 = .ok (.getfield 78, 3) := by decide +kernel
theorem dX6_canMix_21 : decode cX6_canMix 21 = .ok (.iaload, 1) := by decide +kernel
theorem dX6_canMix_22 : decode cX6_canMix 22 = .ok (.iconst (-1), 1) := by decide +kernel
theorem dX6_canMix_23 : decode cX6_canMix 23 = .ok (.if_icmp .eq 40, 3) := by decide +kernel
theorem dX6_canMix_63 : decode cX6_canMix 63 = .ok (.iconst 2, 1) := by decide +kernel
theorem dX6_canMix_64 : decode cX6_canMix 64 = .ok (.goto 4, 3) := by decide +kernel
theorem dX6_canMix_68 : decode cX6_canMix 68 = .ok (.putfield 55, 3) := by decide +kernel
theorem dX6_canMix_71 : decode cX6_canMix 71 = .ok (.aload_n 0, 1) := by decide +kernel
theorem dX6_canMix_72 : decode cX6_canMix 72 = .ok (.getfield 55, 3) := by decide +kernel
theorem dX6_canMix_75 : decode cX6_canMix 75 = .ok (.ifCond .ne 7, 3) := by decide +kernel
theorem dX6_canMix_82 : decode cX6_canMix 82 = .ok (.iconst 0, 1) := by decide +kernel
theorem dX6_canMix_83 : decode cX6_canMix 83 = .ok (.ireturn, 1) := by decide +kernel
theorem dX6_canCarry_0 : decode cX6_canCarry 0 = .ok (.aload_n 0, 1) := by decide +kernel
theorem dX6_canCarry_1 : decode cX6_canCarry 1 = .ok (.aload_n 0, 1) := by decide +kernel
theorem dX6_canCarry_2 : decode cX6_canCarry 2 = .ok (.iload_n 1, 1) := by decide +kernel
theorem dX6_canCarry_3 : decode cX6_canCarry 3 = .ok (.invokevirtual 155, 3) := by decide +kernel
theorem dX6_canCarry_6 : decode cX6_canCarry 6 = .ok (.ifCond .ne 7, 3) := by decide +kernel
theorem dX6_canCarry_9 : decode cX6_canCarry 9 = .ok (.iconst 1, 1) := by decide +kernel
theorem dX6_canCarry_10 : decode cX6_canCarry 10 = .ok (.goto 48, 3) := by decide +kernel
theorem dX6_canCarry_58 : decode cX6_canCarry 58 = .ok (.putfield 55, 3) := by decide +kernel
theorem dX6_canCarry_61 : decode cX6_canCarry 61 = .ok (.aload_n 0, 1) := by decide +kernel
theorem dX6_canCarry_62 : decode cX6_canCarry 62 = .ok (.getfield 55, 3) := by decide +kernel
theorem dX6_canCarry_65 : decode cX6_canCarry 65 = .ok (.ifCond .ne 7, 3) := by decide +kernel
theorem dX6_canCarry_72 : decode cX6_canCarry 72 = .ok (.iconst 0, 1) := by decide +kernel
theorem dX6_canCarry_73 : decode cX6_canCarry 73 = .ok (.ireturn, 1) := by decide +kernel
theorem dX6_merge_0 : decode cX6_merge 0 = .ok (.aload_n 0, 1) := by decide +kernel
theorem dX6_merge_1 : decode cX6_merge 1 = .ok (.iload_n 1, 1) := by decide +kernel
theorem dX6_merge_2 : decode cX6_merge 2 = .ok (.iconst 1, 1) := by decide +kernel
theorem dX6_merge_3 : decode cX6_merge 3 = .ok (.invokevirtual 239, 3) := by decide +kernel
theorem dX6_merge_6 : decode cX6_merge 6 = .ok (.ifCond .ne 5, 3) := by decide +kernel
theorem dX6_merge_9 : decode cX6_merge 9 = .ok (.iconst 0, 1) := by decide +kernel
theorem dX6_merge_10 : decode cX6_merge 10 = .ok (.ireturn, 1) := by decide +kernel
theorem dX6_carry_0 : decode cX6_carry 0 = .ok (.aload_n 0, 1) := by decide +kernel
theorem dX6_carry_1 : decode cX6_carry 1 = .ok (.iload_n 1, 1) := by decide +kernel
theorem dX6_carry_2 : decode cX6_carry 2 = .ok (.iconst 1, 1) := by decide +kernel
theorem dX6_carry_3 : decode cX6_carry 3 = .ok (.invokevirtual 256, 3) := by decide +kernel
theorem dX6_carry_6 : decode cX6_carry 6 = .ok (.ifCond .ne 5, 3) := by decide +kernel
theorem dX6_carry_9 : decode cX6_carry 9 = .ok (.iconst 0, 1) := by decide +kernel
theorem dX6_carry_10 : decode cX6_carry 10 = .ok (.ireturn, 1) := by decide +kernel
theorem dX6_takeBack_0 : decode cX6_takeBack 0 = .ok (.aload_n 0, 1) := by decide +kernel
theorem dX6_takeBack_1 : decode cX6_takeBack 1 = .ok (.iload_n 1, 1) := by decide +kernel
theorem dX6_takeBack_2 : decode cX6_takeBack 2 = .ok (.iconst 1, 1) := by decide +kernel
theorem dX6_takeBack_3 : decode cX6_takeBack 3 = .ok (.invokevirtual 256, 3) := by decide +kernel
theorem dX6_takeBack_6 : decode cX6_takeBack 6 = .ok (.ifCond .ne 5, 3) := by decide +kernel
theorem dX6_takeBack_9 : decode cX6_takeBack 9 = .ok (.iconst 0, 1) := by decide +kernel
theorem dX6_takeBack_10 : decode cX6_takeBack 10 = .ok (.ireturn, 1) := by decide +kernel
theorem dX6_replay_0 : decode cX6_replay 0 = .ok (.aload_n 0, 1) := by decide +kernel
theorem dX6_replay_1 : decode cX6_replay 1 = .ok (.iload_n 1, 1) := by decide +kernel
theorem dX6_replay_2 : decode cX6_replay 2 = .ok (.iconst 0, 1) := by decide +kernel
theorem dX6_replay_3 : decode cX6_replay 3 = .ok (.invokevirtual 239, 3) := by decide +kernel
theorem dX6_replay_6 : decode cX6_replay 6 = .ok (.ifCond .ne 5, 3) := by decide +kernel
theorem dX6_replay_9 : decode cX6_replay 9 = .ok (.iconst 0, 1) := by decide +kernel
theorem dX6_replay_10 : decode cX6_replay 10 = .ok (.ireturn, 1) := by decide +kernel
theorem dX6_open_0 : decode cX6_open 0 = .ok (.iconst 0, 1) := by decide +kernel
theorem dX6_open_1 : decode cX6_open 1 = .ok (.istore_n 1, 1) := by decide +kernel
theorem dX6_open_2 : decode cX6_open 2 = .ok (.aload_n 0, 1) := by decide +kernel
theorem dX6_open_3 : decode cX6_open 3 = .ok (.getfield 37, 3) := by decide +kernel
theorem dX6_open_6 : decode cX6_open 6 = .ok (.astore_n 2, 1) := by decide +kernel
theorem dX6_open_7 : decode cX6_open 7 = .ok (.aload_n 2, 1) := by decide +kernel
theorem dX6_open_8 : decode cX6_open 8 = .ok (.arraylength, 1) := by decide +kernel
theorem dX6_open_9 : decode cX6_open 9 = .ok (.istore_n 3, 1) := by decide +kernel
theorem dX6_open_10 : decode cX6_open 10 = .ok (.iconst 0, 1) := by decide +kernel
theorem dX6_open_11 : decode cX6_open 11 = .ok (.istore 4, 2) := by decide +kernel
theorem dX6_open_13 : decode cX6_open 13 = .ok (.iload 4, 2) := by decide +kernel
theorem dX6_open_15 : decode cX6_open 15 = .ok (.iload_n 3, 1) := by decide +kernel
theorem dX6_open_16 : decode cX6_open 16 = .ok (.if_icmp .ge 29, 3) := by decide +kernel
theorem dX6_open_45 : decode cX6_open 45 = .ok (.iload_n 1, 1) := by decide +kernel
theorem dX6_open_46 : decode cX6_open 46 = .ok (.ireturn, 1) := by decide +kernel
theorem dX6_settle_0 : decode cX6_settle 0 = .ok (.aload_n 0, 1) := by decide +kernel
theorem dX6_settle_1 : decode cX6_settle 1 = .ok (.iconst 0, 1) := by decide +kernel
theorem dX6_settle_2 : decode cX6_settle 2 = .ok (.putfield 55, 3) := by decide +kernel
theorem dX6_settle_5 : decode cX6_settle 5 = .ok (.aload_n 0, 1) := by decide +kernel
theorem dX6_settle_6 : decode cX6_settle 6 = .ok (.getfield 108, 3) := by decide +kernel
theorem dX6_settle_9 : decode cX6_settle 9 = .ok (.ifCond .ne 9, 3) := by decide +kernel
theorem dX6_settle_12 : decode cX6_settle 12 = .ok (.aload_n 0, 1) := by decide +kernel
theorem dX6_settle_13 : decode cX6_settle 13 = .ok (.iconst 1, 1) := by decide +kernel
theorem dX6_settle_14 : decode cX6_settle 14 = .ok (.invokevirtual 104, 3) := by decide +kernel
theorem dX6_settle_17 : decode cX6_settle 17 = .ok (.ireturn, 1) := by decide +kernel
theorem dX6_goOn_0 : decode cX6_goOn 0 = .ok (.aload_n 0, 1) := by decide +kernel
theorem dX6_goOn_1 : decode cX6_goOn 1 = .ok (.iconst 0, 1) := by decide +kernel
theorem dX6_goOn_2 : decode cX6_goOn 2 = .ok (.putfield 55, 3) := by decide +kernel
theorem dX6_goOn_5 : decode cX6_goOn 5 = .ok (.aload_n 0, 1) := by decide +kernel
theorem dX6_goOn_6 : decode cX6_goOn 6 = .ok (.getfield 108, 3) := by decide +kernel
theorem dX6_goOn_9 : decode cX6_goOn 9 = .ok (.ifCond .eq 10, 3) := by decide +kernel
theorem dX6_goOn_19 : decode cX6_goOn 19 = .ok (.aload_n 0, 1) := by decide +kernel
theorem dX6_goOn_20 : decode cX6_goOn 20 = .ok (.iconst 1, 1) := by decide +kernel
theorem dX6_goOn_21 : decode cX6_goOn 21 = .ok (.invokevirtual 104, 3) := by decide +kernel
theorem dX6_goOn_24 : decode cX6_goOn 24 = .ok (.ireturn, 1) := by decide +kernel
theorem dX6_giveUp_0 : decode cX6_giveUp 0 = .ok (.aload_n 0, 1) := by decide +kernel
theorem dX6_giveUp_1 : decode cX6_giveUp 1 = .ok (.iconst 0, 1) := by decide +kernel
theorem dX6_giveUp_2 : decode cX6_giveUp 2 = .ok (.putfield 55, 3) := by decide +kernel
theorem dX6_giveUp_5 : decode cX6_giveUp 5 = .ok (.aload_n 0, 1) := by decide +kernel
theorem dX6_giveUp_6 : decode cX6_giveUp 6 = .ok (.getfield 108, 3) := by decide +kernel
theorem dX6_giveUp_9 : decode cX6_giveUp 9 = .ok (.ifCond .ne 9, 3) := by decide +kernel
theorem dX6_giveUp_12 : decode cX6_giveUp 12 = .ok (.aload_n 0, 1) := by decide +kernel
theorem dX6_giveUp_13 : decode cX6_giveUp 13 = .ok (.iconst 1, 1) := by decide +kernel
theorem dX6_giveUp_14 : decode cX6_giveUp 14 = .ok (.invokevirtual 104, 3) := by decide +kernel
theorem dX6_giveUp_17 : decode cX6_giveUp 17 = .ok (.ireturn, 1) := by decide +kernel
theorem dX6_pending_0 : decode cX6_pending 0 = .ok (.aload_n 0, 1) := by decide +kernel
theorem dX6_pending_1 : decode cX6_pending 1 = .ok (.iconst 0, 1) := by decide +kernel
theorem dX6_pending_2 : decode cX6_pending 2 = .ok (.putfield 55, 3) := by decide +kernel
theorem dX6_pending_5 : decode cX6_pending 5 = .ok (.aload_n 0, 1) := by decide +kernel
theorem dX6_pending_6 : decode cX6_pending 6 = .ok (.getfield 108, 3) := by decide +kernel
theorem dX6_pending_9 : decode cX6_pending 9 = .ok (.ireturn, 1) := by decide +kernel
theorem dX6_conflicts_0 : decode cX6_conflicts 0 = .ok (.aload_n 0, 1) := by decide +kernel
theorem dX6_conflicts_1 : decode cX6_conflicts 1 = .ok (.iconst 0, 1) := by decide +kernel
theorem dX6_conflicts_2 : decode cX6_conflicts 2 = .ok (.putfield 55, 3) := by decide +kernel
theorem dX6_conflicts_5 : decode cX6_conflicts 5 = .ok (.aload_n 0, 1) := by decide +kernel
theorem dX6_conflicts_6 : decode cX6_conflicts 6 = .ok (.getfield 37, 3) := by decide +kernel
theorem dX6_conflicts_9 : decode cX6_conflicts 9 = .ok (.arraylength, 1) := by decide +kernel
theorem dX6_conflicts_10 : decode cX6_conflicts 10 = .ok (.ireturn, 1) := by decide +kernel
theorem dX6_unsettled_0 : decode cX6_unsettled 0 = .ok (.aload_n 0, 1) := by decide +kernel
theorem dX6_unsettled_1 : decode cX6_unsettled 1 = .ok (.iconst 0, 1) := by decide +kernel
theorem dX6_unsettled_2 : decode cX6_unsettled 2 = .ok (.putfield 55, 3) := by decide +kernel
theorem dX6_unsettled_5 : decode cX6_unsettled 5 = .ok (.aload_n 0, 1) := by decide +kernel
theorem dX6_unsettled_6 : decode cX6_unsettled 6 = .ok (.invokevirtual 276, 3) := by decide +kernel
theorem dX6_unsettled_9 : decode cX6_unsettled 9 = .ok (.ireturn, 1) := by decide +kernel
theorem dX6_leftNow_0 : decode cX6_leftNow 0 = .ok (.aload_n 0, 1) := by decide +kernel
theorem dX6_leftNow_1 : decode cX6_leftNow 1 = .ok (.getfield 108, 3) := by decide +kernel
theorem dX6_leftNow_4 : decode cX6_leftNow 4 = .ok (.iconst 4, 1) := by decide +kernel
theorem dX6_leftNow_5 : decode cX6_leftNow 5 = .ok (.if_icmp .ne 13, 3) := by decide +kernel
theorem dX6_leftNow_18 : decode cX6_leftNow 18 = .ok (.iconst 0, 1) := by decide +kernel
theorem dX6_leftNow_19 : decode cX6_leftNow 19 = .ok (.ireturn, 1) := by decide +kernel
theorem dX6_left_0 : decode cX6_left 0 = .ok (.aload_n 0, 1) := by decide +kernel
theorem dX6_left_1 : decode cX6_left 1 = .ok (.iconst 0, 1) := by decide +kernel
theorem dX6_left_2 : decode cX6_left 2 = .ok (.putfield 55, 3) := by decide +kernel
theorem dX6_left_5 : decode cX6_left 5 = .ok (.aload_n 0, 1) := by decide +kernel
theorem dX6_left_6 : decode cX6_left 6 = .ok (.invokevirtual 279, 3) := by decide +kernel
theorem dX6_left_9 : decode cX6_left 9 = .ok (.ireturn, 1) := by decide +kernel
theorem dX6_finds_0 : decode cX6_finds 0 = .ok (.aload_n 0, 1) := by decide +kernel
theorem dX6_finds_1 : decode cX6_finds 1 = .ok (.iload_n 1, 1) := by decide +kernel
theorem dX6_finds_2 : decode cX6_finds 2 = .ok (.iconst 0, 1) := by decide +kernel
theorem dX6_finds_3 : decode cX6_finds 3 = .ok (.aload_n 0, 1) := by decide +kernel
theorem dX6_finds_4 : decode cX6_finds 4 = .ok (.getfield 37, 3) := by decide +kernel
theorem dX6_finds_7 : decode cX6_finds 7 = .ok (.arraylength, 1) := by decide +kernel
theorem dX6_finds_8 : decode cX6_finds 8 = .ok (.iconst 1, 1) := by decide +kernel
theorem dX6_finds_9 : decode cX6_finds 9 = .ok (.isub, 1) := by decide +kernel
theorem dX6_finds_10 : decode cX6_finds 10 = .ok (.invokestatic 59, 3) := by decide +kernel
theorem dX6_finds_13 : decode cX6_finds 13 = .ok (.ifCond .eq 7, 3) := by decide +kernel
theorem dX6_finds_20 : decode cX6_finds 20 = .ok (.iconst 1, 1) := by decide +kernel
theorem dX6_finds_21 : decode cX6_finds 21 = .ok (.putfield 55, 3) := by decide +kernel
theorem dX6_finds_24 : decode cX6_finds 24 = .ok (.aload_n 0, 1) := by decide +kernel
theorem dX6_finds_25 : decode cX6_finds 25 = .ok (.getfield 55, 3) := by decide +kernel
theorem dX6_finds_28 : decode cX6_finds 28 = .ok (.ifCond .ne 24, 3) := by decide +kernel
theorem dX6_finds_52 : decode cX6_finds 52 = .ok (.aload_n 0, 1) := by decide +kernel
theorem dX6_finds_53 : decode cX6_finds 53 = .ok (.getfield 55, 3) := by decide +kernel
theorem dX6_finds_56 : decode cX6_finds 56 = .ok (.ifCond .ne 7, 3) := by decide +kernel
theorem dX6_finds_63 : decode cX6_finds 63 = .ok (.iconst 0, 1) := by decide +kernel
theorem dX6_finds_64 : decode cX6_finds 64 = .ok (.ireturn, 1) := by decide +kernel
theorem dX6_conflictFile_0 : decode cX6_conflictFile 0 = .ok (.aload_n 0, 1) := by decide +kernel
theorem dX6_conflictFile_1 : decode cX6_conflictFile 1 = .ok (.iload_n 1, 1) := by decide +kernel
theorem dX6_conflictFile_2 : decode cX6_conflictFile 2 = .ok (.invokevirtual 282, 3) := by decide +kernel
theorem dX6_conflictFile_5 : decode cX6_conflictFile 5 = .ok (.ifCond .eq 10, 3) := by decide +kernel
theorem dX6_conflictFile_15 : decode cX6_conflictFile 15 = .ok (.iconst 0, 1) := by decide +kernel
theorem dX6_conflictFile_16 : decode cX6_conflictFile 16 = .ok (.ireturn, 1) := by decide +kernel
theorem dX6_pieceSize_0 : decode cX6_pieceSize 0 = .ok (.aload_n 0, 1) := by decide +kernel
theorem dX6_pieceSize_1 : decode cX6_pieceSize 1 = .ok (.iload_n 1, 1) := by decide +kernel
theorem dX6_pieceSize_2 : decode cX6_pieceSize 2 = .ok (.invokevirtual 282, 3) := by decide +kernel
theorem dX6_pieceSize_5 : decode cX6_pieceSize 5 = .ok (.ifCond .ne 5, 3) := by decide +kernel
theorem dX6_pieceSize_8 : decode cX6_pieceSize 8 = .ok (.iconst 0, 1) := by decide +kernel
theorem dX6_pieceSize_9 : decode cX6_pieceSize 9 = .ok (.ireturn, 1) := by decide +kernel
theorem dX6_pieceLine_0 : decode cX6_pieceLine 0 = .ok (.aload_n 0, 1) := by decide +kernel
theorem dX6_pieceLine_1 : decode cX6_pieceLine 1 = .ok (.iload_n 1, 1) := by decide +kernel
theorem dX6_pieceLine_2 : decode cX6_pieceLine 2 = .ok (.invokevirtual 282, 3) := by decide +kernel
theorem dX6_pieceLine_5 : decode cX6_pieceLine 5 = .ok (.ifCond .ne 5, 3) := by decide +kernel
theorem dX6_pieceLine_8 : decode cX6_pieceLine 8 = .ok (.iconst 0, 1) := by decide +kernel
theorem dX6_pieceLine_9 : decode cX6_pieceLine 9 = .ok (.ireturn, 1) := by decide +kernel
theorem dX6_length_0 : decode cX6_length 0 = .ok (.aload_n 0, 1) := by decide +kernel
theorem dX6_length_1 : decode cX6_length 1 = .ok (.ifnonnull 7, 3) := by decide +kernel
theorem dX6_length_4 : decode cX6_length 4 = .ok (.iconst (-1), 1) := by decide +kernel
theorem dX6_length_5 : decode cX6_length 5 = .ok (.goto 5, 3) := by decide +kernel
theorem dX6_length_10 : decode cX6_length 10 = .ok (.ireturn, 1) := by decide +kernel
theorem dX6_deskLines_0 : decode cX6_deskLines 0 = .ok (.aload_n 0, 1) := by decide +kernel
theorem dX6_deskLines_1 : decode cX6_deskLines 1 = .ok (.iconst 0, 1) := by decide +kernel
theorem dX6_deskLines_2 : decode cX6_deskLines 2 = .ok (.putfield 55, 3) := by decide +kernel
theorem dX6_deskLines_5 : decode cX6_deskLines 5 = .ok (.iload_n 1, 1) := by decide +kernel
theorem dX6_deskLines_6 : decode cX6_deskLines 6 = .ok (.invokestatic 100, 3) := by decide +kernel
theorem dX6_deskLines_9 : decode cX6_deskLines 9 = .ok (.ifCond .eq 15, 3) := by decide +kernel
theorem dX6_deskLines_12 : decode cX6_deskLines 12 = .ok (.aload_n 0, 1) := by decide +kernel
theorem dX6_deskLines_13 : decode cX6_deskLines 13 = .ok (.getfield 11, 3) := by decide +kernel
theorem dX6_deskLines_16 : decode cX6_deskLines 16 = .ok (.iload_n 1, 1) := by decide +kernel
theorem dX6_deskLines_17 : decode cX6_deskLines 17 = .ok (.aaload, 1) := by decide +kernel
theorem dX6_deskLines_18 : decode cX6_deskLines 18 = .ok (.invokestatic 288, 3) := by decide +kernel
theorem dX6_deskLines_21 : decode cX6_deskLines 21 = .ok (.goto 8, 3) := by decide +kernel
theorem dX6_deskLines_24 : decode cX6_deskLines 24 = .ok (.aload_n 0, 1) := by decide +kernel
theorem dX6_deskLines_25 : decode cX6_deskLines 25 = .ok (.iconst 1, 1) := by decide +kernel
theorem dX6_deskLines_26 : decode cX6_deskLines 26 = .ok (.invokevirtual 104, 3) := by decide +kernel
theorem dX6_deskLines_29 : decode cX6_deskLines 29 = .ok (.ireturn, 1) := by decide +kernel
theorem dX6_deskLine_0 : decode cX6_deskLine 0 = .ok (.aload_n 0, 1) := by decide +kernel
theorem dX6_deskLine_1 : decode cX6_deskLine 1 = .ok (.iconst 0, 1) := by decide +kernel
theorem dX6_deskLine_2 : decode cX6_deskLine 2 = .ok (.putfield 55, 3) := by decide +kernel
theorem dX6_deskLine_5 : decode cX6_deskLine 5 = .ok (.iload_n 1, 1) := by decide +kernel
theorem dX6_deskLine_6 : decode cX6_deskLine 6 = .ok (.invokestatic 100, 3) := by decide +kernel
theorem dX6_deskLine_9 : decode cX6_deskLine 9 = .ok (.ifCond .eq 23, 3) := by decide +kernel
theorem dX6_deskLine_12 : decode cX6_deskLine 12 = .ok (.aload_n 0, 1) := by decide +kernel
theorem dX6_deskLine_13 : decode cX6_deskLine 13 = .ok (.iload_n 1, 1) := by decide +kernel
theorem dX6_deskLine_14 : decode cX6_deskLine 14 = .ok (.iload_n 2, 1) := by decide +kernel
theorem dX6_deskLine_15 : decode cX6_deskLine 15 = .ok (.invokevirtual 124, 3) := by decide +kernel
theorem dX6_deskLine_18 : decode cX6_deskLine 18 = .ok (.ifCond .eq 14, 3) := by decide +kernel
theorem dX6_deskLine_32 : decode cX6_deskLine 32 = .ok (.aload_n 0, 1) := by decide +kernel
theorem dX6_deskLine_33 : decode cX6_deskLine 33 = .ok (.iconst 1, 1) := by decide +kernel
theorem dX6_deskLine_34 : decode cX6_deskLine 34 = .ok (.invokevirtual 104, 3) := by decide +kernel
theorem dX6_deskLine_37 : decode cX6_deskLine 37 = .ok (.ireturn, 1) := by decide +kernel
theorem dX6_isClean_0 : decode cX6_isClean 0 = .ok (.aload_n 0, 1) := by decide +kernel
theorem dX6_isClean_1 : decode cX6_isClean 1 = .ok (.iconst 0, 1) := by decide +kernel
theorem dX6_isClean_2 : decode cX6_isClean 2 = .ok (.putfield 55, 3) := by decide +kernel
theorem dX6_isClean_5 : decode cX6_isClean 5 = .ok (.aload_n 0, 1) := by decide +kernel
theorem dX6_isClean_6 : decode cX6_isClean 6 = .ok (.invokevirtual 132, 3) := by decide +kernel
theorem dX6_isClean_9 : decode cX6_isClean 9 = .ok (.ireturn, 1) := by decide +kernel
theorem dX6_commits_0 : decode cX6_commits 0 = .ok (.aload_n 0, 1) := by decide +kernel
theorem dX6_commits_1 : decode cX6_commits 1 = .ok (.iconst 0, 1) := by decide +kernel
theorem dX6_commits_2 : decode cX6_commits 2 = .ok (.putfield 55, 3) := by decide +kernel
theorem dX6_commits_5 : decode cX6_commits 5 = .ok (.aload_n 0, 1) := by decide +kernel
theorem dX6_commits_6 : decode cX6_commits 6 = .ok (.getfield 63, 3) := by decide +kernel
theorem dX6_commits_9 : decode cX6_commits 9 = .ok (.ireturn, 1) := by decide +kernel
theorem dX6_isThere_0 : decode cX6_isThere 0 = .ok (.aload_n 0, 1) := by decide +kernel
theorem dX6_isThere_1 : decode cX6_isThere 1 = .ok (.iconst 0, 1) := by decide +kernel
theorem dX6_isThere_2 : decode cX6_isThere 2 = .ok (.putfield 55, 3) := by decide +kernel
theorem dX6_isThere_5 : decode cX6_isThere 5 = .ok (.aload_n 0, 1) := by decide +kernel
theorem dX6_isThere_6 : decode cX6_isThere 6 = .ok (.iload_n 1, 1) := by decide +kernel
theorem dX6_isThere_7 : decode cX6_isThere 7 = .ok (.invokevirtual 155, 3) := by decide +kernel
theorem dX6_isThere_10 : decode cX6_isThere 10 = .ok (.ireturn, 1) := by decide +kernel
theorem dX6_asks_0 : decode cX6_asks 0 = .ok (.aload_n 0, 1) := by decide +kernel
theorem dX6_asks_1 : decode cX6_asks 1 = .ok (.aload_n 0, 1) := by decide +kernel
theorem dX6_asks_2 : decode cX6_asks 2 = .ok (.iload_n 1, 1) := by decide +kernel
theorem dX6_asks_3 : decode cX6_asks 3 = .ok (.invokevirtual 155, 3) := by decide +kernel
theorem dX6_asks_6 : decode cX6_asks 6 = .ok (.ifCond .eq 7, 3) := by decide +kernel
theorem dX6_asks_13 : decode cX6_asks 13 = .ok (.iconst 1, 1) := by decide +kernel
theorem dX6_asks_14 : decode cX6_asks 14 = .ok (.putfield 55, 3) := by decide +kernel
theorem dX6_asks_17 : decode cX6_asks 17 = .ok (.aload_n 0, 1) := by decide +kernel
theorem dX6_asks_18 : decode cX6_asks 18 = .ok (.getfield 55, 3) := by decide +kernel
theorem dX6_asks_21 : decode cX6_asks 21 = .ok (.ifCond .ne 7, 3) := by decide +kernel
theorem dX6_asks_28 : decode cX6_asks 28 = .ok (.iconst 0, 1) := by decide +kernel
theorem dX6_asks_29 : decode cX6_asks 29 = .ok (.ireturn, 1) := by decide +kernel
theorem dX6_asks__0 : decode cX6_asks_ 0 = .ok (.aload_n 0, 1) := by decide +kernel
theorem dX6_asks__1 : decode cX6_asks_ 1 = .ok (.aload_n 0, 1) := by decide +kernel
theorem dX6_asks__2 : decode cX6_asks_ 2 = .ok (.iload_n 1, 1) := by decide +kernel
theorem dX6_asks__3 : decode cX6_asks_ 3 = .ok (.invokevirtual 155, 3) := by decide +kernel
theorem dX6_asks__6 : decode cX6_asks_ 6 = .ok (.ifCond .eq 15, 3) := by decide +kernel
theorem dX6_asks__21 : decode cX6_asks_ 21 = .ok (.iconst 1, 1) := by decide +kernel
theorem dX6_asks__22 : decode cX6_asks_ 22 = .ok (.putfield 55, 3) := by decide +kernel
theorem dX6_asks__25 : decode cX6_asks_ 25 = .ok (.aload_n 0, 1) := by decide +kernel
theorem dX6_asks__26 : decode cX6_asks_ 26 = .ok (.getfield 55, 3) := by decide +kernel
theorem dX6_asks__29 : decode cX6_asks_ 29 = .ok (.ifCond .ne 7, 3) := by decide +kernel
theorem dX6_asks__36 : decode cX6_asks_ 36 = .ok (.iconst 0, 1) := by decide +kernel
theorem dX6_asks__37 : decode cX6_asks_ 37 = .ok (.ireturn, 1) := by decide +kernel
theorem dX6_isReached_0 : decode cX6_isReached 0 = .ok (.aload_n 0, 1) := by decide +kernel
theorem dX6_isReached_1 : decode cX6_isReached 1 = .ok (.iload_n 1, 1) := by decide +kernel
theorem dX6_isReached_2 : decode cX6_isReached 2 = .ok (.invokevirtual 292, 3) := by decide +kernel
theorem dX6_isReached_5 : decode cX6_isReached 5 = .ok (.ifCond .eq 18, 3) := by decide +kernel
theorem dX6_isReached_23 : decode cX6_isReached 23 = .ok (.iconst 0, 1) := by decide +kernel
theorem dX6_isReached_24 : decode cX6_isReached 24 = .ok (.ireturn, 1) := by decide +kernel
theorem dX6_parent_0 : decode cX6_parent 0 = .ok (.aload_n 0, 1) := by decide +kernel
theorem dX6_parent_1 : decode cX6_parent 1 = .ok (.iload_n 1, 1) := by decide +kernel
theorem dX6_parent_2 : decode cX6_parent 2 = .ok (.invokevirtual 292, 3) := by decide +kernel
theorem dX6_parent_5 : decode cX6_parent 5 = .ok (.ifCond .eq 22, 3) := by decide +kernel
theorem dX6_parent_27 : decode cX6_parent 27 = .ok (.iconst 0, 1) := by decide +kernel
theorem dX6_parent_28 : decode cX6_parent 28 = .ok (.ireturn, 1) := by decide +kernel
theorem dX6_wordOf_0 : decode cX6_wordOf 0 = .ok (.aload_n 0, 1) := by decide +kernel
theorem dX6_wordOf_1 : decode cX6_wordOf 1 = .ok (.iload_n 1, 1) := by decide +kernel
theorem dX6_wordOf_2 : decode cX6_wordOf 2 = .ok (.invokevirtual 292, 3) := by decide +kernel
theorem dX6_wordOf_5 : decode cX6_wordOf 5 = .ok (.ifCond .eq 12, 3) := by decide +kernel
theorem dX6_wordOf_17 : decode cX6_wordOf 17 = .ok (.iconst 0, 1) := by decide +kernel
theorem dX6_wordOf_18 : decode cX6_wordOf 18 = .ok (.ireturn, 1) := by decide +kernel
theorem dX6_lines_0 : decode cX6_lines 0 = .ok (.aload_n 0, 1) := by decide +kernel
theorem dX6_lines_1 : decode cX6_lines 1 = .ok (.iload_n 1, 1) := by decide +kernel
theorem dX6_lines_2 : decode cX6_lines 2 = .ok (.invokevirtual 292, 3) := by decide +kernel
theorem dX6_lines_5 : decode cX6_lines 5 = .ok (.ifCond .ne 5, 3) := by decide +kernel
theorem dX6_lines_8 : decode cX6_lines 8 = .ok (.iconst 0, 1) := by decide +kernel
theorem dX6_lines_9 : decode cX6_lines 9 = .ok (.ireturn, 1) := by decide +kernel
theorem dX6_asksLine_0 : decode cX6_asksLine 0 = .ok (.aload_n 0, 1) := by decide +kernel
theorem dX6_asksLine_1 : decode cX6_asksLine 1 = .ok (.aload_n 0, 1) := by decide +kernel
theorem dX6_asksLine_2 : decode cX6_asksLine 2 = .ok (.iload_n 1, 1) := by decide +kernel
theorem dX6_asksLine_3 : decode cX6_asksLine 3 = .ok (.invokevirtual 155, 3) := by decide +kernel
theorem dX6_asksLine_6 : decode cX6_asksLine 6 = .ok (.ifCond .eq 35, 3) := by decide +kernel
theorem dX6_asksLine_41 : decode cX6_asksLine 41 = .ok (.iconst 1, 1) := by decide +kernel
theorem dX6_asksLine_42 : decode cX6_asksLine 42 = .ok (.putfield 55, 3) := by decide +kernel
theorem dX6_asksLine_45 : decode cX6_asksLine 45 = .ok (.aload_n 0, 1) := by decide +kernel
theorem dX6_asksLine_46 : decode cX6_asksLine 46 = .ok (.getfield 55, 3) := by decide +kernel
theorem dX6_asksLine_49 : decode cX6_asksLine 49 = .ok (.ifCond .ne 7, 3) := by decide +kernel
theorem dX6_asksLine_56 : decode cX6_asksLine 56 = .ok (.iconst 0, 1) := by decide +kernel
theorem dX6_asksLine_57 : decode cX6_asksLine 57 = .ok (.ireturn, 1) := by decide +kernel
theorem dX6_lineAt_0 : decode cX6_lineAt 0 = .ok (.aload_n 0, 1) := by decide +kernel
theorem dX6_lineAt_1 : decode cX6_lineAt 1 = .ok (.iload_n 1, 1) := by decide +kernel
theorem dX6_lineAt_2 : decode cX6_lineAt 2 = .ok (.iload_n 2, 1) := by decide +kernel
theorem dX6_lineAt_3 : decode cX6_lineAt 3 = .ok (.iload_n 3, 1) := by decide +kernel
theorem dX6_lineAt_4 : decode cX6_lineAt 4 = .ok (.invokevirtual 295, 3) := by decide +kernel
theorem dX6_lineAt_7 : decode cX6_lineAt 7 = .ok (.ifCond .eq 16, 3) := by decide +kernel
theorem dX6_lineAt_23 : decode cX6_lineAt 23 = .ok (.iconst 0, 1) := by decide +kernel
theorem dX6_lineAt_24 : decode cX6_lineAt 24 = .ok (.ireturn, 1) := by decide +kernel
theorem dX6_head_0 : decode cX6_head 0 = .ok (.aload_n 0, 1) := by decide +kernel
theorem dX6_head_1 : decode cX6_head 1 = .ok (.iconst 0, 1) := by decide +kernel
theorem dX6_head_2 : decode cX6_head 2 = .ok (.putfield 55, 3) := by decide +kernel
theorem dX6_head_5 : decode cX6_head 5 = .ok (.aload_n 0, 1) := by decide +kernel
theorem dX6_head_6 : decode cX6_head 6 = .ok (.getfield 78, 3) := by decide +kernel
theorem dX6_head_9 : decode cX6_head 9 = .ok (.ireturn, 1) := by decide +kernel
theorem dX6_commitOf_0 : decode cX6_commitOf 0 = .ok (.aload_n 0, 1) := by decide +kernel
theorem dX6_commitOf_1 : decode cX6_commitOf 1 = .ok (.iconst 0, 1) := by decide +kernel
theorem dX6_commitOf_2 : decode cX6_commitOf 2 = .ok (.putfield 55, 3) := by decide +kernel
theorem dX6_commitOf_5 : decode cX6_commitOf 5 = .ok (.aload_n 0, 1) := by decide +kernel
theorem dX6_commitOf_6 : decode cX6_commitOf 6 = .ok (.iload_n 1, 1) := by decide +kernel
theorem dX6_commitOf_7 : decode cX6_commitOf 7 = .ok (.invokevirtual 140, 3) := by decide +kernel
theorem dX6_commitOf_10 : decode cX6_commitOf 10 = .ok (.ifCond .eq 12, 3) := by decide +kernel
theorem dX6_commitOf_13 : decode cX6_commitOf 13 = .ok (.aload_n 0, 1) := by decide +kernel
theorem dX6_commitOf_14 : decode cX6_commitOf 14 = .ok (.getfield 34, 3) := by decide +kernel
theorem dX6_commitOf_17 : decode cX6_commitOf 17 = .ok (.iload_n 1, 1) := by decide +kernel
theorem dX6_commitOf_18 : decode cX6_commitOf 18 = .ok (.iaload, 1) := by decide +kernel
theorem dX6_commitOf_19 : decode cX6_commitOf 19 = .ok (.goto 5, 3) := by decide +kernel
theorem dX6_commitOf_22 : decode cX6_commitOf 22 = .ok (.bipush (-2), 2) := by decide +kernel
theorem dX6_commitOf_24 : decode cX6_commitOf 24 = .ok (.ireturn, 1) := by decide +kernel
theorem dX6_isAncestor_0 : decode cX6_isAncestor 0 = .ok (.aload_n 0, 1) := by decide +kernel
theorem dX6_isAncestor_1 : decode cX6_isAncestor 1 = .ok (.iload_n 1, 1) := by decide +kernel
theorem dX6_isAncestor_2 : decode cX6_isAncestor 2 = .ok (.iload_n 2, 1) := by decide +kernel
theorem dX6_isAncestor_3 : decode cX6_isAncestor 3 = .ok (.invokevirtual 298, 3) := by decide +kernel
theorem dX6_isAncestor_6 : decode cX6_isAncestor 6 = .ok (.ifCond .eq 16, 3) := by decide +kernel
theorem dX6_isAncestor_22 : decode cX6_isAncestor 22 = .ok (.iconst 0, 1) := by decide +kernel
theorem dX6_isAncestor_23 : decode cX6_isAncestor 23 = .ok (.ireturn, 1) := by decide +kernel
theorem dX6_base_0 : decode cX6_base 0 = .ok (.aload_n 0, 1) := by decide +kernel
theorem dX6_base_1 : decode cX6_base 1 = .ok (.iload_n 1, 1) := by decide +kernel
theorem dX6_base_2 : decode cX6_base 2 = .ok (.iload_n 2, 1) := by decide +kernel
theorem dX6_base_3 : decode cX6_base 3 = .ok (.invokevirtual 298, 3) := by decide +kernel
theorem dX6_base_6 : decode cX6_base 6 = .ok (.ifCond .eq 12, 3) := by decide +kernel
theorem dX6_base_18 : decode cX6_base 18 = .ok (.iconst 0, 1) := by decide +kernel
theorem dX6_base_19 : decode cX6_base 19 = .ok (.ireturn, 1) := by decide +kernel
theorem dX6_ahead_0 : decode cX6_ahead 0 = .ok (.aload_n 0, 1) := by decide +kernel
theorem dX6_ahead_1 : decode cX6_ahead 1 = .ok (.iload_n 1, 1) := by decide +kernel
theorem dX6_ahead_2 : decode cX6_ahead 2 = .ok (.iload_n 2, 1) := by decide +kernel
theorem dX6_ahead_3 : decode cX6_ahead 3 = .ok (.invokevirtual 298, 3) := by decide +kernel
theorem dX6_ahead_6 : decode cX6_ahead 6 = .ok (.ifCond .eq 26, 3) := by decide +kernel
theorem dX6_ahead_32 : decode cX6_ahead 32 = .ok (.iconst 0, 1) := by decide +kernel
theorem dX6_ahead_33 : decode cX6_ahead 33 = .ok (.ireturn, 1) := by decide +kernel
theorem dX6_touched_0 : decode cX6_touched 0 = .ok (.aload_n 0, 1) := by decide +kernel
theorem dX6_touched_1 : decode cX6_touched 1 = .ok (.iload_n 1, 1) := by decide +kernel
theorem dX6_touched_2 : decode cX6_touched 2 = .ok (.iload_n 2, 1) := by decide +kernel
theorem dX6_touched_3 : decode cX6_touched 3 = .ok (.invokevirtual 298, 3) := by decide +kernel
theorem dX6_touched_6 : decode cX6_touched 6 = .ok (.ifCond .eq 21, 3) := by decide +kernel
theorem dX6_touched_27 : decode cX6_touched 27 = .ok (.iconst 0, 1) := by decide +kernel
theorem dX6_touched_28 : decode cX6_touched 28 = .ok (.ireturn, 1) := by decide +kernel
theorem dX6_added_0 : decode cX6_added 0 = .ok (.aload_n 0, 1) := by decide +kernel
theorem dX6_added_1 : decode cX6_added 1 = .ok (.iload_n 1, 1) := by decide +kernel
theorem dX6_added_2 : decode cX6_added 2 = .ok (.iload_n 2, 1) := by decide +kernel
theorem dX6_added_3 : decode cX6_added 3 = .ok (.invokevirtual 298, 3) := by decide +kernel
theorem dX6_added_6 : decode cX6_added 6 = .ok (.ifCond .ne 5, 3) := by decide +kernel
theorem dX6_added_9 : decode cX6_added 9 = .ok (.iconst 0, 1) := by decide +kernel
theorem dX6_added_10 : decode cX6_added 10 = .ok (.ireturn, 1) := by decide +kernel
theorem dX6_pairOf_0 : decode cX6_pairOf 0 = .ok (.aload_n 0, 1) := by decide +kernel
theorem dX6_pairOf_1 : decode cX6_pairOf 1 = .ok (.iload_n 1, 1) := by decide +kernel
theorem dX6_pairOf_2 : decode cX6_pairOf 2 = .ok (.iload_n 2, 1) := by decide +kernel
theorem dX6_pairOf_3 : decode cX6_pairOf 3 = .ok (.invokevirtual 298, 3) := by decide +kernel
theorem dX6_pairOf_6 : decode cX6_pairOf 6 = .ok (.ifCond .ne 5, 3) := by decide +kernel
theorem dX6_pairOf_9 : decode cX6_pairOf 9 = .ok (.iconst 0, 1) := by decide +kernel
theorem dX6_pairOf_10 : decode cX6_pairOf 10 = .ok (.ireturn, 1) := by decide +kernel
theorem dX6_blame_0 : decode cX6_blame 0 = .ok (.aload_n 0, 1) := by decide +kernel
theorem dX6_blame_1 : decode cX6_blame 1 = .ok (.iload_n 1, 1) := by decide +kernel
theorem dX6_blame_2 : decode cX6_blame 2 = .ok (.iload_n 2, 1) := by decide +kernel
theorem dX6_blame_3 : decode cX6_blame 3 = .ok (.iload_n 3, 1) := by decide +kernel
theorem dX6_blame_4 : decode cX6_blame 4 = .ok (.invokevirtual 295, 3) := by decide +kernel
theorem dX6_blame_7 : decode cX6_blame 7 = .ok (.ifCond .ne 5, 3) := by decide +kernel
theorem dX6_blame_10 : decode cX6_blame 10 = .ok (.iconst 0, 1) := by decide +kernel
theorem dX6_blame_11 : decode cX6_blame 11 = .ok (.ireturn, 1) := by decide +kernel
theorem dX6_depthOf_0 : decode cX6_depthOf 0 = .ok (.aload_n 0, 1) := by decide +kernel
theorem dX6_depthOf_1 : decode cX6_depthOf 1 = .ok (.iload_n 1, 1) := by decide +kernel
theorem dX6_depthOf_2 : decode cX6_depthOf 2 = .ok (.invokevirtual 292, 3) := by decide +kernel
theorem dX6_depthOf_5 : decode cX6_depthOf 5 = .ok (.ifCond .eq 11, 3) := by decide +kernel
theorem dX6_depthOf_16 : decode cX6_depthOf 16 = .ok (.iconst 0, 1) := by decide +kernel
theorem dX6_depthOf_17 : decode cX6_depthOf 17 = .ok (.ireturn, 1) := by decide +kernel
theorem dX6_seek_0 : decode cX6_seek 0 = .ok (.aload_n 0, 1) := by decide +kernel
theorem dX6_seek_1 : decode cX6_seek 1 = .ok (.iload_n 1, 1) := by decide +kernel
theorem dX6_seek_2 : decode cX6_seek 2 = .ok (.iload_n 2, 1) := by decide +kernel
theorem dX6_seek_3 : decode cX6_seek 3 = .ok (.invokevirtual 298, 3) := by decide +kernel
theorem dX6_seek_6 : decode cX6_seek 6 = .ok (.ifCond .ne 5, 3) := by decide +kernel
theorem dX6_seek_9 : decode cX6_seek 9 = .ok (.iconst 0, 1) := by decide +kernel
theorem dX6_seek_10 : decode cX6_seek 10 = .ok (.ireturn, 1) := by decide +kernel
theorem dX6_probeNow_0 : decode cX6_probeNow 0 = .ok (.aload_n 0, 1) := by decide +kernel
theorem dX6_probeNow_1 : decode cX6_probeNow 1 = .ok (.getfield 164, 3) := by decide +kernel
theorem dX6_probeNow_4 : decode cX6_probeNow 4 = .ok (.invokestatic 149, 3) := by decide +kernel
theorem dX6_probeNow_7 : decode cX6_probeNow 7 = .ok (.istore_n 1, 1) := by decide +kernel
theorem dX6_probeNow_8 : decode cX6_probeNow 8 = .ok (.iconst (-1), 1) := by decide +kernel
theorem dX6_probeNow_9 : decode cX6_probeNow 9 = .ok (.istore_n 2, 1) := by decide +kernel
theorem dX6_probeNow_10 : decode cX6_probeNow 10 = .ok (.iconst (-1), 1) := by decide +kernel
theorem dX6_probeNow_11 : decode cX6_probeNow 11 = .ok (.istore_n 3, 1) := by decide +kernel
theorem dX6_probeNow_12 : decode cX6_probeNow 12 = .ok (.iconst 0, 1) := by decide +kernel
theorem dX6_probeNow_13 : decode cX6_probeNow 13 = .ok (.istore 4, 2) := by decide +kernel
theorem dX6_probeNow_15 : decode cX6_probeNow 15 = .ok (.iload 4, 2) := by decide +kernel
theorem dX6_probeNow_17 : decode cX6_probeNow 17 = .ok (.aload_n 0, 1) := by decide +kernel
theorem dX6_probeNow_18 : decode cX6_probeNow 18 = .ok (.getfield 63, 3) := by decide +kernel
theorem dX6_probeNow_21 : decode cX6_probeNow 21 = .ok (.if_icmp .ge 75, 3) := by decide +kernel
theorem dX6_probeNow_96 : decode cX6_probeNow 96 = .ok (.iload_n 2, 1) := by decide +kernel
theorem dX6_probeNow_97 : decode cX6_probeNow 97 = .ok (.ireturn, 1) := by decide +kernel
theorem dX6_probe_0 : decode cX6_probe 0 = .ok (.aload_n 0, 1) := by decide +kernel
theorem dX6_probe_1 : decode cX6_probe 1 = .ok (.iconst 0, 1) := by decide +kernel
theorem dX6_probe_2 : decode cX6_probe 2 = .ok (.putfield 55, 3) := by decide +kernel
theorem dX6_probe_5 : decode cX6_probe 5 = .ok (.aload_n 0, 1) := by decide +kernel
theorem dX6_probe_6 : decode cX6_probe 6 = .ok (.invokevirtual 317, 3) := by decide +kernel
theorem dX6_probe_9 : decode cX6_probe 9 = .ok (.ireturn, 1) := by decide +kernel
theorem dX6_tell_0 : decode cX6_tell 0 = .ok (.aload_n 0, 1) := by decide +kernel
theorem dX6_tell_1 : decode cX6_tell 1 = .ok (.iconst 0, 1) := by decide +kernel
theorem dX6_tell_2 : decode cX6_tell 2 = .ok (.putfield 55, 3) := by decide +kernel
theorem dX6_tell_5 : decode cX6_tell 5 = .ok (.aload_n 0, 1) := by decide +kernel
theorem dX6_tell_6 : decode cX6_tell 6 = .ok (.invokevirtual 317, 3) := by decide +kernel
theorem dX6_tell_9 : decode cX6_tell 9 = .ok (.istore_n 2, 1) := by decide +kernel
theorem dX6_tell_10 : decode cX6_tell 10 = .ok (.iload_n 2, 1) := by decide +kernel
theorem dX6_tell_11 : decode cX6_tell 11 = .ok (.iconst (-1), 1) := by decide +kernel
theorem dX6_tell_12 : decode cX6_tell 12 = .ok (.if_icmp .ne 9, 3) := by decide +kernel
theorem dX6_tell_15 : decode cX6_tell 15 = .ok (.aload_n 0, 1) := by decide +kernel
theorem dX6_tell_16 : decode cX6_tell 16 = .ok (.iconst 1, 1) := by decide +kernel
theorem dX6_tell_17 : decode cX6_tell 17 = .ok (.invokevirtual 104, 3) := by decide +kernel
theorem dX6_tell_20 : decode cX6_tell 20 = .ok (.ireturn, 1) := by decide +kernel
theorem dX6_culpritNow_0 : decode cX6_culpritNow 0 = .ok (.aload_n 0, 1) := by decide +kernel
theorem dX6_culpritNow_1 : decode cX6_culpritNow 1 = .ok (.getfield 164, 3) := by decide +kernel
theorem dX6_culpritNow_4 : decode cX6_culpritNow 4 = .ok (.invokestatic 149, 3) := by decide +kernel
theorem dX6_culpritNow_7 : decode cX6_culpritNow 7 = .ok (.iconst 1, 1) := by decide +kernel
theorem dX6_culpritNow_8 : decode cX6_culpritNow 8 = .ok (.if_icmp .ne 13, 3) := by decide +kernel
theorem dX6_culpritNow_21 : decode cX6_culpritNow 21 = .ok (.iconst (-1), 1) := by decide +kernel
theorem dX6_culpritNow_22 : decode cX6_culpritNow 22 = .ok (.ireturn, 1) := by decide +kernel
theorem dX6_culprit_0 : decode cX6_culprit 0 = .ok (.aload_n 0, 1) := by decide +kernel
theorem dX6_culprit_1 : decode cX6_culprit 1 = .ok (.iconst 0, 1) := by decide +kernel
theorem dX6_culprit_2 : decode cX6_culprit 2 = .ok (.putfield 55, 3) := by decide +kernel
theorem dX6_culprit_5 : decode cX6_culprit 5 = .ok (.aload_n 0, 1) := by decide +kernel
theorem dX6_culprit_6 : decode cX6_culprit 6 = .ok (.invokevirtual 320, 3) := by decide +kernel
theorem dX6_culprit_9 : decode cX6_culprit 9 = .ok (.ireturn, 1) := by decide +kernel
theorem dX6_wouldMerge_0 : decode cX6_wouldMerge 0 = .ok (.aload_n 0, 1) := by decide +kernel
theorem dX6_wouldMerge_1 : decode cX6_wouldMerge 1 = .ok (.iload_n 1, 1) := by decide +kernel
theorem dX6_wouldMerge_2 : decode cX6_wouldMerge 2 = .ok (.iconst 0, 1) := by decide +kernel
theorem dX6_wouldMerge_3 : decode cX6_wouldMerge 3 = .ok (.invokevirtual 239, 3) := by decide +kernel
theorem dX6_wouldMerge_6 : decode cX6_wouldMerge 6 = .ok (.ifCond .ne 5, 3) := by decide +kernel
theorem dX6_wouldMerge_9 : decode cX6_wouldMerge 9 = .ok (.iconst 0, 1) := by decide +kernel
theorem dX6_wouldMerge_10 : decode cX6_wouldMerge 10 = .ok (.ireturn, 1) := by decide +kernel
theorem dX6_wouldConflict_0 : decode cX6_wouldConflict 0 = .ok (.aload_n 0, 1) := by decide +kernel
theorem dX6_wouldConflict_1 : decode cX6_wouldConflict 1 = .ok (.iload_n 1, 1) := by decide +kernel
theorem dX6_wouldConflict_2 : decode cX6_wouldConflict 2 = .ok (.iconst 0, 1) := by decide +kernel
theorem dX6_wouldConflict_3 : decode cX6_wouldConflict 3 = .ok (.invokevirtual 256, 3) := by decide +kernel
theorem dX6_wouldConflict_6 : decode cX6_wouldConflict 6 = .ok (.ifCond .ne 5, 3) := by decide +kernel
theorem dX6_wouldConflict_9 : decode cX6_wouldConflict 9 = .ok (.iconst 0, 1) := by decide +kernel
theorem dX6_wouldConflict_10 : decode cX6_wouldConflict 10 = .ok (.ireturn, 1) := by decide +kernel
theorem dX6_meanLines_0 : decode cX6_meanLines 0 = .ok (.aload_n 0, 1) := by decide +kernel
theorem dX6_meanLines_1 : decode cX6_meanLines 1 = .ok (.iconst 0, 1) := by decide +kernel
theorem dX6_meanLines_2 : decode cX6_meanLines 2 = .ok (.putfield 55, 3) := by decide +kernel
theorem dX6_meanLines_5 : decode cX6_meanLines 5 = .ok (.iconst 0, 1) := by decide +kernel
theorem dX6_meanLines_6 : decode cX6_meanLines 6 = .ok (.istore_n 1, 1) := by decide +kernel
theorem dX6_meanLines_7 : decode cX6_meanLines 7 = .ok (.iconst 0, 1) := by decide +kernel
theorem dX6_meanLines_8 : decode cX6_meanLines 8 = .ok (.istore_n 2, 1) := by decide +kernel
theorem dX6_meanLines_9 : decode cX6_meanLines 9 = .ok (.iconst 0, 1) := by decide +kernel
theorem dX6_meanLines_10 : decode cX6_meanLines 10 = .ok (.istore_n 3, 1) := by decide +kernel
theorem dX6_meanLines_11 : decode cX6_meanLines 11 = .ok (.iload_n 3, 1) := by decide +kernel
theorem dX6_meanLines_12 : decode cX6_meanLines 12 = .ok (.aload_n 0, 1) := by decide +kernel
theorem dX6_meanLines_13 : decode cX6_meanLines 13 = .ok (.getfield 63, 3) := by decide +kernel
theorem dX6_meanLines_16 : decode cX6_meanLines 16 = .ok (.if_icmp .ge 50, 3) := by decide +kernel
theorem dX6_meanLines_66 : decode cX6_meanLines 66 = .ok (.iload_n 2, 1) := by decide +kernel
theorem dX6_meanLines_67 : decode cX6_meanLines 67 = .ok (.ifCond .ne 7, 3) := by decide +kernel
theorem dX6_meanLines_70 : decode cX6_meanLines 70 = .ok (.dconst 0, 1) := by decide +kernel
theorem dX6_meanLines_71 : decode cX6_meanLines 71 = .ok (.goto 8, 3) := by decide +kernel
theorem dX6_meanLines_79 : decode cX6_meanLines 79 = .ok (.dreturn, 1) := by decide +kernel
theorem dX6_add_0 : decode cX6_add 0 = .ok (.aload_n 0, 1) := by decide +kernel
theorem dX6_add_1 : decode cX6_add 1 = .ok (.aload_n 0, 1) := by decide +kernel
theorem dX6_add_2 : decode cX6_add 2 = .ok (.getfield 323, 3) := by decide +kernel
theorem dX6_add_5 : decode cX6_add 5 = .ok (.ldc2_w 326, 3) := by decide +kernel
theorem dX6_add_8 : decode cX6_add 8 = .ok (.lmul, 1) := by decide +kernel
theorem dX6_add_9 : decode cX6_add 9 = .ok (.iload_n 1, 1) := by decide +kernel
theorem dX6_add_10 : decode cX6_add 10 = .ok (.i2l, 1) := by decide +kernel
theorem dX6_add_11 : decode cX6_add 11 = .ok (.ladd, 1) := by decide +kernel
theorem dX6_add_12 : decode cX6_add 12 = .ok (.putfield 323, 3) := by decide +kernel
theorem dX6_add_15 : decode cX6_add 15 = .ok (.return_, 1) := by decide +kernel
theorem dX6_addTree_0 : decode cX6_addTree 0 = .ok (.aload_n 1, 1) := by decide +kernel
theorem dX6_addTree_1 : decode cX6_addTree 1 = .ok (.astore_n 2, 1) := by decide +kernel
theorem dX6_addTree_2 : decode cX6_addTree 2 = .ok (.aload_n 2, 1) := by decide +kernel
theorem dX6_addTree_3 : decode cX6_addTree 3 = .ok (.arraylength, 1) := by decide +kernel
theorem dX6_addTree_4 : decode cX6_addTree 4 = .ok (.istore_n 3, 1) := by decide +kernel
theorem dX6_addTree_5 : decode cX6_addTree 5 = .ok (.iconst 0, 1) := by decide +kernel
theorem dX6_addTree_6 : decode cX6_addTree 6 = .ok (.istore 4, 2) := by decide +kernel
theorem dX6_addTree_8 : decode cX6_addTree 8 = .ok (.iload 4, 2) := by decide +kernel
theorem dX6_addTree_10 : decode cX6_addTree 10 = .ok (.iload_n 3, 1) := by decide +kernel
theorem dX6_addTree_11 : decode cX6_addTree 11 = .ok (.if_icmp .ge 67, 3) := by decide +kernel
theorem dX6_addTree_14 : decode cX6_addTree 14 = .ok (.aload_n 2, 1) := by decide +kernel
theorem dX6_addTree_15 : decode cX6_addTree 15 = .ok (.iload 4, 2) := by decide +kernel
theorem dX6_addTree_17 : decode cX6_addTree 17 = .ok (.aaload, 1) := by decide +kernel
theorem dX6_addTree_18 : decode cX6_addTree 18 = .ok (.astore 5, 2) := by decide +kernel
theorem dX6_addTree_20 : decode cX6_addTree 20 = .ok (.aload_n 0, 1) := by decide +kernel
theorem dX6_addTree_21 : decode cX6_addTree 21 = .ok (.aload 5, 2) := by decide +kernel
theorem dX6_addTree_23 : decode cX6_addTree 23 = .ok (.invokestatic 288, 3) := by decide +kernel
theorem dX6_addTree_26 : decode cX6_addTree 26 = .ok (.invokevirtual 328, 3) := by decide +kernel
theorem dX6_addTree_29 : decode cX6_addTree 29 = .ok (.aload 5, 2) := by decide +kernel
theorem dX6_addTree_31 : decode cX6_addTree 31 = .ok (.ifnull 41, 3) := by decide +kernel
theorem dX6_addTree_72 : decode cX6_addTree 72 = .ok (.iinc 4 1, 3) := by decide +kernel
theorem dX6_addTree_75 : decode cX6_addTree 75 = .ok (.goto (-67), 3) := by decide +kernel
theorem dX6_addTree_78 : decode cX6_addTree 78 = .ok (.return_, 1) := by decide +kernel
theorem dX6_digest_0 : decode cX6_digest 0 = .ok (.aload_n 0, 1) := by decide +kernel
theorem dX6_digest_1 : decode cX6_digest 1 = .ok (.ldc2_w 332, 3) := by decide +kernel
theorem dX6_digest_4 : decode cX6_digest 4 = .ok (.putfield 323, 3) := by decide +kernel
theorem dX6_digest_7 : decode cX6_digest 7 = .ok (.bipush 9, 2) := by decide +kernel
theorem dX6_digest_9 : decode cX6_digest 9 = .ok (.newarray .int, 2) := by decide +kernel
theorem dX6_digest_11 : decode cX6_digest 11 = .ok (.dup, 1) := by decide +kernel
theorem dX6_digest_12 : decode cX6_digest 12 = .ok (.iconst 0, 1) := by decide +kernel
theorem dX6_digest_13 : decode cX6_digest 13 = .ok (.aload_n 0, 1) := by decide +kernel
theorem dX6_digest_14 : decode cX6_digest 14 = .ok (.getfield 63, 3) := by decide +kernel
theorem dX6_digest_17 : decode cX6_digest 17 = .ok (.iastore, 1) := by decide +kernel
theorem dX6_digest_18 : decode cX6_digest 18 = .ok (.dup, 1) := by decide +kernel
theorem dX6_digest_19 : decode cX6_digest 19 = .ok (.iconst 1, 1) := by decide +kernel
theorem dX6_digest_20 : decode cX6_digest 20 = .ok (.aload_n 0, 1) := by decide +kernel
theorem dX6_digest_21 : decode cX6_digest 21 = .ok (.getfield 78, 3) := by decide +kernel
theorem dX6_digest_24 : decode cX6_digest 24 = .ok (.iastore, 1) := by decide +kernel
theorem dX6_digest_25 : decode cX6_digest 25 = .ok (.dup, 1) := by decide +kernel
theorem dX6_digest_26 : decode cX6_digest 26 = .ok (.iconst 2, 1) := by decide +kernel
theorem dX6_digest_27 : decode cX6_digest 27 = .ok (.aload_n 0, 1) := by decide +kernel
theorem dX6_digest_28 : decode cX6_digest 28 = .ok (.invokevirtual 132, 3) := by decide +kernel
theorem dX6_digest_31 : decode cX6_digest 31 = .ok (.ifCond .eq 7, 3) := by decide +kernel
theorem dX6_digest_34 : decode cX6_digest 34 = .ok (.iconst 1, 1) := by decide +kernel
theorem dX6_digest_35 : decode cX6_digest 35 = .ok (.goto 4, 3) := by decide +kernel
theorem dX6_digest_39 : decode cX6_digest 39 = .ok (.iastore, 1) := by decide +kernel
theorem dX6_digest_40 : decode cX6_digest 40 = .ok (.dup, 1) := by decide +kernel
theorem dX6_digest_41 : decode cX6_digest 41 = .ok (.iconst 3, 1) := by decide +kernel
theorem dX6_digest_42 : decode cX6_digest 42 = .ok (.aload_n 0, 1) := by decide +kernel
theorem dX6_digest_43 : decode cX6_digest 43 = .ok (.getfield 108, 3) := by decide +kernel
theorem dX6_digest_46 : decode cX6_digest 46 = .ok (.iastore, 1) := by decide +kernel
theorem dX6_digest_47 : decode cX6_digest 47 = .ok (.dup, 1) := by decide +kernel
theorem dX6_digest_48 : decode cX6_digest 48 = .ok (.iconst 4, 1) := by decide +kernel
theorem dX6_digest_49 : decode cX6_digest 49 = .ok (.aload_n 0, 1) := by decide +kernel
theorem dX6_digest_50 : decode cX6_digest 50 = .ok (.getfield 37, 3) := by decide +kernel
theorem dX6_digest_53 : decode cX6_digest 53 = .ok (.arraylength, 1) := by decide +kernel
theorem dX6_digest_54 : decode cX6_digest 54 = .ok (.iastore, 1) := by decide +kernel
theorem dX6_digest_55 : decode cX6_digest 55 = .ok (.dup, 1) := by decide +kernel
theorem dX6_digest_56 : decode cX6_digest 56 = .ok (.iconst 5, 1) := by decide +kernel
theorem dX6_digest_57 : decode cX6_digest 57 = .ok (.aload_n 0, 1) := by decide +kernel
theorem dX6_digest_58 : decode cX6_digest 58 = .ok (.invokevirtual 276, 3) := by decide +kernel
theorem dX6_digest_61 : decode cX6_digest 61 = .ok (.iastore, 1) := by decide +kernel
theorem dX6_digest_62 : decode cX6_digest 62 = .ok (.dup, 1) := by decide +kernel
theorem dX6_digest_63 : decode cX6_digest 63 = .ok (.bipush 6, 2) := by decide +kernel
theorem dX6_digest_65 : decode cX6_digest 65 = .ok (.aload_n 0, 1) := by decide +kernel
theorem dX6_digest_66 : decode cX6_digest 66 = .ok (.invokevirtual 279, 3) := by decide +kernel
theorem dX6_digest_69 : decode cX6_digest 69 = .ok (.iastore, 1) := by decide +kernel
theorem dX6_digest_70 : decode cX6_digest 70 = .ok (.dup, 1) := by decide +kernel
theorem dX6_digest_71 : decode cX6_digest 71 = .ok (.bipush 7, 2) := by decide +kernel
theorem dX6_digest_73 : decode cX6_digest 73 = .ok (.aload_n 0, 1) := by decide +kernel
theorem dX6_digest_74 : decode cX6_digest 74 = .ok (.invokevirtual 317, 3) := by decide +kernel
theorem dX6_digest_77 : decode cX6_digest 77 = .ok (.iastore, 1) := by decide +kernel
theorem dX6_digest_78 : decode cX6_digest 78 = .ok (.dup, 1) := by decide +kernel
theorem dX6_digest_79 : decode cX6_digest 79 = .ok (.bipush 8, 2) := by decide +kernel
theorem dX6_digest_81 : decode cX6_digest 81 = .ok (.aload_n 0, 1) := by decide +kernel
theorem dX6_digest_82 : decode cX6_digest 82 = .ok (.invokevirtual 320, 3) := by decide +kernel
theorem dX6_digest_85 : decode cX6_digest 85 = .ok (.iastore, 1) := by decide +kernel
theorem dX6_digest_86 : decode cX6_digest 86 = .ok (.astore_n 1, 1) := by decide +kernel
theorem dX6_digest_87 : decode cX6_digest 87 = .ok (.aload_n 1, 1) := by decide +kernel
theorem dX6_digest_88 : decode cX6_digest 88 = .ok (.astore_n 2, 1) := by decide +kernel
theorem dX6_digest_89 : decode cX6_digest 89 = .ok (.aload_n 2, 1) := by decide +kernel
theorem dX6_digest_90 : decode cX6_digest 90 = .ok (.arraylength, 1) := by decide +kernel
theorem dX6_digest_91 : decode cX6_digest 91 = .ok (.istore_n 3, 1) := by decide +kernel
theorem dX6_digest_92 : decode cX6_digest 92 = .ok (.iconst 0, 1) := by decide +kernel
theorem dX6_digest_93 : decode cX6_digest 93 = .ok (.istore 4, 2) := by decide +kernel
theorem dX6_digest_95 : decode cX6_digest 95 = .ok (.iload 4, 2) := by decide +kernel
theorem dX6_digest_97 : decode cX6_digest 97 = .ok (.iload_n 3, 1) := by decide +kernel
theorem dX6_digest_98 : decode cX6_digest 98 = .ok (.if_icmp .ge 21, 3) := by decide +kernel
theorem dX6_digest_101 : decode cX6_digest 101 = .ok (.aload_n 2, 1) := by decide +kernel
theorem dX6_digest_102 : decode cX6_digest 102 = .ok (.iload 4, 2) := by decide +kernel
theorem dX6_digest_104 : decode cX6_digest 104 = .ok (.iaload, 1) := by decide +kernel
theorem dX6_digest_105 : decode cX6_digest 105 = .ok (.istore 5, 2) := by decide +kernel
theorem dX6_digest_107 : decode cX6_digest 107 = .ok (.aload_n 0, 1) := by decide +kernel
theorem dX6_digest_108 : decode cX6_digest 108 = .ok (.iload 5, 2) := by decide +kernel
theorem dX6_digest_110 : decode cX6_digest 110 = .ok (.invokevirtual 328, 3) := by decide +kernel
theorem dX6_digest_113 : decode cX6_digest 113 = .ok (.iinc 4 1, 3) := by decide +kernel
theorem dX6_digest_116 : decode cX6_digest 116 = .ok (.goto (-21), 3) := by decide +kernel
theorem dX6_digest_119 : decode cX6_digest 119 = .ok (.iconst 0, 1) := by decide +kernel
theorem dX6_digest_120 : decode cX6_digest 120 = .ok (.istore_n 2, 1) := by decide +kernel
theorem dX6_digest_121 : decode cX6_digest 121 = .ok (.iload_n 2, 1) := by decide +kernel
theorem dX6_digest_122 : decode cX6_digest 122 = .ok (.bipush 8, 2) := by decide +kernel
theorem dX6_digest_124 : decode cX6_digest 124 = .ok (.if_icmp .ge 33, 3) := by decide +kernel
theorem dX6_digest_127 : decode cX6_digest 127 = .ok (.aload_n 0, 1) := by decide +kernel
theorem dX6_digest_128 : decode cX6_digest 128 = .ok (.aload_n 0, 1) := by decide +kernel
theorem dX6_digest_129 : decode cX6_digest 129 = .ok (.getfield 30, 3) := by decide +kernel
theorem dX6_digest_132 : decode cX6_digest 132 = .ok (.iload_n 2, 1) := by decide +kernel
theorem dX6_digest_133 : decode cX6_digest 133 = .ok (.baload, 1) := by decide +kernel
theorem dX6_digest_134 : decode cX6_digest 134 = .ok (.ifCond .eq 12, 3) := by decide +kernel
theorem dX6_digest_137 : decode cX6_digest 137 = .ok (.aload_n 0, 1) := by decide +kernel
theorem dX6_digest_138 : decode cX6_digest 138 = .ok (.getfield 34, 3) := by decide +kernel
theorem dX6_digest_141 : decode cX6_digest 141 = .ok (.iload_n 2, 1) := by decide +kernel
theorem dX6_digest_142 : decode cX6_digest 142 = .ok (.iaload, 1) := by decide +kernel
theorem dX6_digest_143 : decode cX6_digest 143 = .ok (.goto 5, 3) := by decide +kernel
theorem dX6_digest_146 : decode cX6_digest 146 = .ok (.bipush (-2), 2) := by decide +kernel
theorem dX6_digest_148 : decode cX6_digest 148 = .ok (.invokevirtual 328, 3) := by decide +kernel
theorem dX6_digest_151 : decode cX6_digest 151 = .ok (.iinc 2 1, 3) := by decide +kernel
theorem dX6_digest_154 : decode cX6_digest 154 = .ok (.goto (-33), 3) := by decide +kernel
theorem dX6_digest_157 : decode cX6_digest 157 = .ok (.aload_n 0, 1) := by decide +kernel
theorem dX6_digest_158 : decode cX6_digest 158 = .ok (.invokevirtual 143, 3) := by decide +kernel
theorem dX6_digest_161 : decode cX6_digest 161 = .ok (.lstore_n 2, 1) := by decide +kernel
theorem dX6_digest_162 : decode cX6_digest 162 = .ok (.iconst 0, 1) := by decide +kernel
theorem dX6_digest_163 : decode cX6_digest 163 = .ok (.istore 4, 2) := by decide +kernel
theorem dX6_digest_165 : decode cX6_digest 165 = .ok (.iload 4, 2) := by decide +kernel
theorem dX6_digest_167 : decode cX6_digest 167 = .ok (.aload_n 0, 1) := by decide +kernel
theorem dX6_digest_168 : decode cX6_digest 168 = .ok (.getfield 63, 3) := by decide +kernel
theorem dX6_digest_171 : decode cX6_digest 171 = .ok (.if_icmp .ge 153, 3) := by decide +kernel
theorem dX6_digest_324 : decode cX6_digest 324 = .ok (.aload_n 0, 1) := by decide +kernel
theorem dX6_digest_325 : decode cX6_digest 325 = .ok (.aload_n 0, 1) := by decide +kernel
theorem dX6_digest_326 : decode cX6_digest 326 = .ok (.getfield 11, 3) := by decide +kernel
theorem dX6_digest_329 : decode cX6_digest 329 = .ok (.invokevirtual 334, 3) := by decide +kernel
theorem dX6_digest_332 : decode cX6_digest 332 = .ok (.iconst 0, 1) := by decide +kernel
theorem dX6_digest_333 : decode cX6_digest 333 = .ok (.istore 4, 2) := by decide +kernel
theorem dX6_digest_335 : decode cX6_digest 335 = .ok (.iload 4, 2) := by decide +kernel
theorem dX6_digest_337 : decode cX6_digest 337 = .ok (.aload_n 0, 1) := by decide +kernel
theorem dX6_digest_338 : decode cX6_digest 338 = .ok (.getfield 37, 3) := by decide +kernel
theorem dX6_digest_341 : decode cX6_digest 341 = .ok (.arraylength, 1) := by decide +kernel
theorem dX6_digest_342 : decode cX6_digest 342 = .ok (.if_icmp .ge 64, 3) := by decide +kernel
theorem dX6_digest_406 : decode cX6_digest 406 = .ok (.aload_n 0, 1) := by decide +kernel
theorem dX6_digest_407 : decode cX6_digest 407 = .ok (.iconst 0, 1) := by decide +kernel
theorem dX6_digest_408 : decode cX6_digest 408 = .ok (.putfield 55, 3) := by decide +kernel
theorem dX6_digest_411 : decode cX6_digest 411 = .ok (.aload_n 0, 1) := by decide +kernel
theorem dX6_digest_412 : decode cX6_digest 412 = .ok (.getfield 323, 3) := by decide +kernel
theorem dX6_digest_415 : decode cX6_digest 415 = .ok (.lreturn, 1) := by decide +kernel
theorem dJ13_bitCount_95d88_0 : decode cJ13_bitCount_95d88 0 = .ok (.lload_n 0, 1) := by decide +kernel
theorem dJ13_bitCount_95d88_1 : decode cJ13_bitCount_95d88 1 = .ok (.lload_n 0, 1) := by decide +kernel
theorem dJ13_bitCount_95d88_2 : decode cJ13_bitCount_95d88 2 = .ok (.iconst 1, 1) := by decide +kernel
theorem dJ13_bitCount_95d88_3 : decode cJ13_bitCount_95d88 3 = .ok (.lushr, 1) := by decide +kernel
theorem dJ13_bitCount_95d88_4 : decode cJ13_bitCount_95d88 4 = .ok (.ldc2_w 314, 3) := by decide +kernel
theorem dJ13_bitCount_95d88_7 : decode cJ13_bitCount_95d88 7 = .ok (.land, 1) := by decide +kernel
theorem dJ13_bitCount_95d88_8 : decode cJ13_bitCount_95d88 8 = .ok (.lsub, 1) := by decide +kernel
theorem dJ13_bitCount_95d88_9 : decode cJ13_bitCount_95d88 9 = .ok (.lstore_n 0, 1) := by decide +kernel
theorem dJ13_bitCount_95d88_10 : decode cJ13_bitCount_95d88 10 = .ok (.lload_n 0, 1) := by decide +kernel
theorem dJ13_bitCount_95d88_11 : decode cJ13_bitCount_95d88 11 = .ok (.ldc2_w 316, 3) := by decide +kernel
theorem dJ13_bitCount_95d88_14 : decode cJ13_bitCount_95d88 14 = .ok (.land, 1) := by decide +kernel
theorem dJ13_bitCount_95d88_15 : decode cJ13_bitCount_95d88 15 = .ok (.lload_n 0, 1) := by decide +kernel
theorem dJ13_bitCount_95d88_16 : decode cJ13_bitCount_95d88 16 = .ok (.iconst 2, 1) := by decide +kernel
theorem dJ13_bitCount_95d88_17 : decode cJ13_bitCount_95d88 17 = .ok (.lushr, 1) := by decide +kernel
theorem dJ13_bitCount_95d88_18 : decode cJ13_bitCount_95d88 18 = .ok (.ldc2_w 316, 3) := by decide +kernel
theorem dJ13_bitCount_95d88_21 : decode cJ13_bitCount_95d88 21 = .ok (.land, 1) := by decide +kernel
theorem dJ13_bitCount_95d88_22 : decode cJ13_bitCount_95d88 22 = .ok (.ladd, 1) := by decide +kernel
theorem dJ13_bitCount_95d88_23 : decode cJ13_bitCount_95d88 23 = .ok (.lstore_n 0, 1) := by decide +kernel
theorem dJ13_bitCount_95d88_24 : decode cJ13_bitCount_95d88 24 = .ok (.lload_n 0, 1) := by decide +kernel
theorem dJ13_bitCount_95d88_25 : decode cJ13_bitCount_95d88 25 = .ok (.lload_n 0, 1) := by decide +kernel
theorem dJ13_bitCount_95d88_26 : decode cJ13_bitCount_95d88 26 = .ok (.iconst 4, 1) := by decide +kernel
theorem dJ13_bitCount_95d88_27 : decode cJ13_bitCount_95d88 27 = .ok (.lushr, 1) := by decide +kernel
theorem dJ13_bitCount_95d88_28 : decode cJ13_bitCount_95d88 28 = .ok (.ladd, 1) := by decide +kernel
theorem dJ13_bitCount_95d88_29 : decode cJ13_bitCount_95d88 29 = .ok (.ldc2_w 318, 3) := by decide +kernel
theorem dJ13_bitCount_95d88_32 : decode cJ13_bitCount_95d88 32 = .ok (.land, 1) := by decide +kernel
theorem dJ13_bitCount_95d88_33 : decode cJ13_bitCount_95d88 33 = .ok (.lstore_n 0, 1) := by decide +kernel
theorem dJ13_bitCount_95d88_34 : decode cJ13_bitCount_95d88 34 = .ok (.lload_n 0, 1) := by decide +kernel
theorem dJ13_bitCount_95d88_35 : decode cJ13_bitCount_95d88 35 = .ok (.lload_n 0, 1) := by decide +kernel
theorem dJ13_bitCount_95d88_36 : decode cJ13_bitCount_95d88 36 = .ok (.bipush 8, 2) := by decide +kernel
theorem dJ13_bitCount_95d88_38 : decode cJ13_bitCount_95d88 38 = .ok (.lushr, 1) := by decide +kernel
theorem dJ13_bitCount_95d88_39 : decode cJ13_bitCount_95d88 39 = .ok (.ladd, 1) := by decide +kernel
theorem dJ13_bitCount_95d88_40 : decode cJ13_bitCount_95d88 40 = .ok (.lstore_n 0, 1) := by decide +kernel
theorem dJ13_bitCount_95d88_41 : decode cJ13_bitCount_95d88 41 = .ok (.lload_n 0, 1) := by decide +kernel
theorem dJ13_bitCount_95d88_42 : decode cJ13_bitCount_95d88 42 = .ok (.lload_n 0, 1) := by decide +kernel
theorem dJ13_bitCount_95d88_43 : decode cJ13_bitCount_95d88 43 = .ok (.bipush 16, 2) := by decide +kernel
theorem dJ13_bitCount_95d88_45 : decode cJ13_bitCount_95d88 45 = .ok (.lushr, 1) := by decide +kernel
theorem dJ13_bitCount_95d88_46 : decode cJ13_bitCount_95d88 46 = .ok (.ladd, 1) := by decide +kernel
theorem dJ13_bitCount_95d88_47 : decode cJ13_bitCount_95d88 47 = .ok (.lstore_n 0, 1) := by decide +kernel
theorem dJ13_bitCount_95d88_48 : decode cJ13_bitCount_95d88 48 = .ok (.lload_n 0, 1) := by decide +kernel
theorem dJ13_bitCount_95d88_49 : decode cJ13_bitCount_95d88 49 = .ok (.lload_n 0, 1) := by decide +kernel
theorem dJ13_bitCount_95d88_50 : decode cJ13_bitCount_95d88 50 = .ok (.bipush 32, 2) := by decide +kernel
theorem dJ13_bitCount_95d88_52 : decode cJ13_bitCount_95d88 52 = .ok (.lushr, 1) := by decide +kernel
theorem dJ13_bitCount_95d88_53 : decode cJ13_bitCount_95d88 53 = .ok (.ladd, 1) := by decide +kernel
theorem dJ13_bitCount_95d88_54 : decode cJ13_bitCount_95d88 54 = .ok (.lstore_n 0, 1) := by decide +kernel
theorem dJ13_bitCount_95d88_55 : decode cJ13_bitCount_95d88 55 = .ok (.lload_n 0, 1) := by decide +kernel
theorem dJ13_bitCount_95d88_56 : decode cJ13_bitCount_95d88 56 = .ok (.l2i, 1) := by decide +kernel
theorem dJ13_bitCount_95d88_57 : decode cJ13_bitCount_95d88 57 = .ok (.bipush 127, 2) := by decide +kernel
theorem dJ13_bitCount_95d88_59 : decode cJ13_bitCount_95d88 59 = .ok (.iand, 1) := by decide +kernel
theorem dJ13_bitCount_95d88_60 : decode cJ13_bitCount_95d88 60 = .ok (.ireturn, 1) := by decide +kernel
theorem dJ7_equals_bbcde_0 : decode cJ7_equals_bbcde 0 = .ok (.aload_n 0, 1) := by decide +kernel
theorem dJ7_equals_bbcde_1 : decode cJ7_equals_bbcde 1 = .ok (.aload_n 1, 1) := by decide +kernel
theorem dJ7_equals_bbcde_2 : decode cJ7_equals_bbcde 2 = .ok (.if_acmp .ne 5, 3) := by decide +kernel
theorem dJ7_equals_bbcde_5 : decode cJ7_equals_bbcde 5 = .ok (.iconst 1, 1) := by decide +kernel
theorem dJ7_equals_bbcde_6 : decode cJ7_equals_bbcde 6 = .ok (.ireturn, 1) := by decide +kernel
theorem dJ7_fill_53178_0 : decode cJ7_fill_53178 0 = .ok (.iconst 0, 1) := by decide +kernel
theorem dJ7_fill_53178_1 : decode cJ7_fill_53178 1 = .ok (.istore_n 2, 1) := by decide +kernel
theorem dJ7_fill_53178_2 : decode cJ7_fill_53178 2 = .ok (.aload_n 0, 1) := by decide +kernel
theorem dJ7_fill_53178_3 : decode cJ7_fill_53178 3 = .ok (.arraylength, 1) := by decide +kernel
theorem dJ7_fill_53178_4 : decode cJ7_fill_53178 4 = .ok (.istore_n 3, 1) := by decide +kernel
theorem dJ7_fill_53178_5 : decode cJ7_fill_53178 5 = .ok (.iload_n 2, 1) := by decide +kernel
theorem dJ7_fill_53178_6 : decode cJ7_fill_53178 6 = .ok (.iload_n 3, 1) := by decide +kernel
theorem dJ7_fill_53178_7 : decode cJ7_fill_53178 7 = .ok (.if_icmp .ge 13, 3) := by decide +kernel
theorem dJ7_fill_53178_10 : decode cJ7_fill_53178 10 = .ok (.aload_n 0, 1) := by decide +kernel
theorem dJ7_fill_53178_11 : decode cJ7_fill_53178 11 = .ok (.iload_n 2, 1) := by decide +kernel
theorem dJ7_fill_53178_12 : decode cJ7_fill_53178 12 = .ok (.iload_n 1, 1) := by decide +kernel
theorem dJ7_fill_53178_13 : decode cJ7_fill_53178 13 = .ok (.iastore, 1) := by decide +kernel
theorem dJ7_fill_53178_14 : decode cJ7_fill_53178 14 = .ok (.iinc 2 1, 3) := by decide +kernel
theorem dJ7_fill_53178_17 : decode cJ7_fill_53178 17 = .ok (.goto (-12), 3) := by decide +kernel
theorem dJ7_fill_53178_20 : decode cJ7_fill_53178 20 = .ok (.return_, 1) := by decide +kernel
theorem dL_create_0 : decode cL_create 0 = .ok (.aload_n 2, 1) := by decide +kernel
theorem dL_create_1 : decode cL_create 1 = .ok (.iconst 0, 1) := by decide +kernel
theorem dL_create_2 : decode cL_create 2 = .ok (.aload_n 0, 1) := by decide +kernel
theorem dL_create_3 : decode cL_create 3 = .ok (.iload_n 1, 1) := by decide +kernel
theorem dL_create_4 : decode cL_create 4 = .ok (.invokevirtual 7, 3) := by decide +kernel
theorem dL_create_7 : decode cL_create 7 = .ok (.i2l, 1) := by decide +kernel
theorem dL_create_8 : decode cL_create 8 = .ok (.lastore, 1) := by decide +kernel
theorem dL_create_9 : decode cL_create 9 = .ok (.goto 9, 3) := by decide +kernel
theorem dL_create_12 : decode cL_create 12 = .ok (.astore_n 3, 1) := by decide +kernel
theorem dL_create_13 : decode cL_create 13 = .ok (.iconst 1, 1) := by decide +kernel
theorem dL_create_14 : decode cL_create 14 = .ok (.ireturn, 1) := by decide +kernel
theorem dL_create_18 : decode cL_create 18 = .ok (.iconst 0, 1) := by decide +kernel
theorem dL_create_19 : decode cL_create 19 = .ok (.ireturn, 1) := by decide +kernel
theorem dL_delete_0 : decode cL_delete 0 = .ok (.aload_n 2, 1) := by decide +kernel
theorem dL_delete_1 : decode cL_delete 1 = .ok (.iconst 0, 1) := by decide +kernel
theorem dL_delete_2 : decode cL_delete 2 = .ok (.aload_n 0, 1) := by decide +kernel
theorem dL_delete_3 : decode cL_delete 3 = .ok (.iload_n 1, 1) := by decide +kernel
theorem dL_delete_4 : decode cL_delete 4 = .ok (.invokevirtual 17, 3) := by decide +kernel
theorem dL_delete_12 : decode cL_delete 12 = .ok (.astore_n 3, 1) := by decide +kernel
theorem dL_delete_13 : decode cL_delete 13 = .ok (.iconst 1, 1) := by decide +kernel
theorem dL_delete_14 : decode cL_delete 14 = .ok (.ireturn, 1) := by decide +kernel
theorem dL_delete_15 : decode cL_delete 15 = .ok (.astore_n 3, 1) := by decide +kernel
theorem dL_delete_16 : decode cL_delete 16 = .ok (.iconst 2, 1) := by decide +kernel
theorem dL_delete_17 : decode cL_delete 17 = .ok (.ireturn, 1) := by decide +kernel
theorem dL_insert_0 : decode cL_insert 0 = .ok (.aload 4, 2) := by decide +kernel
theorem dL_insert_2 : decode cL_insert 2 = .ok (.iconst 0, 1) := by decide +kernel
theorem dL_insert_3 : decode cL_insert 3 = .ok (.aload_n 0, 1) := by decide +kernel
theorem dL_insert_4 : decode cL_insert 4 = .ok (.iload_n 1, 1) := by decide +kernel
theorem dL_insert_5 : decode cL_insert 5 = .ok (.iload_n 2, 1) := by decide +kernel
theorem dL_insert_6 : decode cL_insert 6 = .ok (.iload_n 3, 1) := by decide +kernel
theorem dL_insert_7 : decode cL_insert 7 = .ok (.invokevirtual 20, 3) := by decide +kernel
theorem dL_insert_15 : decode cL_insert 15 = .ok (.astore 5, 2) := by decide +kernel
theorem dL_insert_17 : decode cL_insert 17 = .ok (.iconst 1, 1) := by decide +kernel
theorem dL_insert_18 : decode cL_insert 18 = .ok (.ireturn, 1) := by decide +kernel
theorem dL_insert_19 : decode cL_insert 19 = .ok (.astore 5, 2) := by decide +kernel
theorem dL_insert_21 : decode cL_insert 21 = .ok (.iconst 2, 1) := by decide +kernel
theorem dL_insert_22 : decode cL_insert 22 = .ok (.ireturn, 1) := by decide +kernel
theorem dL_insert_23 : decode cL_insert 23 = .ok (.astore 5, 2) := by decide +kernel
theorem dL_insert_25 : decode cL_insert 25 = .ok (.iconst 3, 1) := by decide +kernel
theorem dL_insert_26 : decode cL_insert 26 = .ok (.ireturn, 1) := by decide +kernel
theorem dL_erase_0 : decode cL_erase 0 = .ok (.aload_n 3, 1) := by decide +kernel
theorem dL_erase_1 : decode cL_erase 1 = .ok (.iconst 0, 1) := by decide +kernel
theorem dL_erase_2 : decode cL_erase 2 = .ok (.aload_n 0, 1) := by decide +kernel
theorem dL_erase_3 : decode cL_erase 3 = .ok (.iload_n 1, 1) := by decide +kernel
theorem dL_erase_4 : decode cL_erase 4 = .ok (.iload_n 2, 1) := by decide +kernel
theorem dL_erase_5 : decode cL_erase 5 = .ok (.invokevirtual 26, 3) := by decide +kernel
theorem dL_erase_13 : decode cL_erase 13 = .ok (.astore 4, 2) := by decide +kernel
theorem dL_erase_15 : decode cL_erase 15 = .ok (.iconst 1, 1) := by decide +kernel
theorem dL_erase_16 : decode cL_erase 16 = .ok (.ireturn, 1) := by decide +kernel
theorem dL_erase_17 : decode cL_erase 17 = .ok (.astore 4, 2) := by decide +kernel
theorem dL_erase_19 : decode cL_erase 19 = .ok (.iconst 2, 1) := by decide +kernel
theorem dL_erase_20 : decode cL_erase 20 = .ok (.ireturn, 1) := by decide +kernel
theorem dL_replace_0 : decode cL_replace 0 = .ok (.aload 4, 2) := by decide +kernel
theorem dL_replace_2 : decode cL_replace 2 = .ok (.iconst 0, 1) := by decide +kernel
theorem dL_replace_3 : decode cL_replace 3 = .ok (.aload_n 0, 1) := by decide +kernel
theorem dL_replace_4 : decode cL_replace 4 = .ok (.iload_n 1, 1) := by decide +kernel
theorem dL_replace_5 : decode cL_replace 5 = .ok (.iload_n 2, 1) := by decide +kernel
theorem dL_replace_6 : decode cL_replace 6 = .ok (.iload_n 3, 1) := by decide +kernel
theorem dL_replace_7 : decode cL_replace 7 = .ok (.invokevirtual 30, 3) := by decide +kernel
theorem dL_replace_15 : decode cL_replace 15 = .ok (.astore 5, 2) := by decide +kernel
theorem dL_replace_17 : decode cL_replace 17 = .ok (.iconst 1, 1) := by decide +kernel
theorem dL_replace_18 : decode cL_replace 18 = .ok (.ireturn, 1) := by decide +kernel
theorem dL_replace_19 : decode cL_replace 19 = .ok (.astore 5, 2) := by decide +kernel
theorem dL_replace_21 : decode cL_replace 21 = .ok (.iconst 2, 1) := by decide +kernel
theorem dL_replace_22 : decode cL_replace 22 = .ok (.ireturn, 1) := by decide +kernel
theorem dL_replace_23 : decode cL_replace 23 = .ok (.astore 5, 2) := by decide +kernel
theorem dL_replace_25 : decode cL_replace 25 = .ok (.iconst 3, 1) := by decide +kernel
theorem dL_replace_26 : decode cL_replace 26 = .ok (.ireturn, 1) := by decide +kernel
theorem dL_discard_0 : decode cL_discard 0 = .ok (.aload_n 1, 1) := by decide +kernel
theorem dL_discard_1 : decode cL_discard 1 = .ok (.iconst 0, 1) := by decide +kernel
theorem dL_discard_2 : decode cL_discard 2 = .ok (.aload_n 0, 1) := by decide +kernel
theorem dL_discard_3 : decode cL_discard 3 = .ok (.invokevirtual 33, 3) := by decide +kernel
theorem dL_discard_6 : decode cL_discard 6 = .ok (.i2l, 1) := by decide +kernel
theorem dL_discard_7 : decode cL_discard 7 = .ok (.lastore, 1) := by decide +kernel
theorem dL_discard_8 : decode cL_discard 8 = .ok (.goto 6, 3) := by decide +kernel
theorem dL_discard_14 : decode cL_discard 14 = .ok (.iconst 0, 1) := by decide +kernel
theorem dL_discard_15 : decode cL_discard 15 = .ok (.ireturn, 1) := by decide +kernel
theorem dL_commit_0 : decode cL_commit 0 = .ok (.aload_n 2, 1) := by decide +kernel
theorem dL_commit_1 : decode cL_commit 1 = .ok (.iconst 0, 1) := by decide +kernel
theorem dL_commit_2 : decode cL_commit 2 = .ok (.aload_n 0, 1) := by decide +kernel
theorem dL_commit_3 : decode cL_commit 3 = .ok (.iload_n 1, 1) := by decide +kernel
theorem dL_commit_4 : decode cL_commit 4 = .ok (.invokevirtual 37, 3) := by decide +kernel
theorem dL_commit_12 : decode cL_commit 12 = .ok (.astore_n 3, 1) := by decide +kernel
theorem dL_commit_13 : decode cL_commit 13 = .ok (.iconst 1, 1) := by decide +kernel
theorem dL_commit_14 : decode cL_commit 14 = .ok (.ireturn, 1) := by decide +kernel
theorem dL_commit_15 : decode cL_commit 15 = .ok (.astore_n 3, 1) := by decide +kernel
theorem dL_commit_16 : decode cL_commit 16 = .ok (.iconst 2, 1) := by decide +kernel
theorem dL_commit_17 : decode cL_commit 17 = .ok (.ireturn, 1) := by decide +kernel
theorem dL_branch_0 : decode cL_branch 0 = .ok (.aload_n 2, 1) := by decide +kernel
theorem dL_branch_1 : decode cL_branch 1 = .ok (.iconst 0, 1) := by decide +kernel
theorem dL_branch_2 : decode cL_branch 2 = .ok (.aload_n 0, 1) := by decide +kernel
theorem dL_branch_3 : decode cL_branch 3 = .ok (.iload_n 1, 1) := by decide +kernel
theorem dL_branch_4 : decode cL_branch 4 = .ok (.invokevirtual 40, 3) := by decide +kernel
theorem dL_branch_12 : decode cL_branch 12 = .ok (.astore_n 3, 1) := by decide +kernel
theorem dL_branch_13 : decode cL_branch 13 = .ok (.iconst 1, 1) := by decide +kernel
theorem dL_branch_14 : decode cL_branch 14 = .ok (.ireturn, 1) := by decide +kernel
theorem dL_branch_15 : decode cL_branch 15 = .ok (.astore_n 3, 1) := by decide +kernel
theorem dL_branch_16 : decode cL_branch 16 = .ok (.iconst 2, 1) := by decide +kernel
theorem dL_branch_17 : decode cL_branch 17 = .ok (.ireturn, 1) := by decide +kernel
theorem dL_go_0 : decode cL_go 0 = .ok (.aload_n 2, 1) := by decide +kernel
theorem dL_go_1 : decode cL_go 1 = .ok (.iconst 0, 1) := by decide +kernel
theorem dL_go_2 : decode cL_go 2 = .ok (.aload_n 0, 1) := by decide +kernel
theorem dL_go_3 : decode cL_go 3 = .ok (.iload_n 1, 1) := by decide +kernel
theorem dL_go_4 : decode cL_go 4 = .ok (.invokevirtual 43, 3) := by decide +kernel
theorem dL_go_7 : decode cL_go 7 = .ok (.i2l, 1) := by decide +kernel
theorem dL_go_8 : decode cL_go 8 = .ok (.lastore, 1) := by decide +kernel
theorem dL_go_9 : decode cL_go 9 = .ok (.goto 9, 3) := by decide +kernel
theorem dL_go_12 : decode cL_go 12 = .ok (.astore_n 3, 1) := by decide +kernel
theorem dL_go_13 : decode cL_go 13 = .ok (.iconst 1, 1) := by decide +kernel
theorem dL_go_14 : decode cL_go 14 = .ok (.ireturn, 1) := by decide +kernel
theorem dL_go_18 : decode cL_go 18 = .ok (.iconst 0, 1) := by decide +kernel
theorem dL_go_19 : decode cL_go 19 = .ok (.ireturn, 1) := by decide +kernel
theorem dL_drop_0 : decode cL_drop 0 = .ok (.aload_n 2, 1) := by decide +kernel
theorem dL_drop_1 : decode cL_drop 1 = .ok (.iconst 0, 1) := by decide +kernel
theorem dL_drop_2 : decode cL_drop 2 = .ok (.aload_n 0, 1) := by decide +kernel
theorem dL_drop_3 : decode cL_drop 3 = .ok (.iload_n 1, 1) := by decide +kernel
theorem dL_drop_4 : decode cL_drop 4 = .ok (.invokevirtual 46, 3) := by decide +kernel
theorem dL_drop_12 : decode cL_drop 12 = .ok (.astore_n 3, 1) := by decide +kernel
theorem dL_drop_13 : decode cL_drop 13 = .ok (.iconst 1, 1) := by decide +kernel
theorem dL_drop_14 : decode cL_drop 14 = .ok (.ireturn, 1) := by decide +kernel
theorem dL_drop_15 : decode cL_drop 15 = .ok (.astore_n 3, 1) := by decide +kernel
theorem dL_drop_16 : decode cL_drop 16 = .ok (.iconst 2, 1) := by decide +kernel
theorem dL_drop_17 : decode cL_drop 17 = .ok (.ireturn, 1) := by decide +kernel
theorem dL_reset_0 : decode cL_reset 0 = .ok (.aload_n 2, 1) := by decide +kernel
theorem dL_reset_1 : decode cL_reset 1 = .ok (.iconst 0, 1) := by decide +kernel
theorem dL_reset_2 : decode cL_reset 2 = .ok (.aload_n 0, 1) := by decide +kernel
theorem dL_reset_3 : decode cL_reset 3 = .ok (.iload_n 1, 1) := by decide +kernel
theorem dL_reset_4 : decode cL_reset 4 = .ok (.invokevirtual 49, 3) := by decide +kernel
theorem dL_reset_12 : decode cL_reset 12 = .ok (.astore_n 3, 1) := by decide +kernel
theorem dL_reset_13 : decode cL_reset 13 = .ok (.iconst 1, 1) := by decide +kernel
theorem dL_reset_14 : decode cL_reset 14 = .ok (.ireturn, 1) := by decide +kernel
theorem dL_sweep_0 : decode cL_sweep 0 = .ok (.aload_n 1, 1) := by decide +kernel
theorem dL_sweep_1 : decode cL_sweep 1 = .ok (.iconst 0, 1) := by decide +kernel
theorem dL_sweep_2 : decode cL_sweep 2 = .ok (.aload_n 0, 1) := by decide +kernel
theorem dL_sweep_3 : decode cL_sweep 3 = .ok (.invokevirtual 52, 3) := by decide +kernel
theorem dL_sweep_6 : decode cL_sweep 6 = .ok (.i2l, 1) := by decide +kernel
theorem dL_sweep_7 : decode cL_sweep 7 = .ok (.lastore, 1) := by decide +kernel
theorem dL_sweep_8 : decode cL_sweep 8 = .ok (.goto 6, 3) := by decide +kernel
theorem dL_sweep_14 : decode cL_sweep 14 = .ok (.iconst 0, 1) := by decide +kernel
theorem dL_sweep_15 : decode cL_sweep 15 = .ok (.ireturn, 1) := by decide +kernel
theorem dL_merge_0 : decode cL_merge 0 = .ok (.aload_n 2, 1) := by decide +kernel
theorem dL_merge_1 : decode cL_merge 1 = .ok (.iconst 0, 1) := by decide +kernel
theorem dL_merge_2 : decode cL_merge 2 = .ok (.aload_n 0, 1) := by decide +kernel
theorem dL_merge_3 : decode cL_merge 3 = .ok (.iload_n 1, 1) := by decide +kernel
theorem dL_merge_4 : decode cL_merge 4 = .ok (.invokevirtual 55, 3) := by decide +kernel
theorem dL_merge_12 : decode cL_merge 12 = .ok (.astore_n 3, 1) := by decide +kernel
theorem dL_merge_13 : decode cL_merge 13 = .ok (.iconst 1, 1) := by decide +kernel
theorem dL_merge_14 : decode cL_merge 14 = .ok (.ireturn, 1) := by decide +kernel
theorem dL_merge_15 : decode cL_merge 15 = .ok (.astore_n 3, 1) := by decide +kernel
theorem dL_merge_16 : decode cL_merge 16 = .ok (.iconst 2, 1) := by decide +kernel
theorem dL_merge_17 : decode cL_merge 17 = .ok (.ireturn, 1) := by decide +kernel
theorem dL_carry_0 : decode cL_carry 0 = .ok (.aload_n 2, 1) := by decide +kernel
theorem dL_carry_1 : decode cL_carry 1 = .ok (.iconst 0, 1) := by decide +kernel
theorem dL_carry_2 : decode cL_carry 2 = .ok (.aload_n 0, 1) := by decide +kernel
theorem dL_carry_3 : decode cL_carry 3 = .ok (.iload_n 1, 1) := by decide +kernel
theorem dL_carry_4 : decode cL_carry 4 = .ok (.invokevirtual 58, 3) := by decide +kernel
theorem dL_carry_12 : decode cL_carry 12 = .ok (.astore_n 3, 1) := by decide +kernel
theorem dL_carry_13 : decode cL_carry 13 = .ok (.iconst 1, 1) := by decide +kernel
theorem dL_carry_14 : decode cL_carry 14 = .ok (.ireturn, 1) := by decide +kernel
theorem dL_takeBack_0 : decode cL_takeBack 0 = .ok (.aload_n 2, 1) := by decide +kernel
theorem dL_takeBack_1 : decode cL_takeBack 1 = .ok (.iconst 0, 1) := by decide +kernel
theorem dL_takeBack_2 : decode cL_takeBack 2 = .ok (.aload_n 0, 1) := by decide +kernel
theorem dL_takeBack_3 : decode cL_takeBack 3 = .ok (.iload_n 1, 1) := by decide +kernel
theorem dL_takeBack_4 : decode cL_takeBack 4 = .ok (.invokevirtual 61, 3) := by decide +kernel
theorem dL_takeBack_12 : decode cL_takeBack 12 = .ok (.astore_n 3, 1) := by decide +kernel
theorem dL_takeBack_13 : decode cL_takeBack 13 = .ok (.iconst 1, 1) := by decide +kernel
theorem dL_takeBack_14 : decode cL_takeBack 14 = .ok (.ireturn, 1) := by decide +kernel
theorem dL_replay_0 : decode cL_replay 0 = .ok (.aload_n 2, 1) := by decide +kernel
theorem dL_replay_1 : decode cL_replay 1 = .ok (.iconst 0, 1) := by decide +kernel
theorem dL_replay_2 : decode cL_replay 2 = .ok (.aload_n 0, 1) := by decide +kernel
theorem dL_replay_3 : decode cL_replay 3 = .ok (.iload_n 1, 1) := by decide +kernel
theorem dL_replay_4 : decode cL_replay 4 = .ok (.invokevirtual 64, 3) := by decide +kernel
theorem dL_replay_12 : decode cL_replay 12 = .ok (.astore_n 3, 1) := by decide +kernel
theorem dL_replay_13 : decode cL_replay 13 = .ok (.iconst 1, 1) := by decide +kernel
theorem dL_replay_14 : decode cL_replay 14 = .ok (.ireturn, 1) := by decide +kernel
theorem dL_replay_15 : decode cL_replay 15 = .ok (.astore_n 3, 1) := by decide +kernel
theorem dL_replay_16 : decode cL_replay 16 = .ok (.iconst 2, 1) := by decide +kernel
theorem dL_replay_17 : decode cL_replay 17 = .ok (.ireturn, 1) := by decide +kernel
theorem dL_settle_0 : decode cL_settle 0 = .ok (.aload_n 3, 1) := by decide +kernel
theorem dL_settle_1 : decode cL_settle 1 = .ok (.iconst 0, 1) := by decide +kernel
theorem dL_settle_2 : decode cL_settle 2 = .ok (.aload_n 0, 1) := by decide +kernel
theorem dL_settle_3 : decode cL_settle 3 = .ok (.iload_n 1, 1) := by decide +kernel
theorem dL_settle_4 : decode cL_settle 4 = .ok (.iload_n 2, 1) := by decide +kernel
theorem dL_settle_5 : decode cL_settle 5 = .ok (.invokevirtual 67, 3) := by decide +kernel
theorem dL_settle_13 : decode cL_settle 13 = .ok (.astore 4, 2) := by decide +kernel
theorem dL_settle_15 : decode cL_settle 15 = .ok (.iconst 1, 1) := by decide +kernel
theorem dL_settle_16 : decode cL_settle 16 = .ok (.ireturn, 1) := by decide +kernel
theorem dL_goOn_0 : decode cL_goOn 0 = .ok (.aload_n 1, 1) := by decide +kernel
theorem dL_goOn_1 : decode cL_goOn 1 = .ok (.iconst 0, 1) := by decide +kernel
theorem dL_goOn_2 : decode cL_goOn 2 = .ok (.aload_n 0, 1) := by decide +kernel
theorem dL_goOn_3 : decode cL_goOn 3 = .ok (.invokevirtual 70, 3) := by decide +kernel
theorem dL_goOn_11 : decode cL_goOn 11 = .ok (.astore_n 2, 1) := by decide +kernel
theorem dL_goOn_12 : decode cL_goOn 12 = .ok (.iconst 1, 1) := by decide +kernel
theorem dL_goOn_13 : decode cL_goOn 13 = .ok (.ireturn, 1) := by decide +kernel
theorem dL_giveUp_0 : decode cL_giveUp 0 = .ok (.aload_n 1, 1) := by decide +kernel
theorem dL_giveUp_1 : decode cL_giveUp 1 = .ok (.iconst 0, 1) := by decide +kernel
theorem dL_giveUp_2 : decode cL_giveUp 2 = .ok (.aload_n 0, 1) := by decide +kernel
theorem dL_giveUp_3 : decode cL_giveUp 3 = .ok (.invokevirtual 73, 3) := by decide +kernel
theorem dL_giveUp_11 : decode cL_giveUp 11 = .ok (.astore_n 2, 1) := by decide +kernel
theorem dL_giveUp_12 : decode cL_giveUp 12 = .ok (.iconst 1, 1) := by decide +kernel
theorem dL_giveUp_13 : decode cL_giveUp 13 = .ok (.ireturn, 1) := by decide +kernel
theorem dL_conflictFile_0 : decode cL_conflictFile 0 = .ok (.aload_n 2, 1) := by decide +kernel
theorem dL_conflictFile_1 : decode cL_conflictFile 1 = .ok (.iconst 0, 1) := by decide +kernel
theorem dL_conflictFile_2 : decode cL_conflictFile 2 = .ok (.aload_n 0, 1) := by decide +kernel
theorem dL_conflictFile_3 : decode cL_conflictFile 3 = .ok (.iload_n 1, 1) := by decide +kernel
theorem dL_conflictFile_4 : decode cL_conflictFile 4 = .ok (.invokevirtual 76, 3) := by decide +kernel
theorem dL_conflictFile_12 : decode cL_conflictFile 12 = .ok (.astore_n 3, 1) := by decide +kernel
theorem dL_conflictFile_13 : decode cL_conflictFile 13 = .ok (.iconst 1, 1) := by decide +kernel
theorem dL_conflictFile_14 : decode cL_conflictFile 14 = .ok (.ireturn, 1) := by decide +kernel
theorem dL_pieceSize_0 : decode cL_pieceSize 0 = .ok (.aload_n 3, 1) := by decide +kernel
theorem dL_pieceSize_1 : decode cL_pieceSize 1 = .ok (.iconst 0, 1) := by decide +kernel
theorem dL_pieceSize_2 : decode cL_pieceSize 2 = .ok (.aload_n 0, 1) := by decide +kernel
theorem dL_pieceSize_3 : decode cL_pieceSize 3 = .ok (.iload_n 1, 1) := by decide +kernel
theorem dL_pieceSize_4 : decode cL_pieceSize 4 = .ok (.iload_n 2, 1) := by decide +kernel
theorem dL_pieceSize_5 : decode cL_pieceSize 5 = .ok (.invokevirtual 79, 3) := by decide +kernel
theorem dL_pieceSize_13 : decode cL_pieceSize 13 = .ok (.astore 4, 2) := by decide +kernel
theorem dL_pieceSize_15 : decode cL_pieceSize 15 = .ok (.iconst 1, 1) := by decide +kernel
theorem dL_pieceSize_16 : decode cL_pieceSize 16 = .ok (.ireturn, 1) := by decide +kernel
theorem dL_pieceLine_0 : decode cL_pieceLine 0 = .ok (.aload 4, 2) := by decide +kernel
theorem dL_pieceLine_2 : decode cL_pieceLine 2 = .ok (.iconst 0, 1) := by decide +kernel
theorem dL_pieceLine_3 : decode cL_pieceLine 3 = .ok (.aload_n 0, 1) := by decide +kernel
theorem dL_pieceLine_4 : decode cL_pieceLine 4 = .ok (.iload_n 1, 1) := by decide +kernel
theorem dL_pieceLine_5 : decode cL_pieceLine 5 = .ok (.iload_n 2, 1) := by decide +kernel
theorem dL_pieceLine_6 : decode cL_pieceLine 6 = .ok (.iload_n 3, 1) := by decide +kernel
theorem dL_pieceLine_7 : decode cL_pieceLine 7 = .ok (.invokevirtual 82, 3) := by decide +kernel
theorem dL_pieceLine_15 : decode cL_pieceLine 15 = .ok (.astore 5, 2) := by decide +kernel
theorem dL_pieceLine_17 : decode cL_pieceLine 17 = .ok (.iconst 1, 1) := by decide +kernel
theorem dL_pieceLine_18 : decode cL_pieceLine 18 = .ok (.ireturn, 1) := by decide +kernel
theorem dL_deskLines_0 : decode cL_deskLines 0 = .ok (.aload_n 2, 1) := by decide +kernel
theorem dL_deskLines_1 : decode cL_deskLines 1 = .ok (.iconst 0, 1) := by decide +kernel
theorem dL_deskLines_2 : decode cL_deskLines 2 = .ok (.aload_n 0, 1) := by decide +kernel
theorem dL_deskLines_3 : decode cL_deskLines 3 = .ok (.iload_n 1, 1) := by decide +kernel
theorem dL_deskLines_4 : decode cL_deskLines 4 = .ok (.invokevirtual 85, 3) := by decide +kernel
theorem dL_deskLines_7 : decode cL_deskLines 7 = .ok (.i2l, 1) := by decide +kernel
theorem dL_deskLines_8 : decode cL_deskLines 8 = .ok (.lastore, 1) := by decide +kernel
theorem dL_deskLines_9 : decode cL_deskLines 9 = .ok (.goto 6, 3) := by decide +kernel
theorem dL_deskLines_12 : decode cL_deskLines 12 = .ok (.astore_n 3, 1) := by decide +kernel
theorem dL_deskLines_13 : decode cL_deskLines 13 = .ok (.iconst 1, 1) := by decide +kernel
theorem dL_deskLines_14 : decode cL_deskLines 14 = .ok (.ireturn, 1) := by decide +kernel
theorem dL_deskLines_15 : decode cL_deskLines 15 = .ok (.iconst 0, 1) := by decide +kernel
theorem dL_deskLines_16 : decode cL_deskLines 16 = .ok (.ireturn, 1) := by decide +kernel
theorem dL_deskLine_0 : decode cL_deskLine 0 = .ok (.aload_n 3, 1) := by decide +kernel
theorem dL_deskLine_1 : decode cL_deskLine 1 = .ok (.iconst 0, 1) := by decide +kernel
theorem dL_deskLine_2 : decode cL_deskLine 2 = .ok (.aload_n 0, 1) := by decide +kernel
theorem dL_deskLine_3 : decode cL_deskLine 3 = .ok (.iload_n 1, 1) := by decide +kernel
theorem dL_deskLine_4 : decode cL_deskLine 4 = .ok (.iload_n 2, 1) := by decide +kernel
theorem dL_deskLine_5 : decode cL_deskLine 5 = .ok (.invokevirtual 88, 3) := by decide +kernel
theorem dL_deskLine_13 : decode cL_deskLine 13 = .ok (.astore 4, 2) := by decide +kernel
theorem dL_deskLine_15 : decode cL_deskLine 15 = .ok (.iconst 1, 1) := by decide +kernel
theorem dL_deskLine_16 : decode cL_deskLine 16 = .ok (.ireturn, 1) := by decide +kernel
theorem dL_isReached_0 : decode cL_isReached 0 = .ok (.aload_n 2, 1) := by decide +kernel
theorem dL_isReached_1 : decode cL_isReached 1 = .ok (.iconst 0, 1) := by decide +kernel
theorem dL_isReached_2 : decode cL_isReached 2 = .ok (.aload_n 0, 1) := by decide +kernel
theorem dL_isReached_3 : decode cL_isReached 3 = .ok (.iload_n 1, 1) := by decide +kernel
theorem dL_isReached_4 : decode cL_isReached 4 = .ok (.invokevirtual 91, 3) := by decide +kernel
theorem dL_isReached_19 : decode cL_isReached 19 = .ok (.astore_n 3, 1) := by decide +kernel
theorem dL_isReached_20 : decode cL_isReached 20 = .ok (.iconst 1, 1) := by decide +kernel
theorem dL_isReached_21 : decode cL_isReached 21 = .ok (.ireturn, 1) := by decide +kernel
theorem dL_parent_0 : decode cL_parent 0 = .ok (.aload_n 3, 1) := by decide +kernel
theorem dL_parent_1 : decode cL_parent 1 = .ok (.iconst 0, 1) := by decide +kernel
theorem dL_parent_2 : decode cL_parent 2 = .ok (.aload_n 0, 1) := by decide +kernel
theorem dL_parent_3 : decode cL_parent 3 = .ok (.iload_n 1, 1) := by decide +kernel
theorem dL_parent_4 : decode cL_parent 4 = .ok (.iload_n 2, 1) := by decide +kernel
theorem dL_parent_5 : decode cL_parent 5 = .ok (.invokevirtual 95, 3) := by decide +kernel
theorem dL_parent_13 : decode cL_parent 13 = .ok (.astore 4, 2) := by decide +kernel
theorem dL_parent_15 : decode cL_parent 15 = .ok (.iconst 1, 1) := by decide +kernel
theorem dL_parent_16 : decode cL_parent 16 = .ok (.ireturn, 1) := by decide +kernel
theorem dL_wordOf_0 : decode cL_wordOf 0 = .ok (.aload_n 2, 1) := by decide +kernel
theorem dL_wordOf_1 : decode cL_wordOf 1 = .ok (.iconst 0, 1) := by decide +kernel
theorem dL_wordOf_2 : decode cL_wordOf 2 = .ok (.aload_n 0, 1) := by decide +kernel
theorem dL_wordOf_3 : decode cL_wordOf 3 = .ok (.iload_n 1, 1) := by decide +kernel
theorem dL_wordOf_4 : decode cL_wordOf 4 = .ok (.invokevirtual 99, 3) := by decide +kernel
theorem dL_wordOf_12 : decode cL_wordOf 12 = .ok (.astore_n 3, 1) := by decide +kernel
theorem dL_wordOf_13 : decode cL_wordOf 13 = .ok (.iconst 1, 1) := by decide +kernel
theorem dL_wordOf_14 : decode cL_wordOf 14 = .ok (.ireturn, 1) := by decide +kernel
theorem dL_lines_0 : decode cL_lines 0 = .ok (.aload_n 3, 1) := by decide +kernel
theorem dL_lines_1 : decode cL_lines 1 = .ok (.iconst 0, 1) := by decide +kernel
theorem dL_lines_2 : decode cL_lines 2 = .ok (.aload_n 0, 1) := by decide +kernel
theorem dL_lines_3 : decode cL_lines 3 = .ok (.iload_n 1, 1) := by decide +kernel
theorem dL_lines_4 : decode cL_lines 4 = .ok (.iload_n 2, 1) := by decide +kernel
theorem dL_lines_5 : decode cL_lines 5 = .ok (.invokevirtual 102, 3) := by decide +kernel
theorem dL_lines_13 : decode cL_lines 13 = .ok (.astore 4, 2) := by decide +kernel
theorem dL_lines_15 : decode cL_lines 15 = .ok (.iconst 1, 1) := by decide +kernel
theorem dL_lines_16 : decode cL_lines 16 = .ok (.ireturn, 1) := by decide +kernel
theorem dL_lineAt_0 : decode cL_lineAt 0 = .ok (.aload 4, 2) := by decide +kernel
theorem dL_lineAt_2 : decode cL_lineAt 2 = .ok (.iconst 0, 1) := by decide +kernel
theorem dL_lineAt_3 : decode cL_lineAt 3 = .ok (.aload_n 0, 1) := by decide +kernel
theorem dL_lineAt_4 : decode cL_lineAt 4 = .ok (.iload_n 1, 1) := by decide +kernel
theorem dL_lineAt_5 : decode cL_lineAt 5 = .ok (.iload_n 2, 1) := by decide +kernel
theorem dL_lineAt_6 : decode cL_lineAt 6 = .ok (.iload_n 3, 1) := by decide +kernel
theorem dL_lineAt_7 : decode cL_lineAt 7 = .ok (.invokevirtual 105, 3) := by decide +kernel
theorem dL_lineAt_15 : decode cL_lineAt 15 = .ok (.astore 5, 2) := by decide +kernel
theorem dL_lineAt_17 : decode cL_lineAt 17 = .ok (.iconst 1, 1) := by decide +kernel
theorem dL_lineAt_18 : decode cL_lineAt 18 = .ok (.ireturn, 1) := by decide +kernel
theorem dL_isAncestor_0 : decode cL_isAncestor 0 = .ok (.aload_n 3, 1) := by decide +kernel
theorem dL_isAncestor_1 : decode cL_isAncestor 1 = .ok (.iconst 0, 1) := by decide +kernel
theorem dL_isAncestor_2 : decode cL_isAncestor 2 = .ok (.aload_n 0, 1) := by decide +kernel
theorem dL_isAncestor_3 : decode cL_isAncestor 3 = .ok (.iload_n 1, 1) := by decide +kernel
theorem dL_isAncestor_4 : decode cL_isAncestor 4 = .ok (.iload_n 2, 1) := by decide +kernel
theorem dL_isAncestor_5 : decode cL_isAncestor 5 = .ok (.invokevirtual 108, 3) := by decide +kernel
theorem dL_isAncestor_20 : decode cL_isAncestor 20 = .ok (.astore 4, 2) := by decide +kernel
theorem dL_isAncestor_22 : decode cL_isAncestor 22 = .ok (.iconst 1, 1) := by decide +kernel
theorem dL_isAncestor_23 : decode cL_isAncestor 23 = .ok (.ireturn, 1) := by decide +kernel
theorem dL_base_0 : decode cL_base 0 = .ok (.aload_n 3, 1) := by decide +kernel
theorem dL_base_1 : decode cL_base 1 = .ok (.iconst 0, 1) := by decide +kernel
theorem dL_base_2 : decode cL_base 2 = .ok (.aload_n 0, 1) := by decide +kernel
theorem dL_base_3 : decode cL_base 3 = .ok (.iload_n 1, 1) := by decide +kernel
theorem dL_base_4 : decode cL_base 4 = .ok (.iload_n 2, 1) := by decide +kernel
theorem dL_base_5 : decode cL_base 5 = .ok (.invokevirtual 112, 3) := by decide +kernel
theorem dL_base_13 : decode cL_base 13 = .ok (.astore 4, 2) := by decide +kernel
theorem dL_base_15 : decode cL_base 15 = .ok (.iconst 1, 1) := by decide +kernel
theorem dL_base_16 : decode cL_base 16 = .ok (.ireturn, 1) := by decide +kernel
theorem dL_ahead_0 : decode cL_ahead 0 = .ok (.aload_n 3, 1) := by decide +kernel
theorem dL_ahead_1 : decode cL_ahead 1 = .ok (.iconst 0, 1) := by decide +kernel
theorem dL_ahead_2 : decode cL_ahead 2 = .ok (.aload_n 0, 1) := by decide +kernel
theorem dL_ahead_3 : decode cL_ahead 3 = .ok (.iload_n 1, 1) := by decide +kernel
theorem dL_ahead_4 : decode cL_ahead 4 = .ok (.iload_n 2, 1) := by decide +kernel
theorem dL_ahead_5 : decode cL_ahead 5 = .ok (.invokevirtual 115, 3) := by decide +kernel
theorem dL_ahead_13 : decode cL_ahead 13 = .ok (.astore 4, 2) := by decide +kernel
theorem dL_ahead_15 : decode cL_ahead 15 = .ok (.iconst 1, 1) := by decide +kernel
theorem dL_ahead_16 : decode cL_ahead 16 = .ok (.ireturn, 1) := by decide +kernel
theorem dL_touched_0 : decode cL_touched 0 = .ok (.aload_n 3, 1) := by decide +kernel
theorem dL_touched_1 : decode cL_touched 1 = .ok (.iconst 0, 1) := by decide +kernel
theorem dL_touched_2 : decode cL_touched 2 = .ok (.aload_n 0, 1) := by decide +kernel
theorem dL_touched_3 : decode cL_touched 3 = .ok (.iload_n 1, 1) := by decide +kernel
theorem dL_touched_4 : decode cL_touched 4 = .ok (.iload_n 2, 1) := by decide +kernel
theorem dL_touched_5 : decode cL_touched 5 = .ok (.invokevirtual 118, 3) := by decide +kernel
theorem dL_touched_13 : decode cL_touched 13 = .ok (.astore 4, 2) := by decide +kernel
theorem dL_touched_15 : decode cL_touched 15 = .ok (.iconst 1, 1) := by decide +kernel
theorem dL_touched_16 : decode cL_touched 16 = .ok (.ireturn, 1) := by decide +kernel
theorem dL_added_0 : decode cL_added 0 = .ok (.aload 4, 2) := by decide +kernel
theorem dL_added_2 : decode cL_added 2 = .ok (.iconst 0, 1) := by decide +kernel
theorem dL_added_3 : decode cL_added 3 = .ok (.aload_n 0, 1) := by decide +kernel
theorem dL_added_4 : decode cL_added 4 = .ok (.iload_n 1, 1) := by decide +kernel
theorem dL_added_5 : decode cL_added 5 = .ok (.iload_n 2, 1) := by decide +kernel
theorem dL_added_6 : decode cL_added 6 = .ok (.iload_n 3, 1) := by decide +kernel
theorem dL_added_7 : decode cL_added 7 = .ok (.invokevirtual 121, 3) := by decide +kernel
theorem dL_added_15 : decode cL_added 15 = .ok (.astore 5, 2) := by decide +kernel
theorem dL_added_17 : decode cL_added 17 = .ok (.iconst 1, 1) := by decide +kernel
theorem dL_added_18 : decode cL_added 18 = .ok (.ireturn, 1) := by decide +kernel
theorem dL_pairOf_0 : decode cL_pairOf 0 = .ok (.aload 5, 2) := by decide +kernel
theorem dL_pairOf_2 : decode cL_pairOf 2 = .ok (.iconst 0, 1) := by decide +kernel
theorem dL_pairOf_3 : decode cL_pairOf 3 = .ok (.aload_n 0, 1) := by decide +kernel
theorem dL_pairOf_4 : decode cL_pairOf 4 = .ok (.iload_n 1, 1) := by decide +kernel
theorem dL_pairOf_5 : decode cL_pairOf 5 = .ok (.iload_n 2, 1) := by decide +kernel
theorem dL_pairOf_6 : decode cL_pairOf 6 = .ok (.iload_n 3, 1) := by decide +kernel
theorem dL_pairOf_7 : decode cL_pairOf 7 = .ok (.iload 4, 2) := by decide +kernel
theorem dL_pairOf_9 : decode cL_pairOf 9 = .ok (.invokevirtual 124, 3) := by decide +kernel
theorem dL_pairOf_17 : decode cL_pairOf 17 = .ok (.astore 6, 2) := by decide +kernel
theorem dL_pairOf_19 : decode cL_pairOf 19 = .ok (.iconst 1, 1) := by decide +kernel
theorem dL_pairOf_20 : decode cL_pairOf 20 = .ok (.ireturn, 1) := by decide +kernel
theorem dL_blame_0 : decode cL_blame 0 = .ok (.aload 4, 2) := by decide +kernel
theorem dL_blame_2 : decode cL_blame 2 = .ok (.iconst 0, 1) := by decide +kernel
theorem dL_blame_3 : decode cL_blame 3 = .ok (.aload_n 0, 1) := by decide +kernel
theorem dL_blame_4 : decode cL_blame 4 = .ok (.iload_n 1, 1) := by decide +kernel
theorem dL_blame_5 : decode cL_blame 5 = .ok (.iload_n 2, 1) := by decide +kernel
theorem dL_blame_6 : decode cL_blame 6 = .ok (.iload_n 3, 1) := by decide +kernel
theorem dL_blame_7 : decode cL_blame 7 = .ok (.invokevirtual 128, 3) := by decide +kernel
theorem dL_blame_15 : decode cL_blame 15 = .ok (.astore 5, 2) := by decide +kernel
theorem dL_blame_17 : decode cL_blame 17 = .ok (.iconst 1, 1) := by decide +kernel
theorem dL_blame_18 : decode cL_blame 18 = .ok (.ireturn, 1) := by decide +kernel
theorem dL_depthOf_0 : decode cL_depthOf 0 = .ok (.aload_n 2, 1) := by decide +kernel
theorem dL_depthOf_1 : decode cL_depthOf 1 = .ok (.iconst 0, 1) := by decide +kernel
theorem dL_depthOf_2 : decode cL_depthOf 2 = .ok (.aload_n 0, 1) := by decide +kernel
theorem dL_depthOf_3 : decode cL_depthOf 3 = .ok (.iload_n 1, 1) := by decide +kernel
theorem dL_depthOf_4 : decode cL_depthOf 4 = .ok (.invokevirtual 131, 3) := by decide +kernel
theorem dL_depthOf_12 : decode cL_depthOf 12 = .ok (.astore_n 3, 1) := by decide +kernel
theorem dL_depthOf_13 : decode cL_depthOf 13 = .ok (.iconst 1, 1) := by decide +kernel
theorem dL_depthOf_14 : decode cL_depthOf 14 = .ok (.ireturn, 1) := by decide +kernel
theorem dL_seek_0 : decode cL_seek 0 = .ok (.aload_n 3, 1) := by decide +kernel
theorem dL_seek_1 : decode cL_seek 1 = .ok (.iconst 0, 1) := by decide +kernel
theorem dL_seek_2 : decode cL_seek 2 = .ok (.aload_n 0, 1) := by decide +kernel
theorem dL_seek_3 : decode cL_seek 3 = .ok (.iload_n 1, 1) := by decide +kernel
theorem dL_seek_4 : decode cL_seek 4 = .ok (.iload_n 2, 1) := by decide +kernel
theorem dL_seek_5 : decode cL_seek 5 = .ok (.invokevirtual 134, 3) := by decide +kernel
theorem dL_seek_13 : decode cL_seek 13 = .ok (.astore 4, 2) := by decide +kernel
theorem dL_seek_15 : decode cL_seek 15 = .ok (.iconst 1, 1) := by decide +kernel
theorem dL_seek_16 : decode cL_seek 16 = .ok (.ireturn, 1) := by decide +kernel
theorem dL_tell_0 : decode cL_tell 0 = .ok (.aload_n 2, 1) := by decide +kernel
theorem dL_tell_1 : decode cL_tell 1 = .ok (.iconst 0, 1) := by decide +kernel
theorem dL_tell_2 : decode cL_tell 2 = .ok (.aload_n 0, 1) := by decide +kernel
theorem dL_tell_3 : decode cL_tell 3 = .ok (.iload_n 1, 1) := by decide +kernel
theorem dL_tell_4 : decode cL_tell 4 = .ok (.invokevirtual 137, 3) := by decide +kernel
theorem dL_tell_12 : decode cL_tell 12 = .ok (.astore_n 3, 1) := by decide +kernel
theorem dL_tell_13 : decode cL_tell 13 = .ok (.iconst 1, 1) := by decide +kernel
theorem dL_tell_14 : decode cL_tell 14 = .ok (.ireturn, 1) := by decide +kernel
theorem dL_wouldMerge_0 : decode cL_wouldMerge 0 = .ok (.aload_n 2, 1) := by decide +kernel
theorem dL_wouldMerge_1 : decode cL_wouldMerge 1 = .ok (.iconst 0, 1) := by decide +kernel
theorem dL_wouldMerge_2 : decode cL_wouldMerge 2 = .ok (.aload_n 0, 1) := by decide +kernel
theorem dL_wouldMerge_3 : decode cL_wouldMerge 3 = .ok (.iload_n 1, 1) := by decide +kernel
theorem dL_wouldMerge_4 : decode cL_wouldMerge 4 = .ok (.invokevirtual 141, 3) := by decide +kernel
theorem dL_wouldMerge_12 : decode cL_wouldMerge 12 = .ok (.astore_n 3, 1) := by decide +kernel
theorem dL_wouldMerge_13 : decode cL_wouldMerge 13 = .ok (.iconst 1, 1) := by decide +kernel
theorem dL_wouldMerge_14 : decode cL_wouldMerge 14 = .ok (.ireturn, 1) := by decide +kernel
theorem dL_wouldMerge_15 : decode cL_wouldMerge 15 = .ok (.astore_n 3, 1) := by decide +kernel
theorem dL_wouldMerge_16 : decode cL_wouldMerge 16 = .ok (.iconst 2, 1) := by decide +kernel
theorem dL_wouldMerge_17 : decode cL_wouldMerge 17 = .ok (.ireturn, 1) := by decide +kernel
theorem dL_wouldConflict_0 : decode cL_wouldConflict 0 = .ok (.aload_n 2, 1) := by decide +kernel
theorem dL_wouldConflict_1 : decode cL_wouldConflict 1 = .ok (.iconst 0, 1) := by decide +kernel
theorem dL_wouldConflict_2 : decode cL_wouldConflict 2 = .ok (.aload_n 0, 1) := by decide +kernel
theorem dL_wouldConflict_3 : decode cL_wouldConflict 3 = .ok (.iload_n 1, 1) := by decide +kernel
theorem dL_wouldConflict_4 : decode cL_wouldConflict 4 = .ok (.invokevirtual 144, 3) := by decide +kernel
theorem dL_wouldConflict_12 : decode cL_wouldConflict 12 = .ok (.astore_n 3, 1) := by decide +kernel
theorem dL_wouldConflict_13 : decode cL_wouldConflict 13 = .ok (.iconst 1, 1) := by decide +kernel
theorem dL_wouldConflict_14 : decode cL_wouldConflict 14 = .ok (.ireturn, 1) := by decide +kernel
theorem dL_law_0 : decode cL_law 0 = .ok (.new 8, 3) := by decide +kernel
theorem dL_law_3 : decode cL_law 3 = .ok (.dup, 1) := by decide +kernel
theorem dL_law_4 : decode cL_law 4 = .ok (.invokespecial 147, 3) := by decide +kernel
theorem dL_law_7 : decode cL_law 7 = .ok (.astore_n 1, 1) := by decide +kernel
theorem dL_law_8 : decode cL_law 8 = .ok (.new 148, 3) := by decide +kernel
theorem dL_law_11 : decode cL_law 11 = .ok (.dup, 1) := by decide +kernel
theorem dL_law_12 : decode cL_law 12 = .ok (.invokespecial 150, 3) := by decide +kernel
theorem dL_law_15 : decode cL_law 15 = .ok (.astore_n 2, 1) := by decide +kernel
theorem dL_law_16 : decode cL_law 16 = .ok (.iconst 1, 1) := by decide +kernel
theorem dL_law_17 : decode cL_law 17 = .ok (.newarray .long, 2) := by decide +kernel
theorem dL_law_19 : decode cL_law 19 = .ok (.astore_n 3, 1) := by decide +kernel
theorem dL_law_20 : decode cL_law 20 = .ok (.iconst 0, 1) := by decide +kernel
theorem dL_law_21 : decode cL_law 21 = .ok (.istore 4, 2) := by decide +kernel
theorem dL_law_23 : decode cL_law 23 = .ok (.iload 4, 2) := by decide +kernel
theorem dL_law_25 : decode cL_law 25 = .ok (.aload_n 0, 1) := by decide +kernel
theorem dL_law_26 : decode cL_law 26 = .ok (.arraylength, 1) := by decide +kernel
theorem dL_law_27 : decode cL_law 27 = .ok (.iconst 5, 1) := by decide +kernel
theorem dL_law_28 : decode cL_law 28 = .ok (.isub, 1) := by decide +kernel
theorem dL_law_29 : decode cL_law 29 = .ok (.if_icmp .gt 3073, 3) := by decide +kernel
theorem dL_law_32 : decode cL_law 32 = .ok (.aload_n 0, 1) := by decide +kernel
theorem dL_law_33 : decode cL_law 33 = .ok (.iload 4, 2) := by decide +kernel
theorem dL_law_35 : decode cL_law 35 = .ok (.iaload, 1) := by decide +kernel
theorem dL_law_36 : decode cL_law 36 = .ok (.bipush 63, 2) := by decide +kernel
theorem dL_law_38 : decode cL_law 38 = .ok (.iand, 1) := by decide +kernel
theorem dL_law_39 : decode cL_law 39 = .ok (.tableswitch 3057 0 53 #[229, 285, 341, 421, 489, 569, 613, 669, 725, 781, 837, 893, 937, 993, 1049, 1105, 1161, 1229, 1273, 1317, 1330, 1343, 1356, 1369, 1425, 1493, 1573, 1629, 1697, 1710, 1723, 1748, 1811, 1895, 1951, 2019, 2099, 2112, 2137, 2212, 2280, 2348, 2416, 2496, 2588, 2668, 2724, 2792, 2805, 2877, 2890, 2946, 3002, 3043], 229) := by decide +kernel
theorem dL_law_268 : decode cL_law 268 = .ok (.aload_n 1, 1) := by decide +kernel
theorem dL_law_269 : decode cL_law 269 = .ok (.aload_n 0, 1) := by decide +kernel
theorem dL_law_270 : decode cL_law 270 = .ok (.iload 4, 2) := by decide +kernel
theorem dL_law_272 : decode cL_law 272 = .ok (.iconst 1, 1) := by decide +kernel
theorem dL_law_273 : decode cL_law 273 = .ok (.iadd, 1) := by decide +kernel
theorem dL_law_274 : decode cL_law 274 = .ok (.iaload, 1) := by decide +kernel
theorem dL_law_275 : decode cL_law 275 = .ok (.aload_n 3, 1) := by decide +kernel
theorem dL_law_276 : decode cL_law 276 = .ok (.invokestatic 151, 3) := by decide +kernel
theorem dL_law_279 : decode cL_law 279 = .ok (.istore 5, 2) := by decide +kernel
theorem dL_law_281 : decode cL_law 281 = .ok (.aload_n 2, 1) := by decide +kernel
theorem dL_law_282 : decode cL_law 282 = .ok (.aload_n 0, 1) := by decide +kernel
theorem dL_law_283 : decode cL_law 283 = .ok (.iload 4, 2) := by decide +kernel
theorem dL_law_285 : decode cL_law 285 = .ok (.iconst 1, 1) := by decide +kernel
theorem dL_law_286 : decode cL_law 286 = .ok (.iadd, 1) := by decide +kernel
theorem dL_law_287 : decode cL_law 287 = .ok (.iaload, 1) := by decide +kernel
theorem dL_law_288 : decode cL_law 288 = .ok (.invokevirtual 156, 3) := by decide +kernel
theorem dL_law_291 : decode cL_law 291 = .ok (.istore 6, 2) := by decide +kernel
theorem dL_law_293 : decode cL_law 293 = .ok (.aload_n 2, 1) := by decide +kernel
theorem dL_law_294 : decode cL_law 294 = .ok (.invokevirtual 157, 3) := by decide +kernel
theorem dL_law_297 : decode cL_law 297 = .ok (.iload 5, 2) := by decide +kernel
theorem dL_law_299 : decode cL_law 299 = .ok (.if_icmp .eq 5, 3) := by decide +kernel
theorem dL_law_304 : decode cL_law 304 = .ok (.iload 5, 2) := by decide +kernel
theorem dL_law_306 : decode cL_law 306 = .ok (.ifCond .ne 15, 3) := by decide +kernel
theorem dL_law_309 : decode cL_law 309 = .ok (.aload_n 3, 1) := by decide +kernel
theorem dL_law_310 : decode cL_law 310 = .ok (.iconst 0, 1) := by decide +kernel
theorem dL_law_311 : decode cL_law 311 = .ok (.laload, 1) := by decide +kernel
theorem dL_law_312 : decode cL_law 312 = .ok (.iload 6, 2) := by decide +kernel
theorem dL_law_314 : decode cL_law 314 = .ok (.i2l, 1) := by decide +kernel
theorem dL_law_315 : decode cL_law 315 = .ok (.lcmp, 1) := by decide +kernel
theorem dL_law_316 : decode cL_law 316 = .ok (.ifCond .eq 5, 3) := by decide +kernel
theorem dL_law_321 : decode cL_law 321 = .ok (.goto 2775, 3) := by decide +kernel
theorem dL_law_324 : decode cL_law 324 = .ok (.aload_n 1, 1) := by decide +kernel
theorem dL_law_325 : decode cL_law 325 = .ok (.aload_n 0, 1) := by decide +kernel
theorem dL_law_326 : decode cL_law 326 = .ok (.iload 4, 2) := by decide +kernel
theorem dL_law_328 : decode cL_law 328 = .ok (.iconst 1, 1) := by decide +kernel
theorem dL_law_329 : decode cL_law 329 = .ok (.iadd, 1) := by decide +kernel
theorem dL_law_330 : decode cL_law 330 = .ok (.iaload, 1) := by decide +kernel
theorem dL_law_331 : decode cL_law 331 = .ok (.aload_n 3, 1) := by decide +kernel
theorem dL_law_332 : decode cL_law 332 = .ok (.invokestatic 160, 3) := by decide +kernel
theorem dL_law_335 : decode cL_law 335 = .ok (.istore 5, 2) := by decide +kernel
theorem dL_law_337 : decode cL_law 337 = .ok (.aload_n 2, 1) := by decide +kernel
theorem dL_law_338 : decode cL_law 338 = .ok (.aload_n 0, 1) := by decide +kernel
theorem dL_law_339 : decode cL_law 339 = .ok (.iload 4, 2) := by decide +kernel
theorem dL_law_341 : decode cL_law 341 = .ok (.iconst 1, 1) := by decide +kernel
theorem dL_law_342 : decode cL_law 342 = .ok (.iadd, 1) := by decide +kernel
theorem dL_law_343 : decode cL_law 343 = .ok (.iaload, 1) := by decide +kernel
theorem dL_law_344 : decode cL_law 344 = .ok (.invokevirtual 162, 3) := by decide +kernel
theorem dL_law_347 : decode cL_law 347 = .ok (.istore 6, 2) := by decide +kernel
theorem dL_law_349 : decode cL_law 349 = .ok (.aload_n 2, 1) := by decide +kernel
theorem dL_law_350 : decode cL_law 350 = .ok (.invokevirtual 157, 3) := by decide +kernel
theorem dL_law_353 : decode cL_law 353 = .ok (.iload 5, 2) := by decide +kernel
theorem dL_law_355 : decode cL_law 355 = .ok (.if_icmp .eq 5, 3) := by decide +kernel
theorem dL_law_360 : decode cL_law 360 = .ok (.iload 5, 2) := by decide +kernel
theorem dL_law_362 : decode cL_law 362 = .ok (.ifCond .ne 15, 3) := by decide +kernel
theorem dL_law_377 : decode cL_law 377 = .ok (.goto 2719, 3) := by decide +kernel
theorem dL_law_380 : decode cL_law 380 = .ok (.aload_n 1, 1) := by decide +kernel
theorem dL_law_381 : decode cL_law 381 = .ok (.aload_n 0, 1) := by decide +kernel
theorem dL_law_382 : decode cL_law 382 = .ok (.iload 4, 2) := by decide +kernel
theorem dL_law_384 : decode cL_law 384 = .ok (.iconst 1, 1) := by decide +kernel
theorem dL_law_385 : decode cL_law 385 = .ok (.iadd, 1) := by decide +kernel
theorem dL_law_386 : decode cL_law 386 = .ok (.iaload, 1) := by decide +kernel
theorem dL_law_387 : decode cL_law 387 = .ok (.aload_n 0, 1) := by decide +kernel
theorem dL_law_388 : decode cL_law 388 = .ok (.iload 4, 2) := by decide +kernel
theorem dL_law_390 : decode cL_law 390 = .ok (.iconst 2, 1) := by decide +kernel
theorem dL_law_391 : decode cL_law 391 = .ok (.iadd, 1) := by decide +kernel
theorem dL_law_392 : decode cL_law 392 = .ok (.iaload, 1) := by decide +kernel
theorem dL_law_393 : decode cL_law 393 = .ok (.aload_n 0, 1) := by decide +kernel
theorem dL_law_394 : decode cL_law 394 = .ok (.iload 4, 2) := by decide +kernel
theorem dL_law_396 : decode cL_law 396 = .ok (.iconst 3, 1) := by decide +kernel
theorem dL_law_397 : decode cL_law 397 = .ok (.iadd, 1) := by decide +kernel
theorem dL_law_398 : decode cL_law 398 = .ok (.iaload, 1) := by decide +kernel
theorem dL_law_399 : decode cL_law 399 = .ok (.aload_n 3, 1) := by decide +kernel
theorem dL_law_400 : decode cL_law 400 = .ok (.invokestatic 163, 3) := by decide +kernel
theorem dL_law_403 : decode cL_law 403 = .ok (.istore 5, 2) := by decide +kernel
theorem dL_law_405 : decode cL_law 405 = .ok (.aload_n 2, 1) := by decide +kernel
theorem dL_law_406 : decode cL_law 406 = .ok (.aload_n 0, 1) := by decide +kernel
theorem dL_law_407 : decode cL_law 407 = .ok (.iload 4, 2) := by decide +kernel
theorem dL_law_409 : decode cL_law 409 = .ok (.iconst 1, 1) := by decide +kernel
theorem dL_law_410 : decode cL_law 410 = .ok (.iadd, 1) := by decide +kernel
theorem dL_law_411 : decode cL_law 411 = .ok (.iaload, 1) := by decide +kernel
theorem dL_law_412 : decode cL_law 412 = .ok (.aload_n 0, 1) := by decide +kernel
theorem dL_law_413 : decode cL_law 413 = .ok (.iload 4, 2) := by decide +kernel
theorem dL_law_415 : decode cL_law 415 = .ok (.iconst 2, 1) := by decide +kernel
theorem dL_law_416 : decode cL_law 416 = .ok (.iadd, 1) := by decide +kernel
theorem dL_law_417 : decode cL_law 417 = .ok (.iaload, 1) := by decide +kernel
theorem dL_law_418 : decode cL_law 418 = .ok (.aload_n 0, 1) := by decide +kernel
theorem dL_law_419 : decode cL_law 419 = .ok (.iload 4, 2) := by decide +kernel
theorem dL_law_421 : decode cL_law 421 = .ok (.iconst 3, 1) := by decide +kernel
theorem dL_law_422 : decode cL_law 422 = .ok (.iadd, 1) := by decide +kernel
theorem dL_law_423 : decode cL_law 423 = .ok (.iaload, 1) := by decide +kernel
theorem dL_law_424 : decode cL_law 424 = .ok (.invokevirtual 166, 3) := by decide +kernel
theorem dL_law_427 : decode cL_law 427 = .ok (.istore 6, 2) := by decide +kernel
theorem dL_law_429 : decode cL_law 429 = .ok (.aload_n 2, 1) := by decide +kernel
theorem dL_law_430 : decode cL_law 430 = .ok (.invokevirtual 157, 3) := by decide +kernel
theorem dL_law_433 : decode cL_law 433 = .ok (.iload 5, 2) := by decide +kernel
theorem dL_law_435 : decode cL_law 435 = .ok (.if_icmp .eq 5, 3) := by decide +kernel
theorem dL_law_440 : decode cL_law 440 = .ok (.iload 5, 2) := by decide +kernel
theorem dL_law_442 : decode cL_law 442 = .ok (.ifCond .ne 15, 3) := by decide +kernel
theorem dL_law_457 : decode cL_law 457 = .ok (.goto 2639, 3) := by decide +kernel
theorem dL_law_460 : decode cL_law 460 = .ok (.aload_n 1, 1) := by decide +kernel
theorem dL_law_461 : decode cL_law 461 = .ok (.aload_n 0, 1) := by decide +kernel
theorem dL_law_462 : decode cL_law 462 = .ok (.iload 4, 2) := by decide +kernel
theorem dL_law_464 : decode cL_law 464 = .ok (.iconst 1, 1) := by decide +kernel
theorem dL_law_465 : decode cL_law 465 = .ok (.iadd, 1) := by decide +kernel
theorem dL_law_466 : decode cL_law 466 = .ok (.iaload, 1) := by decide +kernel
theorem dL_law_467 : decode cL_law 467 = .ok (.aload_n 0, 1) := by decide +kernel
theorem dL_law_468 : decode cL_law 468 = .ok (.iload 4, 2) := by decide +kernel
theorem dL_law_470 : decode cL_law 470 = .ok (.iconst 2, 1) := by decide +kernel
theorem dL_law_471 : decode cL_law 471 = .ok (.iadd, 1) := by decide +kernel
theorem dL_law_472 : decode cL_law 472 = .ok (.iaload, 1) := by decide +kernel
theorem dL_law_473 : decode cL_law 473 = .ok (.aload_n 3, 1) := by decide +kernel
theorem dL_law_474 : decode cL_law 474 = .ok (.invokestatic 167, 3) := by decide +kernel
theorem dL_law_477 : decode cL_law 477 = .ok (.istore 5, 2) := by decide +kernel
theorem dL_law_479 : decode cL_law 479 = .ok (.aload_n 2, 1) := by decide +kernel
theorem dL_law_480 : decode cL_law 480 = .ok (.aload_n 0, 1) := by decide +kernel
theorem dL_law_481 : decode cL_law 481 = .ok (.iload 4, 2) := by decide +kernel
theorem dL_law_483 : decode cL_law 483 = .ok (.iconst 1, 1) := by decide +kernel
theorem dL_law_484 : decode cL_law 484 = .ok (.iadd, 1) := by decide +kernel
theorem dL_law_485 : decode cL_law 485 = .ok (.iaload, 1) := by decide +kernel
theorem dL_law_486 : decode cL_law 486 = .ok (.aload_n 0, 1) := by decide +kernel
theorem dL_law_487 : decode cL_law 487 = .ok (.iload 4, 2) := by decide +kernel
theorem dL_law_489 : decode cL_law 489 = .ok (.iconst 2, 1) := by decide +kernel
theorem dL_law_490 : decode cL_law 490 = .ok (.iadd, 1) := by decide +kernel
theorem dL_law_491 : decode cL_law 491 = .ok (.iaload, 1) := by decide +kernel
theorem dL_law_492 : decode cL_law 492 = .ok (.invokevirtual 170, 3) := by decide +kernel
theorem dL_law_495 : decode cL_law 495 = .ok (.istore 6, 2) := by decide +kernel
theorem dL_law_497 : decode cL_law 497 = .ok (.aload_n 2, 1) := by decide +kernel
theorem dL_law_498 : decode cL_law 498 = .ok (.invokevirtual 157, 3) := by decide +kernel
theorem dL_law_501 : decode cL_law 501 = .ok (.iload 5, 2) := by decide +kernel
theorem dL_law_503 : decode cL_law 503 = .ok (.if_icmp .eq 5, 3) := by decide +kernel
theorem dL_law_508 : decode cL_law 508 = .ok (.iload 5, 2) := by decide +kernel
theorem dL_law_510 : decode cL_law 510 = .ok (.ifCond .ne 15, 3) := by decide +kernel
theorem dL_law_525 : decode cL_law 525 = .ok (.goto 2571, 3) := by decide +kernel
theorem dL_law_528 : decode cL_law 528 = .ok (.aload_n 1, 1) := by decide +kernel
theorem dL_law_529 : decode cL_law 529 = .ok (.aload_n 0, 1) := by decide +kernel
theorem dL_law_530 : decode cL_law 530 = .ok (.iload 4, 2) := by decide +kernel
theorem dL_law_532 : decode cL_law 532 = .ok (.iconst 1, 1) := by decide +kernel
theorem dL_law_533 : decode cL_law 533 = .ok (.iadd, 1) := by decide +kernel
theorem dL_law_534 : decode cL_law 534 = .ok (.iaload, 1) := by decide +kernel
theorem dL_law_535 : decode cL_law 535 = .ok (.aload_n 0, 1) := by decide +kernel
theorem dL_law_536 : decode cL_law 536 = .ok (.iload 4, 2) := by decide +kernel
theorem dL_law_538 : decode cL_law 538 = .ok (.iconst 2, 1) := by decide +kernel
theorem dL_law_539 : decode cL_law 539 = .ok (.iadd, 1) := by decide +kernel
theorem dL_law_540 : decode cL_law 540 = .ok (.iaload, 1) := by decide +kernel
theorem dL_law_541 : decode cL_law 541 = .ok (.aload_n 0, 1) := by decide +kernel
theorem dL_law_542 : decode cL_law 542 = .ok (.iload 4, 2) := by decide +kernel
theorem dL_law_544 : decode cL_law 544 = .ok (.iconst 3, 1) := by decide +kernel
theorem dL_law_545 : decode cL_law 545 = .ok (.iadd, 1) := by decide +kernel
theorem dL_law_546 : decode cL_law 546 = .ok (.iaload, 1) := by decide +kernel
theorem dL_law_547 : decode cL_law 547 = .ok (.aload_n 3, 1) := by decide +kernel
theorem dL_law_548 : decode cL_law 548 = .ok (.invokestatic 171, 3) := by decide +kernel
theorem dL_law_551 : decode cL_law 551 = .ok (.istore 5, 2) := by decide +kernel
theorem dL_law_553 : decode cL_law 553 = .ok (.aload_n 2, 1) := by decide +kernel
theorem dL_law_554 : decode cL_law 554 = .ok (.aload_n 0, 1) := by decide +kernel
theorem dL_law_555 : decode cL_law 555 = .ok (.iload 4, 2) := by decide +kernel
theorem dL_law_557 : decode cL_law 557 = .ok (.iconst 1, 1) := by decide +kernel
theorem dL_law_558 : decode cL_law 558 = .ok (.iadd, 1) := by decide +kernel
theorem dL_law_559 : decode cL_law 559 = .ok (.iaload, 1) := by decide +kernel
theorem dL_law_560 : decode cL_law 560 = .ok (.aload_n 0, 1) := by decide +kernel
theorem dL_law_561 : decode cL_law 561 = .ok (.iload 4, 2) := by decide +kernel
theorem dL_law_563 : decode cL_law 563 = .ok (.iconst 2, 1) := by decide +kernel
theorem dL_law_564 : decode cL_law 564 = .ok (.iadd, 1) := by decide +kernel
theorem dL_law_565 : decode cL_law 565 = .ok (.iaload, 1) := by decide +kernel
theorem dL_law_566 : decode cL_law 566 = .ok (.aload_n 0, 1) := by decide +kernel
theorem dL_law_567 : decode cL_law 567 = .ok (.iload 4, 2) := by decide +kernel
theorem dL_law_569 : decode cL_law 569 = .ok (.iconst 3, 1) := by decide +kernel
theorem dL_law_570 : decode cL_law 570 = .ok (.iadd, 1) := by decide +kernel
theorem dL_law_571 : decode cL_law 571 = .ok (.iaload, 1) := by decide +kernel
theorem dL_law_572 : decode cL_law 572 = .ok (.invokevirtual 173, 3) := by decide +kernel
theorem dL_law_575 : decode cL_law 575 = .ok (.istore 6, 2) := by decide +kernel
theorem dL_law_577 : decode cL_law 577 = .ok (.aload_n 2, 1) := by decide +kernel
theorem dL_law_578 : decode cL_law 578 = .ok (.invokevirtual 157, 3) := by decide +kernel
theorem dL_law_581 : decode cL_law 581 = .ok (.iload 5, 2) := by decide +kernel
theorem dL_law_583 : decode cL_law 583 = .ok (.if_icmp .eq 5, 3) := by decide +kernel
theorem dL_law_588 : decode cL_law 588 = .ok (.iload 5, 2) := by decide +kernel
theorem dL_law_590 : decode cL_law 590 = .ok (.ifCond .ne 15, 3) := by decide +kernel
theorem dL_law_605 : decode cL_law 605 = .ok (.goto 2491, 3) := by decide +kernel
theorem dL_law_608 : decode cL_law 608 = .ok (.aload_n 1, 1) := by decide +kernel
theorem dL_law_609 : decode cL_law 609 = .ok (.aload_n 3, 1) := by decide +kernel
theorem dL_law_610 : decode cL_law 610 = .ok (.invokestatic 174, 3) := by decide +kernel
theorem dL_law_613 : decode cL_law 613 = .ok (.istore 5, 2) := by decide +kernel
theorem dL_law_615 : decode cL_law 615 = .ok (.aload_n 2, 1) := by decide +kernel
theorem dL_law_616 : decode cL_law 616 = .ok (.invokevirtual 177, 3) := by decide +kernel
theorem dL_law_619 : decode cL_law 619 = .ok (.istore 6, 2) := by decide +kernel
theorem dL_law_621 : decode cL_law 621 = .ok (.aload_n 2, 1) := by decide +kernel
theorem dL_law_622 : decode cL_law 622 = .ok (.invokevirtual 157, 3) := by decide +kernel
theorem dL_law_625 : decode cL_law 625 = .ok (.iload 5, 2) := by decide +kernel
theorem dL_law_627 : decode cL_law 627 = .ok (.if_icmp .eq 5, 3) := by decide +kernel
theorem dL_law_632 : decode cL_law 632 = .ok (.iload 5, 2) := by decide +kernel
theorem dL_law_634 : decode cL_law 634 = .ok (.ifCond .ne 15, 3) := by decide +kernel
theorem dL_law_637 : decode cL_law 637 = .ok (.aload_n 3, 1) := by decide +kernel
theorem dL_law_638 : decode cL_law 638 = .ok (.iconst 0, 1) := by decide +kernel
theorem dL_law_639 : decode cL_law 639 = .ok (.laload, 1) := by decide +kernel
theorem dL_law_640 : decode cL_law 640 = .ok (.iload 6, 2) := by decide +kernel
theorem dL_law_642 : decode cL_law 642 = .ok (.i2l, 1) := by decide +kernel
theorem dL_law_643 : decode cL_law 643 = .ok (.lcmp, 1) := by decide +kernel
theorem dL_law_644 : decode cL_law 644 = .ok (.ifCond .eq 5, 3) := by decide +kernel
theorem dL_law_649 : decode cL_law 649 = .ok (.goto 2447, 3) := by decide +kernel
theorem dL_law_652 : decode cL_law 652 = .ok (.aload_n 1, 1) := by decide +kernel
theorem dL_law_653 : decode cL_law 653 = .ok (.aload_n 0, 1) := by decide +kernel
theorem dL_law_654 : decode cL_law 654 = .ok (.iload 4, 2) := by decide +kernel
theorem dL_law_656 : decode cL_law 656 = .ok (.iconst 1, 1) := by decide +kernel
theorem dL_law_657 : decode cL_law 657 = .ok (.iadd, 1) := by decide +kernel
theorem dL_law_658 : decode cL_law 658 = .ok (.iaload, 1) := by decide +kernel
theorem dL_law_659 : decode cL_law 659 = .ok (.aload_n 3, 1) := by decide +kernel
theorem dL_law_660 : decode cL_law 660 = .ok (.invokestatic 178, 3) := by decide +kernel
theorem dL_law_663 : decode cL_law 663 = .ok (.istore 5, 2) := by decide +kernel
theorem dL_law_665 : decode cL_law 665 = .ok (.aload_n 2, 1) := by decide +kernel
theorem dL_law_666 : decode cL_law 666 = .ok (.aload_n 0, 1) := by decide +kernel
theorem dL_law_667 : decode cL_law 667 = .ok (.iload 4, 2) := by decide +kernel
theorem dL_law_669 : decode cL_law 669 = .ok (.iconst 1, 1) := by decide +kernel
theorem dL_law_670 : decode cL_law 670 = .ok (.iadd, 1) := by decide +kernel
theorem dL_law_671 : decode cL_law 671 = .ok (.iaload, 1) := by decide +kernel
theorem dL_law_672 : decode cL_law 672 = .ok (.invokevirtual 180, 3) := by decide +kernel
theorem dL_law_675 : decode cL_law 675 = .ok (.istore 6, 2) := by decide +kernel
theorem dL_law_677 : decode cL_law 677 = .ok (.aload_n 2, 1) := by decide +kernel
theorem dL_law_678 : decode cL_law 678 = .ok (.invokevirtual 157, 3) := by decide +kernel
theorem dL_law_681 : decode cL_law 681 = .ok (.iload 5, 2) := by decide +kernel
theorem dL_law_683 : decode cL_law 683 = .ok (.if_icmp .eq 5, 3) := by decide +kernel
theorem dL_law_688 : decode cL_law 688 = .ok (.iload 5, 2) := by decide +kernel
theorem dL_law_690 : decode cL_law 690 = .ok (.ifCond .ne 15, 3) := by decide +kernel
theorem dL_law_705 : decode cL_law 705 = .ok (.goto 2391, 3) := by decide +kernel
theorem dL_law_708 : decode cL_law 708 = .ok (.aload_n 1, 1) := by decide +kernel
theorem dL_law_709 : decode cL_law 709 = .ok (.aload_n 0, 1) := by decide +kernel
theorem dL_law_710 : decode cL_law 710 = .ok (.iload 4, 2) := by decide +kernel
theorem dL_law_712 : decode cL_law 712 = .ok (.iconst 1, 1) := by decide +kernel
theorem dL_law_713 : decode cL_law 713 = .ok (.iadd, 1) := by decide +kernel
theorem dL_law_714 : decode cL_law 714 = .ok (.iaload, 1) := by decide +kernel
theorem dL_law_715 : decode cL_law 715 = .ok (.aload_n 3, 1) := by decide +kernel
theorem dL_law_716 : decode cL_law 716 = .ok (.invokestatic 181, 3) := by decide +kernel
theorem dL_law_719 : decode cL_law 719 = .ok (.istore 5, 2) := by decide +kernel
theorem dL_law_721 : decode cL_law 721 = .ok (.aload_n 2, 1) := by decide +kernel
theorem dL_law_722 : decode cL_law 722 = .ok (.aload_n 0, 1) := by decide +kernel
theorem dL_law_723 : decode cL_law 723 = .ok (.iload 4, 2) := by decide +kernel
theorem dL_law_725 : decode cL_law 725 = .ok (.iconst 1, 1) := by decide +kernel
theorem dL_law_726 : decode cL_law 726 = .ok (.iadd, 1) := by decide +kernel
theorem dL_law_727 : decode cL_law 727 = .ok (.iaload, 1) := by decide +kernel
theorem dL_law_728 : decode cL_law 728 = .ok (.invokevirtual 183, 3) := by decide +kernel
theorem dL_law_731 : decode cL_law 731 = .ok (.istore 6, 2) := by decide +kernel
theorem dL_law_733 : decode cL_law 733 = .ok (.aload_n 2, 1) := by decide +kernel
theorem dL_law_734 : decode cL_law 734 = .ok (.invokevirtual 157, 3) := by decide +kernel
theorem dL_law_737 : decode cL_law 737 = .ok (.iload 5, 2) := by decide +kernel
theorem dL_law_739 : decode cL_law 739 = .ok (.if_icmp .eq 5, 3) := by decide +kernel
theorem dL_law_744 : decode cL_law 744 = .ok (.iload 5, 2) := by decide +kernel
theorem dL_law_746 : decode cL_law 746 = .ok (.ifCond .ne 15, 3) := by decide +kernel
theorem dL_law_761 : decode cL_law 761 = .ok (.goto 2335, 3) := by decide +kernel
theorem dL_law_764 : decode cL_law 764 = .ok (.aload_n 1, 1) := by decide +kernel
theorem dL_law_765 : decode cL_law 765 = .ok (.aload_n 0, 1) := by decide +kernel
theorem dL_law_766 : decode cL_law 766 = .ok (.iload 4, 2) := by decide +kernel
theorem dL_law_768 : decode cL_law 768 = .ok (.iconst 1, 1) := by decide +kernel
theorem dL_law_769 : decode cL_law 769 = .ok (.iadd, 1) := by decide +kernel
theorem dL_law_770 : decode cL_law 770 = .ok (.iaload, 1) := by decide +kernel
theorem dL_law_771 : decode cL_law 771 = .ok (.aload_n 3, 1) := by decide +kernel
theorem dL_law_772 : decode cL_law 772 = .ok (.invokestatic 184, 3) := by decide +kernel
theorem dL_law_775 : decode cL_law 775 = .ok (.istore 5, 2) := by decide +kernel
theorem dL_law_777 : decode cL_law 777 = .ok (.aload_n 2, 1) := by decide +kernel
theorem dL_law_778 : decode cL_law 778 = .ok (.aload_n 0, 1) := by decide +kernel
theorem dL_law_779 : decode cL_law 779 = .ok (.iload 4, 2) := by decide +kernel
theorem dL_law_781 : decode cL_law 781 = .ok (.iconst 1, 1) := by decide +kernel
theorem dL_law_782 : decode cL_law 782 = .ok (.iadd, 1) := by decide +kernel
theorem dL_law_783 : decode cL_law 783 = .ok (.iaload, 1) := by decide +kernel
theorem dL_law_784 : decode cL_law 784 = .ok (.invokevirtual 186, 3) := by decide +kernel
theorem dL_law_787 : decode cL_law 787 = .ok (.istore 6, 2) := by decide +kernel
theorem dL_law_789 : decode cL_law 789 = .ok (.aload_n 2, 1) := by decide +kernel
theorem dL_law_790 : decode cL_law 790 = .ok (.invokevirtual 157, 3) := by decide +kernel
theorem dL_law_793 : decode cL_law 793 = .ok (.iload 5, 2) := by decide +kernel
theorem dL_law_795 : decode cL_law 795 = .ok (.if_icmp .eq 5, 3) := by decide +kernel
theorem dL_law_800 : decode cL_law 800 = .ok (.iload 5, 2) := by decide +kernel
theorem dL_law_802 : decode cL_law 802 = .ok (.ifCond .ne 15, 3) := by decide +kernel
theorem dL_law_805 : decode cL_law 805 = .ok (.aload_n 3, 1) := by decide +kernel
theorem dL_law_806 : decode cL_law 806 = .ok (.iconst 0, 1) := by decide +kernel
theorem dL_law_807 : decode cL_law 807 = .ok (.laload, 1) := by decide +kernel
theorem dL_law_808 : decode cL_law 808 = .ok (.iload 6, 2) := by decide +kernel
theorem dL_law_810 : decode cL_law 810 = .ok (.i2l, 1) := by decide +kernel
theorem dL_law_811 : decode cL_law 811 = .ok (.lcmp, 1) := by decide +kernel
theorem dL_law_812 : decode cL_law 812 = .ok (.ifCond .eq 5, 3) := by decide +kernel
theorem dL_law_817 : decode cL_law 817 = .ok (.goto 2279, 3) := by decide +kernel
theorem dL_law_820 : decode cL_law 820 = .ok (.aload_n 1, 1) := by decide +kernel
theorem dL_law_821 : decode cL_law 821 = .ok (.aload_n 0, 1) := by decide +kernel
theorem dL_law_822 : decode cL_law 822 = .ok (.iload 4, 2) := by decide +kernel
theorem dL_law_824 : decode cL_law 824 = .ok (.iconst 1, 1) := by decide +kernel
theorem dL_law_825 : decode cL_law 825 = .ok (.iadd, 1) := by decide +kernel
theorem dL_law_826 : decode cL_law 826 = .ok (.iaload, 1) := by decide +kernel
theorem dL_law_827 : decode cL_law 827 = .ok (.aload_n 3, 1) := by decide +kernel
theorem dL_law_828 : decode cL_law 828 = .ok (.invokestatic 187, 3) := by decide +kernel
theorem dL_law_831 : decode cL_law 831 = .ok (.istore 5, 2) := by decide +kernel
theorem dL_law_833 : decode cL_law 833 = .ok (.aload_n 2, 1) := by decide +kernel
theorem dL_law_834 : decode cL_law 834 = .ok (.aload_n 0, 1) := by decide +kernel
theorem dL_law_835 : decode cL_law 835 = .ok (.iload 4, 2) := by decide +kernel
theorem dL_law_837 : decode cL_law 837 = .ok (.iconst 1, 1) := by decide +kernel
theorem dL_law_838 : decode cL_law 838 = .ok (.iadd, 1) := by decide +kernel
theorem dL_law_839 : decode cL_law 839 = .ok (.iaload, 1) := by decide +kernel
theorem dL_law_840 : decode cL_law 840 = .ok (.invokevirtual 189, 3) := by decide +kernel
theorem dL_law_843 : decode cL_law 843 = .ok (.istore 6, 2) := by decide +kernel
theorem dL_law_845 : decode cL_law 845 = .ok (.aload_n 2, 1) := by decide +kernel
theorem dL_law_846 : decode cL_law 846 = .ok (.invokevirtual 157, 3) := by decide +kernel
theorem dL_law_849 : decode cL_law 849 = .ok (.iload 5, 2) := by decide +kernel
theorem dL_law_851 : decode cL_law 851 = .ok (.if_icmp .eq 5, 3) := by decide +kernel
theorem dL_law_856 : decode cL_law 856 = .ok (.iload 5, 2) := by decide +kernel
theorem dL_law_858 : decode cL_law 858 = .ok (.ifCond .ne 15, 3) := by decide +kernel
theorem dL_law_873 : decode cL_law 873 = .ok (.goto 2223, 3) := by decide +kernel
theorem dL_law_876 : decode cL_law 876 = .ok (.aload_n 1, 1) := by decide +kernel
theorem dL_law_877 : decode cL_law 877 = .ok (.aload_n 0, 1) := by decide +kernel
theorem dL_law_878 : decode cL_law 878 = .ok (.iload 4, 2) := by decide +kernel
theorem dL_law_880 : decode cL_law 880 = .ok (.iconst 1, 1) := by decide +kernel
theorem dL_law_881 : decode cL_law 881 = .ok (.iadd, 1) := by decide +kernel
theorem dL_law_882 : decode cL_law 882 = .ok (.iaload, 1) := by decide +kernel
theorem dL_law_883 : decode cL_law 883 = .ok (.aload_n 3, 1) := by decide +kernel
theorem dL_law_884 : decode cL_law 884 = .ok (.invokestatic 190, 3) := by decide +kernel
theorem dL_law_887 : decode cL_law 887 = .ok (.istore 5, 2) := by decide +kernel
theorem dL_law_889 : decode cL_law 889 = .ok (.aload_n 2, 1) := by decide +kernel
theorem dL_law_890 : decode cL_law 890 = .ok (.aload_n 0, 1) := by decide +kernel
theorem dL_law_891 : decode cL_law 891 = .ok (.iload 4, 2) := by decide +kernel
theorem dL_law_893 : decode cL_law 893 = .ok (.iconst 1, 1) := by decide +kernel
theorem dL_law_894 : decode cL_law 894 = .ok (.iadd, 1) := by decide +kernel
theorem dL_law_895 : decode cL_law 895 = .ok (.iaload, 1) := by decide +kernel
theorem dL_law_896 : decode cL_law 896 = .ok (.invokevirtual 192, 3) := by decide +kernel
theorem dL_law_899 : decode cL_law 899 = .ok (.istore 6, 2) := by decide +kernel
theorem dL_law_901 : decode cL_law 901 = .ok (.aload_n 2, 1) := by decide +kernel
theorem dL_law_902 : decode cL_law 902 = .ok (.invokevirtual 157, 3) := by decide +kernel
theorem dL_law_905 : decode cL_law 905 = .ok (.iload 5, 2) := by decide +kernel
theorem dL_law_907 : decode cL_law 907 = .ok (.if_icmp .eq 5, 3) := by decide +kernel
theorem dL_law_912 : decode cL_law 912 = .ok (.iload 5, 2) := by decide +kernel
theorem dL_law_914 : decode cL_law 914 = .ok (.ifCond .ne 15, 3) := by decide +kernel
theorem dL_law_929 : decode cL_law 929 = .ok (.goto 2167, 3) := by decide +kernel
theorem dL_law_932 : decode cL_law 932 = .ok (.aload_n 1, 1) := by decide +kernel
theorem dL_law_933 : decode cL_law 933 = .ok (.aload_n 3, 1) := by decide +kernel
theorem dL_law_934 : decode cL_law 934 = .ok (.invokestatic 193, 3) := by decide +kernel
theorem dL_law_937 : decode cL_law 937 = .ok (.istore 5, 2) := by decide +kernel
theorem dL_law_939 : decode cL_law 939 = .ok (.aload_n 2, 1) := by decide +kernel
theorem dL_law_940 : decode cL_law 940 = .ok (.invokevirtual 195, 3) := by decide +kernel
theorem dL_law_943 : decode cL_law 943 = .ok (.istore 6, 2) := by decide +kernel
theorem dL_law_945 : decode cL_law 945 = .ok (.aload_n 2, 1) := by decide +kernel
theorem dL_law_946 : decode cL_law 946 = .ok (.invokevirtual 157, 3) := by decide +kernel
theorem dL_law_949 : decode cL_law 949 = .ok (.iload 5, 2) := by decide +kernel
theorem dL_law_951 : decode cL_law 951 = .ok (.if_icmp .eq 5, 3) := by decide +kernel
theorem dL_law_956 : decode cL_law 956 = .ok (.iload 5, 2) := by decide +kernel
theorem dL_law_958 : decode cL_law 958 = .ok (.ifCond .ne 15, 3) := by decide +kernel
theorem dL_law_961 : decode cL_law 961 = .ok (.aload_n 3, 1) := by decide +kernel
theorem dL_law_962 : decode cL_law 962 = .ok (.iconst 0, 1) := by decide +kernel
theorem dL_law_963 : decode cL_law 963 = .ok (.laload, 1) := by decide +kernel
theorem dL_law_964 : decode cL_law 964 = .ok (.iload 6, 2) := by decide +kernel
theorem dL_law_966 : decode cL_law 966 = .ok (.i2l, 1) := by decide +kernel
theorem dL_law_967 : decode cL_law 967 = .ok (.lcmp, 1) := by decide +kernel
theorem dL_law_968 : decode cL_law 968 = .ok (.ifCond .eq 5, 3) := by decide +kernel
theorem dL_law_973 : decode cL_law 973 = .ok (.goto 2123, 3) := by decide +kernel
theorem dL_law_976 : decode cL_law 976 = .ok (.aload_n 1, 1) := by decide +kernel
theorem dL_law_977 : decode cL_law 977 = .ok (.aload_n 0, 1) := by decide +kernel
theorem dL_law_978 : decode cL_law 978 = .ok (.iload 4, 2) := by decide +kernel
theorem dL_law_980 : decode cL_law 980 = .ok (.iconst 1, 1) := by decide +kernel
theorem dL_law_981 : decode cL_law 981 = .ok (.iadd, 1) := by decide +kernel
theorem dL_law_982 : decode cL_law 982 = .ok (.iaload, 1) := by decide +kernel
theorem dL_law_983 : decode cL_law 983 = .ok (.aload_n 3, 1) := by decide +kernel
theorem dL_law_984 : decode cL_law 984 = .ok (.invokestatic 196, 3) := by decide +kernel
theorem dL_law_987 : decode cL_law 987 = .ok (.istore 5, 2) := by decide +kernel
theorem dL_law_989 : decode cL_law 989 = .ok (.aload_n 2, 1) := by decide +kernel
theorem dL_law_990 : decode cL_law 990 = .ok (.aload_n 0, 1) := by decide +kernel
theorem dL_law_991 : decode cL_law 991 = .ok (.iload 4, 2) := by decide +kernel
theorem dL_law_993 : decode cL_law 993 = .ok (.iconst 1, 1) := by decide +kernel
theorem dL_law_994 : decode cL_law 994 = .ok (.iadd, 1) := by decide +kernel
theorem dL_law_995 : decode cL_law 995 = .ok (.iaload, 1) := by decide +kernel
theorem dL_law_996 : decode cL_law 996 = .ok (.invokevirtual 198, 3) := by decide +kernel
theorem dL_law_999 : decode cL_law 999 = .ok (.istore 6, 2) := by decide +kernel
theorem dL_law_1001 : decode cL_law 1001 = .ok (.aload_n 2, 1) := by decide +kernel
theorem dL_law_1002 : decode cL_law 1002 = .ok (.invokevirtual 157, 3) := by decide +kernel
theorem dL_law_1005 : decode cL_law 1005 = .ok (.iload 5, 2) := by decide +kernel
theorem dL_law_1007 : decode cL_law 1007 = .ok (.if_icmp .eq 5, 3) := by decide +kernel
theorem dL_law_1012 : decode cL_law 1012 = .ok (.iload 5, 2) := by decide +kernel
theorem dL_law_1014 : decode cL_law 1014 = .ok (.ifCond .ne 15, 3) := by decide +kernel
theorem dL_law_1029 : decode cL_law 1029 = .ok (.goto 2067, 3) := by decide +kernel
theorem dL_law_1032 : decode cL_law 1032 = .ok (.aload_n 1, 1) := by decide +kernel
theorem dL_law_1033 : decode cL_law 1033 = .ok (.aload_n 0, 1) := by decide +kernel
theorem dL_law_1034 : decode cL_law 1034 = .ok (.iload 4, 2) := by decide +kernel
theorem dL_law_1036 : decode cL_law 1036 = .ok (.iconst 1, 1) := by decide +kernel
theorem dL_law_1037 : decode cL_law 1037 = .ok (.iadd, 1) := by decide +kernel
theorem dL_law_1038 : decode cL_law 1038 = .ok (.iaload, 1) := by decide +kernel
theorem dL_law_1039 : decode cL_law 1039 = .ok (.aload_n 3, 1) := by decide +kernel
theorem dL_law_1040 : decode cL_law 1040 = .ok (.invokestatic 199, 3) := by decide +kernel
theorem dL_law_1043 : decode cL_law 1043 = .ok (.istore 5, 2) := by decide +kernel
theorem dL_law_1045 : decode cL_law 1045 = .ok (.aload_n 2, 1) := by decide +kernel
theorem dL_law_1046 : decode cL_law 1046 = .ok (.aload_n 0, 1) := by decide +kernel
theorem dL_law_1047 : decode cL_law 1047 = .ok (.iload 4, 2) := by decide +kernel
theorem dL_law_1049 : decode cL_law 1049 = .ok (.iconst 1, 1) := by decide +kernel
theorem dL_law_1050 : decode cL_law 1050 = .ok (.iadd, 1) := by decide +kernel
theorem dL_law_1051 : decode cL_law 1051 = .ok (.iaload, 1) := by decide +kernel
theorem dL_law_1052 : decode cL_law 1052 = .ok (.invokevirtual 201, 3) := by decide +kernel
theorem dL_law_1055 : decode cL_law 1055 = .ok (.istore 6, 2) := by decide +kernel
theorem dL_law_1057 : decode cL_law 1057 = .ok (.aload_n 2, 1) := by decide +kernel
theorem dL_law_1058 : decode cL_law 1058 = .ok (.invokevirtual 157, 3) := by decide +kernel
theorem dL_law_1061 : decode cL_law 1061 = .ok (.iload 5, 2) := by decide +kernel
theorem dL_law_1063 : decode cL_law 1063 = .ok (.if_icmp .eq 5, 3) := by decide +kernel
theorem dL_law_1068 : decode cL_law 1068 = .ok (.iload 5, 2) := by decide +kernel
theorem dL_law_1070 : decode cL_law 1070 = .ok (.ifCond .ne 15, 3) := by decide +kernel
theorem dL_law_1085 : decode cL_law 1085 = .ok (.goto 2011, 3) := by decide +kernel
theorem dL_law_1088 : decode cL_law 1088 = .ok (.aload_n 1, 1) := by decide +kernel
theorem dL_law_1089 : decode cL_law 1089 = .ok (.aload_n 0, 1) := by decide +kernel
theorem dL_law_1090 : decode cL_law 1090 = .ok (.iload 4, 2) := by decide +kernel
theorem dL_law_1092 : decode cL_law 1092 = .ok (.iconst 1, 1) := by decide +kernel
theorem dL_law_1093 : decode cL_law 1093 = .ok (.iadd, 1) := by decide +kernel
theorem dL_law_1094 : decode cL_law 1094 = .ok (.iaload, 1) := by decide +kernel
theorem dL_law_1095 : decode cL_law 1095 = .ok (.aload_n 3, 1) := by decide +kernel
theorem dL_law_1096 : decode cL_law 1096 = .ok (.invokestatic 202, 3) := by decide +kernel
theorem dL_law_1099 : decode cL_law 1099 = .ok (.istore 5, 2) := by decide +kernel
theorem dL_law_1101 : decode cL_law 1101 = .ok (.aload_n 2, 1) := by decide +kernel
theorem dL_law_1102 : decode cL_law 1102 = .ok (.aload_n 0, 1) := by decide +kernel
theorem dL_law_1103 : decode cL_law 1103 = .ok (.iload 4, 2) := by decide +kernel
theorem dL_law_1105 : decode cL_law 1105 = .ok (.iconst 1, 1) := by decide +kernel
theorem dL_law_1106 : decode cL_law 1106 = .ok (.iadd, 1) := by decide +kernel
theorem dL_law_1107 : decode cL_law 1107 = .ok (.iaload, 1) := by decide +kernel
theorem dL_law_1108 : decode cL_law 1108 = .ok (.invokevirtual 204, 3) := by decide +kernel
theorem dL_law_1111 : decode cL_law 1111 = .ok (.istore 6, 2) := by decide +kernel
theorem dL_law_1113 : decode cL_law 1113 = .ok (.aload_n 2, 1) := by decide +kernel
theorem dL_law_1114 : decode cL_law 1114 = .ok (.invokevirtual 157, 3) := by decide +kernel
theorem dL_law_1117 : decode cL_law 1117 = .ok (.iload 5, 2) := by decide +kernel
theorem dL_law_1119 : decode cL_law 1119 = .ok (.if_icmp .eq 5, 3) := by decide +kernel
theorem dL_law_1124 : decode cL_law 1124 = .ok (.iload 5, 2) := by decide +kernel
theorem dL_law_1126 : decode cL_law 1126 = .ok (.ifCond .ne 15, 3) := by decide +kernel
theorem dL_law_1141 : decode cL_law 1141 = .ok (.goto 1955, 3) := by decide +kernel
theorem dL_law_1144 : decode cL_law 1144 = .ok (.aload_n 1, 1) := by decide +kernel
theorem dL_law_1145 : decode cL_law 1145 = .ok (.aload_n 0, 1) := by decide +kernel
theorem dL_law_1146 : decode cL_law 1146 = .ok (.iload 4, 2) := by decide +kernel
theorem dL_law_1148 : decode cL_law 1148 = .ok (.iconst 1, 1) := by decide +kernel
theorem dL_law_1149 : decode cL_law 1149 = .ok (.iadd, 1) := by decide +kernel
theorem dL_law_1150 : decode cL_law 1150 = .ok (.iaload, 1) := by decide +kernel
theorem dL_law_1151 : decode cL_law 1151 = .ok (.aload_n 3, 1) := by decide +kernel
theorem dL_law_1152 : decode cL_law 1152 = .ok (.invokestatic 205, 3) := by decide +kernel
theorem dL_law_1155 : decode cL_law 1155 = .ok (.istore 5, 2) := by decide +kernel
theorem dL_law_1157 : decode cL_law 1157 = .ok (.aload_n 2, 1) := by decide +kernel
theorem dL_law_1158 : decode cL_law 1158 = .ok (.aload_n 0, 1) := by decide +kernel
theorem dL_law_1159 : decode cL_law 1159 = .ok (.iload 4, 2) := by decide +kernel
theorem dL_law_1161 : decode cL_law 1161 = .ok (.iconst 1, 1) := by decide +kernel
theorem dL_law_1162 : decode cL_law 1162 = .ok (.iadd, 1) := by decide +kernel
theorem dL_law_1163 : decode cL_law 1163 = .ok (.iaload, 1) := by decide +kernel
theorem dL_law_1164 : decode cL_law 1164 = .ok (.invokevirtual 207, 3) := by decide +kernel
theorem dL_law_1167 : decode cL_law 1167 = .ok (.istore 6, 2) := by decide +kernel
theorem dL_law_1169 : decode cL_law 1169 = .ok (.aload_n 2, 1) := by decide +kernel
theorem dL_law_1170 : decode cL_law 1170 = .ok (.invokevirtual 157, 3) := by decide +kernel
theorem dL_law_1173 : decode cL_law 1173 = .ok (.iload 5, 2) := by decide +kernel
theorem dL_law_1175 : decode cL_law 1175 = .ok (.if_icmp .eq 5, 3) := by decide +kernel
theorem dL_law_1180 : decode cL_law 1180 = .ok (.iload 5, 2) := by decide +kernel
theorem dL_law_1182 : decode cL_law 1182 = .ok (.ifCond .ne 15, 3) := by decide +kernel
theorem dL_law_1197 : decode cL_law 1197 = .ok (.goto 1899, 3) := by decide +kernel
theorem dL_law_1200 : decode cL_law 1200 = .ok (.aload_n 1, 1) := by decide +kernel
theorem dL_law_1201 : decode cL_law 1201 = .ok (.aload_n 0, 1) := by decide +kernel
theorem dL_law_1202 : decode cL_law 1202 = .ok (.iload 4, 2) := by decide +kernel
theorem dL_law_1204 : decode cL_law 1204 = .ok (.iconst 1, 1) := by decide +kernel
theorem dL_law_1205 : decode cL_law 1205 = .ok (.iadd, 1) := by decide +kernel
theorem dL_law_1206 : decode cL_law 1206 = .ok (.iaload, 1) := by decide +kernel
theorem dL_law_1207 : decode cL_law 1207 = .ok (.aload_n 0, 1) := by decide +kernel
theorem dL_law_1208 : decode cL_law 1208 = .ok (.iload 4, 2) := by decide +kernel
theorem dL_law_1210 : decode cL_law 1210 = .ok (.iconst 2, 1) := by decide +kernel
theorem dL_law_1211 : decode cL_law 1211 = .ok (.iadd, 1) := by decide +kernel
theorem dL_law_1212 : decode cL_law 1212 = .ok (.iaload, 1) := by decide +kernel
theorem dL_law_1213 : decode cL_law 1213 = .ok (.aload_n 3, 1) := by decide +kernel
theorem dL_law_1214 : decode cL_law 1214 = .ok (.invokestatic 208, 3) := by decide +kernel
theorem dL_law_1217 : decode cL_law 1217 = .ok (.istore 5, 2) := by decide +kernel
theorem dL_law_1219 : decode cL_law 1219 = .ok (.aload_n 2, 1) := by decide +kernel
theorem dL_law_1220 : decode cL_law 1220 = .ok (.aload_n 0, 1) := by decide +kernel
theorem dL_law_1221 : decode cL_law 1221 = .ok (.iload 4, 2) := by decide +kernel
theorem dL_law_1223 : decode cL_law 1223 = .ok (.iconst 1, 1) := by decide +kernel
theorem dL_law_1224 : decode cL_law 1224 = .ok (.iadd, 1) := by decide +kernel
theorem dL_law_1225 : decode cL_law 1225 = .ok (.iaload, 1) := by decide +kernel
theorem dL_law_1226 : decode cL_law 1226 = .ok (.aload_n 0, 1) := by decide +kernel
theorem dL_law_1227 : decode cL_law 1227 = .ok (.iload 4, 2) := by decide +kernel
theorem dL_law_1229 : decode cL_law 1229 = .ok (.iconst 2, 1) := by decide +kernel
theorem dL_law_1230 : decode cL_law 1230 = .ok (.iadd, 1) := by decide +kernel
theorem dL_law_1231 : decode cL_law 1231 = .ok (.iaload, 1) := by decide +kernel
theorem dL_law_1232 : decode cL_law 1232 = .ok (.invokevirtual 210, 3) := by decide +kernel
theorem dL_law_1235 : decode cL_law 1235 = .ok (.istore 6, 2) := by decide +kernel
theorem dL_law_1237 : decode cL_law 1237 = .ok (.aload_n 2, 1) := by decide +kernel
theorem dL_law_1238 : decode cL_law 1238 = .ok (.invokevirtual 157, 3) := by decide +kernel
theorem dL_law_1241 : decode cL_law 1241 = .ok (.iload 5, 2) := by decide +kernel
theorem dL_law_1243 : decode cL_law 1243 = .ok (.if_icmp .eq 5, 3) := by decide +kernel
theorem dL_law_1248 : decode cL_law 1248 = .ok (.iload 5, 2) := by decide +kernel
theorem dL_law_1250 : decode cL_law 1250 = .ok (.ifCond .ne 15, 3) := by decide +kernel
theorem dL_law_1265 : decode cL_law 1265 = .ok (.goto 1831, 3) := by decide +kernel
theorem dL_law_1268 : decode cL_law 1268 = .ok (.aload_n 1, 1) := by decide +kernel
theorem dL_law_1269 : decode cL_law 1269 = .ok (.aload_n 3, 1) := by decide +kernel
theorem dL_law_1270 : decode cL_law 1270 = .ok (.invokestatic 211, 3) := by decide +kernel
theorem dL_law_1273 : decode cL_law 1273 = .ok (.istore 5, 2) := by decide +kernel
theorem dL_law_1275 : decode cL_law 1275 = .ok (.aload_n 2, 1) := by decide +kernel
theorem dL_law_1276 : decode cL_law 1276 = .ok (.invokevirtual 213, 3) := by decide +kernel
theorem dL_law_1279 : decode cL_law 1279 = .ok (.istore 6, 2) := by decide +kernel
theorem dL_law_1281 : decode cL_law 1281 = .ok (.aload_n 2, 1) := by decide +kernel
theorem dL_law_1282 : decode cL_law 1282 = .ok (.invokevirtual 157, 3) := by decide +kernel
theorem dL_law_1285 : decode cL_law 1285 = .ok (.iload 5, 2) := by decide +kernel
theorem dL_law_1287 : decode cL_law 1287 = .ok (.if_icmp .eq 5, 3) := by decide +kernel
theorem dL_law_1292 : decode cL_law 1292 = .ok (.iload 5, 2) := by decide +kernel
theorem dL_law_1294 : decode cL_law 1294 = .ok (.ifCond .ne 15, 3) := by decide +kernel
theorem dL_law_1309 : decode cL_law 1309 = .ok (.goto 1787, 3) := by decide +kernel
theorem dL_law_1312 : decode cL_law 1312 = .ok (.aload_n 1, 1) := by decide +kernel
theorem dL_law_1313 : decode cL_law 1313 = .ok (.aload_n 3, 1) := by decide +kernel
theorem dL_law_1314 : decode cL_law 1314 = .ok (.invokestatic 214, 3) := by decide +kernel
theorem dL_law_1317 : decode cL_law 1317 = .ok (.istore 5, 2) := by decide +kernel
theorem dL_law_1319 : decode cL_law 1319 = .ok (.aload_n 2, 1) := by decide +kernel
theorem dL_law_1320 : decode cL_law 1320 = .ok (.invokevirtual 216, 3) := by decide +kernel
theorem dL_law_1323 : decode cL_law 1323 = .ok (.istore 6, 2) := by decide +kernel
theorem dL_law_1325 : decode cL_law 1325 = .ok (.aload_n 2, 1) := by decide +kernel
theorem dL_law_1326 : decode cL_law 1326 = .ok (.invokevirtual 157, 3) := by decide +kernel
theorem dL_law_1329 : decode cL_law 1329 = .ok (.iload 5, 2) := by decide +kernel
theorem dL_law_1331 : decode cL_law 1331 = .ok (.if_icmp .eq 5, 3) := by decide +kernel
theorem dL_law_1336 : decode cL_law 1336 = .ok (.iload 5, 2) := by decide +kernel
theorem dL_law_1338 : decode cL_law 1338 = .ok (.ifCond .ne 15, 3) := by decide +kernel
theorem dL_law_1353 : decode cL_law 1353 = .ok (.goto 1743, 3) := by decide +kernel
theorem dL_law_1356 : decode cL_law 1356 = .ok (.aload_n 1, 1) := by decide +kernel
theorem dL_law_1357 : decode cL_law 1357 = .ok (.invokevirtual 217, 3) := by decide +kernel
theorem dL_law_1360 : decode cL_law 1360 = .ok (.aload_n 2, 1) := by decide +kernel
theorem dL_law_1361 : decode cL_law 1361 = .ok (.invokevirtual 220, 3) := by decide +kernel
theorem dL_law_1364 : decode cL_law 1364 = .ok (.if_icmp .eq 1732, 3) := by decide +kernel
theorem dL_law_1369 : decode cL_law 1369 = .ok (.aload_n 1, 1) := by decide +kernel
theorem dL_law_1370 : decode cL_law 1370 = .ok (.invokevirtual 221, 3) := by decide +kernel
theorem dL_law_1373 : decode cL_law 1373 = .ok (.aload_n 2, 1) := by decide +kernel
theorem dL_law_1374 : decode cL_law 1374 = .ok (.invokevirtual 224, 3) := by decide +kernel
theorem dL_law_1377 : decode cL_law 1377 = .ok (.if_icmp .eq 1719, 3) := by decide +kernel
theorem dL_law_1382 : decode cL_law 1382 = .ok (.aload_n 1, 1) := by decide +kernel
theorem dL_law_1383 : decode cL_law 1383 = .ok (.invokevirtual 225, 3) := by decide +kernel
theorem dL_law_1386 : decode cL_law 1386 = .ok (.aload_n 2, 1) := by decide +kernel
theorem dL_law_1387 : decode cL_law 1387 = .ok (.invokevirtual 228, 3) := by decide +kernel
theorem dL_law_1390 : decode cL_law 1390 = .ok (.if_icmp .eq 1706, 3) := by decide +kernel
theorem dL_law_1395 : decode cL_law 1395 = .ok (.aload_n 1, 1) := by decide +kernel
theorem dL_law_1396 : decode cL_law 1396 = .ok (.invokevirtual 229, 3) := by decide +kernel
theorem dL_law_1399 : decode cL_law 1399 = .ok (.aload_n 2, 1) := by decide +kernel
theorem dL_law_1400 : decode cL_law 1400 = .ok (.invokevirtual 232, 3) := by decide +kernel
theorem dL_law_1403 : decode cL_law 1403 = .ok (.if_icmp .eq 1693, 3) := by decide +kernel
theorem dL_law_1408 : decode cL_law 1408 = .ok (.aload_n 1, 1) := by decide +kernel
theorem dL_law_1409 : decode cL_law 1409 = .ok (.aload_n 0, 1) := by decide +kernel
theorem dL_law_1410 : decode cL_law 1410 = .ok (.iload 4, 2) := by decide +kernel
theorem dL_law_1412 : decode cL_law 1412 = .ok (.iconst 1, 1) := by decide +kernel
theorem dL_law_1413 : decode cL_law 1413 = .ok (.iadd, 1) := by decide +kernel
theorem dL_law_1414 : decode cL_law 1414 = .ok (.iaload, 1) := by decide +kernel
theorem dL_law_1415 : decode cL_law 1415 = .ok (.aload_n 3, 1) := by decide +kernel
theorem dL_law_1416 : decode cL_law 1416 = .ok (.invokestatic 233, 3) := by decide +kernel
theorem dL_law_1419 : decode cL_law 1419 = .ok (.istore 5, 2) := by decide +kernel
theorem dL_law_1421 : decode cL_law 1421 = .ok (.aload_n 2, 1) := by decide +kernel
theorem dL_law_1422 : decode cL_law 1422 = .ok (.aload_n 0, 1) := by decide +kernel
theorem dL_law_1423 : decode cL_law 1423 = .ok (.iload 4, 2) := by decide +kernel
theorem dL_law_1425 : decode cL_law 1425 = .ok (.iconst 1, 1) := by decide +kernel
theorem dL_law_1426 : decode cL_law 1426 = .ok (.iadd, 1) := by decide +kernel
theorem dL_law_1427 : decode cL_law 1427 = .ok (.iaload, 1) := by decide +kernel
theorem dL_law_1428 : decode cL_law 1428 = .ok (.invokevirtual 235, 3) := by decide +kernel
theorem dL_law_1431 : decode cL_law 1431 = .ok (.istore 6, 2) := by decide +kernel
theorem dL_law_1433 : decode cL_law 1433 = .ok (.aload_n 2, 1) := by decide +kernel
theorem dL_law_1434 : decode cL_law 1434 = .ok (.invokevirtual 157, 3) := by decide +kernel
theorem dL_law_1437 : decode cL_law 1437 = .ok (.iload 5, 2) := by decide +kernel
theorem dL_law_1439 : decode cL_law 1439 = .ok (.if_icmp .eq 5, 3) := by decide +kernel
theorem dL_law_1444 : decode cL_law 1444 = .ok (.iload 5, 2) := by decide +kernel
theorem dL_law_1446 : decode cL_law 1446 = .ok (.ifCond .ne 15, 3) := by decide +kernel
theorem dL_law_1461 : decode cL_law 1461 = .ok (.goto 1635, 3) := by decide +kernel
theorem dL_law_1464 : decode cL_law 1464 = .ok (.aload_n 1, 1) := by decide +kernel
theorem dL_law_1465 : decode cL_law 1465 = .ok (.aload_n 0, 1) := by decide +kernel
theorem dL_law_1466 : decode cL_law 1466 = .ok (.iload 4, 2) := by decide +kernel
theorem dL_law_1468 : decode cL_law 1468 = .ok (.iconst 1, 1) := by decide +kernel
theorem dL_law_1469 : decode cL_law 1469 = .ok (.iadd, 1) := by decide +kernel
theorem dL_law_1470 : decode cL_law 1470 = .ok (.iaload, 1) := by decide +kernel
theorem dL_law_1471 : decode cL_law 1471 = .ok (.aload_n 0, 1) := by decide +kernel
theorem dL_law_1472 : decode cL_law 1472 = .ok (.iload 4, 2) := by decide +kernel
theorem dL_law_1474 : decode cL_law 1474 = .ok (.iconst 2, 1) := by decide +kernel
theorem dL_law_1475 : decode cL_law 1475 = .ok (.iadd, 1) := by decide +kernel
theorem dL_law_1476 : decode cL_law 1476 = .ok (.iaload, 1) := by decide +kernel
theorem dL_law_1477 : decode cL_law 1477 = .ok (.aload_n 3, 1) := by decide +kernel
theorem dL_law_1478 : decode cL_law 1478 = .ok (.invokestatic 236, 3) := by decide +kernel
theorem dL_law_1481 : decode cL_law 1481 = .ok (.istore 5, 2) := by decide +kernel
theorem dL_law_1483 : decode cL_law 1483 = .ok (.aload_n 2, 1) := by decide +kernel
theorem dL_law_1484 : decode cL_law 1484 = .ok (.aload_n 0, 1) := by decide +kernel
theorem dL_law_1485 : decode cL_law 1485 = .ok (.iload 4, 2) := by decide +kernel
theorem dL_law_1487 : decode cL_law 1487 = .ok (.iconst 1, 1) := by decide +kernel
theorem dL_law_1488 : decode cL_law 1488 = .ok (.iadd, 1) := by decide +kernel
theorem dL_law_1489 : decode cL_law 1489 = .ok (.iaload, 1) := by decide +kernel
theorem dL_law_1490 : decode cL_law 1490 = .ok (.aload_n 0, 1) := by decide +kernel
theorem dL_law_1491 : decode cL_law 1491 = .ok (.iload 4, 2) := by decide +kernel
theorem dL_law_1493 : decode cL_law 1493 = .ok (.iconst 2, 1) := by decide +kernel
theorem dL_law_1494 : decode cL_law 1494 = .ok (.iadd, 1) := by decide +kernel
theorem dL_law_1495 : decode cL_law 1495 = .ok (.iaload, 1) := by decide +kernel
theorem dL_law_1496 : decode cL_law 1496 = .ok (.invokevirtual 238, 3) := by decide +kernel
theorem dL_law_1499 : decode cL_law 1499 = .ok (.istore 6, 2) := by decide +kernel
theorem dL_law_1501 : decode cL_law 1501 = .ok (.aload_n 2, 1) := by decide +kernel
theorem dL_law_1502 : decode cL_law 1502 = .ok (.invokevirtual 157, 3) := by decide +kernel
theorem dL_law_1505 : decode cL_law 1505 = .ok (.iload 5, 2) := by decide +kernel
theorem dL_law_1507 : decode cL_law 1507 = .ok (.if_icmp .eq 5, 3) := by decide +kernel
theorem dL_law_1512 : decode cL_law 1512 = .ok (.iload 5, 2) := by decide +kernel
theorem dL_law_1514 : decode cL_law 1514 = .ok (.ifCond .ne 15, 3) := by decide +kernel
theorem dL_law_1529 : decode cL_law 1529 = .ok (.goto 1567, 3) := by decide +kernel
theorem dL_law_1532 : decode cL_law 1532 = .ok (.aload_n 1, 1) := by decide +kernel
theorem dL_law_1533 : decode cL_law 1533 = .ok (.aload_n 0, 1) := by decide +kernel
theorem dL_law_1534 : decode cL_law 1534 = .ok (.iload 4, 2) := by decide +kernel
theorem dL_law_1536 : decode cL_law 1536 = .ok (.iconst 1, 1) := by decide +kernel
theorem dL_law_1537 : decode cL_law 1537 = .ok (.iadd, 1) := by decide +kernel
theorem dL_law_1538 : decode cL_law 1538 = .ok (.iaload, 1) := by decide +kernel
theorem dL_law_1539 : decode cL_law 1539 = .ok (.aload_n 0, 1) := by decide +kernel
theorem dL_law_1540 : decode cL_law 1540 = .ok (.iload 4, 2) := by decide +kernel
theorem dL_law_1542 : decode cL_law 1542 = .ok (.iconst 2, 1) := by decide +kernel
theorem dL_law_1543 : decode cL_law 1543 = .ok (.iadd, 1) := by decide +kernel
theorem dL_law_1544 : decode cL_law 1544 = .ok (.iaload, 1) := by decide +kernel
theorem dL_law_1545 : decode cL_law 1545 = .ok (.aload_n 0, 1) := by decide +kernel
theorem dL_law_1546 : decode cL_law 1546 = .ok (.iload 4, 2) := by decide +kernel
theorem dL_law_1548 : decode cL_law 1548 = .ok (.iconst 3, 1) := by decide +kernel
theorem dL_law_1549 : decode cL_law 1549 = .ok (.iadd, 1) := by decide +kernel
theorem dL_law_1550 : decode cL_law 1550 = .ok (.iaload, 1) := by decide +kernel
theorem dL_law_1551 : decode cL_law 1551 = .ok (.aload_n 3, 1) := by decide +kernel
theorem dL_law_1552 : decode cL_law 1552 = .ok (.invokestatic 239, 3) := by decide +kernel
theorem dL_law_1555 : decode cL_law 1555 = .ok (.istore 5, 2) := by decide +kernel
theorem dL_law_1557 : decode cL_law 1557 = .ok (.aload_n 2, 1) := by decide +kernel
theorem dL_law_1558 : decode cL_law 1558 = .ok (.aload_n 0, 1) := by decide +kernel
theorem dL_law_1559 : decode cL_law 1559 = .ok (.iload 4, 2) := by decide +kernel
theorem dL_law_1561 : decode cL_law 1561 = .ok (.iconst 1, 1) := by decide +kernel
theorem dL_law_1562 : decode cL_law 1562 = .ok (.iadd, 1) := by decide +kernel
theorem dL_law_1563 : decode cL_law 1563 = .ok (.iaload, 1) := by decide +kernel
theorem dL_law_1564 : decode cL_law 1564 = .ok (.aload_n 0, 1) := by decide +kernel
theorem dL_law_1565 : decode cL_law 1565 = .ok (.iload 4, 2) := by decide +kernel
theorem dL_law_1567 : decode cL_law 1567 = .ok (.iconst 2, 1) := by decide +kernel
theorem dL_law_1568 : decode cL_law 1568 = .ok (.iadd, 1) := by decide +kernel
theorem dL_law_1569 : decode cL_law 1569 = .ok (.iaload, 1) := by decide +kernel
theorem dL_law_1570 : decode cL_law 1570 = .ok (.aload_n 0, 1) := by decide +kernel
theorem dL_law_1571 : decode cL_law 1571 = .ok (.iload 4, 2) := by decide +kernel
theorem dL_law_1573 : decode cL_law 1573 = .ok (.iconst 3, 1) := by decide +kernel
theorem dL_law_1574 : decode cL_law 1574 = .ok (.iadd, 1) := by decide +kernel
theorem dL_law_1575 : decode cL_law 1575 = .ok (.iaload, 1) := by decide +kernel
theorem dL_law_1576 : decode cL_law 1576 = .ok (.invokevirtual 241, 3) := by decide +kernel
theorem dL_law_1579 : decode cL_law 1579 = .ok (.istore 6, 2) := by decide +kernel
theorem dL_law_1581 : decode cL_law 1581 = .ok (.aload_n 2, 1) := by decide +kernel
theorem dL_law_1582 : decode cL_law 1582 = .ok (.invokevirtual 157, 3) := by decide +kernel
theorem dL_law_1585 : decode cL_law 1585 = .ok (.iload 5, 2) := by decide +kernel
theorem dL_law_1587 : decode cL_law 1587 = .ok (.if_icmp .eq 5, 3) := by decide +kernel
theorem dL_law_1592 : decode cL_law 1592 = .ok (.iload 5, 2) := by decide +kernel
theorem dL_law_1594 : decode cL_law 1594 = .ok (.ifCond .ne 15, 3) := by decide +kernel
theorem dL_law_1609 : decode cL_law 1609 = .ok (.goto 1487, 3) := by decide +kernel
theorem dL_law_1612 : decode cL_law 1612 = .ok (.aload_n 1, 1) := by decide +kernel
theorem dL_law_1613 : decode cL_law 1613 = .ok (.aload_n 0, 1) := by decide +kernel
theorem dL_law_1614 : decode cL_law 1614 = .ok (.iload 4, 2) := by decide +kernel
theorem dL_law_1616 : decode cL_law 1616 = .ok (.iconst 1, 1) := by decide +kernel
theorem dL_law_1617 : decode cL_law 1617 = .ok (.iadd, 1) := by decide +kernel
theorem dL_law_1618 : decode cL_law 1618 = .ok (.iaload, 1) := by decide +kernel
theorem dL_law_1619 : decode cL_law 1619 = .ok (.aload_n 3, 1) := by decide +kernel
theorem dL_law_1620 : decode cL_law 1620 = .ok (.invokestatic 242, 3) := by decide +kernel
theorem dL_law_1623 : decode cL_law 1623 = .ok (.istore 5, 2) := by decide +kernel
theorem dL_law_1625 : decode cL_law 1625 = .ok (.aload_n 2, 1) := by decide +kernel
theorem dL_law_1626 : decode cL_law 1626 = .ok (.aload_n 0, 1) := by decide +kernel
theorem dL_law_1627 : decode cL_law 1627 = .ok (.iload 4, 2) := by decide +kernel
theorem dL_law_1629 : decode cL_law 1629 = .ok (.iconst 1, 1) := by decide +kernel
theorem dL_law_1630 : decode cL_law 1630 = .ok (.iadd, 1) := by decide +kernel
theorem dL_law_1631 : decode cL_law 1631 = .ok (.iaload, 1) := by decide +kernel
theorem dL_law_1632 : decode cL_law 1632 = .ok (.invokevirtual 244, 3) := by decide +kernel
theorem dL_law_1635 : decode cL_law 1635 = .ok (.istore 6, 2) := by decide +kernel
theorem dL_law_1637 : decode cL_law 1637 = .ok (.aload_n 2, 1) := by decide +kernel
theorem dL_law_1638 : decode cL_law 1638 = .ok (.invokevirtual 157, 3) := by decide +kernel
theorem dL_law_1641 : decode cL_law 1641 = .ok (.iload 5, 2) := by decide +kernel
theorem dL_law_1643 : decode cL_law 1643 = .ok (.if_icmp .eq 5, 3) := by decide +kernel
theorem dL_law_1648 : decode cL_law 1648 = .ok (.iload 5, 2) := by decide +kernel
theorem dL_law_1650 : decode cL_law 1650 = .ok (.ifCond .ne 15, 3) := by decide +kernel
theorem dL_law_1653 : decode cL_law 1653 = .ok (.aload_n 3, 1) := by decide +kernel
theorem dL_law_1654 : decode cL_law 1654 = .ok (.iconst 0, 1) := by decide +kernel
theorem dL_law_1655 : decode cL_law 1655 = .ok (.laload, 1) := by decide +kernel
theorem dL_law_1656 : decode cL_law 1656 = .ok (.iload 6, 2) := by decide +kernel
theorem dL_law_1658 : decode cL_law 1658 = .ok (.i2l, 1) := by decide +kernel
theorem dL_law_1659 : decode cL_law 1659 = .ok (.lcmp, 1) := by decide +kernel
theorem dL_law_1660 : decode cL_law 1660 = .ok (.ifCond .eq 5, 3) := by decide +kernel
theorem dL_law_1665 : decode cL_law 1665 = .ok (.goto 1431, 3) := by decide +kernel
theorem dL_law_1668 : decode cL_law 1668 = .ok (.aload_n 1, 1) := by decide +kernel
theorem dL_law_1669 : decode cL_law 1669 = .ok (.aload_n 0, 1) := by decide +kernel
theorem dL_law_1670 : decode cL_law 1670 = .ok (.iload 4, 2) := by decide +kernel
theorem dL_law_1672 : decode cL_law 1672 = .ok (.iconst 1, 1) := by decide +kernel
theorem dL_law_1673 : decode cL_law 1673 = .ok (.iadd, 1) := by decide +kernel
theorem dL_law_1674 : decode cL_law 1674 = .ok (.iaload, 1) := by decide +kernel
theorem dL_law_1675 : decode cL_law 1675 = .ok (.aload_n 0, 1) := by decide +kernel
theorem dL_law_1676 : decode cL_law 1676 = .ok (.iload 4, 2) := by decide +kernel
theorem dL_law_1678 : decode cL_law 1678 = .ok (.iconst 2, 1) := by decide +kernel
theorem dL_law_1679 : decode cL_law 1679 = .ok (.iadd, 1) := by decide +kernel
theorem dL_law_1680 : decode cL_law 1680 = .ok (.iaload, 1) := by decide +kernel
theorem dL_law_1681 : decode cL_law 1681 = .ok (.aload_n 3, 1) := by decide +kernel
theorem dL_law_1682 : decode cL_law 1682 = .ok (.invokestatic 245, 3) := by decide +kernel
theorem dL_law_1685 : decode cL_law 1685 = .ok (.istore 5, 2) := by decide +kernel
theorem dL_law_1687 : decode cL_law 1687 = .ok (.aload_n 2, 1) := by decide +kernel
theorem dL_law_1688 : decode cL_law 1688 = .ok (.aload_n 0, 1) := by decide +kernel
theorem dL_law_1689 : decode cL_law 1689 = .ok (.iload 4, 2) := by decide +kernel
theorem dL_law_1691 : decode cL_law 1691 = .ok (.iconst 1, 1) := by decide +kernel
theorem dL_law_1692 : decode cL_law 1692 = .ok (.iadd, 1) := by decide +kernel
theorem dL_law_1693 : decode cL_law 1693 = .ok (.iaload, 1) := by decide +kernel
theorem dL_law_1694 : decode cL_law 1694 = .ok (.aload_n 0, 1) := by decide +kernel
theorem dL_law_1695 : decode cL_law 1695 = .ok (.iload 4, 2) := by decide +kernel
theorem dL_law_1697 : decode cL_law 1697 = .ok (.iconst 2, 1) := by decide +kernel
theorem dL_law_1698 : decode cL_law 1698 = .ok (.iadd, 1) := by decide +kernel
theorem dL_law_1699 : decode cL_law 1699 = .ok (.iaload, 1) := by decide +kernel
theorem dL_law_1700 : decode cL_law 1700 = .ok (.invokevirtual 247, 3) := by decide +kernel
theorem dL_law_1703 : decode cL_law 1703 = .ok (.istore 6, 2) := by decide +kernel
theorem dL_law_1705 : decode cL_law 1705 = .ok (.aload_n 2, 1) := by decide +kernel
theorem dL_law_1706 : decode cL_law 1706 = .ok (.invokevirtual 157, 3) := by decide +kernel
theorem dL_law_1709 : decode cL_law 1709 = .ok (.iload 5, 2) := by decide +kernel
theorem dL_law_1711 : decode cL_law 1711 = .ok (.if_icmp .eq 5, 3) := by decide +kernel
theorem dL_law_1716 : decode cL_law 1716 = .ok (.iload 5, 2) := by decide +kernel
theorem dL_law_1718 : decode cL_law 1718 = .ok (.ifCond .ne 15, 3) := by decide +kernel
theorem dL_law_1733 : decode cL_law 1733 = .ok (.goto 1363, 3) := by decide +kernel
theorem dL_law_1736 : decode cL_law 1736 = .ok (.aload_n 1, 1) := by decide +kernel
theorem dL_law_1737 : decode cL_law 1737 = .ok (.invokevirtual 248, 3) := by decide +kernel
theorem dL_law_1740 : decode cL_law 1740 = .ok (.aload_n 2, 1) := by decide +kernel
theorem dL_law_1741 : decode cL_law 1741 = .ok (.invokevirtual 252, 3) := by decide +kernel
theorem dL_law_1744 : decode cL_law 1744 = .ok (.if_icmp .eq 1352, 3) := by decide +kernel
theorem dL_law_1749 : decode cL_law 1749 = .ok (.aload_n 1, 1) := by decide +kernel
theorem dL_law_1750 : decode cL_law 1750 = .ok (.invokevirtual 253, 3) := by decide +kernel
theorem dL_law_1753 : decode cL_law 1753 = .ok (.aload_n 2, 1) := by decide +kernel
theorem dL_law_1754 : decode cL_law 1754 = .ok (.invokevirtual 256, 3) := by decide +kernel
theorem dL_law_1757 : decode cL_law 1757 = .ok (.if_icmp .eq 1339, 3) := by decide +kernel
theorem dL_law_1762 : decode cL_law 1762 = .ok (.aload_n 1, 1) := by decide +kernel
theorem dL_law_1763 : decode cL_law 1763 = .ok (.aload_n 0, 1) := by decide +kernel
theorem dL_law_1764 : decode cL_law 1764 = .ok (.iload 4, 2) := by decide +kernel
theorem dL_law_1766 : decode cL_law 1766 = .ok (.iconst 1, 1) := by decide +kernel
theorem dL_law_1767 : decode cL_law 1767 = .ok (.iadd, 1) := by decide +kernel
theorem dL_law_1768 : decode cL_law 1768 = .ok (.iaload, 1) := by decide +kernel
theorem dL_law_1769 : decode cL_law 1769 = .ok (.invokevirtual 257, 3) := by decide +kernel
theorem dL_law_1772 : decode cL_law 1772 = .ok (.aload_n 2, 1) := by decide +kernel
theorem dL_law_1773 : decode cL_law 1773 = .ok (.aload_n 0, 1) := by decide +kernel
theorem dL_law_1774 : decode cL_law 1774 = .ok (.iload 4, 2) := by decide +kernel
theorem dL_law_1776 : decode cL_law 1776 = .ok (.iconst 1, 1) := by decide +kernel
theorem dL_law_1777 : decode cL_law 1777 = .ok (.iadd, 1) := by decide +kernel
theorem dL_law_1778 : decode cL_law 1778 = .ok (.iaload, 1) := by decide +kernel
theorem dL_law_1779 : decode cL_law 1779 = .ok (.invokevirtual 260, 3) := by decide +kernel
theorem dL_law_1782 : decode cL_law 1782 = .ok (.if_icmp .eq 1314, 3) := by decide +kernel
theorem dL_law_1787 : decode cL_law 1787 = .ok (.aload_n 1, 1) := by decide +kernel
theorem dL_law_1788 : decode cL_law 1788 = .ok (.aload_n 0, 1) := by decide +kernel
theorem dL_law_1789 : decode cL_law 1789 = .ok (.iload 4, 2) := by decide +kernel
theorem dL_law_1791 : decode cL_law 1791 = .ok (.iconst 1, 1) := by decide +kernel
theorem dL_law_1792 : decode cL_law 1792 = .ok (.iadd, 1) := by decide +kernel
theorem dL_law_1793 : decode cL_law 1793 = .ok (.iaload, 1) := by decide +kernel
theorem dL_law_1794 : decode cL_law 1794 = .ok (.aload_n 3, 1) := by decide +kernel
theorem dL_law_1795 : decode cL_law 1795 = .ok (.invokestatic 261, 3) := by decide +kernel
theorem dL_law_1798 : decode cL_law 1798 = .ok (.istore 5, 2) := by decide +kernel
theorem dL_law_1800 : decode cL_law 1800 = .ok (.aload_n 2, 1) := by decide +kernel
theorem dL_law_1801 : decode cL_law 1801 = .ok (.aload_n 0, 1) := by decide +kernel
theorem dL_law_1802 : decode cL_law 1802 = .ok (.iload 4, 2) := by decide +kernel
theorem dL_law_1804 : decode cL_law 1804 = .ok (.iconst 1, 1) := by decide +kernel
theorem dL_law_1805 : decode cL_law 1805 = .ok (.iadd, 1) := by decide +kernel
theorem dL_law_1806 : decode cL_law 1806 = .ok (.iaload, 1) := by decide +kernel
theorem dL_law_1807 : decode cL_law 1807 = .ok (.invokevirtual 263, 3) := by decide +kernel
theorem dL_law_1810 : decode cL_law 1810 = .ok (.istore 6, 2) := by decide +kernel
theorem dL_law_1812 : decode cL_law 1812 = .ok (.aload_n 2, 1) := by decide +kernel
theorem dL_law_1813 : decode cL_law 1813 = .ok (.invokevirtual 157, 3) := by decide +kernel
theorem dL_law_1816 : decode cL_law 1816 = .ok (.iload 5, 2) := by decide +kernel
theorem dL_law_1818 : decode cL_law 1818 = .ok (.if_icmp .eq 5, 3) := by decide +kernel
theorem dL_law_1823 : decode cL_law 1823 = .ok (.iload 5, 2) := by decide +kernel
theorem dL_law_1825 : decode cL_law 1825 = .ok (.ifCond .ne 22, 3) := by decide +kernel
theorem dL_law_1847 : decode cL_law 1847 = .ok (.goto 1249, 3) := by decide +kernel
theorem dL_law_1850 : decode cL_law 1850 = .ok (.aload_n 1, 1) := by decide +kernel
theorem dL_law_1851 : decode cL_law 1851 = .ok (.aload_n 0, 1) := by decide +kernel
theorem dL_law_1852 : decode cL_law 1852 = .ok (.iload 4, 2) := by decide +kernel
theorem dL_law_1854 : decode cL_law 1854 = .ok (.iconst 1, 1) := by decide +kernel
theorem dL_law_1855 : decode cL_law 1855 = .ok (.iadd, 1) := by decide +kernel
theorem dL_law_1856 : decode cL_law 1856 = .ok (.iaload, 1) := by decide +kernel
theorem dL_law_1857 : decode cL_law 1857 = .ok (.aload_n 0, 1) := by decide +kernel
theorem dL_law_1858 : decode cL_law 1858 = .ok (.iload 4, 2) := by decide +kernel
theorem dL_law_1860 : decode cL_law 1860 = .ok (.iconst 2, 1) := by decide +kernel
theorem dL_law_1861 : decode cL_law 1861 = .ok (.iadd, 1) := by decide +kernel
theorem dL_law_1862 : decode cL_law 1862 = .ok (.iaload, 1) := by decide +kernel
theorem dL_law_1863 : decode cL_law 1863 = .ok (.ifCond .eq 7, 3) := by decide +kernel
theorem dL_law_1866 : decode cL_law 1866 = .ok (.iconst 1, 1) := by decide +kernel
theorem dL_law_1867 : decode cL_law 1867 = .ok (.goto 4, 3) := by decide +kernel
theorem dL_law_1870 : decode cL_law 1870 = .ok (.iconst 0, 1) := by decide +kernel
theorem dL_law_1871 : decode cL_law 1871 = .ok (.aload_n 3, 1) := by decide +kernel
theorem dL_law_1872 : decode cL_law 1872 = .ok (.invokestatic 264, 3) := by decide +kernel
theorem dL_law_1875 : decode cL_law 1875 = .ok (.istore 5, 2) := by decide +kernel
theorem dL_law_1877 : decode cL_law 1877 = .ok (.aload_n 2, 1) := by decide +kernel
theorem dL_law_1878 : decode cL_law 1878 = .ok (.aload_n 0, 1) := by decide +kernel
theorem dL_law_1879 : decode cL_law 1879 = .ok (.iload 4, 2) := by decide +kernel
theorem dL_law_1881 : decode cL_law 1881 = .ok (.iconst 1, 1) := by decide +kernel
theorem dL_law_1882 : decode cL_law 1882 = .ok (.iadd, 1) := by decide +kernel
theorem dL_law_1883 : decode cL_law 1883 = .ok (.iaload, 1) := by decide +kernel
theorem dL_law_1884 : decode cL_law 1884 = .ok (.aload_n 0, 1) := by decide +kernel
theorem dL_law_1885 : decode cL_law 1885 = .ok (.iload 4, 2) := by decide +kernel
theorem dL_law_1887 : decode cL_law 1887 = .ok (.iconst 2, 1) := by decide +kernel
theorem dL_law_1888 : decode cL_law 1888 = .ok (.iadd, 1) := by decide +kernel
theorem dL_law_1889 : decode cL_law 1889 = .ok (.iaload, 1) := by decide +kernel
theorem dL_law_1890 : decode cL_law 1890 = .ok (.ifCond .eq 7, 3) := by decide +kernel
theorem dL_law_1893 : decode cL_law 1893 = .ok (.iconst 1, 1) := by decide +kernel
theorem dL_law_1894 : decode cL_law 1894 = .ok (.goto 4, 3) := by decide +kernel
theorem dL_law_1897 : decode cL_law 1897 = .ok (.iconst 0, 1) := by decide +kernel
theorem dL_law_1898 : decode cL_law 1898 = .ok (.invokevirtual 267, 3) := by decide +kernel
theorem dL_law_1901 : decode cL_law 1901 = .ok (.istore 6, 2) := by decide +kernel
theorem dL_law_1903 : decode cL_law 1903 = .ok (.aload_n 2, 1) := by decide +kernel
theorem dL_law_1904 : decode cL_law 1904 = .ok (.invokevirtual 157, 3) := by decide +kernel
theorem dL_law_1907 : decode cL_law 1907 = .ok (.iload 5, 2) := by decide +kernel
theorem dL_law_1909 : decode cL_law 1909 = .ok (.if_icmp .eq 5, 3) := by decide +kernel
theorem dL_law_1914 : decode cL_law 1914 = .ok (.iload 5, 2) := by decide +kernel
theorem dL_law_1916 : decode cL_law 1916 = .ok (.ifCond .ne 15, 3) := by decide +kernel
theorem dL_law_1931 : decode cL_law 1931 = .ok (.goto 1165, 3) := by decide +kernel
theorem dL_law_1934 : decode cL_law 1934 = .ok (.aload_n 1, 1) := by decide +kernel
theorem dL_law_1935 : decode cL_law 1935 = .ok (.aload_n 0, 1) := by decide +kernel
theorem dL_law_1936 : decode cL_law 1936 = .ok (.iload 4, 2) := by decide +kernel
theorem dL_law_1938 : decode cL_law 1938 = .ok (.iconst 1, 1) := by decide +kernel
theorem dL_law_1939 : decode cL_law 1939 = .ok (.iadd, 1) := by decide +kernel
theorem dL_law_1940 : decode cL_law 1940 = .ok (.iaload, 1) := by decide +kernel
theorem dL_law_1941 : decode cL_law 1941 = .ok (.aload_n 3, 1) := by decide +kernel
theorem dL_law_1942 : decode cL_law 1942 = .ok (.invokestatic 268, 3) := by decide +kernel
theorem dL_law_1945 : decode cL_law 1945 = .ok (.istore 5, 2) := by decide +kernel
theorem dL_law_1947 : decode cL_law 1947 = .ok (.aload_n 2, 1) := by decide +kernel
theorem dL_law_1948 : decode cL_law 1948 = .ok (.aload_n 0, 1) := by decide +kernel
theorem dL_law_1949 : decode cL_law 1949 = .ok (.iload 4, 2) := by decide +kernel
theorem dL_law_1951 : decode cL_law 1951 = .ok (.iconst 1, 1) := by decide +kernel
theorem dL_law_1952 : decode cL_law 1952 = .ok (.iadd, 1) := by decide +kernel
theorem dL_law_1953 : decode cL_law 1953 = .ok (.iaload, 1) := by decide +kernel
theorem dL_law_1954 : decode cL_law 1954 = .ok (.invokevirtual 270, 3) := by decide +kernel
theorem dL_law_1957 : decode cL_law 1957 = .ok (.istore 6, 2) := by decide +kernel
theorem dL_law_1959 : decode cL_law 1959 = .ok (.aload_n 2, 1) := by decide +kernel
theorem dL_law_1960 : decode cL_law 1960 = .ok (.invokevirtual 157, 3) := by decide +kernel
theorem dL_law_1963 : decode cL_law 1963 = .ok (.iload 5, 2) := by decide +kernel
theorem dL_law_1965 : decode cL_law 1965 = .ok (.if_icmp .eq 5, 3) := by decide +kernel
theorem dL_law_1970 : decode cL_law 1970 = .ok (.iload 5, 2) := by decide +kernel
theorem dL_law_1972 : decode cL_law 1972 = .ok (.ifCond .ne 15, 3) := by decide +kernel
theorem dL_law_1987 : decode cL_law 1987 = .ok (.goto 1109, 3) := by decide +kernel
theorem dL_law_1990 : decode cL_law 1990 = .ok (.aload_n 1, 1) := by decide +kernel
theorem dL_law_1991 : decode cL_law 1991 = .ok (.aload_n 0, 1) := by decide +kernel
theorem dL_law_1992 : decode cL_law 1992 = .ok (.iload 4, 2) := by decide +kernel
theorem dL_law_1994 : decode cL_law 1994 = .ok (.iconst 1, 1) := by decide +kernel
theorem dL_law_1995 : decode cL_law 1995 = .ok (.iadd, 1) := by decide +kernel
theorem dL_law_1996 : decode cL_law 1996 = .ok (.iaload, 1) := by decide +kernel
theorem dL_law_1997 : decode cL_law 1997 = .ok (.aload_n 0, 1) := by decide +kernel
theorem dL_law_1998 : decode cL_law 1998 = .ok (.iload 4, 2) := by decide +kernel
theorem dL_law_2000 : decode cL_law 2000 = .ok (.iconst 2, 1) := by decide +kernel
theorem dL_law_2001 : decode cL_law 2001 = .ok (.iadd, 1) := by decide +kernel
theorem dL_law_2002 : decode cL_law 2002 = .ok (.iaload, 1) := by decide +kernel
theorem dL_law_2003 : decode cL_law 2003 = .ok (.aload_n 3, 1) := by decide +kernel
theorem dL_law_2004 : decode cL_law 2004 = .ok (.invokestatic 271, 3) := by decide +kernel
theorem dL_law_2007 : decode cL_law 2007 = .ok (.istore 5, 2) := by decide +kernel
theorem dL_law_2009 : decode cL_law 2009 = .ok (.aload_n 2, 1) := by decide +kernel
theorem dL_law_2010 : decode cL_law 2010 = .ok (.aload_n 0, 1) := by decide +kernel
theorem dL_law_2011 : decode cL_law 2011 = .ok (.iload 4, 2) := by decide +kernel
theorem dL_law_2013 : decode cL_law 2013 = .ok (.iconst 1, 1) := by decide +kernel
theorem dL_law_2014 : decode cL_law 2014 = .ok (.iadd, 1) := by decide +kernel
theorem dL_law_2015 : decode cL_law 2015 = .ok (.iaload, 1) := by decide +kernel
theorem dL_law_2016 : decode cL_law 2016 = .ok (.aload_n 0, 1) := by decide +kernel
theorem dL_law_2017 : decode cL_law 2017 = .ok (.iload 4, 2) := by decide +kernel
theorem dL_law_2019 : decode cL_law 2019 = .ok (.iconst 2, 1) := by decide +kernel
theorem dL_law_2020 : decode cL_law 2020 = .ok (.iadd, 1) := by decide +kernel
theorem dL_law_2021 : decode cL_law 2021 = .ok (.iaload, 1) := by decide +kernel
theorem dL_law_2022 : decode cL_law 2022 = .ok (.invokevirtual 273, 3) := by decide +kernel
theorem dL_law_2025 : decode cL_law 2025 = .ok (.istore 6, 2) := by decide +kernel
theorem dL_law_2027 : decode cL_law 2027 = .ok (.aload_n 2, 1) := by decide +kernel
theorem dL_law_2028 : decode cL_law 2028 = .ok (.invokevirtual 157, 3) := by decide +kernel
theorem dL_law_2031 : decode cL_law 2031 = .ok (.iload 5, 2) := by decide +kernel
theorem dL_law_2033 : decode cL_law 2033 = .ok (.if_icmp .eq 5, 3) := by decide +kernel
theorem dL_law_2038 : decode cL_law 2038 = .ok (.iload 5, 2) := by decide +kernel
theorem dL_law_2040 : decode cL_law 2040 = .ok (.ifCond .ne 15, 3) := by decide +kernel
theorem dL_law_2055 : decode cL_law 2055 = .ok (.goto 1041, 3) := by decide +kernel
theorem dL_law_2058 : decode cL_law 2058 = .ok (.aload_n 1, 1) := by decide +kernel
theorem dL_law_2059 : decode cL_law 2059 = .ok (.aload_n 0, 1) := by decide +kernel
theorem dL_law_2060 : decode cL_law 2060 = .ok (.iload 4, 2) := by decide +kernel
theorem dL_law_2062 : decode cL_law 2062 = .ok (.iconst 1, 1) := by decide +kernel
theorem dL_law_2063 : decode cL_law 2063 = .ok (.iadd, 1) := by decide +kernel
theorem dL_law_2064 : decode cL_law 2064 = .ok (.iaload, 1) := by decide +kernel
theorem dL_law_2065 : decode cL_law 2065 = .ok (.aload_n 0, 1) := by decide +kernel
theorem dL_law_2066 : decode cL_law 2066 = .ok (.iload 4, 2) := by decide +kernel
theorem dL_law_2068 : decode cL_law 2068 = .ok (.iconst 2, 1) := by decide +kernel
theorem dL_law_2069 : decode cL_law 2069 = .ok (.iadd, 1) := by decide +kernel
theorem dL_law_2070 : decode cL_law 2070 = .ok (.iaload, 1) := by decide +kernel
theorem dL_law_2071 : decode cL_law 2071 = .ok (.aload_n 0, 1) := by decide +kernel
theorem dL_law_2072 : decode cL_law 2072 = .ok (.iload 4, 2) := by decide +kernel
theorem dL_law_2074 : decode cL_law 2074 = .ok (.iconst 3, 1) := by decide +kernel
theorem dL_law_2075 : decode cL_law 2075 = .ok (.iadd, 1) := by decide +kernel
theorem dL_law_2076 : decode cL_law 2076 = .ok (.iaload, 1) := by decide +kernel
theorem dL_law_2077 : decode cL_law 2077 = .ok (.aload_n 3, 1) := by decide +kernel
theorem dL_law_2078 : decode cL_law 2078 = .ok (.invokestatic 274, 3) := by decide +kernel
theorem dL_law_2081 : decode cL_law 2081 = .ok (.istore 5, 2) := by decide +kernel
theorem dL_law_2083 : decode cL_law 2083 = .ok (.aload_n 2, 1) := by decide +kernel
theorem dL_law_2084 : decode cL_law 2084 = .ok (.aload_n 0, 1) := by decide +kernel
theorem dL_law_2085 : decode cL_law 2085 = .ok (.iload 4, 2) := by decide +kernel
theorem dL_law_2087 : decode cL_law 2087 = .ok (.iconst 1, 1) := by decide +kernel
theorem dL_law_2088 : decode cL_law 2088 = .ok (.iadd, 1) := by decide +kernel
theorem dL_law_2089 : decode cL_law 2089 = .ok (.iaload, 1) := by decide +kernel
theorem dL_law_2090 : decode cL_law 2090 = .ok (.aload_n 0, 1) := by decide +kernel
theorem dL_law_2091 : decode cL_law 2091 = .ok (.iload 4, 2) := by decide +kernel
theorem dL_law_2093 : decode cL_law 2093 = .ok (.iconst 2, 1) := by decide +kernel
theorem dL_law_2094 : decode cL_law 2094 = .ok (.iadd, 1) := by decide +kernel
theorem dL_law_2095 : decode cL_law 2095 = .ok (.iaload, 1) := by decide +kernel
theorem dL_law_2096 : decode cL_law 2096 = .ok (.aload_n 0, 1) := by decide +kernel
theorem dL_law_2097 : decode cL_law 2097 = .ok (.iload 4, 2) := by decide +kernel
theorem dL_law_2099 : decode cL_law 2099 = .ok (.iconst 3, 1) := by decide +kernel
theorem dL_law_2100 : decode cL_law 2100 = .ok (.iadd, 1) := by decide +kernel
theorem dL_law_2101 : decode cL_law 2101 = .ok (.iaload, 1) := by decide +kernel
theorem dL_law_2102 : decode cL_law 2102 = .ok (.invokevirtual 276, 3) := by decide +kernel
theorem dL_law_2105 : decode cL_law 2105 = .ok (.istore 6, 2) := by decide +kernel
theorem dL_law_2107 : decode cL_law 2107 = .ok (.aload_n 2, 1) := by decide +kernel
theorem dL_law_2108 : decode cL_law 2108 = .ok (.invokevirtual 157, 3) := by decide +kernel
theorem dL_law_2111 : decode cL_law 2111 = .ok (.iload 5, 2) := by decide +kernel
theorem dL_law_2113 : decode cL_law 2113 = .ok (.if_icmp .eq 5, 3) := by decide +kernel
theorem dL_law_2118 : decode cL_law 2118 = .ok (.iload 5, 2) := by decide +kernel
theorem dL_law_2120 : decode cL_law 2120 = .ok (.ifCond .ne 15, 3) := by decide +kernel
theorem dL_law_2135 : decode cL_law 2135 = .ok (.goto 961, 3) := by decide +kernel
theorem dL_law_2138 : decode cL_law 2138 = .ok (.aload_n 1, 1) := by decide +kernel
theorem dL_law_2139 : decode cL_law 2139 = .ok (.invokevirtual 277, 3) := by decide +kernel
theorem dL_law_2142 : decode cL_law 2142 = .ok (.aload_n 2, 1) := by decide +kernel
theorem dL_law_2143 : decode cL_law 2143 = .ok (.invokevirtual 280, 3) := by decide +kernel
theorem dL_law_2146 : decode cL_law 2146 = .ok (.if_icmp .eq 950, 3) := by decide +kernel
theorem dL_law_2151 : decode cL_law 2151 = .ok (.aload_n 1, 1) := by decide +kernel
theorem dL_law_2152 : decode cL_law 2152 = .ok (.aload_n 0, 1) := by decide +kernel
theorem dL_law_2153 : decode cL_law 2153 = .ok (.iload 4, 2) := by decide +kernel
theorem dL_law_2155 : decode cL_law 2155 = .ok (.iconst 1, 1) := by decide +kernel
theorem dL_law_2156 : decode cL_law 2156 = .ok (.iadd, 1) := by decide +kernel
theorem dL_law_2157 : decode cL_law 2157 = .ok (.iaload, 1) := by decide +kernel
theorem dL_law_2158 : decode cL_law 2158 = .ok (.invokevirtual 281, 3) := by decide +kernel
theorem dL_law_2161 : decode cL_law 2161 = .ok (.aload_n 2, 1) := by decide +kernel
theorem dL_law_2162 : decode cL_law 2162 = .ok (.aload_n 0, 1) := by decide +kernel
theorem dL_law_2163 : decode cL_law 2163 = .ok (.iload 4, 2) := by decide +kernel
theorem dL_law_2165 : decode cL_law 2165 = .ok (.iconst 1, 1) := by decide +kernel
theorem dL_law_2166 : decode cL_law 2166 = .ok (.iadd, 1) := by decide +kernel
theorem dL_law_2167 : decode cL_law 2167 = .ok (.iaload, 1) := by decide +kernel
theorem dL_law_2168 : decode cL_law 2168 = .ok (.invokevirtual 284, 3) := by decide +kernel
theorem dL_law_2171 : decode cL_law 2171 = .ok (.if_icmp .eq 925, 3) := by decide +kernel
theorem dL_law_2176 : decode cL_law 2176 = .ok (.aload_n 1, 1) := by decide +kernel
theorem dL_law_2177 : decode cL_law 2177 = .ok (.aload_n 0, 1) := by decide +kernel
theorem dL_law_2178 : decode cL_law 2178 = .ok (.iload 4, 2) := by decide +kernel
theorem dL_law_2180 : decode cL_law 2180 = .ok (.iconst 1, 1) := by decide +kernel
theorem dL_law_2181 : decode cL_law 2181 = .ok (.iadd, 1) := by decide +kernel
theorem dL_law_2182 : decode cL_law 2182 = .ok (.iaload, 1) := by decide +kernel
theorem dL_law_2183 : decode cL_law 2183 = .ok (.aload_n 0, 1) := by decide +kernel
theorem dL_law_2184 : decode cL_law 2184 = .ok (.iload 4, 2) := by decide +kernel
theorem dL_law_2186 : decode cL_law 2186 = .ok (.iconst 2, 1) := by decide +kernel
theorem dL_law_2187 : decode cL_law 2187 = .ok (.iadd, 1) := by decide +kernel
theorem dL_law_2188 : decode cL_law 2188 = .ok (.iaload, 1) := by decide +kernel
theorem dL_law_2189 : decode cL_law 2189 = .ok (.aload_n 3, 1) := by decide +kernel
theorem dL_law_2190 : decode cL_law 2190 = .ok (.invokestatic 285, 3) := by decide +kernel
theorem dL_law_2193 : decode cL_law 2193 = .ok (.istore 5, 2) := by decide +kernel
theorem dL_law_2195 : decode cL_law 2195 = .ok (.aload_n 2, 1) := by decide +kernel
theorem dL_law_2196 : decode cL_law 2196 = .ok (.aload_n 0, 1) := by decide +kernel
theorem dL_law_2197 : decode cL_law 2197 = .ok (.iload 4, 2) := by decide +kernel
theorem dL_law_2199 : decode cL_law 2199 = .ok (.iconst 1, 1) := by decide +kernel
theorem dL_law_2200 : decode cL_law 2200 = .ok (.iadd, 1) := by decide +kernel
theorem dL_law_2201 : decode cL_law 2201 = .ok (.iaload, 1) := by decide +kernel
theorem dL_law_2202 : decode cL_law 2202 = .ok (.aload_n 0, 1) := by decide +kernel
theorem dL_law_2203 : decode cL_law 2203 = .ok (.iload 4, 2) := by decide +kernel
theorem dL_law_2205 : decode cL_law 2205 = .ok (.iconst 2, 1) := by decide +kernel
theorem dL_law_2206 : decode cL_law 2206 = .ok (.iadd, 1) := by decide +kernel
theorem dL_law_2207 : decode cL_law 2207 = .ok (.iaload, 1) := by decide +kernel
theorem dL_law_2208 : decode cL_law 2208 = .ok (.invokevirtual 287, 3) := by decide +kernel
theorem dL_law_2211 : decode cL_law 2211 = .ok (.istore 6, 2) := by decide +kernel
theorem dL_law_2213 : decode cL_law 2213 = .ok (.aload_n 2, 1) := by decide +kernel
theorem dL_law_2214 : decode cL_law 2214 = .ok (.invokevirtual 157, 3) := by decide +kernel
theorem dL_law_2217 : decode cL_law 2217 = .ok (.iload 5, 2) := by decide +kernel
theorem dL_law_2219 : decode cL_law 2219 = .ok (.if_icmp .eq 5, 3) := by decide +kernel
theorem dL_law_2224 : decode cL_law 2224 = .ok (.iload 5, 2) := by decide +kernel
theorem dL_law_2226 : decode cL_law 2226 = .ok (.ifCond .ne 22, 3) := by decide +kernel
theorem dL_law_2248 : decode cL_law 2248 = .ok (.goto 848, 3) := by decide +kernel
theorem dL_law_2251 : decode cL_law 2251 = .ok (.aload_n 1, 1) := by decide +kernel
theorem dL_law_2252 : decode cL_law 2252 = .ok (.aload_n 0, 1) := by decide +kernel
theorem dL_law_2253 : decode cL_law 2253 = .ok (.iload 4, 2) := by decide +kernel
theorem dL_law_2255 : decode cL_law 2255 = .ok (.iconst 1, 1) := by decide +kernel
theorem dL_law_2256 : decode cL_law 2256 = .ok (.iadd, 1) := by decide +kernel
theorem dL_law_2257 : decode cL_law 2257 = .ok (.iaload, 1) := by decide +kernel
theorem dL_law_2258 : decode cL_law 2258 = .ok (.aload_n 0, 1) := by decide +kernel
theorem dL_law_2259 : decode cL_law 2259 = .ok (.iload 4, 2) := by decide +kernel
theorem dL_law_2261 : decode cL_law 2261 = .ok (.iconst 2, 1) := by decide +kernel
theorem dL_law_2262 : decode cL_law 2262 = .ok (.iadd, 1) := by decide +kernel
theorem dL_law_2263 : decode cL_law 2263 = .ok (.iaload, 1) := by decide +kernel
theorem dL_law_2264 : decode cL_law 2264 = .ok (.aload_n 3, 1) := by decide +kernel
theorem dL_law_2265 : decode cL_law 2265 = .ok (.invokestatic 288, 3) := by decide +kernel
theorem dL_law_2268 : decode cL_law 2268 = .ok (.istore 5, 2) := by decide +kernel
theorem dL_law_2270 : decode cL_law 2270 = .ok (.aload_n 2, 1) := by decide +kernel
theorem dL_law_2271 : decode cL_law 2271 = .ok (.aload_n 0, 1) := by decide +kernel
theorem dL_law_2272 : decode cL_law 2272 = .ok (.iload 4, 2) := by decide +kernel
theorem dL_law_2274 : decode cL_law 2274 = .ok (.iconst 1, 1) := by decide +kernel
theorem dL_law_2275 : decode cL_law 2275 = .ok (.iadd, 1) := by decide +kernel
theorem dL_law_2276 : decode cL_law 2276 = .ok (.iaload, 1) := by decide +kernel
theorem dL_law_2277 : decode cL_law 2277 = .ok (.aload_n 0, 1) := by decide +kernel
theorem dL_law_2278 : decode cL_law 2278 = .ok (.iload 4, 2) := by decide +kernel
theorem dL_law_2280 : decode cL_law 2280 = .ok (.iconst 2, 1) := by decide +kernel
theorem dL_law_2281 : decode cL_law 2281 = .ok (.iadd, 1) := by decide +kernel
theorem dL_law_2282 : decode cL_law 2282 = .ok (.iaload, 1) := by decide +kernel
theorem dL_law_2283 : decode cL_law 2283 = .ok (.invokevirtual 290, 3) := by decide +kernel
theorem dL_law_2286 : decode cL_law 2286 = .ok (.istore 6, 2) := by decide +kernel
theorem dL_law_2288 : decode cL_law 2288 = .ok (.aload_n 2, 1) := by decide +kernel
theorem dL_law_2289 : decode cL_law 2289 = .ok (.invokevirtual 157, 3) := by decide +kernel
theorem dL_law_2292 : decode cL_law 2292 = .ok (.iload 5, 2) := by decide +kernel
theorem dL_law_2294 : decode cL_law 2294 = .ok (.if_icmp .eq 5, 3) := by decide +kernel
theorem dL_law_2299 : decode cL_law 2299 = .ok (.iload 5, 2) := by decide +kernel
theorem dL_law_2301 : decode cL_law 2301 = .ok (.ifCond .ne 15, 3) := by decide +kernel
theorem dL_law_2316 : decode cL_law 2316 = .ok (.goto 780, 3) := by decide +kernel
theorem dL_law_2319 : decode cL_law 2319 = .ok (.aload_n 1, 1) := by decide +kernel
theorem dL_law_2320 : decode cL_law 2320 = .ok (.aload_n 0, 1) := by decide +kernel
theorem dL_law_2321 : decode cL_law 2321 = .ok (.iload 4, 2) := by decide +kernel
theorem dL_law_2323 : decode cL_law 2323 = .ok (.iconst 1, 1) := by decide +kernel
theorem dL_law_2324 : decode cL_law 2324 = .ok (.iadd, 1) := by decide +kernel
theorem dL_law_2325 : decode cL_law 2325 = .ok (.iaload, 1) := by decide +kernel
theorem dL_law_2326 : decode cL_law 2326 = .ok (.aload_n 0, 1) := by decide +kernel
theorem dL_law_2327 : decode cL_law 2327 = .ok (.iload 4, 2) := by decide +kernel
theorem dL_law_2329 : decode cL_law 2329 = .ok (.iconst 2, 1) := by decide +kernel
theorem dL_law_2330 : decode cL_law 2330 = .ok (.iadd, 1) := by decide +kernel
theorem dL_law_2331 : decode cL_law 2331 = .ok (.iaload, 1) := by decide +kernel
theorem dL_law_2332 : decode cL_law 2332 = .ok (.aload_n 3, 1) := by decide +kernel
theorem dL_law_2333 : decode cL_law 2333 = .ok (.invokestatic 291, 3) := by decide +kernel
theorem dL_law_2336 : decode cL_law 2336 = .ok (.istore 5, 2) := by decide +kernel
theorem dL_law_2338 : decode cL_law 2338 = .ok (.aload_n 2, 1) := by decide +kernel
theorem dL_law_2339 : decode cL_law 2339 = .ok (.aload_n 0, 1) := by decide +kernel
theorem dL_law_2340 : decode cL_law 2340 = .ok (.iload 4, 2) := by decide +kernel
theorem dL_law_2342 : decode cL_law 2342 = .ok (.iconst 1, 1) := by decide +kernel
theorem dL_law_2343 : decode cL_law 2343 = .ok (.iadd, 1) := by decide +kernel
theorem dL_law_2344 : decode cL_law 2344 = .ok (.iaload, 1) := by decide +kernel
theorem dL_law_2345 : decode cL_law 2345 = .ok (.aload_n 0, 1) := by decide +kernel
theorem dL_law_2346 : decode cL_law 2346 = .ok (.iload 4, 2) := by decide +kernel
theorem dL_law_2348 : decode cL_law 2348 = .ok (.iconst 2, 1) := by decide +kernel
theorem dL_law_2349 : decode cL_law 2349 = .ok (.iadd, 1) := by decide +kernel
theorem dL_law_2350 : decode cL_law 2350 = .ok (.iaload, 1) := by decide +kernel
theorem dL_law_2351 : decode cL_law 2351 = .ok (.invokevirtual 293, 3) := by decide +kernel
theorem dL_law_2354 : decode cL_law 2354 = .ok (.istore 6, 2) := by decide +kernel
theorem dL_law_2356 : decode cL_law 2356 = .ok (.aload_n 2, 1) := by decide +kernel
theorem dL_law_2357 : decode cL_law 2357 = .ok (.invokevirtual 157, 3) := by decide +kernel
theorem dL_law_2360 : decode cL_law 2360 = .ok (.iload 5, 2) := by decide +kernel
theorem dL_law_2362 : decode cL_law 2362 = .ok (.if_icmp .eq 5, 3) := by decide +kernel
theorem dL_law_2367 : decode cL_law 2367 = .ok (.iload 5, 2) := by decide +kernel
theorem dL_law_2369 : decode cL_law 2369 = .ok (.ifCond .ne 15, 3) := by decide +kernel
theorem dL_law_2384 : decode cL_law 2384 = .ok (.goto 712, 3) := by decide +kernel
theorem dL_law_2387 : decode cL_law 2387 = .ok (.aload_n 1, 1) := by decide +kernel
theorem dL_law_2388 : decode cL_law 2388 = .ok (.aload_n 0, 1) := by decide +kernel
theorem dL_law_2389 : decode cL_law 2389 = .ok (.iload 4, 2) := by decide +kernel
theorem dL_law_2391 : decode cL_law 2391 = .ok (.iconst 1, 1) := by decide +kernel
theorem dL_law_2392 : decode cL_law 2392 = .ok (.iadd, 1) := by decide +kernel
theorem dL_law_2393 : decode cL_law 2393 = .ok (.iaload, 1) := by decide +kernel
theorem dL_law_2394 : decode cL_law 2394 = .ok (.aload_n 0, 1) := by decide +kernel
theorem dL_law_2395 : decode cL_law 2395 = .ok (.iload 4, 2) := by decide +kernel
theorem dL_law_2397 : decode cL_law 2397 = .ok (.iconst 2, 1) := by decide +kernel
theorem dL_law_2398 : decode cL_law 2398 = .ok (.iadd, 1) := by decide +kernel
theorem dL_law_2399 : decode cL_law 2399 = .ok (.iaload, 1) := by decide +kernel
theorem dL_law_2400 : decode cL_law 2400 = .ok (.aload_n 3, 1) := by decide +kernel
theorem dL_law_2401 : decode cL_law 2401 = .ok (.invokestatic 294, 3) := by decide +kernel
theorem dL_law_2404 : decode cL_law 2404 = .ok (.istore 5, 2) := by decide +kernel
theorem dL_law_2406 : decode cL_law 2406 = .ok (.aload_n 2, 1) := by decide +kernel
theorem dL_law_2407 : decode cL_law 2407 = .ok (.aload_n 0, 1) := by decide +kernel
theorem dL_law_2408 : decode cL_law 2408 = .ok (.iload 4, 2) := by decide +kernel
theorem dL_law_2410 : decode cL_law 2410 = .ok (.iconst 1, 1) := by decide +kernel
theorem dL_law_2411 : decode cL_law 2411 = .ok (.iadd, 1) := by decide +kernel
theorem dL_law_2412 : decode cL_law 2412 = .ok (.iaload, 1) := by decide +kernel
theorem dL_law_2413 : decode cL_law 2413 = .ok (.aload_n 0, 1) := by decide +kernel
theorem dL_law_2414 : decode cL_law 2414 = .ok (.iload 4, 2) := by decide +kernel
theorem dL_law_2416 : decode cL_law 2416 = .ok (.iconst 2, 1) := by decide +kernel
theorem dL_law_2417 : decode cL_law 2417 = .ok (.iadd, 1) := by decide +kernel
theorem dL_law_2418 : decode cL_law 2418 = .ok (.iaload, 1) := by decide +kernel
theorem dL_law_2419 : decode cL_law 2419 = .ok (.invokevirtual 296, 3) := by decide +kernel
theorem dL_law_2422 : decode cL_law 2422 = .ok (.istore 6, 2) := by decide +kernel
theorem dL_law_2424 : decode cL_law 2424 = .ok (.aload_n 2, 1) := by decide +kernel
theorem dL_law_2425 : decode cL_law 2425 = .ok (.invokevirtual 157, 3) := by decide +kernel
theorem dL_law_2428 : decode cL_law 2428 = .ok (.iload 5, 2) := by decide +kernel
theorem dL_law_2430 : decode cL_law 2430 = .ok (.if_icmp .eq 5, 3) := by decide +kernel
theorem dL_law_2435 : decode cL_law 2435 = .ok (.iload 5, 2) := by decide +kernel
theorem dL_law_2437 : decode cL_law 2437 = .ok (.ifCond .ne 15, 3) := by decide +kernel
theorem dL_law_2452 : decode cL_law 2452 = .ok (.goto 644, 3) := by decide +kernel
theorem dL_law_2455 : decode cL_law 2455 = .ok (.aload_n 1, 1) := by decide +kernel
theorem dL_law_2456 : decode cL_law 2456 = .ok (.aload_n 0, 1) := by decide +kernel
theorem dL_law_2457 : decode cL_law 2457 = .ok (.iload 4, 2) := by decide +kernel
theorem dL_law_2459 : decode cL_law 2459 = .ok (.iconst 1, 1) := by decide +kernel
theorem dL_law_2460 : decode cL_law 2460 = .ok (.iadd, 1) := by decide +kernel
theorem dL_law_2461 : decode cL_law 2461 = .ok (.iaload, 1) := by decide +kernel
theorem dL_law_2462 : decode cL_law 2462 = .ok (.aload_n 0, 1) := by decide +kernel
theorem dL_law_2463 : decode cL_law 2463 = .ok (.iload 4, 2) := by decide +kernel
theorem dL_law_2465 : decode cL_law 2465 = .ok (.iconst 2, 1) := by decide +kernel
theorem dL_law_2466 : decode cL_law 2466 = .ok (.iadd, 1) := by decide +kernel
theorem dL_law_2467 : decode cL_law 2467 = .ok (.iaload, 1) := by decide +kernel
theorem dL_law_2468 : decode cL_law 2468 = .ok (.aload_n 0, 1) := by decide +kernel
theorem dL_law_2469 : decode cL_law 2469 = .ok (.iload 4, 2) := by decide +kernel
theorem dL_law_2471 : decode cL_law 2471 = .ok (.iconst 3, 1) := by decide +kernel
theorem dL_law_2472 : decode cL_law 2472 = .ok (.iadd, 1) := by decide +kernel
theorem dL_law_2473 : decode cL_law 2473 = .ok (.iaload, 1) := by decide +kernel
theorem dL_law_2474 : decode cL_law 2474 = .ok (.aload_n 3, 1) := by decide +kernel
theorem dL_law_2475 : decode cL_law 2475 = .ok (.invokestatic 297, 3) := by decide +kernel
theorem dL_law_2478 : decode cL_law 2478 = .ok (.istore 5, 2) := by decide +kernel
theorem dL_law_2480 : decode cL_law 2480 = .ok (.aload_n 2, 1) := by decide +kernel
theorem dL_law_2481 : decode cL_law 2481 = .ok (.aload_n 0, 1) := by decide +kernel
theorem dL_law_2482 : decode cL_law 2482 = .ok (.iload 4, 2) := by decide +kernel
theorem dL_law_2484 : decode cL_law 2484 = .ok (.iconst 1, 1) := by decide +kernel
theorem dL_law_2485 : decode cL_law 2485 = .ok (.iadd, 1) := by decide +kernel
theorem dL_law_2486 : decode cL_law 2486 = .ok (.iaload, 1) := by decide +kernel
theorem dL_law_2487 : decode cL_law 2487 = .ok (.aload_n 0, 1) := by decide +kernel
theorem dL_law_2488 : decode cL_law 2488 = .ok (.iload 4, 2) := by decide +kernel
theorem dL_law_2490 : decode cL_law 2490 = .ok (.iconst 2, 1) := by decide +kernel
theorem dL_law_2491 : decode cL_law 2491 = .ok (.iadd, 1) := by decide +kernel
theorem dL_law_2492 : decode cL_law 2492 = .ok (.iaload, 1) := by decide +kernel
theorem dL_law_2493 : decode cL_law 2493 = .ok (.aload_n 0, 1) := by decide +kernel
theorem dL_law_2494 : decode cL_law 2494 = .ok (.iload 4, 2) := by decide +kernel
theorem dL_law_2496 : decode cL_law 2496 = .ok (.iconst 3, 1) := by decide +kernel
theorem dL_law_2497 : decode cL_law 2497 = .ok (.iadd, 1) := by decide +kernel
theorem dL_law_2498 : decode cL_law 2498 = .ok (.iaload, 1) := by decide +kernel
theorem dL_law_2499 : decode cL_law 2499 = .ok (.invokevirtual 299, 3) := by decide +kernel
theorem dL_law_2502 : decode cL_law 2502 = .ok (.istore 6, 2) := by decide +kernel
theorem dL_law_2504 : decode cL_law 2504 = .ok (.aload_n 2, 1) := by decide +kernel
theorem dL_law_2505 : decode cL_law 2505 = .ok (.invokevirtual 157, 3) := by decide +kernel
theorem dL_law_2508 : decode cL_law 2508 = .ok (.iload 5, 2) := by decide +kernel
theorem dL_law_2510 : decode cL_law 2510 = .ok (.if_icmp .eq 5, 3) := by decide +kernel
theorem dL_law_2515 : decode cL_law 2515 = .ok (.iload 5, 2) := by decide +kernel
theorem dL_law_2517 : decode cL_law 2517 = .ok (.ifCond .ne 15, 3) := by decide +kernel
theorem dL_law_2532 : decode cL_law 2532 = .ok (.goto 564, 3) := by decide +kernel
theorem dL_law_2535 : decode cL_law 2535 = .ok (.aload_n 1, 1) := by decide +kernel
theorem dL_law_2536 : decode cL_law 2536 = .ok (.aload_n 0, 1) := by decide +kernel
theorem dL_law_2537 : decode cL_law 2537 = .ok (.iload 4, 2) := by decide +kernel
theorem dL_law_2539 : decode cL_law 2539 = .ok (.iconst 1, 1) := by decide +kernel
theorem dL_law_2540 : decode cL_law 2540 = .ok (.iadd, 1) := by decide +kernel
theorem dL_law_2541 : decode cL_law 2541 = .ok (.iaload, 1) := by decide +kernel
theorem dL_law_2542 : decode cL_law 2542 = .ok (.aload_n 0, 1) := by decide +kernel
theorem dL_law_2543 : decode cL_law 2543 = .ok (.iload 4, 2) := by decide +kernel
theorem dL_law_2545 : decode cL_law 2545 = .ok (.iconst 2, 1) := by decide +kernel
theorem dL_law_2546 : decode cL_law 2546 = .ok (.iadd, 1) := by decide +kernel
theorem dL_law_2547 : decode cL_law 2547 = .ok (.iaload, 1) := by decide +kernel
theorem dL_law_2548 : decode cL_law 2548 = .ok (.aload_n 0, 1) := by decide +kernel
theorem dL_law_2549 : decode cL_law 2549 = .ok (.iload 4, 2) := by decide +kernel
theorem dL_law_2551 : decode cL_law 2551 = .ok (.iconst 3, 1) := by decide +kernel
theorem dL_law_2552 : decode cL_law 2552 = .ok (.iadd, 1) := by decide +kernel
theorem dL_law_2553 : decode cL_law 2553 = .ok (.iaload, 1) := by decide +kernel
theorem dL_law_2554 : decode cL_law 2554 = .ok (.aload_n 0, 1) := by decide +kernel
theorem dL_law_2555 : decode cL_law 2555 = .ok (.iload 4, 2) := by decide +kernel
theorem dL_law_2557 : decode cL_law 2557 = .ok (.iconst 4, 1) := by decide +kernel
theorem dL_law_2558 : decode cL_law 2558 = .ok (.iadd, 1) := by decide +kernel
theorem dL_law_2559 : decode cL_law 2559 = .ok (.iaload, 1) := by decide +kernel
theorem dL_law_2560 : decode cL_law 2560 = .ok (.aload_n 3, 1) := by decide +kernel
theorem dL_law_2561 : decode cL_law 2561 = .ok (.invokestatic 300, 3) := by decide +kernel
theorem dL_law_2564 : decode cL_law 2564 = .ok (.istore 5, 2) := by decide +kernel
theorem dL_law_2566 : decode cL_law 2566 = .ok (.aload_n 2, 1) := by decide +kernel
theorem dL_law_2567 : decode cL_law 2567 = .ok (.aload_n 0, 1) := by decide +kernel
theorem dL_law_2568 : decode cL_law 2568 = .ok (.iload 4, 2) := by decide +kernel
theorem dL_law_2570 : decode cL_law 2570 = .ok (.iconst 1, 1) := by decide +kernel
theorem dL_law_2571 : decode cL_law 2571 = .ok (.iadd, 1) := by decide +kernel
theorem dL_law_2572 : decode cL_law 2572 = .ok (.iaload, 1) := by decide +kernel
theorem dL_law_2573 : decode cL_law 2573 = .ok (.aload_n 0, 1) := by decide +kernel
theorem dL_law_2574 : decode cL_law 2574 = .ok (.iload 4, 2) := by decide +kernel
theorem dL_law_2576 : decode cL_law 2576 = .ok (.iconst 2, 1) := by decide +kernel
theorem dL_law_2577 : decode cL_law 2577 = .ok (.iadd, 1) := by decide +kernel
theorem dL_law_2578 : decode cL_law 2578 = .ok (.iaload, 1) := by decide +kernel
theorem dL_law_2579 : decode cL_law 2579 = .ok (.aload_n 0, 1) := by decide +kernel
theorem dL_law_2580 : decode cL_law 2580 = .ok (.iload 4, 2) := by decide +kernel
theorem dL_law_2582 : decode cL_law 2582 = .ok (.iconst 3, 1) := by decide +kernel
theorem dL_law_2583 : decode cL_law 2583 = .ok (.iadd, 1) := by decide +kernel
theorem dL_law_2584 : decode cL_law 2584 = .ok (.iaload, 1) := by decide +kernel
theorem dL_law_2585 : decode cL_law 2585 = .ok (.aload_n 0, 1) := by decide +kernel
theorem dL_law_2586 : decode cL_law 2586 = .ok (.iload 4, 2) := by decide +kernel
theorem dL_law_2588 : decode cL_law 2588 = .ok (.iconst 4, 1) := by decide +kernel
theorem dL_law_2589 : decode cL_law 2589 = .ok (.iadd, 1) := by decide +kernel
theorem dL_law_2590 : decode cL_law 2590 = .ok (.iaload, 1) := by decide +kernel
theorem dL_law_2591 : decode cL_law 2591 = .ok (.invokevirtual 303, 3) := by decide +kernel
theorem dL_law_2594 : decode cL_law 2594 = .ok (.istore 6, 2) := by decide +kernel
theorem dL_law_2596 : decode cL_law 2596 = .ok (.aload_n 2, 1) := by decide +kernel
theorem dL_law_2597 : decode cL_law 2597 = .ok (.invokevirtual 157, 3) := by decide +kernel
theorem dL_law_2600 : decode cL_law 2600 = .ok (.iload 5, 2) := by decide +kernel
theorem dL_law_2602 : decode cL_law 2602 = .ok (.if_icmp .eq 5, 3) := by decide +kernel
theorem dL_law_2607 : decode cL_law 2607 = .ok (.iload 5, 2) := by decide +kernel
theorem dL_law_2609 : decode cL_law 2609 = .ok (.ifCond .ne 15, 3) := by decide +kernel
theorem dL_law_2624 : decode cL_law 2624 = .ok (.goto 472, 3) := by decide +kernel
theorem dL_law_2627 : decode cL_law 2627 = .ok (.aload_n 1, 1) := by decide +kernel
theorem dL_law_2628 : decode cL_law 2628 = .ok (.aload_n 0, 1) := by decide +kernel
theorem dL_law_2629 : decode cL_law 2629 = .ok (.iload 4, 2) := by decide +kernel
theorem dL_law_2631 : decode cL_law 2631 = .ok (.iconst 1, 1) := by decide +kernel
theorem dL_law_2632 : decode cL_law 2632 = .ok (.iadd, 1) := by decide +kernel
theorem dL_law_2633 : decode cL_law 2633 = .ok (.iaload, 1) := by decide +kernel
theorem dL_law_2634 : decode cL_law 2634 = .ok (.aload_n 0, 1) := by decide +kernel
theorem dL_law_2635 : decode cL_law 2635 = .ok (.iload 4, 2) := by decide +kernel
theorem dL_law_2637 : decode cL_law 2637 = .ok (.iconst 2, 1) := by decide +kernel
theorem dL_law_2638 : decode cL_law 2638 = .ok (.iadd, 1) := by decide +kernel
theorem dL_law_2639 : decode cL_law 2639 = .ok (.iaload, 1) := by decide +kernel
theorem dL_law_2640 : decode cL_law 2640 = .ok (.aload_n 0, 1) := by decide +kernel
theorem dL_law_2641 : decode cL_law 2641 = .ok (.iload 4, 2) := by decide +kernel
theorem dL_law_2643 : decode cL_law 2643 = .ok (.iconst 3, 1) := by decide +kernel
theorem dL_law_2644 : decode cL_law 2644 = .ok (.iadd, 1) := by decide +kernel
theorem dL_law_2645 : decode cL_law 2645 = .ok (.iaload, 1) := by decide +kernel
theorem dL_law_2646 : decode cL_law 2646 = .ok (.aload_n 3, 1) := by decide +kernel
theorem dL_law_2647 : decode cL_law 2647 = .ok (.invokestatic 304, 3) := by decide +kernel
theorem dL_law_2650 : decode cL_law 2650 = .ok (.istore 5, 2) := by decide +kernel
theorem dL_law_2652 : decode cL_law 2652 = .ok (.aload_n 2, 1) := by decide +kernel
theorem dL_law_2653 : decode cL_law 2653 = .ok (.aload_n 0, 1) := by decide +kernel
theorem dL_law_2654 : decode cL_law 2654 = .ok (.iload 4, 2) := by decide +kernel
theorem dL_law_2656 : decode cL_law 2656 = .ok (.iconst 1, 1) := by decide +kernel
theorem dL_law_2657 : decode cL_law 2657 = .ok (.iadd, 1) := by decide +kernel
theorem dL_law_2658 : decode cL_law 2658 = .ok (.iaload, 1) := by decide +kernel
theorem dL_law_2659 : decode cL_law 2659 = .ok (.aload_n 0, 1) := by decide +kernel
theorem dL_law_2660 : decode cL_law 2660 = .ok (.iload 4, 2) := by decide +kernel
theorem dL_law_2662 : decode cL_law 2662 = .ok (.iconst 2, 1) := by decide +kernel
theorem dL_law_2663 : decode cL_law 2663 = .ok (.iadd, 1) := by decide +kernel
theorem dL_law_2664 : decode cL_law 2664 = .ok (.iaload, 1) := by decide +kernel
theorem dL_law_2665 : decode cL_law 2665 = .ok (.aload_n 0, 1) := by decide +kernel
theorem dL_law_2666 : decode cL_law 2666 = .ok (.iload 4, 2) := by decide +kernel
theorem dL_law_2668 : decode cL_law 2668 = .ok (.iconst 3, 1) := by decide +kernel
theorem dL_law_2669 : decode cL_law 2669 = .ok (.iadd, 1) := by decide +kernel
theorem dL_law_2670 : decode cL_law 2670 = .ok (.iaload, 1) := by decide +kernel
theorem dL_law_2671 : decode cL_law 2671 = .ok (.invokevirtual 306, 3) := by decide +kernel
theorem dL_law_2674 : decode cL_law 2674 = .ok (.istore 6, 2) := by decide +kernel
theorem dL_law_2676 : decode cL_law 2676 = .ok (.aload_n 2, 1) := by decide +kernel
theorem dL_law_2677 : decode cL_law 2677 = .ok (.invokevirtual 157, 3) := by decide +kernel
theorem dL_law_2680 : decode cL_law 2680 = .ok (.iload 5, 2) := by decide +kernel
theorem dL_law_2682 : decode cL_law 2682 = .ok (.if_icmp .eq 5, 3) := by decide +kernel
theorem dL_law_2687 : decode cL_law 2687 = .ok (.iload 5, 2) := by decide +kernel
theorem dL_law_2689 : decode cL_law 2689 = .ok (.ifCond .ne 15, 3) := by decide +kernel
theorem dL_law_2704 : decode cL_law 2704 = .ok (.goto 392, 3) := by decide +kernel
theorem dL_law_2707 : decode cL_law 2707 = .ok (.aload_n 1, 1) := by decide +kernel
theorem dL_law_2708 : decode cL_law 2708 = .ok (.aload_n 0, 1) := by decide +kernel
theorem dL_law_2709 : decode cL_law 2709 = .ok (.iload 4, 2) := by decide +kernel
theorem dL_law_2711 : decode cL_law 2711 = .ok (.iconst 1, 1) := by decide +kernel
theorem dL_law_2712 : decode cL_law 2712 = .ok (.iadd, 1) := by decide +kernel
theorem dL_law_2713 : decode cL_law 2713 = .ok (.iaload, 1) := by decide +kernel
theorem dL_law_2714 : decode cL_law 2714 = .ok (.aload_n 3, 1) := by decide +kernel
theorem dL_law_2715 : decode cL_law 2715 = .ok (.invokestatic 307, 3) := by decide +kernel
theorem dL_law_2718 : decode cL_law 2718 = .ok (.istore 5, 2) := by decide +kernel
theorem dL_law_2720 : decode cL_law 2720 = .ok (.aload_n 2, 1) := by decide +kernel
theorem dL_law_2721 : decode cL_law 2721 = .ok (.aload_n 0, 1) := by decide +kernel
theorem dL_law_2722 : decode cL_law 2722 = .ok (.iload 4, 2) := by decide +kernel
theorem dL_law_2724 : decode cL_law 2724 = .ok (.iconst 1, 1) := by decide +kernel
theorem dL_law_2725 : decode cL_law 2725 = .ok (.iadd, 1) := by decide +kernel
theorem dL_law_2726 : decode cL_law 2726 = .ok (.iaload, 1) := by decide +kernel
theorem dL_law_2727 : decode cL_law 2727 = .ok (.invokevirtual 309, 3) := by decide +kernel
theorem dL_law_2730 : decode cL_law 2730 = .ok (.istore 6, 2) := by decide +kernel
theorem dL_law_2732 : decode cL_law 2732 = .ok (.aload_n 2, 1) := by decide +kernel
theorem dL_law_2733 : decode cL_law 2733 = .ok (.invokevirtual 157, 3) := by decide +kernel
theorem dL_law_2736 : decode cL_law 2736 = .ok (.iload 5, 2) := by decide +kernel
theorem dL_law_2738 : decode cL_law 2738 = .ok (.if_icmp .eq 5, 3) := by decide +kernel
theorem dL_law_2743 : decode cL_law 2743 = .ok (.iload 5, 2) := by decide +kernel
theorem dL_law_2745 : decode cL_law 2745 = .ok (.ifCond .ne 15, 3) := by decide +kernel
theorem dL_law_2760 : decode cL_law 2760 = .ok (.goto 336, 3) := by decide +kernel
theorem dL_law_2763 : decode cL_law 2763 = .ok (.aload_n 1, 1) := by decide +kernel
theorem dL_law_2764 : decode cL_law 2764 = .ok (.aload_n 0, 1) := by decide +kernel
theorem dL_law_2765 : decode cL_law 2765 = .ok (.iload 4, 2) := by decide +kernel
theorem dL_law_2767 : decode cL_law 2767 = .ok (.iconst 1, 1) := by decide +kernel
theorem dL_law_2768 : decode cL_law 2768 = .ok (.iadd, 1) := by decide +kernel
theorem dL_law_2769 : decode cL_law 2769 = .ok (.iaload, 1) := by decide +kernel
theorem dL_law_2770 : decode cL_law 2770 = .ok (.aload_n 0, 1) := by decide +kernel
theorem dL_law_2771 : decode cL_law 2771 = .ok (.iload 4, 2) := by decide +kernel
theorem dL_law_2773 : decode cL_law 2773 = .ok (.iconst 2, 1) := by decide +kernel
theorem dL_law_2774 : decode cL_law 2774 = .ok (.iadd, 1) := by decide +kernel
theorem dL_law_2775 : decode cL_law 2775 = .ok (.iaload, 1) := by decide +kernel
theorem dL_law_2776 : decode cL_law 2776 = .ok (.aload_n 3, 1) := by decide +kernel
theorem dL_law_2777 : decode cL_law 2777 = .ok (.invokestatic 310, 3) := by decide +kernel
theorem dL_law_2780 : decode cL_law 2780 = .ok (.istore 5, 2) := by decide +kernel
theorem dL_law_2782 : decode cL_law 2782 = .ok (.aload_n 2, 1) := by decide +kernel
theorem dL_law_2783 : decode cL_law 2783 = .ok (.aload_n 0, 1) := by decide +kernel
theorem dL_law_2784 : decode cL_law 2784 = .ok (.iload 4, 2) := by decide +kernel
theorem dL_law_2786 : decode cL_law 2786 = .ok (.iconst 1, 1) := by decide +kernel
theorem dL_law_2787 : decode cL_law 2787 = .ok (.iadd, 1) := by decide +kernel
theorem dL_law_2788 : decode cL_law 2788 = .ok (.iaload, 1) := by decide +kernel
theorem dL_law_2789 : decode cL_law 2789 = .ok (.aload_n 0, 1) := by decide +kernel
theorem dL_law_2790 : decode cL_law 2790 = .ok (.iload 4, 2) := by decide +kernel
theorem dL_law_2792 : decode cL_law 2792 = .ok (.iconst 2, 1) := by decide +kernel
theorem dL_law_2793 : decode cL_law 2793 = .ok (.iadd, 1) := by decide +kernel
theorem dL_law_2794 : decode cL_law 2794 = .ok (.iaload, 1) := by decide +kernel
theorem dL_law_2795 : decode cL_law 2795 = .ok (.invokevirtual 312, 3) := by decide +kernel
theorem dL_law_2798 : decode cL_law 2798 = .ok (.istore 6, 2) := by decide +kernel
theorem dL_law_2800 : decode cL_law 2800 = .ok (.aload_n 2, 1) := by decide +kernel
theorem dL_law_2801 : decode cL_law 2801 = .ok (.invokevirtual 157, 3) := by decide +kernel
theorem dL_law_2804 : decode cL_law 2804 = .ok (.iload 5, 2) := by decide +kernel
theorem dL_law_2806 : decode cL_law 2806 = .ok (.if_icmp .eq 5, 3) := by decide +kernel
theorem dL_law_2811 : decode cL_law 2811 = .ok (.iload 5, 2) := by decide +kernel
theorem dL_law_2813 : decode cL_law 2813 = .ok (.ifCond .ne 15, 3) := by decide +kernel
theorem dL_law_2828 : decode cL_law 2828 = .ok (.goto 268, 3) := by decide +kernel
theorem dL_law_2831 : decode cL_law 2831 = .ok (.aload_n 1, 1) := by decide +kernel
theorem dL_law_2832 : decode cL_law 2832 = .ok (.invokevirtual 313, 3) := by decide +kernel
theorem dL_law_2835 : decode cL_law 2835 = .ok (.aload_n 2, 1) := by decide +kernel
theorem dL_law_2836 : decode cL_law 2836 = .ok (.invokevirtual 316, 3) := by decide +kernel
theorem dL_law_2839 : decode cL_law 2839 = .ok (.if_icmp .eq 257, 3) := by decide +kernel
theorem dL_law_2844 : decode cL_law 2844 = .ok (.aload_n 1, 1) := by decide +kernel
theorem dL_law_2845 : decode cL_law 2845 = .ok (.aload_n 0, 1) := by decide +kernel
theorem dL_law_2846 : decode cL_law 2846 = .ok (.iload 4, 2) := by decide +kernel
theorem dL_law_2848 : decode cL_law 2848 = .ok (.iconst 1, 1) := by decide +kernel
theorem dL_law_2849 : decode cL_law 2849 = .ok (.iadd, 1) := by decide +kernel
theorem dL_law_2850 : decode cL_law 2850 = .ok (.iaload, 1) := by decide +kernel
theorem dL_law_2851 : decode cL_law 2851 = .ok (.ifCond .eq 7, 3) := by decide +kernel
theorem dL_law_2854 : decode cL_law 2854 = .ok (.iconst 1, 1) := by decide +kernel
theorem dL_law_2855 : decode cL_law 2855 = .ok (.goto 4, 3) := by decide +kernel
theorem dL_law_2858 : decode cL_law 2858 = .ok (.iconst 0, 1) := by decide +kernel
theorem dL_law_2859 : decode cL_law 2859 = .ok (.aload_n 3, 1) := by decide +kernel
theorem dL_law_2860 : decode cL_law 2860 = .ok (.invokestatic 317, 3) := by decide +kernel
theorem dL_law_2863 : decode cL_law 2863 = .ok (.istore 5, 2) := by decide +kernel
theorem dL_law_2865 : decode cL_law 2865 = .ok (.aload_n 2, 1) := by decide +kernel
theorem dL_law_2866 : decode cL_law 2866 = .ok (.aload_n 0, 1) := by decide +kernel
theorem dL_law_2867 : decode cL_law 2867 = .ok (.iload 4, 2) := by decide +kernel
theorem dL_law_2869 : decode cL_law 2869 = .ok (.iconst 1, 1) := by decide +kernel
theorem dL_law_2870 : decode cL_law 2870 = .ok (.iadd, 1) := by decide +kernel
theorem dL_law_2871 : decode cL_law 2871 = .ok (.iaload, 1) := by decide +kernel
theorem dL_law_2872 : decode cL_law 2872 = .ok (.ifCond .eq 7, 3) := by decide +kernel
theorem dL_law_2875 : decode cL_law 2875 = .ok (.iconst 1, 1) := by decide +kernel
theorem dL_law_2876 : decode cL_law 2876 = .ok (.goto 4, 3) := by decide +kernel
theorem dL_law_2879 : decode cL_law 2879 = .ok (.iconst 0, 1) := by decide +kernel
theorem dL_law_2880 : decode cL_law 2880 = .ok (.invokevirtual 320, 3) := by decide +kernel
theorem dL_law_2883 : decode cL_law 2883 = .ok (.istore 6, 2) := by decide +kernel
theorem dL_law_2885 : decode cL_law 2885 = .ok (.aload_n 2, 1) := by decide +kernel
theorem dL_law_2886 : decode cL_law 2886 = .ok (.invokevirtual 157, 3) := by decide +kernel
theorem dL_law_2889 : decode cL_law 2889 = .ok (.iload 5, 2) := by decide +kernel
theorem dL_law_2891 : decode cL_law 2891 = .ok (.if_icmp .eq 5, 3) := by decide +kernel
theorem dL_law_2896 : decode cL_law 2896 = .ok (.iload 5, 2) := by decide +kernel
theorem dL_law_2898 : decode cL_law 2898 = .ok (.ifCond .ne 15, 3) := by decide +kernel
theorem dL_law_2913 : decode cL_law 2913 = .ok (.goto 183, 3) := by decide +kernel
theorem dL_law_2916 : decode cL_law 2916 = .ok (.aload_n 1, 1) := by decide +kernel
theorem dL_law_2917 : decode cL_law 2917 = .ok (.invokevirtual 321, 3) := by decide +kernel
theorem dL_law_2920 : decode cL_law 2920 = .ok (.aload_n 2, 1) := by decide +kernel
theorem dL_law_2921 : decode cL_law 2921 = .ok (.invokevirtual 324, 3) := by decide +kernel
theorem dL_law_2924 : decode cL_law 2924 = .ok (.if_icmp .eq 172, 3) := by decide +kernel
theorem dL_law_2929 : decode cL_law 2929 = .ok (.aload_n 1, 1) := by decide +kernel
theorem dL_law_2930 : decode cL_law 2930 = .ok (.aload_n 0, 1) := by decide +kernel
theorem dL_law_2931 : decode cL_law 2931 = .ok (.iload 4, 2) := by decide +kernel
theorem dL_law_2933 : decode cL_law 2933 = .ok (.iconst 1, 1) := by decide +kernel
theorem dL_law_2934 : decode cL_law 2934 = .ok (.iadd, 1) := by decide +kernel
theorem dL_law_2935 : decode cL_law 2935 = .ok (.iaload, 1) := by decide +kernel
theorem dL_law_2936 : decode cL_law 2936 = .ok (.aload_n 3, 1) := by decide +kernel
theorem dL_law_2937 : decode cL_law 2937 = .ok (.invokestatic 325, 3) := by decide +kernel
theorem dL_law_2940 : decode cL_law 2940 = .ok (.istore 5, 2) := by decide +kernel
theorem dL_law_2942 : decode cL_law 2942 = .ok (.aload_n 2, 1) := by decide +kernel
theorem dL_law_2943 : decode cL_law 2943 = .ok (.aload_n 0, 1) := by decide +kernel
theorem dL_law_2944 : decode cL_law 2944 = .ok (.iload 4, 2) := by decide +kernel
theorem dL_law_2946 : decode cL_law 2946 = .ok (.iconst 1, 1) := by decide +kernel
theorem dL_law_2947 : decode cL_law 2947 = .ok (.iadd, 1) := by decide +kernel
theorem dL_law_2948 : decode cL_law 2948 = .ok (.iaload, 1) := by decide +kernel
theorem dL_law_2949 : decode cL_law 2949 = .ok (.invokevirtual 327, 3) := by decide +kernel
theorem dL_law_2952 : decode cL_law 2952 = .ok (.istore 6, 2) := by decide +kernel
theorem dL_law_2954 : decode cL_law 2954 = .ok (.aload_n 2, 1) := by decide +kernel
theorem dL_law_2955 : decode cL_law 2955 = .ok (.invokevirtual 157, 3) := by decide +kernel
theorem dL_law_2958 : decode cL_law 2958 = .ok (.iload 5, 2) := by decide +kernel
theorem dL_law_2960 : decode cL_law 2960 = .ok (.if_icmp .eq 5, 3) := by decide +kernel
theorem dL_law_2965 : decode cL_law 2965 = .ok (.iload 5, 2) := by decide +kernel
theorem dL_law_2967 : decode cL_law 2967 = .ok (.ifCond .ne 15, 3) := by decide +kernel
theorem dL_law_2982 : decode cL_law 2982 = .ok (.goto 114, 3) := by decide +kernel
theorem dL_law_2985 : decode cL_law 2985 = .ok (.aload_n 1, 1) := by decide +kernel
theorem dL_law_2986 : decode cL_law 2986 = .ok (.aload_n 0, 1) := by decide +kernel
theorem dL_law_2987 : decode cL_law 2987 = .ok (.iload 4, 2) := by decide +kernel
theorem dL_law_2989 : decode cL_law 2989 = .ok (.iconst 1, 1) := by decide +kernel
theorem dL_law_2990 : decode cL_law 2990 = .ok (.iadd, 1) := by decide +kernel
theorem dL_law_2991 : decode cL_law 2991 = .ok (.iaload, 1) := by decide +kernel
theorem dL_law_2992 : decode cL_law 2992 = .ok (.aload_n 3, 1) := by decide +kernel
theorem dL_law_2993 : decode cL_law 2993 = .ok (.invokestatic 328, 3) := by decide +kernel
theorem dL_law_2996 : decode cL_law 2996 = .ok (.istore 5, 2) := by decide +kernel
theorem dL_law_2998 : decode cL_law 2998 = .ok (.aload_n 2, 1) := by decide +kernel
theorem dL_law_2999 : decode cL_law 2999 = .ok (.aload_n 0, 1) := by decide +kernel
theorem dL_law_3000 : decode cL_law 3000 = .ok (.iload 4, 2) := by decide +kernel
theorem dL_law_3002 : decode cL_law 3002 = .ok (.iconst 1, 1) := by decide +kernel
theorem dL_law_3003 : decode cL_law 3003 = .ok (.iadd, 1) := by decide +kernel
theorem dL_law_3004 : decode cL_law 3004 = .ok (.iaload, 1) := by decide +kernel
theorem dL_law_3005 : decode cL_law 3005 = .ok (.invokevirtual 330, 3) := by decide +kernel
theorem dL_law_3008 : decode cL_law 3008 = .ok (.istore 6, 2) := by decide +kernel
theorem dL_law_3010 : decode cL_law 3010 = .ok (.aload_n 2, 1) := by decide +kernel
theorem dL_law_3011 : decode cL_law 3011 = .ok (.invokevirtual 157, 3) := by decide +kernel
theorem dL_law_3014 : decode cL_law 3014 = .ok (.iload 5, 2) := by decide +kernel
theorem dL_law_3016 : decode cL_law 3016 = .ok (.if_icmp .eq 5, 3) := by decide +kernel
theorem dL_law_3021 : decode cL_law 3021 = .ok (.iload 5, 2) := by decide +kernel
theorem dL_law_3023 : decode cL_law 3023 = .ok (.ifCond .ne 15, 3) := by decide +kernel
theorem dL_law_3038 : decode cL_law 3038 = .ok (.goto 58, 3) := by decide +kernel
theorem dL_law_3041 : decode cL_law 3041 = .ok (.aload_n 1, 1) := by decide +kernel
theorem dL_law_3042 : decode cL_law 3042 = .ok (.invokevirtual 331, 3) := by decide +kernel
theorem dL_law_3045 : decode cL_law 3045 = .ok (.dstore 5, 2) := by decide +kernel
theorem dL_law_3047 : decode cL_law 3047 = .ok (.aload_n 2, 1) := by decide +kernel
theorem dL_law_3048 : decode cL_law 3048 = .ok (.invokevirtual 335, 3) := by decide +kernel
theorem dL_law_3051 : decode cL_law 3051 = .ok (.dstore 7, 2) := by decide +kernel
theorem dL_law_3053 : decode cL_law 3053 = .ok (.dload 5, 2) := by decide +kernel
theorem dL_law_3055 : decode cL_law 3055 = .ok (.dload 7, 2) := by decide +kernel
theorem dL_law_3057 : decode cL_law 3057 = .ok (.dcmp .l, 1) := by decide +kernel
theorem dL_law_3058 : decode cL_law 3058 = .ok (.ifCond .eq 21, 3) := by decide +kernel
theorem dL_law_3079 : decode cL_law 3079 = .ok (.goto 17, 3) := by decide +kernel
theorem dL_law_3082 : decode cL_law 3082 = .ok (.aload_n 1, 1) := by decide +kernel
theorem dL_law_3083 : decode cL_law 3083 = .ok (.invokevirtual 336, 3) := by decide +kernel
theorem dL_law_3086 : decode cL_law 3086 = .ok (.aload_n 2, 1) := by decide +kernel
theorem dL_law_3087 : decode cL_law 3087 = .ok (.invokevirtual 340, 3) := by decide +kernel
theorem dL_law_3090 : decode cL_law 3090 = .ok (.lcmp, 1) := by decide +kernel
theorem dL_law_3091 : decode cL_law 3091 = .ok (.ifCond .eq 5, 3) := by decide +kernel
theorem dL_law_3096 : decode cL_law 3096 = .ok (.iinc 4 5, 3) := by decide +kernel
theorem dL_law_3099 : decode cL_law 3099 = .ok (.goto (-3076), 3) := by decide +kernel
theorem dL_law_3102 : decode cL_law 3102 = .ok (.iconst 1, 1) := by decide +kernel
theorem dL_law_3103 : decode cL_law 3103 = .ok (.ireturn, 1) := by decide +kernel
