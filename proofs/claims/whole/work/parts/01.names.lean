/-! ===== BEGIN printed: names, fields, word lists, decode rows ===== -/
def RX0 : String := "QuotientFile$Bag"
def TX0 : u_T := fun k => match k with
  | 0 => ("QuotientFile$Bag", "prints", "[I", true)
  | 1 => ("QuotientFile$Bag", "size", "I", false)
  | _ => ("QuotientFile$Bag", "q", "I", false)
def tyX0 : Nat → FieldType := fun k => match k with
  | 0 => .array .int
  | 1 => .int
  | _ => .int
abbrev wsX00 : List Cond := u_ws RX0 TX0 3
theorem nmX0 : ∀ a, a < 3 → ∀ b, b < 3 → a ≠ b → (TX0 a).2.1 ≠ (TX0 b).2.1 := by decide +kernel
theorem tyX0_ok : ∀ k, k < 3 → parseFieldDescriptor (TX0 k).2.2.1 = some (tyX0 k) := by decide +kernel
abbrev cX0_init : ByteArray := prog_2_method_1_code
def yX0_init : MethodName := ⟨RX0, "<init>", "()V"⟩
abbrev cX0_slotCount : ByteArray := prog_2_method_2_code
def yX0_slotCount : MethodName := ⟨RX0, "slotCount", "()I"⟩
abbrev cX0_isFull : ByteArray := prog_2_method_3_code
def yX0_isFull : MethodName := ⟨RX0, "isFull", "()Z"⟩
abbrev cX0_at : ByteArray := prog_2_method_4_code
def yX0_at : MethodName := ⟨RX0, "at", "(I)I"⟩
abbrev cX0_below : ByteArray := prog_2_method_5_code
def yX0_below : MethodName := ⟨RX0, "below", "(I)I"⟩
abbrev cX0_holds : ByteArray := prog_2_method_6_code
def yX0_holds : MethodName := ⟨RX0, "holds", "(I)Z"⟩
abbrev cX0_timesOf : ByteArray := prog_2_method_7_code
def yX0_timesOf : MethodName := ⟨RX0, "timesOf", "(I)I"⟩
abbrev cX0_rankOf : ByteArray := prog_2_method_8_code
def yX0_rankOf : MethodName := ⟨RX0, "rankOf", "(I)I"⟩
abbrev cX0_unlike : ByteArray := prog_2_method_9_code
def yX0_unlike : MethodName := ⟨RX0, "unlike", "()I"⟩
abbrev cX0_insert : ByteArray := prog_2_method_10_code
def yX0_insert : MethodName := ⟨RX0, "insert", "(I)I"⟩
abbrev cX0_dropOne : ByteArray := prog_2_method_11_code
def yX0_dropOne : MethodName := ⟨RX0, "dropOne", "(I)Z"⟩
abbrev cX0_cutTo : ByteArray := prog_2_method_12_code
def yX0_cutTo : MethodName := ⟨RX0, "cutTo", "(I)V"⟩
abbrev cX0_emptyTo : ByteArray := prog_2_method_13_code
def yX0_emptyTo : MethodName := ⟨RX0, "emptyTo", "(I)V"⟩
abbrev cX0_becomeLike : ByteArray := prog_2_method_14_code
def yX0_becomeLike : MethodName := ⟨RX0, "becomeLike", "(LQuotientFile$Bag;)V"⟩
def RX1 : String := "QuotientFile$KeyList"
def TX1 : u_T := fun k => match k with
  | 0 => ("QuotientFile$KeyList", "keys", "[I", true)
  | 1 => ("QuotientFile$KeyList", "outs", "[Z", true)
  | _ => ("QuotientFile$KeyList", "size", "I", false)
def tyX1 : Nat → FieldType := fun k => match k with
  | 0 => .array .int
  | 1 => .array .boolean
  | _ => .int
abbrev wsX10 : List Cond := u_ws RX1 TX1 3
theorem nmX1 : ∀ a, a < 3 → ∀ b, b < 3 → a ≠ b → (TX1 a).2.1 ≠ (TX1 b).2.1 := by decide +kernel
theorem tyX1_ok : ∀ k, k < 3 → parseFieldDescriptor (TX1 k).2.2.1 = some (tyX1 k) := by decide +kernel
abbrev cX1_init : ByteArray := prog_3_method_1_code
def yX1_init : MethodName := ⟨RX1, "<init>", "()V"⟩
abbrev cX1_keyAt : ByteArray := prog_3_method_2_code
def yX1_keyAt : MethodName := ⟨RX1, "keyAt", "(I)I"⟩
abbrev cX1_goesOut : ByteArray := prog_3_method_3_code
def yX1_goesOut : MethodName := ⟨RX1, "goesOut", "(I)Z"⟩
abbrev cX1_holds : ByteArray := prog_3_method_4_code
def yX1_holds : MethodName := ⟨RX1, "holds", "(I)Z"⟩
abbrev cX1_add : ByteArray := prog_3_method_5_code
def yX1_add : MethodName := ⟨RX1, "add", "(IZ)V"⟩
abbrev cX1_read : ByteArray := prog_3_method_6_code
def yX1_read : MethodName := ⟨RX1, "read", "(LQuotientFile$Text;Z)I"⟩
def RX2 : String := "QuotientFile$Layout"
def TX2 : u_T := fun k => match k with
  | 0 => ("QuotientFile$Layout", "places", "[I", true)
  | 1 => ("QuotientFile$Layout", "indexes", "[I", true)
  | 2 => ("QuotientFile$Layout", "cells", "[I", true)
  | 3 => ("QuotientFile$Layout", "q", "I", false)
  | 4 => ("QuotientFile$Layout", "slots", "I", false)
  | _ => ("QuotientFile$Layout", "shift", "I", false)
def tyX2 : Nat → FieldType := fun k => match k with
  | 0 => .array .int
  | 1 => .array .int
  | 2 => .array .int
  | 3 => .int
  | 4 => .int
  | _ => .int
abbrev wsX20 : List Cond := u_ws RX2 TX2 6
theorem nmX2 : ∀ a, a < 6 → ∀ b, b < 6 → a ≠ b → (TX2 a).2.1 ≠ (TX2 b).2.1 := by decide +kernel
theorem tyX2_ok : ∀ k, k < 6 → parseFieldDescriptor (TX2 k).2.2.1 = some (tyX2 k) := by decide +kernel
abbrev cX2_init : ByteArray := prog_4_method_1_code
def yX2_init : MethodName := ⟨RX2, "<init>", "()V"⟩
abbrev cX2_lay : ByteArray := prog_4_method_2_code
def yX2_lay : MethodName := ⟨RX2, "lay", "(LQuotientFile$Bag;I)V"⟩
abbrev cX2_placeAll : ByteArray := prog_4_method_3_code
def yX2_placeAll : MethodName := ⟨RX2, "placeAll", "(LQuotientFile$Bag;I)I"⟩
abbrev cX2_fillCell : ByteArray := prog_4_method_4_code
def yX2_fillCell : MethodName := ⟨RX2, "fillCell", "(LQuotientFile$Bag;I)V"⟩
abbrev cX2_slotOf : ByteArray := prog_4_method_5_code
def yX2_slotOf : MethodName := ⟨RX2, "slotOf", "(I)I"⟩
abbrev cX2_indexAt : ByteArray := prog_4_method_6_code
def yX2_indexAt : MethodName := ⟨RX2, "indexAt", "(I)I"⟩
abbrev cX2_cellAt : ByteArray := prog_4_method_7_code
def yX2_cellAt : MethodName := ⟨RX2, "cellAt", "(I)I"⟩
abbrev cX2_isMarked : ByteArray := prog_4_method_8_code
def yX2_isMarked : MethodName := ⟨RX2, "isMarked", "(II)Z"⟩
abbrev cX2_cellBits : ByteArray := prog_4_method_9_code
def yX2_cellBits : MethodName := ⟨RX2, "cellBits", "()I"⟩
abbrev cX2_wordAt : ByteArray := prog_4_method_10_code
def yX2_wordAt : MethodName := ⟨RX2, "wordAt", "(I)J"⟩
abbrev cX2_around : ByteArray := prog_4_method_11_code
def yX2_around : MethodName := ⟨RX2, "around", "(I)I"⟩
abbrev cX2_startsCluster : ByteArray := prog_4_method_12_code
def yX2_startsCluster : MethodName := ⟨RX2, "startsCluster", "(I)Z"⟩
abbrev cX2_clusterStart : ByteArray := prog_4_method_13_code
def yX2_clusterStart : MethodName := ⟨RX2, "clusterStart", "(I)I"⟩
abbrev cX2_clusterLength : ByteArray := prog_4_method_14_code
def yX2_clusterLength : MethodName := ⟨RX2, "clusterLength", "(I)I"⟩
abbrev cX2_runsIn : ByteArray := prog_4_method_15_code
def yX2_runsIn : MethodName := ⟨RX2, "runsIn", "(II)I"⟩
abbrev cX2_hasIndexOf : ByteArray := prog_4_method_16_code
def yX2_hasIndexOf : MethodName := ⟨RX2, "hasIndexOf", "(IIII)Z"⟩
abbrev cX2_gapLength : ByteArray := prog_4_method_17_code
def yX2_gapLength : MethodName := ⟨RX2, "gapLength", "(I)I"⟩
def RX3 : String := "QuotientFile$Numbers"
def TX3 : u_T := fun k => match k with
  | 0 => ("QuotientFile$Numbers", "cells", "[J", true)
  | _ => ("QuotientFile$Numbers", "size", "I", false)
def tyX3 : Nat → FieldType := fun k => match k with
  | 0 => .array .long
  | _ => .int
abbrev wsX30 : List Cond := u_ws RX3 TX3 2
theorem nmX3 : ∀ a, a < 2 → ∀ b, b < 2 → a ≠ b → (TX3 a).2.1 ≠ (TX3 b).2.1 := by decide +kernel
theorem tyX3_ok : ∀ k, k < 2 → parseFieldDescriptor (TX3 k).2.2.1 = some (tyX3 k) := by decide +kernel
abbrev cX3_init : ByteArray := prog_5_method_1_code
def yX3_init : MethodName := ⟨RX3, "<init>", "()V"⟩
abbrev cX3_restart : ByteArray := prog_5_method_2_code
def yX3_restart : MethodName := ⟨RX3, "restart", "()V"⟩
abbrev cX3_add : ByteArray := prog_5_method_3_code
def yX3_add : MethodName := ⟨RX3, "add", "(J)V"⟩
abbrev cX3_tell : ByteArray := prog_5_method_4_code
def yX3_tell : MethodName := ⟨RX3, "tell", "(J)V"⟩
abbrev cX3_tell_ : ByteArray := prog_5_method_5_code
def yX3_tell_ : MethodName := ⟨RX3, "tell", "(JJ)V"⟩
abbrev cX3_tell__ : ByteArray := prog_5_method_6_code
def yX3_tell__ : MethodName := ⟨RX3, "tell", "(JJJ)V"⟩
abbrev cX3_at : ByteArray := prog_5_method_7_code
def yX3_at : MethodName := ⟨RX3, "at", "(I)J"⟩
def RX4 : String := "QuotientFile$RawSlots"
def TX4 : u_T := fun k => match k with
  | 0 => ("QuotientFile$RawSlots", "cells", "[I", true)
  | 1 => ("QuotientFile$RawSlots", "homes", "[I", true)
  | _ => ("QuotientFile$RawSlots", "q", "I", false)
def tyX4 : Nat → FieldType := fun k => match k with
  | 0 => .array .int
  | 1 => .array .int
  | _ => .int
abbrev wsX40 : List Cond := u_ws RX4 TX4 3
theorem nmX4 : ∀ a, a < 3 → ∀ b, b < 3 → a ≠ b → (TX4 a).2.1 ≠ (TX4 b).2.1 := by decide +kernel
theorem tyX4_ok : ∀ k, k < 3 → parseFieldDescriptor (TX4 k).2.2.1 = some (tyX4 k) := by decide +kernel
abbrev cX4_init : ByteArray := prog_6_method_1_code
def yX4_init : MethodName := ⟨RX4, "<init>", "()V"⟩
abbrev cX4_slotCount : ByteArray := prog_6_method_2_code
def yX4_slotCount : MethodName := ⟨RX4, "slotCount", "()I"⟩
abbrev cX4_cellAt : ByteArray := prog_6_method_3_code
def yX4_cellAt : MethodName := ⟨RX4, "cellAt", "(I)I"⟩
abbrev cX4_setCell : ByteArray := prog_6_method_4_code
def yX4_setCell : MethodName := ⟨RX4, "setCell", "(II)V"⟩
abbrev cX4_readText : ByteArray := prog_6_method_5_code
def yX4_readText : MethodName := ⟨RX4, "readText", "(LQuotientFile$Text;I)I"⟩
abbrev cX4_readCell : ByteArray := prog_6_method_6_code
def yX4_readCell : MethodName := ⟨RX4, "readCell", "(LQuotientFile$Text;II)I"⟩
abbrev cX4_hexOf : ByteArray := prog_6_method_7_code
def yX4_hexOf : MethodName := ⟨RX4, "hexOf", "(I)I"⟩
abbrev cX4_readWord : ByteArray := prog_6_method_8_code
def yX4_readWord : MethodName := ⟨RX4, "readWord", "(LQuotientFile$Layout;IJ)Z"⟩
abbrev cX4_overlaid : ByteArray := prog_6_method_9_code
def yX4_overlaid : MethodName := ⟨RX4, "overlaid", "(IIIJ)I"⟩
abbrev cX4_decode : ByteArray := prog_6_method_10_code
def yX4_decode : MethodName := ⟨RX4, "decode", "(LQuotientFile$Bag;I)Z"⟩
abbrev cX4_emptySlot : ByteArray := prog_6_method_11_code
def yX4_emptySlot : MethodName := ⟨RX4, "emptySlot", "()I"⟩
abbrev cX4_marksOf : ByteArray := prog_6_method_12_code
def yX4_marksOf : MethodName := ⟨RX4, "marksOf", "(I)I"⟩
abbrev cX4_liesAs : ByteArray := prog_6_method_13_code
def yX4_liesAs : MethodName := ⟨RX4, "liesAs", "(LQuotientFile$Layout;)Z"⟩
def RX5 : String := "QuotientFile$Text"
def TX5 : u_T := fun k => match k with
  | 0 => ("QuotientFile$Text", "signs", "[C", true)
  | _ => ("QuotientFile$Text", "size", "I", false)
def tyX5 : Nat → FieldType := fun k => match k with
  | 0 => .array .char
  | _ => .int
abbrev wsX50 : List Cond := u_ws RX5 TX5 2
theorem nmX5 : ∀ a, a < 2 → ∀ b, b < 2 → a ≠ b → (TX5 a).2.1 ≠ (TX5 b).2.1 := by decide +kernel
theorem tyX5_ok : ∀ k, k < 2 → parseFieldDescriptor (TX5 k).2.2.1 = some (tyX5 k) := by decide +kernel
abbrev cX5_init : ByteArray := prog_7_method_1_code
def yX5_init : MethodName := ⟨RX5, "<init>", "()V"⟩
abbrev cX5_addFour : ByteArray := prog_7_method_2_code
def yX5_addFour : MethodName := ⟨RX5, "addFour", "(I)Z"⟩
abbrev cX5_cutTo : ByteArray := prog_7_method_3_code
def yX5_cutTo : MethodName := ⟨RX5, "cutTo", "(I)Z"⟩
abbrev cX5_at : ByteArray := prog_7_method_4_code
def yX5_at : MethodName := ⟨RX5, "at", "(I)I"⟩
def RX6 : String := "QuotientFile"
def TX6 : u_T := fun k => match k with
  | 0 => ("QuotientFile", "printBits", "I", false)
  | 1 => ("QuotientFile", "multiplier", "I", false)
  | 2 => ("QuotientFile", "loadLimit", "I", false)
  | 3 => ("QuotientFile", "first", "LQuotientFile$Bag;", true)
  | 4 => ("QuotientFile", "second", "LQuotientFile$Bag;", true)
  | 5 => ("QuotientFile", "draft", "LQuotientFile$Bag;", true)
  | 6 => ("QuotientFile", "lying", "LQuotientFile$Layout;", true)
  | 7 => ("QuotientFile", "later", "LQuotientFile$Layout;", true)
  | 8 => ("QuotientFile", "raw", "LQuotientFile$RawSlots;", true)
  | 9 => ("QuotientFile", "numbers", "LQuotientFile$Numbers;", true)
  | 10 => ("QuotientFile", "text", "LQuotientFile$Text;", true)
  | _ => ("QuotientFile", "told", "LQuotientFile$KeyList;", true)
def tyX6 : Nat → FieldType := fun k => match k with
  | 0 => .int
  | 1 => .int
  | 2 => .int
  | 3 => .object "QuotientFile$Bag"
  | 4 => .object "QuotientFile$Bag"
  | 5 => .object "QuotientFile$Bag"
  | 6 => .object "QuotientFile$Layout"
  | 7 => .object "QuotientFile$Layout"
  | 8 => .object "QuotientFile$RawSlots"
  | 9 => .object "QuotientFile$Numbers"
  | 10 => .object "QuotientFile$Text"
  | _ => .object "QuotientFile$KeyList"
abbrev wsX60 : List Cond := u_ws RX6 TX6 12
theorem nmX6 : ∀ a, a < 12 → ∀ b, b < 12 → a ≠ b → (TX6 a).2.1 ≠ (TX6 b).2.1 := by decide +kernel
theorem tyX6_ok : ∀ k, k < 12 → parseFieldDescriptor (TX6 k).2.2.1 = some (tyX6 k) := by decide +kernel
abbrev cX6_init : ByteArray := prog_1_method_1_code
def yX6_init : MethodName := ⟨RX6, "<init>", "()V"⟩
abbrev cX6_shape : ByteArray := prog_1_method_2_code
def yX6_shape : MethodName := ⟨RX6, "shape", "(II)I"⟩
abbrev cX6_load : ByteArray := prog_1_method_3_code
def yX6_load : MethodName := ⟨RX6, "load", "(I)I"⟩
abbrev cX6_print : ByteArray := prog_1_method_4_code
def yX6_print : MethodName := ⟨RX6, "print", "(II)I"⟩
abbrev cX6_puts : ByteArray := prog_1_method_5_code
def yX6_puts : MethodName := ⟨RX6, "puts", "(II)I"⟩
abbrev cX6_takes : ByteArray := prog_1_method_6_code
def yX6_takes : MethodName := ⟨RX6, "takes", "(II)I"⟩
abbrev cX6_has : ByteArray := prog_1_method_7_code
def yX6_has : MethodName := ⟨RX6, "has", "(II)I"⟩
abbrev cX6_twin : ByteArray := prog_1_method_8_code
def yX6_twin : MethodName := ⟨RX6, "twin", "(I)I"⟩
abbrev cX6_keys : ByteArray := prog_1_method_9_code
def yX6_keys : MethodName := ⟨RX6, "keys", "(I)I"⟩
abbrev cX6_wrongs : ByteArray := prog_1_method_10_code
def yX6_wrongs : MethodName := ⟨RX6, "wrongs", "(I)I"⟩
abbrev cX6_slot : ByteArray := prog_1_method_11_code
def yX6_slot : MethodName := ⟨RX6, "slot", "(II)I"⟩
abbrev cX6_word : ByteArray := prog_1_method_12_code
def yX6_word : MethodName := ⟨RX6, "word", "(II)J"⟩
abbrev cX6_lays : ByteArray := prog_1_method_13_code
def yX6_lays : MethodName := ⟨RX6, "lays", "(I)I"⟩
abbrev cX6_sets : ByteArray := prog_1_method_14_code
def yX6_sets : MethodName := ⟨RX6, "sets", "(IIII)I"⟩
abbrev cX6_run : ByteArray := prog_1_method_15_code
def yX6_run : MethodName := ⟨RX6, "run", "(II)I"⟩
abbrev cX6_cluster : ByteArray := prog_1_method_16_code
def yX6_cluster : MethodName := ⟨RX6, "cluster", "(II)I"⟩
abbrev cX6_clusters : ByteArray := prog_1_method_17_code
def yX6_clusters : MethodName := ⟨RX6, "clusters", "(I)I"⟩
abbrev cX6_would : ByteArray := prog_1_method_18_code
def yX6_would : MethodName := ⟨RX6, "would", "(II)I"⟩
abbrev cX6_looks : ByteArray := prog_1_method_19_code
def yX6_looks : MethodName := ⟨RX6, "looks", "(I)I"⟩
abbrev cX6_nth : ByteArray := prog_1_method_20_code
def yX6_nth : MethodName := ⟨RX6, "nth", "(II)I"⟩
abbrev cX6_best : ByteArray := prog_1_method_21_code
def yX6_best : MethodName := ⟨RX6, "best", "(I)I"⟩
abbrev cX6_span : ByteArray := prog_1_method_22_code
def yX6_span : MethodName := ⟨RX6, "span", "(III)I"⟩
abbrev cX6_after : ByteArray := prog_1_method_23_code
def yX6_after : MethodName := ⟨RX6, "after", "(II)I"⟩
abbrev cX6_gaps : ByteArray := prog_1_method_24_code
def yX6_gaps : MethodName := ⟨RX6, "gaps", "(I)I"⟩
abbrev cX6_doubles : ByteArray := prog_1_method_25_code
def yX6_doubles : MethodName := ⟨RX6, "doubles", "(I)I"⟩
abbrev cX6_halves : ByteArray := prog_1_method_26_code
def yX6_halves : MethodName := ⟨RX6, "halves", "(I)I"⟩
abbrev cX6_merges : ByteArray := prog_1_method_27_code
def yX6_merges : MethodName := ⟨RX6, "merges", "()I"⟩
abbrev cX6_spills : ByteArray := prog_1_method_28_code
def yX6_spills : MethodName := ⟨RX6, "spills", "(I)I"⟩
abbrev cX6_both : ByteArray := prog_1_method_29_code
def yX6_both : MethodName := ⟨RX6, "both", "(I)I"⟩
abbrev cX6_parts : ByteArray := prog_1_method_30_code
def yX6_parts : MethodName := ⟨RX6, "parts", "(I)I"⟩
abbrev cX6_keeps : ByteArray := prog_1_method_31_code
def yX6_keeps : MethodName := ⟨RX6, "keeps", "(Z)I"⟩
abbrev cX6_clears : ByteArray := prog_1_method_32_code
def yX6_clears : MethodName := ⟨RX6, "clears", "(I)I"⟩
abbrev cX6_common : ByteArray := prog_1_method_33_code
def yX6_common : MethodName := ⟨RX6, "common", "()I"⟩
abbrev cX6_full : ByteArray := prog_1_method_34_code
def yX6_full : MethodName := ⟨RX6, "full", "(I)I"⟩
abbrev cX6_count : ByteArray := prog_1_method_35_code
def yX6_count : MethodName := ⟨RX6, "count", "(II)I"⟩
abbrev cX6_sign : ByteArray := prog_1_method_36_code
def yX6_sign : MethodName := ⟨RX6, "sign", "(I)I"⟩
abbrev cX6_end : ByteArray := prog_1_method_37_code
def yX6_end : MethodName := ⟨RX6, "end", "(I)Z"⟩
abbrev cX6_row : ByteArray := prog_1_method_38_code
def yX6_row : MethodName := ⟨RX6, "row", "(I)J"⟩
abbrev cX6_bagOf : ByteArray := prog_1_method_39_code
def yX6_bagOf : MethodName := ⟨RX6, "bagOf", "(I)LQuotientFile$Bag;"⟩
abbrev cX6_isKey : ByteArray := prog_1_method_40_code
def yX6_isKey : MethodName := ⟨RX6, "isKey", "(I)Z"⟩
abbrev cX6_printOf : ByteArray := prog_1_method_41_code
def yX6_printOf : MethodName := ⟨RX6, "printOf", "(I)I"⟩
abbrev cX6_greatestQ : ByteArray := prog_1_method_42_code
def yX6_greatestQ : MethodName := ⟨RX6, "greatestQ", "()I"⟩
abbrev cX6_isWord : ByteArray := prog_1_method_43_code
def yX6_isWord : MethodName := ⟨RX6, "isWord", "(LQuotientFile$Bag;I)Z"⟩
abbrev cX6_mustDouble : ByteArray := prog_1_method_44_code
def yX6_mustDouble : MethodName := ⟨RX6, "mustDouble", "(LQuotientFile$Bag;)Z"⟩
abbrev cX6_putIn : ByteArray := prog_1_method_45_code
def yX6_putIn : MethodName := ⟨RX6, "putIn", "(LQuotientFile$Bag;I)I"⟩
abbrev cX6_doKey : ByteArray := prog_1_method_46_code
def yX6_doKey : MethodName := ⟨RX6, "doKey", "(LQuotientFile$Bag;IZ)Z"⟩
abbrev cX6_missingOfTold : ByteArray := prog_1_method_47_code
def yX6_missingOfTold : MethodName := ⟨RX6, "missingOfTold", "(LQuotientFile$Bag;)I"⟩
abbrev cX6_becomeRaw : ByteArray := prog_1_method_48_code
def yX6_becomeRaw : MethodName := ⟨RX6, "becomeRaw", "(LQuotientFile$Bag;)I"⟩
abbrev cX6_lookedAt : ByteArray := prog_1_method_49_code
def yX6_lookedAt : MethodName := ⟨RX6, "lookedAt", "(LQuotientFile$Bag;II)I"⟩
abbrev cX6_allLookedAt : ByteArray := prog_1_method_50_code
def yX6_allLookedAt : MethodName := ⟨RX6, "allLookedAt", "(LQuotientFile$Bag;I)I"⟩
abbrev cX6_fitTogether : ByteArray := prog_1_method_51_code
def yX6_fitTogether : MethodName := ⟨RX6, "fitTogether", "()Z"⟩
abbrev cX6_pour : ByteArray := prog_1_method_52_code
def yX6_pour : MethodName := ⟨RX6, "pour", "(LQuotientFile$Bag;LQuotientFile$Bag;)V"⟩
abbrev cX6_fittingQ : ByteArray := prog_1_method_53_code
def yX6_fittingQ : MethodName := ⟨RX6, "fittingQ", "(II)I"⟩
abbrev cX6_isShared : ByteArray := prog_1_method_54_code
def yX6_isShared : MethodName := ⟨RX6, "isShared", "(I)Z"⟩
abbrev cX6_countOf : ByteArray := prog_1_method_55_code
def yX6_countOf : MethodName := ⟨RX6, "countOf", "(LQuotientFile$Bag;I)I"⟩
abbrev cX6_countMarked : ByteArray := prog_1_method_56_code
def yX6_countMarked : MethodName := ⟨RX6, "countMarked", "(LQuotientFile$Bag;I)I"⟩
abbrev cX6_floatBits : ByteArray := prog_1_method_57_code
def yX6_floatBits : MethodName := ⟨RX6, "floatBits", "(II)I"⟩
abbrev cX6_doubleBits : ByteArray := prog_1_method_58_code
def yX6_doubleBits : MethodName := ⟨RX6, "doubleBits", "(II)J"⟩
abbrev cX6_highestBit : ByteArray := prog_1_method_59_code
def yX6_highestBit : MethodName := ⟨RX6, "highestBit", "(I)I"⟩
def RX7 : String := "QuotientFileModel"
def TX7 : u_T := fun k => match k with
  | 0 => ("QuotientFileModel", "thrown", "I", false)
  | 1 => ("QuotientFileModel", "told", "I", false)
  | 2 => ("QuotientFileModel", "row", "[J", true)
  | 3 => ("QuotientFileModel", "tape", "[I", true)
  | 4 => ("QuotientFileModel", "taped", "I", false)
  | 5 => ("QuotientFileModel", "at", "I", false)
  | 6 => ("QuotientFileModel", "to", "I", false)
  | 7 => ("QuotientFileModel", "bits", "I", false)
  | 8 => ("QuotientFileModel", "mult", "I", false)
  | 9 => ("QuotientFileModel", "load", "I", false)
  | 10 => ("QuotientFileModel", "q", "[I", true)
  | 11 => ("QuotientFileModel", "many", "[I", true)
  | 12 => ("QuotientFileModel", "print", "[I", true)
  | 13 => ("QuotientFileModel", "where", "[I", true)
  | 14 => ("QuotientFileModel", "holds", "[I", true)
  | 15 => ("QuotientFileModel", "marks", "[I", true)
  | 16 => ("QuotientFileModel", "readKey", "[I", true)
  | 17 => ("QuotientFileModel", "readOut", "[Z", true)
  | 18 => ("QuotientFileModel", "words", "[J", true)
  | 19 => ("QuotientFileModel", "toldMarks", "[I", true)
  | 20 => ("QuotientFileModel", "toldRemainder", "[I", true)
  | 21 => ("QuotientFileModel", "toldQ", "I", false)
  | 22 => ("QuotientFileModel", "was", "[I", true)
  | 23 => ("QuotientFileModel", "wasMany", "I", false)
  | 24 => ("QuotientFileModel", "wasQ", "I", false)
  | 25 => ("QuotientFileModel", "waiting", "[I", true)
  | _ => ("QuotientFileModel", "before", "[I", true)
def tyX7 : Nat → FieldType := fun k => match k with
  | 0 => .int
  | 1 => .int
  | 2 => .array .long
  | 3 => .array .int
  | 4 => .int
  | 5 => .int
  | 6 => .int
  | 7 => .int
  | 8 => .int
  | 9 => .int
  | 10 => .array .int
  | 11 => .array .int
  | 12 => .array .int
  | 13 => .array .int
  | 14 => .array .int
  | 15 => .array .int
  | 16 => .array .int
  | 17 => .array .boolean
  | 18 => .array .long
  | 19 => .array .int
  | 20 => .array .int
  | 21 => .int
  | 22 => .array .int
  | 23 => .int
  | 24 => .int
  | 25 => .array .int
  | _ => .array .int
abbrev wsX70 : List Cond := u_ws RX7 TX7 27
theorem nmX7 : ∀ a, a < 27 → ∀ b, b < 27 → a ≠ b → (TX7 a).2.1 ≠ (TX7 b).2.1 := by decide +kernel
theorem tyX7_ok : ∀ k, k < 27 → parseFieldDescriptor (TX7 k).2.2.1 = some (tyX7 k) := by decide +kernel
abbrev cX7_thrown : ByteArray := prog_9_method_1_code
def yX7_thrown : MethodName := ⟨RX7, "thrown", "()I"⟩
abbrev cX7_in : ByteArray := prog_9_method_2_code
def yX7_in : MethodName := ⟨RX7, "in", "(JJJ)Z"⟩
abbrev cX7_flag : ByteArray := prog_9_method_3_code
def yX7_flag : MethodName := ⟨RX7, "flag", "(Z)I"⟩
abbrev cX7_enters : ByteArray := prog_9_method_4_code
def yX7_enters : MethodName := ⟨RX7, "enters", "(J)V"⟩
abbrev cX7_sign : ByteArray := prog_9_method_5_code
def yX7_sign : MethodName := ⟨RX7, "sign", "(I)I"⟩
abbrev cX7_end : ByteArray := prog_9_method_6_code
def yX7_end : MethodName := ⟨RX7, "end", "(I)Z"⟩
abbrev cX7_reads : ByteArray := prog_9_method_7_code
def yX7_reads : MethodName := ⟨RX7, "reads", "()V"⟩
abbrev cX7_takesOf : ByteArray := prog_9_method_8_code
def yX7_takesOf : MethodName := ⟨RX7, "takesOf", "(Ljava/lang/String;)I"⟩
abbrev cX7_init : ByteArray := prog_9_method_9_code
def yX7_init : MethodName := ⟨RX7, "<init>", "()V"⟩
abbrev cX7_isFile : ByteArray := prog_9_method_10_code
def yX7_isFile : MethodName := ⟨RX7, "isFile", "(I)Z"⟩
abbrev cX7_isKey : ByteArray := prog_9_method_11_code
def yX7_isKey : MethodName := ⟨RX7, "isKey", "(I)Z"⟩
abbrev cX7_slots : ByteArray := prog_9_method_12_code
def yX7_slots : MethodName := ⟨RX7, "slots", "(I)I"⟩
abbrev cX7_rest : ByteArray := prog_9_method_13_code
def yX7_rest : MethodName := ⟨RX7, "rest", "(I)I"⟩
abbrev cX7_printOf : ByteArray := prog_9_method_14_code
def yX7_printOf : MethodName := ⟨RX7, "printOf", "(I)I"⟩
abbrev cX7_at : ByteArray := prog_9_method_15_code
def yX7_at : MethodName := ⟨RX7, "at", "(II)I"⟩
abbrev cX7_quotientOf : ByteArray := prog_9_method_16_code
def yX7_quotientOf : MethodName := ⟨RX7, "quotientOf", "(II)I"⟩
abbrev cX7_remainderOf : ByteArray := prog_9_method_17_code
def yX7_remainderOf : MethodName := ⟨RX7, "remainderOf", "(II)I"⟩
abbrev cX7_countOf : ByteArray := prog_9_method_18_code
def yX7_countOf : MethodName := ⟨RX7, "countOf", "(II)I"⟩
abbrev cX7_comes : ByteArray := prog_9_method_19_code
def yX7_comes : MethodName := ⟨RX7, "comes", "(II)V"⟩
abbrev cX7_goes : ByteArray := prog_9_method_20_code
def yX7_goes : MethodName := ⟨RX7, "goes", "(II)Z"⟩
abbrev cX7_shape : ByteArray := prog_9_method_21_code
def yX7_shape : MethodName := ⟨RX7, "shape", "(II)I"⟩
abbrev cX7_load : ByteArray := prog_9_method_22_code
def yX7_load : MethodName := ⟨RX7, "load", "(I)I"⟩
abbrev cX7_lies : ByteArray := prog_9_method_23_code
def yX7_lies : MethodName := ⟨RX7, "lies", "(I)V"⟩
abbrev cX7_lastSlot : ByteArray := prog_9_method_24_code
def yX7_lastSlot : MethodName := ⟨RX7, "lastSlot", "(II)I"⟩
abbrev cX7_canDouble : ByteArray := prog_9_method_25_code
def yX7_canDouble : MethodName := ⟨RX7, "canDouble", "(I)Z"⟩
abbrev cX7_wouldDouble : ByteArray := prog_9_method_26_code
def yX7_wouldDouble : MethodName := ⟨RX7, "wouldDouble", "(I)Z"⟩
abbrev cX7_print : ByteArray := prog_9_method_27_code
def yX7_print : MethodName := ⟨RX7, "print", "(II)I"⟩
abbrev cX7_putsOne : ByteArray := prog_9_method_28_code
def yX7_putsOne : MethodName := ⟨RX7, "putsOne", "(II)I"⟩
abbrev cX7_puts : ByteArray := prog_9_method_29_code
def yX7_puts : MethodName := ⟨RX7, "puts", "(II)I"⟩
abbrev cX7_takes : ByteArray := prog_9_method_30_code
def yX7_takes : MethodName := ⟨RX7, "takes", "(II)I"⟩
abbrev cX7_looksFor : ByteArray := prog_9_method_31_code
def yX7_looksFor : MethodName := ⟨RX7, "looksFor", "(II)I"⟩
abbrev cX7_has : ByteArray := prog_9_method_32_code
def yX7_has : MethodName := ⟨RX7, "has", "(II)I"⟩
abbrev cX7_twin : ByteArray := prog_9_method_33_code
def yX7_twin : MethodName := ⟨RX7, "twin", "(I)I"⟩
abbrev cX7_readsKey : ByteArray := prog_9_method_34_code
def yX7_readsKey : MethodName := ⟨RX7, "readsKey", "(I)Z"⟩
abbrev cX7_readsKeys : ByteArray := prog_9_method_35_code
def yX7_readsKeys : MethodName := ⟨RX7, "readsKeys", "()I"⟩
abbrev cX7_isRead : ByteArray := prog_9_method_36_code
def yX7_isRead : MethodName := ⟨RX7, "isRead", "(II)Z"⟩
abbrev cX7_endsAtOut : ByteArray := prog_9_method_37_code
def yX7_endsAtOut : MethodName := ⟨RX7, "endsAtOut", "()V"⟩
abbrev cX7_wrongs : ByteArray := prog_9_method_38_code
def yX7_wrongs : MethodName := ⟨RX7, "wrongs", "(I)I"⟩
abbrev cX7_keys : ByteArray := prog_9_method_39_code
def yX7_keys : MethodName := ⟨RX7, "keys", "(I)I"⟩
abbrev cX7_isSlot : ByteArray := prog_9_method_40_code
def yX7_isSlot : MethodName := ⟨RX7, "isSlot", "(II)Z"⟩
abbrev cX7_slot : ByteArray := prog_9_method_41_code
def yX7_slot : MethodName := ⟨RX7, "slot", "(II)I"⟩
abbrev cX7_wide : ByteArray := prog_9_method_42_code
def yX7_wide : MethodName := ⟨RX7, "wide", "(I)I"⟩
abbrev cX7_isWord : ByteArray := prog_9_method_43_code
def yX7_isWord : MethodName := ⟨RX7, "isWord", "(II)Z"⟩
abbrev cX7_wordOf : ByteArray := prog_9_method_44_code
def yX7_wordOf : MethodName := ⟨RX7, "wordOf", "(II)J"⟩
abbrev cX7_word : ByteArray := prog_9_method_45_code
def yX7_word : MethodName := ⟨RX7, "word", "(II)J"⟩
abbrev cX7_readsWords : ByteArray := prog_9_method_46_code
def yX7_readsWords : MethodName := ⟨RX7, "readsWords", "(I)Z"⟩
abbrev cX7_sets : ByteArray := prog_9_method_47_code
def yX7_sets : MethodName := ⟨RX7, "sets", "(IIII)I"⟩
abbrev cX7_readsSlot : ByteArray := prog_9_method_48_code
def yX7_readsSlot : MethodName := ⟨RX7, "readsSlot", "(I)Z"⟩
abbrev cX7_readsFile : ByteArray := prog_9_method_49_code
def yX7_readsFile : MethodName := ⟨RX7, "readsFile", "()Z"⟩
abbrev cX7_saves : ByteArray := prog_9_method_50_code
def yX7_saves : MethodName := ⟨RX7, "saves", "(I)V"⟩
abbrev cX7_comesBack : ByteArray := prog_9_method_51_code
def yX7_comesBack : MethodName := ⟨RX7, "comesBack", "(I)V"⟩
abbrev cX7_takesCluster : ByteArray := prog_9_method_52_code
def yX7_takesCluster : MethodName := ⟨RX7, "takesCluster", "(II)Z"⟩
abbrev cX7_isAsTold : ByteArray := prog_9_method_53_code
def yX7_isAsTold : MethodName := ⟨RX7, "isAsTold", "(I)Z"⟩
abbrev cX7_takesTold : ByteArray := prog_9_method_54_code
def yX7_takesTold : MethodName := ⟨RX7, "takesTold", "(I)I"⟩
abbrev cX7_lays : ByteArray := prog_9_method_55_code
def yX7_lays : MethodName := ⟨RX7, "lays", "(I)I"⟩
abbrev cX7_run : ByteArray := prog_9_method_56_code
def yX7_run : MethodName := ⟨RX7, "run", "(II)I"⟩
abbrev cX7_begins : ByteArray := prog_9_method_57_code
def yX7_begins : MethodName := ⟨RX7, "begins", "(I)Z"⟩
abbrev cX7_clusterFrom : ByteArray := prog_9_method_58_code
def yX7_clusterFrom : MethodName := ⟨RX7, "clusterFrom", "(II)I"⟩
abbrev cX7_cluster : ByteArray := prog_9_method_59_code
def yX7_cluster : MethodName := ⟨RX7, "cluster", "(II)I"⟩
abbrev cX7_clusters : ByteArray := prog_9_method_60_code
def yX7_clusters : MethodName := ⟨RX7, "clusters", "(I)I"⟩
abbrev cX7_would : ByteArray := prog_9_method_61_code
def yX7_would : MethodName := ⟨RX7, "would", "(II)I"⟩
abbrev cX7_unlike : ByteArray := prog_9_method_62_code
def yX7_unlike : MethodName := ⟨RX7, "unlike", "(I)I"⟩
abbrev cX7_looks : ByteArray := prog_9_method_63_code
def yX7_looks : MethodName := ⟨RX7, "looks", "(I)I"⟩
abbrev cX7_looksAll : ByteArray := prog_9_method_64_code
def yX7_looksAll : MethodName := ⟨RX7, "looksAll", "(I)I"⟩
abbrev cX7_best : ByteArray := prog_9_method_65_code
def yX7_best : MethodName := ⟨RX7, "best", "(I)I"⟩
abbrev cX7_firstOf : ByteArray := prog_9_method_66_code
def yX7_firstOf : MethodName := ⟨RX7, "firstOf", "(II)I"⟩
abbrev cX7_span : ByteArray := prog_9_method_67_code
def yX7_span : MethodName := ⟨RX7, "span", "(III)I"⟩
abbrev cX7_after : ByteArray := prog_9_method_68_code
def yX7_after : MethodName := ⟨RX7, "after", "(II)I"⟩
abbrev cX7_gaps : ByteArray := prog_9_method_69_code
def yX7_gaps : MethodName := ⟨RX7, "gaps", "(I)I"⟩
abbrev cX7_nth : ByteArray := prog_9_method_70_code
def yX7_nth : MethodName := ⟨RX7, "nth", "(II)I"⟩
abbrev cX7_doubles : ByteArray := prog_9_method_71_code
def yX7_doubles : MethodName := ⟨RX7, "doubles", "(I)I"⟩
abbrev cX7_halves : ByteArray := prog_9_method_72_code
def yX7_halves : MethodName := ⟨RX7, "halves", "(I)I"⟩
abbrev cX7_qOfBoth : ByteArray := prog_9_method_73_code
def yX7_qOfBoth : MethodName := ⟨RX7, "qOfBoth", "(I)I"⟩
abbrev cX7_mergesInto : ByteArray := prog_9_method_74_code
def yX7_mergesInto : MethodName := ⟨RX7, "mergesInto", "(II)V"⟩
abbrev cX7_merges : ByteArray := prog_9_method_75_code
def yX7_merges : MethodName := ⟨RX7, "merges", "()I"⟩
abbrev cX7_spills : ByteArray := prog_9_method_76_code
def yX7_spills : MethodName := ⟨RX7, "spills", "(I)I"⟩
abbrev cX7_both : ByteArray := prog_9_method_77_code
def yX7_both : MethodName := ⟨RX7, "both", "(I)I"⟩
abbrev cX7_keptOf : ByteArray := prog_9_method_78_code
def yX7_keptOf : MethodName := ⟨RX7, "keptOf", "(IZ)I"⟩
abbrev cX7_keeps : ByteArray := prog_9_method_79_code
def yX7_keeps : MethodName := ⟨RX7, "keeps", "(Z)I"⟩
abbrev cX7_parts : ByteArray := prog_9_method_80_code
def yX7_parts : MethodName := ⟨RX7, "parts", "(I)I"⟩
abbrev cX7_clears : ByteArray := prog_9_method_81_code
def yX7_clears : MethodName := ⟨RX7, "clears", "(I)I"⟩
abbrev cX7_common : ByteArray := prog_9_method_82_code
def yX7_common : MethodName := ⟨RX7, "common", "()I"⟩
abbrev cX7_full : ByteArray := prog_9_method_83_code
def yX7_full : MethodName := ⟨RX7, "full", "(I)I"⟩
abbrev cX7_marked : ByteArray := prog_9_method_84_code
def yX7_marked : MethodName := ⟨RX7, "marked", "(II)I"⟩
abbrev cX7_count : ByteArray := prog_9_method_85_code
def yX7_count : MethodName := ⟨RX7, "count", "(II)I"⟩
abbrev cX7_row : ByteArray := prog_9_method_86_code
def yX7_row : MethodName := ⟨RX7, "row", "(I)J"⟩
def RJx145de : String := "java/io/Serializable"
def TJx145de : u_T := fun k => match k with
  | _ => ("", "", "", false)
def tyJx145de : Nat → FieldType := fun k => match k with
  | _ => .int
abbrev wsJx145de0 : List Cond := u_ws RJx145de TJx145de 0
theorem nmJx145de : ∀ a, a < 0 → ∀ b, b < 0 → a ≠ b → (TJx145de a).2.1 ≠ (TJx145de b).2.1 := by decide +kernel
theorem tyJx145de_ok : ∀ k, k < 0 → parseFieldDescriptor (TJx145de k).2.2.1 = some (tyJx145de k) := by decide +kernel
def RJx9f9b0 : String := "java/lang/CharSequence"
def TJx9f9b0 : u_T := fun k => match k with
  | _ => ("", "", "", false)
def tyJx9f9b0 : Nat → FieldType := fun k => match k with
  | _ => .int
abbrev wsJx9f9b00 : List Cond := u_ws RJx9f9b0 TJx9f9b0 0
theorem nmJx9f9b0 : ∀ a, a < 0 → ∀ b, b < 0 → a ≠ b → (TJx9f9b0 a).2.1 ≠ (TJx9f9b0 b).2.1 := by decide +kernel
theorem tyJx9f9b0_ok : ∀ k, k < 0 → parseFieldDescriptor (TJx9f9b0 k).2.2.1 = some (tyJx9f9b0 k) := by decide +kernel
def RJxb160c : String := "java/lang/Comparable"
def TJxb160c : u_T := fun k => match k with
  | _ => ("", "", "", false)
def tyJxb160c : Nat → FieldType := fun k => match k with
  | _ => .int
abbrev wsJxb160c0 : List Cond := u_ws RJxb160c TJxb160c 0
theorem nmJxb160c : ∀ a, a < 0 → ∀ b, b < 0 → a ≠ b → (TJxb160c a).2.1 ≠ (TJxb160c b).2.1 := by decide +kernel
theorem tyJxb160c_ok : ∀ k, k < 0 → parseFieldDescriptor (TJxb160c k).2.2.1 = some (tyJxb160c k) := by decide +kernel
def RJxe99ae : String := "java/lang/Double"
def TJxe99ae : u_T := fun k => match k with
  | _ => ("", "", "", false)
def tyJxe99ae : Nat → FieldType := fun k => match k with
  | _ => .int
abbrev wsJxe99ae0 : List Cond := u_ws RJxe99ae TJxe99ae 0
theorem nmJxe99ae : ∀ a, a < 0 → ∀ b, b < 0 → a ≠ b → (TJxe99ae a).2.1 ≠ (TJxe99ae b).2.1 := by decide +kernel
theorem tyJxe99ae_ok : ∀ k, k < 0 → parseFieldDescriptor (TJxe99ae k).2.2.1 = some (tyJxe99ae k) := by decide +kernel
abbrev cJxe99ae_isNaN_b9ae7 : ByteArray := prog_13_method_6_code
def yJxe99ae_isNaN_b9ae7 : MethodName := ⟨RJxe99ae, "isNaN", "(D)Z"⟩
abbrev cJxe99ae_doubleToLongBits_ccdee : ByteArray := prog_13_method_23_code
def yJxe99ae_doubleToLongBits_ccdee : MethodName := ⟨RJxe99ae, "doubleToLongBits", "(D)J"⟩
def RJxf58ca : String := "java/lang/Float"
def TJxf58ca : u_T := fun k => match k with
  | _ => ("", "", "", false)
def tyJxf58ca : Nat → FieldType := fun k => match k with
  | _ => .int
abbrev wsJxf58ca0 : List Cond := u_ws RJxf58ca TJxf58ca 0
theorem nmJxf58ca : ∀ a, a < 0 → ∀ b, b < 0 → a ≠ b → (TJxf58ca a).2.1 ≠ (TJxf58ca b).2.1 := by decide +kernel
theorem tyJxf58ca_ok : ∀ k, k < 0 → parseFieldDescriptor (TJxf58ca k).2.2.1 = some (tyJxf58ca k) := by decide +kernel
abbrev cJxf58ca_isNaN_12338 : ByteArray := prog_15_method_6_code
def yJxf58ca_isNaN_12338 : MethodName := ⟨RJxf58ca, "isNaN", "(F)Z"⟩
abbrev cJxf58ca_floatToIntBits_5c35a : ByteArray := prog_15_method_24_code
def yJxf58ca_floatToIntBits_5c35a : MethodName := ⟨RJxf58ca, "floatToIntBits", "(F)I"⟩
def RJ9 : String := "java/lang/Math"
def TJ9 : u_T := fun k => match k with
  | _ => ("", "", "", false)
def tyJ9 : Nat → FieldType := fun k => match k with
  | _ => .int
abbrev wsJ90 : List Cond := u_ws RJ9 TJ9 0
theorem nmJ9 : ∀ a, a < 0 → ∀ b, b < 0 → a ≠ b → (TJ9 a).2.1 ≠ (TJ9 b).2.1 := by decide +kernel
theorem tyJ9_ok : ∀ k, k < 0 → parseFieldDescriptor (TJ9 k).2.2.1 = some (tyJ9 k) := by decide +kernel
abbrev cJ9_max_7cf53 : ByteArray := prog_16_method_65_code
def yJ9_max_7cf53 : MethodName := ⟨RJ9, "max", "(II)I"⟩
abbrev cJ9_min_7cf53 : ByteArray := prog_16_method_69_code
def yJ9_min_7cf53 : MethodName := ⟨RJ9, "min", "(II)I"⟩
def RJxd2413 : String := "java/lang/Number"
def TJxd2413 : u_T := fun k => match k with
  | _ => ("", "", "", false)
def tyJxd2413 : Nat → FieldType := fun k => match k with
  | _ => .int
abbrev wsJxd24130 : List Cond := u_ws RJxd2413 TJxd2413 0
theorem nmJxd2413 : ∀ a, a < 0 → ∀ b, b < 0 → a ≠ b → (TJxd2413 a).2.1 ≠ (TJxd2413 b).2.1 := by decide +kernel
theorem tyJxd2413_ok : ∀ k, k < 0 → parseFieldDescriptor (TJxd2413 k).2.2.1 = some (tyJxd2413 k) := by decide +kernel
def RJ0 : String := "java/lang/String"
def TJ0 : u_T := fun k => match k with
  | _ => ("", "", "", false)
def tyJ0 : Nat → FieldType := fun k => match k with
  | _ => .int
abbrev wsJ00 : List Cond := u_ws RJ0 TJ0 0
theorem nmJ0 : ∀ a, a < 0 → ∀ b, b < 0 → a ≠ b → (TJ0 a).2.1 ≠ (TJ0 b).2.1 := by decide +kernel
theorem tyJ0_ok : ∀ k, k < 0 → parseFieldDescriptor (TJ0 k).2.2.1 = some (tyJ0 k) := by decide +kernel
abbrev cJ0_length_8abf5 : ByteArray := prog_19_method_54_code
def yJ0_length_8abf5 : MethodName := ⟨RJ0, "length", "()I"⟩
abbrev cJ0_charAt_5068e : ByteArray := prog_19_method_56_code
def yJ0_charAt_5068e : MethodName := ⟨RJ0, "charAt", "(I)C"⟩
abbrev cJ0_coder_7d493 : ByteArray := prog_19_method_152_code
def yJ0_coder_7d493 : MethodName := ⟨RJ0, "coder", "()B"⟩
abbrev cJ0_isLatin1_aae02 : ByteArray := prog_19_method_154_code
def yJ0_isLatin1_aae02 : MethodName := ⟨RJ0, "isLatin1", "()Z"⟩
abbrev cJ0_checkIndex_df160 : ByteArray := prog_19_method_155_code
def yJ0_checkIndex_df160 : MethodName := ⟨RJ0, "checkIndex", "(II)V"⟩
def RJ1 : String := "java/lang/StringLatin1"
def TJ1 : u_T := fun k => match k with
  | _ => ("", "", "", false)
def tyJ1 : Nat → FieldType := fun k => match k with
  | _ => .int
abbrev wsJ10 : List Cond := u_ws RJ1 TJ1 0
theorem nmJ1 : ∀ a, a < 0 → ∀ b, b < 0 → a ≠ b → (TJ1 a).2.1 ≠ (TJ1 b).2.1 := by decide +kernel
theorem tyJ1_ok : ∀ k, k < 0 → parseFieldDescriptor (TJ1 k).2.2.1 = some (tyJ1 k) := by decide +kernel
abbrev cJ1_charAt_3b067 : ByteArray := prog_20_method_2_code
def yJ1_charAt_3b067 : MethodName := ⟨RJ1, "charAt", "([BI)C"⟩
def RJ2 : String := "java/lang/StringUTF16"
def TJ2 : u_T := fun k => match k with
  | _ => ("", "", "", false)
def tyJ2 : Nat → FieldType := fun k => match k with
  | _ => .int
abbrev wsJ20 : List Cond := u_ws RJ2 TJ2 0
theorem nmJ2 : ∀ a, a < 0 → ∀ b, b < 0 → a ≠ b → (TJ2 a).2.1 ≠ (TJ2 b).2.1 := by decide +kernel
theorem tyJ2_ok : ∀ k, k < 0 → parseFieldDescriptor (TJ2 k).2.2.1 = some (tyJ2 k) := by decide +kernel
abbrev cJ2_getChar_3b067 : ByteArray := prog_21_method_5_code
def yJ2_getChar_3b067 : MethodName := ⟨RJ2, "getChar", "([BI)C"⟩
abbrev cJ2_length_9d52b : ByteArray := prog_21_method_6_code
def yJ2_length_9d52b : MethodName := ⟨RJ2, "length", "([B)I"⟩
abbrev cJ2_charAt_3b067 : ByteArray := prog_21_method_83_code
def yJ2_charAt_3b067 : MethodName := ⟨RJ2, "charAt", "([BI)C"⟩
abbrev cJ2_checkIndex_2214a : ByteArray := prog_21_method_91_code
def yJ2_checkIndex_2214a : MethodName := ⟨RJ2, "checkIndex", "(I[B)V"⟩
def RJxfd54e : String := "java/lang/constant/Constable"
def TJxfd54e : u_T := fun k => match k with
  | _ => ("", "", "", false)
def tyJxfd54e : Nat → FieldType := fun k => match k with
  | _ => .int
abbrev wsJxfd54e0 : List Cond := u_ws RJxfd54e TJxfd54e 0
theorem nmJxfd54e : ∀ a, a < 0 → ∀ b, b < 0 → a ≠ b → (TJxfd54e a).2.1 ≠ (TJxfd54e b).2.1 := by decide +kernel
theorem tyJxfd54e_ok : ∀ k, k < 0 → parseFieldDescriptor (TJxfd54e k).2.2.1 = some (tyJxfd54e k) := by decide +kernel
def RJx3cf43 : String := "java/lang/constant/ConstantDesc"
def TJx3cf43 : u_T := fun k => match k with
  | _ => ("", "", "", false)
def tyJx3cf43 : Nat → FieldType := fun k => match k with
  | _ => .int
abbrev wsJx3cf430 : List Cond := u_ws RJx3cf43 TJx3cf43 0
theorem nmJx3cf43 : ∀ a, a < 0 → ∀ b, b < 0 → a ≠ b → (TJx3cf43 a).2.1 ≠ (TJx3cf43 b).2.1 := by decide +kernel
theorem tyJx3cf43_ok : ∀ k, k < 0 → parseFieldDescriptor (TJx3cf43 k).2.2.1 = some (tyJx3cf43 k) := by decide +kernel
def RJ3 : String := "jdk/internal/util/Preconditions"
def TJ3 : u_T := fun k => match k with
  | _ => ("", "", "", false)
def tyJ3 : Nat → FieldType := fun k => match k with
  | _ => .int
abbrev wsJ30 : List Cond := u_ws RJ3 TJ3 0
theorem nmJ3 : ∀ a, a < 0 → ∀ b, b < 0 → a ≠ b → (TJ3 a).2.1 ≠ (TJ3 b).2.1 := by decide +kernel
theorem tyJ3_ok : ∀ k, k < 0 → parseFieldDescriptor (TJ3 k).2.2.1 = some (tyJ3 k) := by decide +kernel
abbrev cJ3_checkIndex_8e157 : ByteArray := prog_26_method_11_code
def yJ3_checkIndex_8e157 : MethodName := ⟨RJ3, "checkIndex", "(IILjava/util/function/BiFunction;)I"⟩
def RL : String := "QuotientFileLaw"
abbrev cL_word : ByteArray := method_3_code
def yL_word : MethodName := ⟨RL, "word", "(LQuotientFile;II[J)I"⟩
abbrev cL_row : ByteArray := method_4_code
def yL_row : MethodName := ⟨RL, "row", "(LQuotientFile;I[J)I"⟩
abbrev cL_law : ByteArray := code
def yL_law : MethodName := ⟨RL, "law", "([I)Z"⟩
def wsX0_init : List Cond := .code yX0_init cX0_init 1 none :: ([.methodLink RX0 3 objectInit, .instanceMethod objectInit, .code objectInit ⟨#[0xb1]⟩ 1 none, .arrayClass .int, .fieldLink RX0 9 "QuotientFile$Bag" "prints" "[I", .fieldLink RX0 15 "QuotientFile$Bag" "size" "I", .fieldLink RX0 19 "QuotientFile$Bag" "q" "I"] ++ wsX00)
def wsX0_slotCount : List Cond := .code yX0_slotCount cX0_slotCount 1 (some .int) :: ([.fieldLink RX0 19 "QuotientFile$Bag" "q" "I"] ++ wsX00)
def wsX0_isFull : List Cond := .code yX0_isFull cX0_isFull 1 (some .boolean) :: ([.fieldLink RX0 15 "QuotientFile$Bag" "size" "I", .methodLink RX0 22 yX0_slotCount, .instanceMethod yX0_slotCount, .selects RX0 yX0_slotCount yX0_slotCount, .initialized RX0, .code yX0_slotCount cX0_slotCount 1 (some .int), .fieldLink RX0 19 "QuotientFile$Bag" "q" "I"] ++ wsX00)
theorem dX0_init_0 : decode cX0_init 0 = .ok (.aload_n 0, 1) := by decide +kernel
theorem dX0_init_1 : decode cX0_init 1 = .ok (.invokespecial 3, 3) := by decide +kernel
theorem dX0_init_4 : decode cX0_init 4 = .ok (.aload_n 0, 1) := by decide +kernel
theorem dX0_init_5 : decode cX0_init 5 = .ok (.bipush 64, 2) := by decide +kernel
theorem dX0_init_7 : decode cX0_init 7 = .ok (.newarray .int, 2) := by decide +kernel
theorem dX0_init_9 : decode cX0_init 9 = .ok (.putfield 9, 3) := by decide +kernel
theorem dX0_init_12 : decode cX0_init 12 = .ok (.aload_n 0, 1) := by decide +kernel
theorem dX0_init_13 : decode cX0_init 13 = .ok (.iconst 0, 1) := by decide +kernel
theorem dX0_init_14 : decode cX0_init 14 = .ok (.putfield 15, 3) := by decide +kernel
theorem dX0_init_17 : decode cX0_init 17 = .ok (.aload_n 0, 1) := by decide +kernel
theorem dX0_init_18 : decode cX0_init 18 = .ok (.iconst 3, 1) := by decide +kernel
theorem dX0_init_19 : decode cX0_init 19 = .ok (.putfield 19, 3) := by decide +kernel
theorem dX0_init_22 : decode cX0_init 22 = .ok (.return_, 1) := by decide +kernel
theorem dX0_slotCount_0 : decode cX0_slotCount 0 = .ok (.iconst 1, 1) := by decide +kernel
theorem dX0_slotCount_1 : decode cX0_slotCount 1 = .ok (.aload_n 0, 1) := by decide +kernel
theorem dX0_slotCount_2 : decode cX0_slotCount 2 = .ok (.getfield 19, 3) := by decide +kernel
theorem dX0_slotCount_5 : decode cX0_slotCount 5 = .ok (.ishl, 1) := by decide +kernel
theorem dX0_slotCount_6 : decode cX0_slotCount 6 = .ok (.ireturn, 1) := by decide +kernel
theorem dX0_isFull_0 : decode cX0_isFull 0 = .ok (.aload_n 0, 1) := by decide +kernel
theorem dX0_isFull_1 : decode cX0_isFull 1 = .ok (.getfield 15, 3) := by decide +kernel
theorem dX0_isFull_4 : decode cX0_isFull 4 = .ok (.aload_n 0, 1) := by decide +kernel
theorem dX0_isFull_5 : decode cX0_isFull 5 = .ok (.invokevirtual 22, 3) := by decide +kernel
theorem dX0_isFull_8 : decode cX0_isFull 8 = .ok (.iconst 1, 1) := by decide +kernel
theorem dX0_isFull_9 : decode cX0_isFull 9 = .ok (.isub, 1) := by decide +kernel
theorem dX0_isFull_10 : decode cX0_isFull 10 = .ok (.if_icmp .lt 7, 3) := by decide +kernel
theorem dX0_isFull_13 : decode cX0_isFull 13 = .ok (.iconst 1, 1) := by decide +kernel
theorem dX0_isFull_14 : decode cX0_isFull 14 = .ok (.goto 4, 3) := by decide +kernel
theorem dX0_isFull_17 : decode cX0_isFull 17 = .ok (.iconst 0, 1) := by decide +kernel
theorem dX0_isFull_18 : decode cX0_isFull 18 = .ok (.ireturn, 1) := by decide +kernel
theorem dX0_at_0 : decode cX0_at 0 = .ok (.iload_n 1, 1) := by decide +kernel
theorem dX0_at_1 : decode cX0_at 1 = .ok (.ifCond .lt 29, 3) := by decide +kernel
theorem dX0_at_4 : decode cX0_at 4 = .ok (.iload_n 1, 1) := by decide +kernel
theorem dX0_at_5 : decode cX0_at 5 = .ok (.aload_n 0, 1) := by decide +kernel
theorem dX0_at_6 : decode cX0_at 6 = .ok (.getfield 15, 3) := by decide +kernel
theorem dX0_at_9 : decode cX0_at 9 = .ok (.if_icmp .ge 21, 3) := by decide +kernel
theorem dX0_at_12 : decode cX0_at 12 = .ok (.iload_n 1, 1) := by decide +kernel
theorem dX0_at_13 : decode cX0_at 13 = .ok (.aload_n 0, 1) := by decide +kernel
theorem dX0_at_14 : decode cX0_at 14 = .ok (.getfield 9, 3) := by decide +kernel
theorem dX0_at_17 : decode cX0_at 17 = .ok (.arraylength, 1) := by decide +kernel
theorem dX0_at_18 : decode cX0_at 18 = .ok (.if_icmp .ge 12, 3) := by decide +kernel
theorem dX0_at_21 : decode cX0_at 21 = .ok (.aload_n 0, 1) := by decide +kernel
theorem dX0_at_22 : decode cX0_at 22 = .ok (.getfield 9, 3) := by decide +kernel
theorem dX0_at_25 : decode cX0_at 25 = .ok (.iload_n 1, 1) := by decide +kernel
theorem dX0_at_26 : decode cX0_at 26 = .ok (.iaload, 1) := by decide +kernel
theorem dX0_at_27 : decode cX0_at 27 = .ok (.goto 4, 3) := by decide +kernel
theorem dX0_at_30 : decode cX0_at 30 = .ok (.iconst 0, 1) := by decide +kernel
theorem dX0_at_31 : decode cX0_at 31 = .ok (.ireturn, 1) := by decide +kernel
theorem dX0_below_0 : decode cX0_below 0 = .ok (.iconst 0, 1) := by decide +kernel
theorem dX0_below_1 : decode cX0_below 1 = .ok (.istore_n 2, 1) := by decide +kernel
theorem dX0_below_2 : decode cX0_below 2 = .ok (.bipush 32, 2) := by decide +kernel
theorem dX0_below_4 : decode cX0_below 4 = .ok (.istore_n 3, 1) := by decide +kernel
theorem dX0_below_5 : decode cX0_below 5 = .ok (.iload_n 3, 1) := by decide +kernel
theorem dX0_below_6 : decode cX0_below 6 = .ok (.ifCond .le 37, 3) := by decide +kernel
theorem dX0_below_9 : decode cX0_below 9 = .ok (.iload_n 2, 1) := by decide +kernel
theorem dX0_below_10 : decode cX0_below 10 = .ok (.iload_n 3, 1) := by decide +kernel
theorem dX0_below_11 : decode cX0_below 11 = .ok (.iadd, 1) := by decide +kernel
theorem dX0_below_12 : decode cX0_below 12 = .ok (.aload_n 0, 1) := by decide +kernel
theorem dX0_below_13 : decode cX0_below 13 = .ok (.getfield 15, 3) := by decide +kernel
theorem dX0_below_16 : decode cX0_below 16 = .ok (.if_icmp .gt 20, 3) := by decide +kernel
theorem dX0_below_19 : decode cX0_below 19 = .ok (.aload_n 0, 1) := by decide +kernel
theorem dX0_below_20 : decode cX0_below 20 = .ok (.iload_n 2, 1) := by decide +kernel
theorem dX0_below_21 : decode cX0_below 21 = .ok (.iload_n 3, 1) := by decide +kernel
theorem dX0_below_22 : decode cX0_below 22 = .ok (.iadd, 1) := by decide +kernel
theorem dX0_below_23 : decode cX0_below 23 = .ok (.iconst 1, 1) := by decide +kernel
theorem dX0_below_24 : decode cX0_below 24 = .ok (.isub, 1) := by decide +kernel
theorem dX0_below_25 : decode cX0_below 25 = .ok (.invokevirtual 26, 3) := by decide +kernel
theorem dX0_below_28 : decode cX0_below 28 = .ok (.iload_n 1, 1) := by decide +kernel
theorem dX0_below_29 : decode cX0_below 29 = .ok (.if_icmp .ge 7, 3) := by decide +kernel
theorem dX0_below_32 : decode cX0_below 32 = .ok (.iload_n 2, 1) := by decide +kernel
theorem dX0_below_33 : decode cX0_below 33 = .ok (.iload_n 3, 1) := by decide +kernel
theorem dX0_below_34 : decode cX0_below 34 = .ok (.iadd, 1) := by decide +kernel
theorem dX0_below_35 : decode cX0_below 35 = .ok (.istore_n 2, 1) := by decide +kernel
theorem dX0_below_36 : decode cX0_below 36 = .ok (.iload_n 3, 1) := by decide +kernel
theorem dX0_below_37 : decode cX0_below 37 = .ok (.iconst 1, 1) := by decide +kernel
theorem dX0_below_38 : decode cX0_below 38 = .ok (.ishr, 1) := by decide +kernel
theorem dX0_below_39 : decode cX0_below 39 = .ok (.istore_n 3, 1) := by decide +kernel
theorem dX0_below_40 : decode cX0_below 40 = .ok (.goto (-35), 3) := by decide +kernel
theorem dX0_below_43 : decode cX0_below 43 = .ok (.iload_n 2, 1) := by decide +kernel
theorem dX0_below_44 : decode cX0_below 44 = .ok (.ireturn, 1) := by decide +kernel
theorem dX0_holds_0 : decode cX0_holds 0 = .ok (.aload_n 0, 1) := by decide +kernel
theorem dX0_holds_1 : decode cX0_holds 1 = .ok (.iload_n 1, 1) := by decide +kernel
theorem dX0_holds_2 : decode cX0_holds 2 = .ok (.invokevirtual 30, 3) := by decide +kernel
theorem dX0_holds_5 : decode cX0_holds 5 = .ok (.istore_n 2, 1) := by decide +kernel
theorem dX0_holds_6 : decode cX0_holds 6 = .ok (.iload_n 2, 1) := by decide +kernel
theorem dX0_holds_7 : decode cX0_holds 7 = .ok (.aload_n 0, 1) := by decide +kernel
theorem dX0_holds_8 : decode cX0_holds 8 = .ok (.getfield 15, 3) := by decide +kernel
theorem dX0_holds_11 : decode cX0_holds 11 = .ok (.if_icmp .ge 16, 3) := by decide +kernel
theorem dX0_holds_14 : decode cX0_holds 14 = .ok (.aload_n 0, 1) := by decide +kernel
theorem dX0_holds_15 : decode cX0_holds 15 = .ok (.iload_n 2, 1) := by decide +kernel
theorem dX0_holds_16 : decode cX0_holds 16 = .ok (.invokevirtual 26, 3) := by decide +kernel
theorem dX0_holds_19 : decode cX0_holds 19 = .ok (.iload_n 1, 1) := by decide +kernel
theorem dX0_holds_20 : decode cX0_holds 20 = .ok (.if_icmp .ne 7, 3) := by decide +kernel
theorem dX0_holds_23 : decode cX0_holds 23 = .ok (.iconst 1, 1) := by decide +kernel
theorem dX0_holds_24 : decode cX0_holds 24 = .ok (.goto 4, 3) := by decide +kernel
theorem dX0_holds_27 : decode cX0_holds 27 = .ok (.iconst 0, 1) := by decide +kernel
theorem dX0_holds_28 : decode cX0_holds 28 = .ok (.ireturn, 1) := by decide +kernel
theorem dX0_timesOf_0 : decode cX0_timesOf 0 = .ok (.aload_n 0, 1) := by decide +kernel
theorem dX0_timesOf_1 : decode cX0_timesOf 1 = .ok (.iload_n 1, 1) := by decide +kernel
theorem dX0_timesOf_2 : decode cX0_timesOf 2 = .ok (.iconst 1, 1) := by decide +kernel
theorem dX0_timesOf_3 : decode cX0_timesOf 3 = .ok (.iadd, 1) := by decide +kernel
theorem dX0_timesOf_4 : decode cX0_timesOf 4 = .ok (.invokevirtual 30, 3) := by decide +kernel
theorem dX0_timesOf_7 : decode cX0_timesOf 7 = .ok (.aload_n 0, 1) := by decide +kernel
theorem dX0_timesOf_8 : decode cX0_timesOf 8 = .ok (.iload_n 1, 1) := by decide +kernel
theorem dX0_timesOf_9 : decode cX0_timesOf 9 = .ok (.invokevirtual 30, 3) := by decide +kernel
theorem dX0_timesOf_12 : decode cX0_timesOf 12 = .ok (.isub, 1) := by decide +kernel
theorem dX0_timesOf_13 : decode cX0_timesOf 13 = .ok (.ireturn, 1) := by decide +kernel
theorem dX0_rankOf_0 : decode cX0_rankOf 0 = .ok (.iload_n 1, 1) := by decide +kernel
theorem dX0_rankOf_1 : decode cX0_rankOf 1 = .ok (.aload_n 0, 1) := by decide +kernel
theorem dX0_rankOf_2 : decode cX0_rankOf 2 = .ok (.aload_n 0, 1) := by decide +kernel
theorem dX0_rankOf_3 : decode cX0_rankOf 3 = .ok (.iload_n 1, 1) := by decide +kernel
theorem dX0_rankOf_4 : decode cX0_rankOf 4 = .ok (.invokevirtual 26, 3) := by decide +kernel
theorem dX0_rankOf_7 : decode cX0_rankOf 7 = .ok (.invokevirtual 30, 3) := by decide +kernel
theorem dX0_rankOf_10 : decode cX0_rankOf 10 = .ok (.isub, 1) := by decide +kernel
theorem dX0_rankOf_11 : decode cX0_rankOf 11 = .ok (.ireturn, 1) := by decide +kernel
theorem dX0_unlike_0 : decode cX0_unlike 0 = .ok (.iconst 0, 1) := by decide +kernel
theorem dX0_unlike_1 : decode cX0_unlike 1 = .ok (.istore_n 1, 1) := by decide +kernel
theorem dX0_unlike_2 : decode cX0_unlike 2 = .ok (.iconst 0, 1) := by decide +kernel
theorem dX0_unlike_3 : decode cX0_unlike 3 = .ok (.istore_n 2, 1) := by decide +kernel
theorem dX0_unlike_4 : decode cX0_unlike 4 = .ok (.iload_n 2, 1) := by decide +kernel
theorem dX0_unlike_5 : decode cX0_unlike 5 = .ok (.aload_n 0, 1) := by decide +kernel
theorem dX0_unlike_6 : decode cX0_unlike 6 = .ok (.getfield 15, 3) := by decide +kernel
theorem dX0_unlike_9 : decode cX0_unlike 9 = .ok (.if_icmp .ge 20, 3) := by decide +kernel
theorem dX0_unlike_12 : decode cX0_unlike 12 = .ok (.aload_n 0, 1) := by decide +kernel
theorem dX0_unlike_13 : decode cX0_unlike 13 = .ok (.iload_n 2, 1) := by decide +kernel
theorem dX0_unlike_14 : decode cX0_unlike 14 = .ok (.invokevirtual 33, 3) := by decide +kernel
theorem dX0_unlike_17 : decode cX0_unlike 17 = .ok (.ifCond .ne 6, 3) := by decide +kernel
theorem dX0_unlike_20 : decode cX0_unlike 20 = .ok (.iinc 1 1, 3) := by decide +kernel
theorem dX0_unlike_23 : decode cX0_unlike 23 = .ok (.iinc 2 1, 3) := by decide +kernel
theorem dX0_unlike_26 : decode cX0_unlike 26 = .ok (.goto (-22), 3) := by decide +kernel
theorem dX0_unlike_29 : decode cX0_unlike 29 = .ok (.iload_n 1, 1) := by decide +kernel
theorem dX0_unlike_30 : decode cX0_unlike 30 = .ok (.ireturn, 1) := by decide +kernel
theorem dX0_insert_0 : decode cX0_insert 0 = .ok (.aload_n 0, 1) := by decide +kernel
theorem dX0_insert_1 : decode cX0_insert 1 = .ok (.iload_n 1, 1) := by decide +kernel
theorem dX0_insert_2 : decode cX0_insert 2 = .ok (.iconst 1, 1) := by decide +kernel
theorem dX0_insert_3 : decode cX0_insert 3 = .ok (.iadd, 1) := by decide +kernel
theorem dX0_insert_4 : decode cX0_insert 4 = .ok (.invokevirtual 30, 3) := by decide +kernel
theorem dX0_insert_7 : decode cX0_insert 7 = .ok (.istore_n 2, 1) := by decide +kernel
theorem dX0_insert_8 : decode cX0_insert 8 = .ok (.iload_n 2, 1) := by decide +kernel
theorem dX0_insert_9 : decode cX0_insert 9 = .ok (.ifCond .lt 23, 3) := by decide +kernel
theorem dX0_insert_12 : decode cX0_insert 12 = .ok (.iload_n 2, 1) := by decide +kernel
theorem dX0_insert_13 : decode cX0_insert 13 = .ok (.aload_n 0, 1) := by decide +kernel
theorem dX0_insert_14 : decode cX0_insert 14 = .ok (.getfield 15, 3) := by decide +kernel
theorem dX0_insert_17 : decode cX0_insert 17 = .ok (.if_icmp .gt 15, 3) := by decide +kernel
theorem dX0_insert_20 : decode cX0_insert 20 = .ok (.aload_n 0, 1) := by decide +kernel
theorem dX0_insert_21 : decode cX0_insert 21 = .ok (.getfield 15, 3) := by decide +kernel
theorem dX0_insert_24 : decode cX0_insert 24 = .ok (.aload_n 0, 1) := by decide +kernel
theorem dX0_insert_25 : decode cX0_insert 25 = .ok (.getfield 9, 3) := by decide +kernel
theorem dX0_insert_28 : decode cX0_insert 28 = .ok (.arraylength, 1) := by decide +kernel
theorem dX0_insert_29 : decode cX0_insert 29 = .ok (.if_icmp .lt 5, 3) := by decide +kernel
theorem dX0_insert_32 : decode cX0_insert 32 = .ok (.iconst (-1), 1) := by decide +kernel
theorem dX0_insert_33 : decode cX0_insert 33 = .ok (.ireturn, 1) := by decide +kernel
theorem dX0_insert_34 : decode cX0_insert 34 = .ok (.aload_n 0, 1) := by decide +kernel
theorem dX0_insert_35 : decode cX0_insert 35 = .ok (.getfield 15, 3) := by decide +kernel
theorem dX0_insert_38 : decode cX0_insert 38 = .ok (.istore_n 3, 1) := by decide +kernel
theorem dX0_insert_39 : decode cX0_insert 39 = .ok (.iload_n 3, 1) := by decide +kernel
theorem dX0_insert_40 : decode cX0_insert 40 = .ok (.iload_n 2, 1) := by decide +kernel
theorem dX0_insert_41 : decode cX0_insert 41 = .ok (.if_icmp .le 23, 3) := by decide +kernel
theorem dX0_insert_44 : decode cX0_insert 44 = .ok (.aload_n 0, 1) := by decide +kernel
theorem dX0_insert_45 : decode cX0_insert 45 = .ok (.getfield 9, 3) := by decide +kernel
theorem dX0_insert_48 : decode cX0_insert 48 = .ok (.iload_n 3, 1) := by decide +kernel
theorem dX0_insert_49 : decode cX0_insert 49 = .ok (.aload_n 0, 1) := by decide +kernel
theorem dX0_insert_50 : decode cX0_insert 50 = .ok (.getfield 9, 3) := by decide +kernel
theorem dX0_insert_53 : decode cX0_insert 53 = .ok (.iload_n 3, 1) := by decide +kernel
theorem dX0_insert_54 : decode cX0_insert 54 = .ok (.iconst 1, 1) := by decide +kernel
theorem dX0_insert_55 : decode cX0_insert 55 = .ok (.isub, 1) := by decide +kernel
theorem dX0_insert_56 : decode cX0_insert 56 = .ok (.iaload, 1) := by decide +kernel
theorem dX0_insert_57 : decode cX0_insert 57 = .ok (.iastore, 1) := by decide +kernel
theorem dX0_insert_58 : decode cX0_insert 58 = .ok (.iinc 3 (-1), 3) := by decide +kernel
theorem dX0_insert_61 : decode cX0_insert 61 = .ok (.goto (-22), 3) := by decide +kernel
theorem dX0_insert_64 : decode cX0_insert 64 = .ok (.aload_n 0, 1) := by decide +kernel
theorem dX0_insert_65 : decode cX0_insert 65 = .ok (.getfield 9, 3) := by decide +kernel
theorem dX0_insert_68 : decode cX0_insert 68 = .ok (.iload_n 2, 1) := by decide +kernel
theorem dX0_insert_69 : decode cX0_insert 69 = .ok (.iload_n 1, 1) := by decide +kernel
theorem dX0_insert_70 : decode cX0_insert 70 = .ok (.iastore, 1) := by decide +kernel
theorem dX0_insert_71 : decode cX0_insert 71 = .ok (.aload_n 0, 1) := by decide +kernel
theorem dX0_insert_72 : decode cX0_insert 72 = .ok (.dup, 1) := by decide +kernel
theorem dX0_insert_73 : decode cX0_insert 73 = .ok (.getfield 15, 3) := by decide +kernel
theorem dX0_insert_76 : decode cX0_insert 76 = .ok (.iconst 1, 1) := by decide +kernel
theorem dX0_insert_77 : decode cX0_insert 77 = .ok (.iadd, 1) := by decide +kernel
theorem dX0_insert_78 : decode cX0_insert 78 = .ok (.putfield 15, 3) := by decide +kernel
theorem dX0_insert_81 : decode cX0_insert 81 = .ok (.iload_n 2, 1) := by decide +kernel
theorem dX0_insert_82 : decode cX0_insert 82 = .ok (.ireturn, 1) := by decide +kernel
theorem dX0_dropOne_0 : decode cX0_dropOne 0 = .ok (.aload_n 0, 1) := by decide +kernel
theorem dX0_dropOne_1 : decode cX0_dropOne 1 = .ok (.iload_n 1, 1) := by decide +kernel
theorem dX0_dropOne_2 : decode cX0_dropOne 2 = .ok (.invokevirtual 36, 3) := by decide +kernel
theorem dX0_dropOne_5 : decode cX0_dropOne 5 = .ok (.ifCond .ne 5, 3) := by decide +kernel
theorem dX0_dropOne_8 : decode cX0_dropOne 8 = .ok (.iconst 0, 1) := by decide +kernel
theorem dX0_dropOne_9 : decode cX0_dropOne 9 = .ok (.ireturn, 1) := by decide +kernel
theorem dX0_dropOne_10 : decode cX0_dropOne 10 = .ok (.iconst 0, 1) := by decide +kernel
theorem dX0_dropOne_11 : decode cX0_dropOne 11 = .ok (.aload_n 0, 1) := by decide +kernel
theorem dX0_dropOne_12 : decode cX0_dropOne 12 = .ok (.iload_n 1, 1) := by decide +kernel
theorem dX0_dropOne_13 : decode cX0_dropOne 13 = .ok (.invokevirtual 30, 3) := by decide +kernel
theorem dX0_dropOne_16 : decode cX0_dropOne 16 = .ok (.invokestatic 40, 3) := by decide +kernel
theorem dX0_dropOne_19 : decode cX0_dropOne 19 = .ok (.istore_n 2, 1) := by decide +kernel
theorem dX0_dropOne_20 : decode cX0_dropOne 20 = .ok (.iload_n 2, 1) := by decide +kernel
theorem dX0_dropOne_21 : decode cX0_dropOne 21 = .ok (.iconst 1, 1) := by decide +kernel
theorem dX0_dropOne_22 : decode cX0_dropOne 22 = .ok (.iadd, 1) := by decide +kernel
theorem dX0_dropOne_23 : decode cX0_dropOne 23 = .ok (.aload_n 0, 1) := by decide +kernel
theorem dX0_dropOne_24 : decode cX0_dropOne 24 = .ok (.getfield 15, 3) := by decide +kernel
theorem dX0_dropOne_27 : decode cX0_dropOne 27 = .ok (.if_icmp .ge 34, 3) := by decide +kernel
theorem dX0_dropOne_30 : decode cX0_dropOne 30 = .ok (.iload_n 2, 1) := by decide +kernel
theorem dX0_dropOne_31 : decode cX0_dropOne 31 = .ok (.iconst 1, 1) := by decide +kernel
theorem dX0_dropOne_32 : decode cX0_dropOne 32 = .ok (.iadd, 1) := by decide +kernel
theorem dX0_dropOne_33 : decode cX0_dropOne 33 = .ok (.aload_n 0, 1) := by decide +kernel
theorem dX0_dropOne_34 : decode cX0_dropOne 34 = .ok (.getfield 9, 3) := by decide +kernel
theorem dX0_dropOne_37 : decode cX0_dropOne 37 = .ok (.arraylength, 1) := by decide +kernel
theorem dX0_dropOne_38 : decode cX0_dropOne 38 = .ok (.if_icmp .ge 23, 3) := by decide +kernel
theorem dX0_dropOne_41 : decode cX0_dropOne 41 = .ok (.aload_n 0, 1) := by decide +kernel
theorem dX0_dropOne_42 : decode cX0_dropOne 42 = .ok (.getfield 9, 3) := by decide +kernel
theorem dX0_dropOne_45 : decode cX0_dropOne 45 = .ok (.iload_n 2, 1) := by decide +kernel
theorem dX0_dropOne_46 : decode cX0_dropOne 46 = .ok (.aload_n 0, 1) := by decide +kernel
theorem dX0_dropOne_47 : decode cX0_dropOne 47 = .ok (.getfield 9, 3) := by decide +kernel
theorem dX0_dropOne_50 : decode cX0_dropOne 50 = .ok (.iload_n 2, 1) := by decide +kernel
theorem dX0_dropOne_51 : decode cX0_dropOne 51 = .ok (.iconst 1, 1) := by decide +kernel
theorem dX0_dropOne_52 : decode cX0_dropOne 52 = .ok (.iadd, 1) := by decide +kernel
theorem dX0_dropOne_53 : decode cX0_dropOne 53 = .ok (.iaload, 1) := by decide +kernel
theorem dX0_dropOne_54 : decode cX0_dropOne 54 = .ok (.iastore, 1) := by decide +kernel
theorem dX0_dropOne_55 : decode cX0_dropOne 55 = .ok (.iinc 2 1, 3) := by decide +kernel
theorem dX0_dropOne_58 : decode cX0_dropOne 58 = .ok (.goto (-38), 3) := by decide +kernel
theorem dX0_dropOne_61 : decode cX0_dropOne 61 = .ok (.aload_n 0, 1) := by decide +kernel
theorem dX0_dropOne_62 : decode cX0_dropOne 62 = .ok (.dup, 1) := by decide +kernel
theorem dX0_dropOne_63 : decode cX0_dropOne 63 = .ok (.getfield 15, 3) := by decide +kernel
theorem dX0_dropOne_66 : decode cX0_dropOne 66 = .ok (.iconst 1, 1) := by decide +kernel
theorem dX0_dropOne_67 : decode cX0_dropOne 67 = .ok (.isub, 1) := by decide +kernel
theorem dX0_dropOne_68 : decode cX0_dropOne 68 = .ok (.putfield 15, 3) := by decide +kernel
theorem dX0_dropOne_71 : decode cX0_dropOne 71 = .ok (.iconst 1, 1) := by decide +kernel
theorem dX0_dropOne_72 : decode cX0_dropOne 72 = .ok (.ireturn, 1) := by decide +kernel
theorem dX0_cutTo_0 : decode cX0_cutTo 0 = .ok (.iload_n 1, 1) := by decide +kernel
theorem dX0_cutTo_1 : decode cX0_cutTo 1 = .ok (.ifCond .lt 16, 3) := by decide +kernel
theorem dX0_cutTo_4 : decode cX0_cutTo 4 = .ok (.iload_n 1, 1) := by decide +kernel
theorem dX0_cutTo_5 : decode cX0_cutTo 5 = .ok (.aload_n 0, 1) := by decide +kernel
theorem dX0_cutTo_6 : decode cX0_cutTo 6 = .ok (.getfield 15, 3) := by decide +kernel
theorem dX0_cutTo_9 : decode cX0_cutTo 9 = .ok (.if_icmp .ge 8, 3) := by decide +kernel
theorem dX0_cutTo_12 : decode cX0_cutTo 12 = .ok (.aload_n 0, 1) := by decide +kernel
theorem dX0_cutTo_13 : decode cX0_cutTo 13 = .ok (.iload_n 1, 1) := by decide +kernel
theorem dX0_cutTo_14 : decode cX0_cutTo 14 = .ok (.putfield 15, 3) := by decide +kernel
theorem dX0_cutTo_17 : decode cX0_cutTo 17 = .ok (.return_, 1) := by decide +kernel
theorem dX0_emptyTo_0 : decode cX0_emptyTo 0 = .ok (.aload_n 0, 1) := by decide +kernel
theorem dX0_emptyTo_1 : decode cX0_emptyTo 1 = .ok (.iconst 0, 1) := by decide +kernel
theorem dX0_emptyTo_2 : decode cX0_emptyTo 2 = .ok (.putfield 15, 3) := by decide +kernel
theorem dX0_emptyTo_5 : decode cX0_emptyTo 5 = .ok (.aload_n 0, 1) := by decide +kernel
theorem dX0_emptyTo_6 : decode cX0_emptyTo 6 = .ok (.iload_n 1, 1) := by decide +kernel
theorem dX0_emptyTo_7 : decode cX0_emptyTo 7 = .ok (.putfield 19, 3) := by decide +kernel
theorem dX0_emptyTo_10 : decode cX0_emptyTo 10 = .ok (.return_, 1) := by decide +kernel
theorem dX0_becomeLike_0 : decode cX0_becomeLike 0 = .ok (.iconst 0, 1) := by decide +kernel
theorem dX0_becomeLike_1 : decode cX0_becomeLike 1 = .ok (.istore_n 2, 1) := by decide +kernel
theorem dX0_becomeLike_2 : decode cX0_becomeLike 2 = .ok (.iload_n 2, 1) := by decide +kernel
theorem dX0_becomeLike_3 : decode cX0_becomeLike 3 = .ok (.aload_n 1, 1) := by decide +kernel
theorem dX0_becomeLike_4 : decode cX0_becomeLike 4 = .ok (.getfield 15, 3) := by decide +kernel
theorem dX0_becomeLike_7 : decode cX0_becomeLike 7 = .ok (.if_icmp .ge 29, 3) := by decide +kernel
theorem dX0_becomeLike_10 : decode cX0_becomeLike 10 = .ok (.iload_n 2, 1) := by decide +kernel
theorem dX0_becomeLike_11 : decode cX0_becomeLike 11 = .ok (.aload_n 0, 1) := by decide +kernel
theorem dX0_becomeLike_12 : decode cX0_becomeLike 12 = .ok (.getfield 9, 3) := by decide +kernel
theorem dX0_becomeLike_15 : decode cX0_becomeLike 15 = .ok (.arraylength, 1) := by decide +kernel
theorem dX0_becomeLike_16 : decode cX0_becomeLike 16 = .ok (.if_icmp .ge 20, 3) := by decide +kernel
theorem dX0_becomeLike_19 : decode cX0_becomeLike 19 = .ok (.aload_n 0, 1) := by decide +kernel
theorem dX0_becomeLike_20 : decode cX0_becomeLike 20 = .ok (.getfield 9, 3) := by decide +kernel
theorem dX0_becomeLike_23 : decode cX0_becomeLike 23 = .ok (.iload_n 2, 1) := by decide +kernel
theorem dX0_becomeLike_24 : decode cX0_becomeLike 24 = .ok (.aload_n 1, 1) := by decide +kernel
theorem dX0_becomeLike_25 : decode cX0_becomeLike 25 = .ok (.iload_n 2, 1) := by decide +kernel
theorem dX0_becomeLike_26 : decode cX0_becomeLike 26 = .ok (.invokevirtual 26, 3) := by decide +kernel
theorem dX0_becomeLike_29 : decode cX0_becomeLike 29 = .ok (.iastore, 1) := by decide +kernel
theorem dX0_becomeLike_30 : decode cX0_becomeLike 30 = .ok (.iinc 2 1, 3) := by decide +kernel
theorem dX0_becomeLike_33 : decode cX0_becomeLike 33 = .ok (.goto (-31), 3) := by decide +kernel
theorem dX0_becomeLike_36 : decode cX0_becomeLike 36 = .ok (.aload_n 0, 1) := by decide +kernel
theorem dX0_becomeLike_37 : decode cX0_becomeLike 37 = .ok (.aload_n 1, 1) := by decide +kernel
theorem dX0_becomeLike_38 : decode cX0_becomeLike 38 = .ok (.getfield 15, 3) := by decide +kernel
theorem dX0_becomeLike_41 : decode cX0_becomeLike 41 = .ok (.putfield 15, 3) := by decide +kernel
theorem dX0_becomeLike_44 : decode cX0_becomeLike 44 = .ok (.aload_n 0, 1) := by decide +kernel
theorem dX0_becomeLike_45 : decode cX0_becomeLike 45 = .ok (.aload_n 1, 1) := by decide +kernel
theorem dX0_becomeLike_46 : decode cX0_becomeLike 46 = .ok (.getfield 19, 3) := by decide +kernel
theorem dX0_becomeLike_49 : decode cX0_becomeLike 49 = .ok (.putfield 19, 3) := by decide +kernel
theorem dX0_becomeLike_52 : decode cX0_becomeLike 52 = .ok (.return_, 1) := by decide +kernel
theorem dX1_init_0 : decode cX1_init 0 = .ok (.aload_n 0, 1) := by decide +kernel
theorem dX1_init_1 : decode cX1_init 1 = .ok (.invokespecial 3, 3) := by decide +kernel
theorem dX1_init_4 : decode cX1_init 4 = .ok (.aload_n 0, 1) := by decide +kernel
theorem dX1_init_5 : decode cX1_init 5 = .ok (.bipush 80, 2) := by decide +kernel
theorem dX1_init_7 : decode cX1_init 7 = .ok (.newarray .int, 2) := by decide +kernel
theorem dX1_init_9 : decode cX1_init 9 = .ok (.putfield 9, 3) := by decide +kernel
theorem dX1_init_12 : decode cX1_init 12 = .ok (.aload_n 0, 1) := by decide +kernel
theorem dX1_init_13 : decode cX1_init 13 = .ok (.bipush 80, 2) := by decide +kernel
theorem dX1_init_15 : decode cX1_init 15 = .ok (.newarray .boolean, 2) := by decide +kernel
theorem dX1_init_17 : decode cX1_init 17 = .ok (.putfield 15, 3) := by decide +kernel
theorem dX1_init_20 : decode cX1_init 20 = .ok (.aload_n 0, 1) := by decide +kernel
theorem dX1_init_21 : decode cX1_init 21 = .ok (.iconst 0, 1) := by decide +kernel
theorem dX1_init_22 : decode cX1_init 22 = .ok (.putfield 19, 3) := by decide +kernel
theorem dX1_init_25 : decode cX1_init 25 = .ok (.return_, 1) := by decide +kernel
theorem dX1_keyAt_0 : decode cX1_keyAt 0 = .ok (.iload_n 1, 1) := by decide +kernel
theorem dX1_keyAt_1 : decode cX1_keyAt 1 = .ok (.ifCond .lt 21, 3) := by decide +kernel
theorem dX1_keyAt_4 : decode cX1_keyAt 4 = .ok (.iload_n 1, 1) := by decide +kernel
theorem dX1_keyAt_5 : decode cX1_keyAt 5 = .ok (.aload_n 0, 1) := by decide +kernel
theorem dX1_keyAt_6 : decode cX1_keyAt 6 = .ok (.getfield 9, 3) := by decide +kernel
theorem dX1_keyAt_9 : decode cX1_keyAt 9 = .ok (.arraylength, 1) := by decide +kernel
theorem dX1_keyAt_10 : decode cX1_keyAt 10 = .ok (.if_icmp .ge 12, 3) := by decide +kernel
theorem dX1_keyAt_13 : decode cX1_keyAt 13 = .ok (.aload_n 0, 1) := by decide +kernel
theorem dX1_keyAt_14 : decode cX1_keyAt 14 = .ok (.getfield 9, 3) := by decide +kernel
theorem dX1_keyAt_17 : decode cX1_keyAt 17 = .ok (.iload_n 1, 1) := by decide +kernel
theorem dX1_keyAt_18 : decode cX1_keyAt 18 = .ok (.iaload, 1) := by decide +kernel
theorem dX1_keyAt_19 : decode cX1_keyAt 19 = .ok (.goto 4, 3) := by decide +kernel
theorem dX1_keyAt_22 : decode cX1_keyAt 22 = .ok (.iconst 0, 1) := by decide +kernel
theorem dX1_keyAt_23 : decode cX1_keyAt 23 = .ok (.ireturn, 1) := by decide +kernel
theorem dX1_goesOut_0 : decode cX1_goesOut 0 = .ok (.iload_n 1, 1) := by decide +kernel
theorem dX1_goesOut_1 : decode cX1_goesOut 1 = .ok (.ifCond .lt 25, 3) := by decide +kernel
theorem dX1_goesOut_4 : decode cX1_goesOut 4 = .ok (.iload_n 1, 1) := by decide +kernel
theorem dX1_goesOut_5 : decode cX1_goesOut 5 = .ok (.aload_n 0, 1) := by decide +kernel
theorem dX1_goesOut_6 : decode cX1_goesOut 6 = .ok (.getfield 15, 3) := by decide +kernel
theorem dX1_goesOut_9 : decode cX1_goesOut 9 = .ok (.arraylength, 1) := by decide +kernel
theorem dX1_goesOut_10 : decode cX1_goesOut 10 = .ok (.if_icmp .ge 16, 3) := by decide +kernel
theorem dX1_goesOut_13 : decode cX1_goesOut 13 = .ok (.aload_n 0, 1) := by decide +kernel
theorem dX1_goesOut_14 : decode cX1_goesOut 14 = .ok (.getfield 15, 3) := by decide +kernel
theorem dX1_goesOut_17 : decode cX1_goesOut 17 = .ok (.iload_n 1, 1) := by decide +kernel
theorem dX1_goesOut_18 : decode cX1_goesOut 18 = .ok (.baload, 1) := by decide +kernel
theorem dX1_goesOut_19 : decode cX1_goesOut 19 = .ok (.ifCond .eq 7, 3) := by decide +kernel
theorem dX1_goesOut_22 : decode cX1_goesOut 22 = .ok (.iconst 1, 1) := by decide +kernel
theorem dX1_goesOut_23 : decode cX1_goesOut 23 = .ok (.goto 4, 3) := by decide +kernel
theorem dX1_goesOut_26 : decode cX1_goesOut 26 = .ok (.iconst 0, 1) := by decide +kernel
theorem dX1_goesOut_27 : decode cX1_goesOut 27 = .ok (.ireturn, 1) := by decide +kernel
theorem dX1_holds_0 : decode cX1_holds 0 = .ok (.iconst 0, 1) := by decide +kernel
theorem dX1_holds_1 : decode cX1_holds 1 = .ok (.istore_n 2, 1) := by decide +kernel
theorem dX1_holds_2 : decode cX1_holds 2 = .ok (.iload_n 2, 1) := by decide +kernel
theorem dX1_holds_3 : decode cX1_holds 3 = .ok (.aload_n 0, 1) := by decide +kernel
theorem dX1_holds_4 : decode cX1_holds 4 = .ok (.getfield 19, 3) := by decide +kernel
theorem dX1_holds_7 : decode cX1_holds 7 = .ok (.if_icmp .ge 20, 3) := by decide +kernel
theorem dX1_holds_10 : decode cX1_holds 10 = .ok (.aload_n 0, 1) := by decide +kernel
theorem dX1_holds_11 : decode cX1_holds 11 = .ok (.iload_n 2, 1) := by decide +kernel
theorem dX1_holds_12 : decode cX1_holds 12 = .ok (.invokevirtual 23, 3) := by decide +kernel
theorem dX1_holds_15 : decode cX1_holds 15 = .ok (.iload_n 1, 1) := by decide +kernel
theorem dX1_holds_16 : decode cX1_holds 16 = .ok (.if_icmp .ne 5, 3) := by decide +kernel
theorem dX1_holds_19 : decode cX1_holds 19 = .ok (.iconst 1, 1) := by decide +kernel
theorem dX1_holds_20 : decode cX1_holds 20 = .ok (.ireturn, 1) := by decide +kernel
theorem dX1_holds_21 : decode cX1_holds 21 = .ok (.iinc 2 1, 3) := by decide +kernel
theorem dX1_holds_24 : decode cX1_holds 24 = .ok (.goto (-22), 3) := by decide +kernel
theorem dX1_holds_27 : decode cX1_holds 27 = .ok (.iconst 0, 1) := by decide +kernel
theorem dX1_holds_28 : decode cX1_holds 28 = .ok (.ireturn, 1) := by decide +kernel
theorem dX1_add_0 : decode cX1_add 0 = .ok (.aload_n 0, 1) := by decide +kernel
theorem dX1_add_1 : decode cX1_add 1 = .ok (.getfield 19, 3) := by decide +kernel
theorem dX1_add_4 : decode cX1_add 4 = .ok (.ifCond .lt 57, 3) := by decide +kernel
theorem dX1_add_7 : decode cX1_add 7 = .ok (.aload_n 0, 1) := by decide +kernel
theorem dX1_add_8 : decode cX1_add 8 = .ok (.getfield 19, 3) := by decide +kernel
theorem dX1_add_11 : decode cX1_add 11 = .ok (.aload_n 0, 1) := by decide +kernel
theorem dX1_add_12 : decode cX1_add 12 = .ok (.getfield 9, 3) := by decide +kernel
theorem dX1_add_15 : decode cX1_add 15 = .ok (.arraylength, 1) := by decide +kernel
theorem dX1_add_16 : decode cX1_add 16 = .ok (.if_icmp .ge 45, 3) := by decide +kernel
theorem dX1_add_19 : decode cX1_add 19 = .ok (.aload_n 0, 1) := by decide +kernel
theorem dX1_add_20 : decode cX1_add 20 = .ok (.getfield 19, 3) := by decide +kernel
theorem dX1_add_23 : decode cX1_add 23 = .ok (.aload_n 0, 1) := by decide +kernel
theorem dX1_add_24 : decode cX1_add 24 = .ok (.getfield 15, 3) := by decide +kernel
theorem dX1_add_27 : decode cX1_add 27 = .ok (.arraylength, 1) := by decide +kernel
theorem dX1_add_28 : decode cX1_add 28 = .ok (.if_icmp .ge 33, 3) := by decide +kernel
theorem dX1_add_31 : decode cX1_add 31 = .ok (.aload_n 0, 1) := by decide +kernel
theorem dX1_add_32 : decode cX1_add 32 = .ok (.getfield 9, 3) := by decide +kernel
theorem dX1_add_35 : decode cX1_add 35 = .ok (.aload_n 0, 1) := by decide +kernel
theorem dX1_add_36 : decode cX1_add 36 = .ok (.getfield 19, 3) := by decide +kernel
theorem dX1_add_39 : decode cX1_add 39 = .ok (.iload_n 1, 1) := by decide +kernel
theorem dX1_add_40 : decode cX1_add 40 = .ok (.iastore, 1) := by decide +kernel
theorem dX1_add_41 : decode cX1_add 41 = .ok (.aload_n 0, 1) := by decide +kernel
theorem dX1_add_42 : decode cX1_add 42 = .ok (.getfield 15, 3) := by decide +kernel
theorem dX1_add_45 : decode cX1_add 45 = .ok (.aload_n 0, 1) := by decide +kernel
theorem dX1_add_46 : decode cX1_add 46 = .ok (.getfield 19, 3) := by decide +kernel
theorem dX1_add_49 : decode cX1_add 49 = .ok (.iload_n 2, 1) := by decide +kernel
theorem dX1_add_50 : decode cX1_add 50 = .ok (.bastore, 1) := by decide +kernel
theorem dX1_add_51 : decode cX1_add 51 = .ok (.aload_n 0, 1) := by decide +kernel
theorem dX1_add_52 : decode cX1_add 52 = .ok (.dup, 1) := by decide +kernel
theorem dX1_add_53 : decode cX1_add 53 = .ok (.getfield 19, 3) := by decide +kernel
theorem dX1_add_56 : decode cX1_add 56 = .ok (.iconst 1, 1) := by decide +kernel
theorem dX1_add_57 : decode cX1_add 57 = .ok (.iadd, 1) := by decide +kernel
theorem dX1_add_58 : decode cX1_add 58 = .ok (.putfield 19, 3) := by decide +kernel
theorem dX1_add_61 : decode cX1_add 61 = .ok (.return_, 1) := by decide +kernel
theorem dX1_read_0 : decode cX1_read 0 = .ok (.aload_n 0, 1) := by decide +kernel
theorem dX1_read_1 : decode cX1_read 1 = .ok (.iconst 0, 1) := by decide +kernel
theorem dX1_read_2 : decode cX1_read 2 = .ok (.putfield 19, 3) := by decide +kernel
theorem dX1_read_5 : decode cX1_read 5 = .ok (.iconst 0, 1) := by decide +kernel
theorem dX1_read_6 : decode cX1_read 6 = .ok (.istore_n 3, 1) := by decide +kernel
theorem dX1_read_7 : decode cX1_read 7 = .ok (.iconst 0, 1) := by decide +kernel
theorem dX1_read_8 : decode cX1_read 8 = .ok (.istore 4, 2) := by decide +kernel
theorem dX1_read_10 : decode cX1_read 10 = .ok (.iconst 0, 1) := by decide +kernel
theorem dX1_read_11 : decode cX1_read 11 = .ok (.istore 5, 2) := by decide +kernel
theorem dX1_read_13 : decode cX1_read 13 = .ok (.iconst 0, 1) := by decide +kernel
theorem dX1_read_14 : decode cX1_read 14 = .ok (.istore 6, 2) := by decide +kernel
theorem dX1_read_16 : decode cX1_read 16 = .ok (.iload 6, 2) := by decide +kernel
theorem dX1_read_18 : decode cX1_read 18 = .ok (.aload_n 1, 1) := by decide +kernel
theorem dX1_read_19 : decode cX1_read 19 = .ok (.getfield 27, 3) := by decide +kernel
theorem dX1_read_22 : decode cX1_read 22 = .ok (.if_icmp .ge 116, 3) := by decide +kernel
theorem dX1_read_25 : decode cX1_read 25 = .ok (.aload_n 1, 1) := by decide +kernel
theorem dX1_read_26 : decode cX1_read 26 = .ok (.iload 6, 2) := by decide +kernel
theorem dX1_read_28 : decode cX1_read 28 = .ok (.invokevirtual 30, 3) := by decide +kernel
theorem dX1_read_31 : decode cX1_read 31 = .ok (.istore 7, 2) := by decide +kernel
theorem dX1_read_33 : decode cX1_read 33 = .ok (.iload 7, 2) := by decide +kernel
theorem dX1_read_35 : decode cX1_read 35 = .ok (.bipush 48, 2) := by decide +kernel
theorem dX1_read_37 : decode cX1_read 37 = .ok (.if_icmp .lt 34, 3) := by decide +kernel
theorem dX1_read_40 : decode cX1_read 40 = .ok (.iload 7, 2) := by decide +kernel
theorem dX1_read_42 : decode cX1_read 42 = .ok (.bipush 57, 2) := by decide +kernel
theorem dX1_read_44 : decode cX1_read 44 = .ok (.if_icmp .gt 27, 3) := by decide +kernel
theorem dX1_read_47 : decode cX1_read 47 = .ok (.iload_n 3, 1) := by decide +kernel
theorem dX1_read_48 : decode cX1_read 48 = .ok (.iconst 5, 1) := by decide +kernel
theorem dX1_read_49 : decode cX1_read 49 = .ok (.if_icmp .ge 22, 3) := by decide +kernel
theorem dX1_read_52 : decode cX1_read 52 = .ok (.iload 4, 2) := by decide +kernel
theorem dX1_read_54 : decode cX1_read 54 = .ok (.bipush 10, 2) := by decide +kernel
theorem dX1_read_56 : decode cX1_read 56 = .ok (.imul, 1) := by decide +kernel
theorem dX1_read_57 : decode cX1_read 57 = .ok (.iload 7, 2) := by decide +kernel
theorem dX1_read_59 : decode cX1_read 59 = .ok (.bipush 48, 2) := by decide +kernel
theorem dX1_read_61 : decode cX1_read 61 = .ok (.isub, 1) := by decide +kernel
theorem dX1_read_62 : decode cX1_read 62 = .ok (.iadd, 1) := by decide +kernel
theorem dX1_read_63 : decode cX1_read 63 = .ok (.istore 4, 2) := by decide +kernel
theorem dX1_read_65 : decode cX1_read 65 = .ok (.iinc 3 1, 3) := by decide +kernel
theorem dX1_read_68 : decode cX1_read 68 = .ok (.goto 64, 3) := by decide +kernel
theorem dX1_read_71 : decode cX1_read 71 = .ok (.iload 7, 2) := by decide +kernel
theorem dX1_read_73 : decode cX1_read 73 = .ok (.bipush 126, 2) := by decide +kernel
theorem dX1_read_75 : decode cX1_read 75 = .ok (.if_icmp .ne 22, 3) := by decide +kernel
theorem dX1_read_78 : decode cX1_read 78 = .ok (.iload_n 2, 1) := by decide +kernel
theorem dX1_read_79 : decode cX1_read 79 = .ok (.ifCond .eq 18, 3) := by decide +kernel
theorem dX1_read_82 : decode cX1_read 82 = .ok (.iload_n 3, 1) := by decide +kernel
theorem dX1_read_83 : decode cX1_read 83 = .ok (.ifCond .ne 14, 3) := by decide +kernel
theorem dX1_read_86 : decode cX1_read 86 = .ok (.iload 5, 2) := by decide +kernel
theorem dX1_read_88 : decode cX1_read 88 = .ok (.ifCond .ne 9, 3) := by decide +kernel
theorem dX1_read_91 : decode cX1_read 91 = .ok (.iconst 1, 1) := by decide +kernel
theorem dX1_read_92 : decode cX1_read 92 = .ok (.istore 5, 2) := by decide +kernel
theorem dX1_read_94 : decode cX1_read 94 = .ok (.goto 38, 3) := by decide +kernel
theorem dX1_read_97 : decode cX1_read 97 = .ok (.iload 7, 2) := by decide +kernel
theorem dX1_read_99 : decode cX1_read 99 = .ok (.bipush 44, 2) := by decide +kernel
theorem dX1_read_101 : decode cX1_read 101 = .ok (.if_icmp .ne 26, 3) := by decide +kernel
theorem dX1_read_104 : decode cX1_read 104 = .ok (.iload_n 3, 1) := by decide +kernel
theorem dX1_read_105 : decode cX1_read 105 = .ok (.ifCond .le 22, 3) := by decide +kernel
theorem dX1_read_108 : decode cX1_read 108 = .ok (.aload_n 0, 1) := by decide +kernel
theorem dX1_read_109 : decode cX1_read 109 = .ok (.iload 4, 2) := by decide +kernel
theorem dX1_read_111 : decode cX1_read 111 = .ok (.iload 5, 2) := by decide +kernel
theorem dX1_read_113 : decode cX1_read 113 = .ok (.invokevirtual 33, 3) := by decide +kernel
theorem dX1_read_116 : decode cX1_read 116 = .ok (.iconst 0, 1) := by decide +kernel
theorem dX1_read_117 : decode cX1_read 117 = .ok (.istore_n 3, 1) := by decide +kernel
theorem dX1_read_118 : decode cX1_read 118 = .ok (.iconst 0, 1) := by decide +kernel
theorem dX1_read_119 : decode cX1_read 119 = .ok (.istore 4, 2) := by decide +kernel
theorem dX1_read_121 : decode cX1_read 121 = .ok (.iconst 0, 1) := by decide +kernel
theorem dX1_read_122 : decode cX1_read 122 = .ok (.istore 5, 2) := by decide +kernel
theorem dX1_read_124 : decode cX1_read 124 = .ok (.goto 8, 3) := by decide +kernel
theorem dX1_read_127 : decode cX1_read 127 = .ok (.iconst (-1), 1) := by decide +kernel
theorem dX1_read_128 : decode cX1_read 128 = .ok (.iload 6, 2) := by decide +kernel
theorem dX1_read_130 : decode cX1_read 130 = .ok (.isub, 1) := by decide +kernel
theorem dX1_read_131 : decode cX1_read 131 = .ok (.ireturn, 1) := by decide +kernel
theorem dX1_read_132 : decode cX1_read 132 = .ok (.iinc 6 1, 3) := by decide +kernel
theorem dX1_read_135 : decode cX1_read 135 = .ok (.goto (-119), 3) := by decide +kernel
theorem dX1_read_138 : decode cX1_read 138 = .ok (.aload_n 1, 1) := by decide +kernel
theorem dX1_read_139 : decode cX1_read 139 = .ok (.getfield 27, 3) := by decide +kernel
theorem dX1_read_142 : decode cX1_read 142 = .ok (.ifCond .le 14, 3) := by decide +kernel
theorem dX1_read_145 : decode cX1_read 145 = .ok (.iload_n 3, 1) := by decide +kernel
theorem dX1_read_146 : decode cX1_read 146 = .ok (.ifCond .ne 10, 3) := by decide +kernel
theorem dX1_read_149 : decode cX1_read 149 = .ok (.iconst (-1), 1) := by decide +kernel
theorem dX1_read_150 : decode cX1_read 150 = .ok (.aload_n 1, 1) := by decide +kernel
theorem dX1_read_151 : decode cX1_read 151 = .ok (.getfield 27, 3) := by decide +kernel
theorem dX1_read_154 : decode cX1_read 154 = .ok (.isub, 1) := by decide +kernel
theorem dX1_read_155 : decode cX1_read 155 = .ok (.ireturn, 1) := by decide +kernel
theorem dX1_read_156 : decode cX1_read 156 = .ok (.aload_n 1, 1) := by decide +kernel
theorem dX1_read_157 : decode cX1_read 157 = .ok (.getfield 27, 3) := by decide +kernel
theorem dX1_read_160 : decode cX1_read 160 = .ok (.ifCond .le 11, 3) := by decide +kernel
theorem dX1_read_163 : decode cX1_read 163 = .ok (.aload_n 0, 1) := by decide +kernel
theorem dX1_read_164 : decode cX1_read 164 = .ok (.iload 4, 2) := by decide +kernel
theorem dX1_read_166 : decode cX1_read 166 = .ok (.iload 5, 2) := by decide +kernel
theorem dX1_read_168 : decode cX1_read 168 = .ok (.invokevirtual 33, 3) := by decide +kernel
theorem dX1_read_171 : decode cX1_read 171 = .ok (.iconst 0, 1) := by decide +kernel
theorem dX1_read_172 : decode cX1_read 172 = .ok (.ireturn, 1) := by decide +kernel
theorem dX2_init_0 : decode cX2_init 0 = .ok (.aload_n 0, 1) := by decide +kernel
theorem dX2_init_1 : decode cX2_init 1 = .ok (.invokespecial 3, 3) := by decide +kernel
theorem dX2_init_4 : decode cX2_init 4 = .ok (.aload_n 0, 1) := by decide +kernel
theorem dX2_init_5 : decode cX2_init 5 = .ok (.bipush 64, 2) := by decide +kernel
theorem dX2_init_7 : decode cX2_init 7 = .ok (.newarray .int, 2) := by decide +kernel
theorem dX2_init_9 : decode cX2_init 9 = .ok (.putfield 9, 3) := by decide +kernel
theorem dX2_init_12 : decode cX2_init 12 = .ok (.aload_n 0, 1) := by decide +kernel
theorem dX2_init_13 : decode cX2_init 13 = .ok (.bipush 64, 2) := by decide +kernel
theorem dX2_init_15 : decode cX2_init 15 = .ok (.newarray .int, 2) := by decide +kernel
theorem dX2_init_17 : decode cX2_init 17 = .ok (.putfield 15, 3) := by decide +kernel
theorem dX2_init_20 : decode cX2_init 20 = .ok (.aload_n 0, 1) := by decide +kernel
theorem dX2_init_21 : decode cX2_init 21 = .ok (.bipush 64, 2) := by decide +kernel
theorem dX2_init_23 : decode cX2_init 23 = .ok (.newarray .int, 2) := by decide +kernel
theorem dX2_init_25 : decode cX2_init 25 = .ok (.putfield 18, 3) := by decide +kernel
theorem dX2_init_28 : decode cX2_init 28 = .ok (.aload_n 0, 1) := by decide +kernel
theorem dX2_init_29 : decode cX2_init 29 = .ok (.iconst 3, 1) := by decide +kernel
theorem dX2_init_30 : decode cX2_init 30 = .ok (.putfield 21, 3) := by decide +kernel
theorem dX2_init_33 : decode cX2_init 33 = .ok (.aload_n 0, 1) := by decide +kernel
theorem dX2_init_34 : decode cX2_init 34 = .ok (.iconst 0, 1) := by decide +kernel
theorem dX2_init_35 : decode cX2_init 35 = .ok (.putfield 25, 3) := by decide +kernel
theorem dX2_init_38 : decode cX2_init 38 = .ok (.aload_n 0, 1) := by decide +kernel
theorem dX2_init_39 : decode cX2_init 39 = .ok (.iconst 0, 1) := by decide +kernel
theorem dX2_init_40 : decode cX2_init 40 = .ok (.putfield 28, 3) := by decide +kernel
theorem dX2_init_43 : decode cX2_init 43 = .ok (.return_, 1) := by decide +kernel
theorem dX2_lay_0 : decode cX2_lay 0 = .ok (.aload_n 0, 1) := by decide +kernel
theorem dX2_lay_1 : decode cX2_lay 1 = .ok (.aload_n 1, 1) := by decide +kernel
theorem dX2_lay_2 : decode cX2_lay 2 = .ok (.getfield 31, 3) := by decide +kernel
theorem dX2_lay_5 : decode cX2_lay 5 = .ok (.putfield 21, 3) := by decide +kernel
theorem dX2_lay_8 : decode cX2_lay 8 = .ok (.aload_n 0, 1) := by decide +kernel
theorem dX2_lay_9 : decode cX2_lay 9 = .ok (.aload_n 1, 1) := by decide +kernel
theorem dX2_lay_10 : decode cX2_lay 10 = .ok (.invokevirtual 34, 3) := by decide +kernel
theorem dX2_lay_13 : decode cX2_lay 13 = .ok (.putfield 25, 3) := by decide +kernel
theorem dX2_lay_16 : decode cX2_lay 16 = .ok (.aload_n 0, 1) := by decide +kernel
theorem dX2_lay_17 : decode cX2_lay 17 = .ok (.iload_n 2, 1) := by decide +kernel
theorem dX2_lay_18 : decode cX2_lay 18 = .ok (.aload_n 1, 1) := by decide +kernel
theorem dX2_lay_19 : decode cX2_lay 19 = .ok (.getfield 31, 3) := by decide +kernel
theorem dX2_lay_22 : decode cX2_lay 22 = .ok (.isub, 1) := by decide +kernel
theorem dX2_lay_23 : decode cX2_lay 23 = .ok (.putfield 28, 3) := by decide +kernel
theorem dX2_lay_26 : decode cX2_lay 26 = .ok (.aload_n 0, 1) := by decide +kernel
theorem dX2_lay_27 : decode cX2_lay 27 = .ok (.aload_n 1, 1) := by decide +kernel
theorem dX2_lay_28 : decode cX2_lay 28 = .ok (.iconst 0, 1) := by decide +kernel
theorem dX2_lay_29 : decode cX2_lay 29 = .ok (.invokevirtual 38, 3) := by decide +kernel
theorem dX2_lay_32 : decode cX2_lay 32 = .ok (.istore_n 3, 1) := by decide +kernel
theorem dX2_lay_33 : decode cX2_lay 33 = .ok (.aload_n 0, 1) := by decide +kernel
theorem dX2_lay_34 : decode cX2_lay 34 = .ok (.aload_n 1, 1) := by decide +kernel
theorem dX2_lay_35 : decode cX2_lay 35 = .ok (.iload_n 3, 1) := by decide +kernel
theorem dX2_lay_36 : decode cX2_lay 36 = .ok (.invokevirtual 38, 3) := by decide +kernel
theorem dX2_lay_39 : decode cX2_lay 39 = .ok (.pop, 1) := by decide +kernel
theorem dX2_lay_40 : decode cX2_lay 40 = .ok (.iconst 0, 1) := by decide +kernel
theorem dX2_lay_41 : decode cX2_lay 41 = .ok (.istore 4, 2) := by decide +kernel
theorem dX2_lay_43 : decode cX2_lay 43 = .ok (.iload 4, 2) := by decide +kernel
theorem dX2_lay_45 : decode cX2_lay 45 = .ok (.aload_n 0, 1) := by decide +kernel
theorem dX2_lay_46 : decode cX2_lay 46 = .ok (.getfield 25, 3) := by decide +kernel
theorem dX2_lay_49 : decode cX2_lay 49 = .ok (.if_icmp .ge 35, 3) := by decide +kernel
theorem dX2_lay_52 : decode cX2_lay 52 = .ok (.iload 4, 2) := by decide +kernel
theorem dX2_lay_54 : decode cX2_lay 54 = .ok (.aload_n 0, 1) := by decide +kernel
theorem dX2_lay_55 : decode cX2_lay 55 = .ok (.getfield 18, 3) := by decide +kernel
theorem dX2_lay_58 : decode cX2_lay 58 = .ok (.arraylength, 1) := by decide +kernel
theorem dX2_lay_59 : decode cX2_lay 59 = .ok (.if_icmp .ge 25, 3) := by decide +kernel
theorem dX2_lay_62 : decode cX2_lay 62 = .ok (.aload_n 0, 1) := by decide +kernel
theorem dX2_lay_63 : decode cX2_lay 63 = .ok (.getfield 15, 3) := by decide +kernel
theorem dX2_lay_66 : decode cX2_lay 66 = .ok (.iload 4, 2) := by decide +kernel
theorem dX2_lay_68 : decode cX2_lay 68 = .ok (.iconst (-1), 1) := by decide +kernel
theorem dX2_lay_69 : decode cX2_lay 69 = .ok (.iastore, 1) := by decide +kernel
theorem dX2_lay_70 : decode cX2_lay 70 = .ok (.aload_n 0, 1) := by decide +kernel
theorem dX2_lay_71 : decode cX2_lay 71 = .ok (.getfield 18, 3) := by decide +kernel
theorem dX2_lay_74 : decode cX2_lay 74 = .ok (.iload 4, 2) := by decide +kernel
theorem dX2_lay_76 : decode cX2_lay 76 = .ok (.iconst 0, 1) := by decide +kernel
theorem dX2_lay_77 : decode cX2_lay 77 = .ok (.iastore, 1) := by decide +kernel
theorem dX2_lay_78 : decode cX2_lay 78 = .ok (.iinc 4 1, 3) := by decide +kernel
theorem dX2_lay_81 : decode cX2_lay 81 = .ok (.goto (-38), 3) := by decide +kernel
theorem dX2_lay_84 : decode cX2_lay 84 = .ok (.iconst 0, 1) := by decide +kernel
theorem dX2_lay_85 : decode cX2_lay 85 = .ok (.istore 4, 2) := by decide +kernel
theorem dX2_lay_87 : decode cX2_lay 87 = .ok (.iload 4, 2) := by decide +kernel
theorem dX2_lay_89 : decode cX2_lay 89 = .ok (.aload_n 1, 1) := by decide +kernel
theorem dX2_lay_90 : decode cX2_lay 90 = .ok (.getfield 42, 3) := by decide +kernel
theorem dX2_lay_93 : decode cX2_lay 93 = .ok (.if_icmp .ge 16, 3) := by decide +kernel
theorem dX2_lay_96 : decode cX2_lay 96 = .ok (.aload_n 0, 1) := by decide +kernel
theorem dX2_lay_97 : decode cX2_lay 97 = .ok (.aload_n 1, 1) := by decide +kernel
theorem dX2_lay_98 : decode cX2_lay 98 = .ok (.iload 4, 2) := by decide +kernel
theorem dX2_lay_100 : decode cX2_lay 100 = .ok (.invokevirtual 45, 3) := by decide +kernel
theorem dX2_lay_103 : decode cX2_lay 103 = .ok (.iinc 4 1, 3) := by decide +kernel
theorem dX2_lay_106 : decode cX2_lay 106 = .ok (.goto (-19), 3) := by decide +kernel
theorem dX2_lay_109 : decode cX2_lay 109 = .ok (.return_, 1) := by decide +kernel
theorem dX2_placeAll_0 : decode cX2_placeAll 0 = .ok (.iload_n 2, 1) := by decide +kernel
theorem dX2_placeAll_1 : decode cX2_placeAll 1 = .ok (.istore_n 3, 1) := by decide +kernel
theorem dX2_placeAll_2 : decode cX2_placeAll 2 = .ok (.iconst 0, 1) := by decide +kernel
theorem dX2_placeAll_3 : decode cX2_placeAll 3 = .ok (.istore 4, 2) := by decide +kernel
theorem dX2_placeAll_5 : decode cX2_placeAll 5 = .ok (.iload 4, 2) := by decide +kernel
theorem dX2_placeAll_7 : decode cX2_placeAll 7 = .ok (.aload_n 1, 1) := by decide +kernel
theorem dX2_placeAll_8 : decode cX2_placeAll 8 = .ok (.getfield 42, 3) := by decide +kernel
theorem dX2_placeAll_11 : decode cX2_placeAll 11 = .ok (.if_icmp .ge 57, 3) := by decide +kernel
theorem dX2_placeAll_14 : decode cX2_placeAll 14 = .ok (.iload 4, 2) := by decide +kernel
theorem dX2_placeAll_16 : decode cX2_placeAll 16 = .ok (.aload_n 0, 1) := by decide +kernel
theorem dX2_placeAll_17 : decode cX2_placeAll 17 = .ok (.getfield 9, 3) := by decide +kernel
theorem dX2_placeAll_20 : decode cX2_placeAll 20 = .ok (.arraylength, 1) := by decide +kernel
theorem dX2_placeAll_21 : decode cX2_placeAll 21 = .ok (.if_icmp .ge 47, 3) := by decide +kernel
theorem dX2_placeAll_24 : decode cX2_placeAll 24 = .ok (.aload_n 1, 1) := by decide +kernel
theorem dX2_placeAll_25 : decode cX2_placeAll 25 = .ok (.iload 4, 2) := by decide +kernel
theorem dX2_placeAll_27 : decode cX2_placeAll 27 = .ok (.invokevirtual 49, 3) := by decide +kernel
theorem dX2_placeAll_30 : decode cX2_placeAll 30 = .ok (.aload_n 0, 1) := by decide +kernel
theorem dX2_placeAll_31 : decode cX2_placeAll 31 = .ok (.getfield 28, 3) := by decide +kernel
theorem dX2_placeAll_34 : decode cX2_placeAll 34 = .ok (.ishr, 1) := by decide +kernel
theorem dX2_placeAll_35 : decode cX2_placeAll 35 = .ok (.iload_n 3, 1) := by decide +kernel
theorem dX2_placeAll_36 : decode cX2_placeAll 36 = .ok (.invokestatic 53, 3) := by decide +kernel
theorem dX2_placeAll_39 : decode cX2_placeAll 39 = .ok (.istore 5, 2) := by decide +kernel
theorem dX2_placeAll_41 : decode cX2_placeAll 41 = .ok (.aload_n 0, 1) := by decide +kernel
theorem dX2_placeAll_42 : decode cX2_placeAll 42 = .ok (.getfield 9, 3) := by decide +kernel
theorem dX2_placeAll_45 : decode cX2_placeAll 45 = .ok (.iload 4, 2) := by decide +kernel
theorem dX2_placeAll_47 : decode cX2_placeAll 47 = .ok (.iload 5, 2) := by decide +kernel
theorem dX2_placeAll_49 : decode cX2_placeAll 49 = .ok (.aload_n 0, 1) := by decide +kernel
theorem dX2_placeAll_50 : decode cX2_placeAll 50 = .ok (.getfield 25, 3) := by decide +kernel
theorem dX2_placeAll_53 : decode cX2_placeAll 53 = .ok (.iconst 1, 1) := by decide +kernel
theorem dX2_placeAll_54 : decode cX2_placeAll 54 = .ok (.isub, 1) := by decide +kernel
theorem dX2_placeAll_55 : decode cX2_placeAll 55 = .ok (.iand, 1) := by decide +kernel
theorem dX2_placeAll_56 : decode cX2_placeAll 56 = .ok (.iastore, 1) := by decide +kernel
theorem dX2_placeAll_57 : decode cX2_placeAll 57 = .ok (.iload 5, 2) := by decide +kernel
theorem dX2_placeAll_59 : decode cX2_placeAll 59 = .ok (.iconst 1, 1) := by decide +kernel
theorem dX2_placeAll_60 : decode cX2_placeAll 60 = .ok (.iadd, 1) := by decide +kernel
theorem dX2_placeAll_61 : decode cX2_placeAll 61 = .ok (.istore_n 3, 1) := by decide +kernel
theorem dX2_placeAll_62 : decode cX2_placeAll 62 = .ok (.iinc 4 1, 3) := by decide +kernel
theorem dX2_placeAll_65 : decode cX2_placeAll 65 = .ok (.goto (-60), 3) := by decide +kernel
theorem dX2_placeAll_68 : decode cX2_placeAll 68 = .ok (.iconst 0, 1) := by decide +kernel
theorem dX2_placeAll_69 : decode cX2_placeAll 69 = .ok (.iload_n 3, 1) := by decide +kernel
theorem dX2_placeAll_70 : decode cX2_placeAll 70 = .ok (.aload_n 0, 1) := by decide +kernel
theorem dX2_placeAll_71 : decode cX2_placeAll 71 = .ok (.getfield 25, 3) := by decide +kernel
theorem dX2_placeAll_74 : decode cX2_placeAll 74 = .ok (.isub, 1) := by decide +kernel
theorem dX2_placeAll_75 : decode cX2_placeAll 75 = .ok (.invokestatic 53, 3) := by decide +kernel
theorem dX2_placeAll_78 : decode cX2_placeAll 78 = .ok (.ireturn, 1) := by decide +kernel
theorem dX2_fillCell_0 : decode cX2_fillCell 0 = .ok (.aload_n 1, 1) := by decide +kernel
theorem dX2_fillCell_1 : decode cX2_fillCell 1 = .ok (.iload_n 2, 1) := by decide +kernel
theorem dX2_fillCell_2 : decode cX2_fillCell 2 = .ok (.invokevirtual 49, 3) := by decide +kernel
theorem dX2_fillCell_5 : decode cX2_fillCell 5 = .ok (.istore_n 3, 1) := by decide +kernel
theorem dX2_fillCell_6 : decode cX2_fillCell 6 = .ok (.iload_n 3, 1) := by decide +kernel
theorem dX2_fillCell_7 : decode cX2_fillCell 7 = .ok (.aload_n 0, 1) := by decide +kernel
theorem dX2_fillCell_8 : decode cX2_fillCell 8 = .ok (.getfield 28, 3) := by decide +kernel
theorem dX2_fillCell_11 : decode cX2_fillCell 11 = .ok (.ishr, 1) := by decide +kernel
theorem dX2_fillCell_12 : decode cX2_fillCell 12 = .ok (.istore 4, 2) := by decide +kernel
theorem dX2_fillCell_14 : decode cX2_fillCell 14 = .ok (.aload_n 0, 1) := by decide +kernel
theorem dX2_fillCell_15 : decode cX2_fillCell 15 = .ok (.iload_n 2, 1) := by decide +kernel
theorem dX2_fillCell_16 : decode cX2_fillCell 16 = .ok (.invokevirtual 59, 3) := by decide +kernel
theorem dX2_fillCell_19 : decode cX2_fillCell 19 = .ok (.istore 5, 2) := by decide +kernel
theorem dX2_fillCell_21 : decode cX2_fillCell 21 = .ok (.iload 5, 2) := by decide +kernel
theorem dX2_fillCell_23 : decode cX2_fillCell 23 = .ok (.ifCond .lt 28, 3) := by decide +kernel
theorem dX2_fillCell_26 : decode cX2_fillCell 26 = .ok (.iload 5, 2) := by decide +kernel
theorem dX2_fillCell_28 : decode cX2_fillCell 28 = .ok (.aload_n 0, 1) := by decide +kernel
theorem dX2_fillCell_29 : decode cX2_fillCell 29 = .ok (.getfield 18, 3) := by decide +kernel
theorem dX2_fillCell_32 : decode cX2_fillCell 32 = .ok (.arraylength, 1) := by decide +kernel
theorem dX2_fillCell_33 : decode cX2_fillCell 33 = .ok (.if_icmp .ge 18, 3) := by decide +kernel
theorem dX2_fillCell_36 : decode cX2_fillCell 36 = .ok (.iload 4, 2) := by decide +kernel
theorem dX2_fillCell_38 : decode cX2_fillCell 38 = .ok (.ifCond .lt 13, 3) := by decide +kernel
theorem dX2_fillCell_41 : decode cX2_fillCell 41 = .ok (.iload 4, 2) := by decide +kernel
theorem dX2_fillCell_43 : decode cX2_fillCell 43 = .ok (.aload_n 0, 1) := by decide +kernel
theorem dX2_fillCell_44 : decode cX2_fillCell 44 = .ok (.getfield 18, 3) := by decide +kernel
theorem dX2_fillCell_47 : decode cX2_fillCell 47 = .ok (.arraylength, 1) := by decide +kernel
theorem dX2_fillCell_48 : decode cX2_fillCell 48 = .ok (.if_icmp .lt 4, 3) := by decide +kernel
theorem dX2_fillCell_51 : decode cX2_fillCell 51 = .ok (.return_, 1) := by decide +kernel
theorem dX2_fillCell_52 : decode cX2_fillCell 52 = .ok (.iload_n 2, 1) := by decide +kernel
theorem dX2_fillCell_53 : decode cX2_fillCell 53 = .ok (.ifCond .le 24, 3) := by decide +kernel
theorem dX2_fillCell_56 : decode cX2_fillCell 56 = .ok (.aload_n 1, 1) := by decide +kernel
theorem dX2_fillCell_57 : decode cX2_fillCell 57 = .ok (.iload_n 2, 1) := by decide +kernel
theorem dX2_fillCell_58 : decode cX2_fillCell 58 = .ok (.iconst 1, 1) := by decide +kernel
theorem dX2_fillCell_59 : decode cX2_fillCell 59 = .ok (.isub, 1) := by decide +kernel
theorem dX2_fillCell_60 : decode cX2_fillCell 60 = .ok (.invokevirtual 49, 3) := by decide +kernel
theorem dX2_fillCell_63 : decode cX2_fillCell 63 = .ok (.aload_n 0, 1) := by decide +kernel
theorem dX2_fillCell_64 : decode cX2_fillCell 64 = .ok (.getfield 28, 3) := by decide +kernel
theorem dX2_fillCell_67 : decode cX2_fillCell 67 = .ok (.ishr, 1) := by decide +kernel
theorem dX2_fillCell_68 : decode cX2_fillCell 68 = .ok (.iload 4, 2) := by decide +kernel
theorem dX2_fillCell_70 : decode cX2_fillCell 70 = .ok (.if_icmp .ne 7, 3) := by decide +kernel
theorem dX2_fillCell_73 : decode cX2_fillCell 73 = .ok (.iconst 1, 1) := by decide +kernel
theorem dX2_fillCell_74 : decode cX2_fillCell 74 = .ok (.goto 4, 3) := by decide +kernel
theorem dX2_fillCell_77 : decode cX2_fillCell 77 = .ok (.iconst 0, 1) := by decide +kernel
theorem dX2_fillCell_78 : decode cX2_fillCell 78 = .ok (.istore 6, 2) := by decide +kernel
theorem dX2_fillCell_80 : decode cX2_fillCell 80 = .ok (.iload_n 3, 1) := by decide +kernel
theorem dX2_fillCell_81 : decode cX2_fillCell 81 = .ok (.iconst 1, 1) := by decide +kernel
theorem dX2_fillCell_82 : decode cX2_fillCell 82 = .ok (.aload_n 0, 1) := by decide +kernel
theorem dX2_fillCell_83 : decode cX2_fillCell 83 = .ok (.getfield 28, 3) := by decide +kernel
theorem dX2_fillCell_86 : decode cX2_fillCell 86 = .ok (.ishl, 1) := by decide +kernel
theorem dX2_fillCell_87 : decode cX2_fillCell 87 = .ok (.iconst 1, 1) := by decide +kernel
theorem dX2_fillCell_88 : decode cX2_fillCell 88 = .ok (.isub, 1) := by decide +kernel
theorem dX2_fillCell_89 : decode cX2_fillCell 89 = .ok (.iand, 1) := by decide +kernel
theorem dX2_fillCell_90 : decode cX2_fillCell 90 = .ok (.istore 7, 2) := by decide +kernel
theorem dX2_fillCell_92 : decode cX2_fillCell 92 = .ok (.aload_n 0, 1) := by decide +kernel
theorem dX2_fillCell_93 : decode cX2_fillCell 93 = .ok (.getfield 15, 3) := by decide +kernel
theorem dX2_fillCell_96 : decode cX2_fillCell 96 = .ok (.iload 5, 2) := by decide +kernel
theorem dX2_fillCell_98 : decode cX2_fillCell 98 = .ok (.iload_n 2, 1) := by decide +kernel
theorem dX2_fillCell_99 : decode cX2_fillCell 99 = .ok (.iastore, 1) := by decide +kernel
theorem dX2_fillCell_100 : decode cX2_fillCell 100 = .ok (.aload_n 0, 1) := by decide +kernel
theorem dX2_fillCell_101 : decode cX2_fillCell 101 = .ok (.getfield 18, 3) := by decide +kernel
theorem dX2_fillCell_104 : decode cX2_fillCell 104 = .ok (.iload 4, 2) := by decide +kernel
theorem dX2_fillCell_106 : decode cX2_fillCell 106 = .ok (.dup2, 1) := by decide +kernel
theorem dX2_fillCell_107 : decode cX2_fillCell 107 = .ok (.iaload, 1) := by decide +kernel
theorem dX2_fillCell_108 : decode cX2_fillCell 108 = .ok (.iconst 1, 1) := by decide +kernel
theorem dX2_fillCell_109 : decode cX2_fillCell 109 = .ok (.ior, 1) := by decide +kernel
theorem dX2_fillCell_110 : decode cX2_fillCell 110 = .ok (.iastore, 1) := by decide +kernel
theorem dX2_fillCell_111 : decode cX2_fillCell 111 = .ok (.aload_n 0, 1) := by decide +kernel
theorem dX2_fillCell_112 : decode cX2_fillCell 112 = .ok (.getfield 18, 3) := by decide +kernel
theorem dX2_fillCell_115 : decode cX2_fillCell 115 = .ok (.iload 5, 2) := by decide +kernel
theorem dX2_fillCell_117 : decode cX2_fillCell 117 = .ok (.dup2, 1) := by decide +kernel
theorem dX2_fillCell_118 : decode cX2_fillCell 118 = .ok (.iaload, 1) := by decide +kernel
theorem dX2_fillCell_119 : decode cX2_fillCell 119 = .ok (.iload 6, 2) := by decide +kernel
theorem dX2_fillCell_121 : decode cX2_fillCell 121 = .ok (.ifCond .eq 7, 3) := by decide +kernel
theorem dX2_fillCell_124 : decode cX2_fillCell 124 = .ok (.iconst 2, 1) := by decide +kernel
theorem dX2_fillCell_125 : decode cX2_fillCell 125 = .ok (.goto 4, 3) := by decide +kernel
theorem dX2_fillCell_128 : decode cX2_fillCell 128 = .ok (.iconst 0, 1) := by decide +kernel
theorem dX2_fillCell_129 : decode cX2_fillCell 129 = .ok (.iload 5, 2) := by decide +kernel
theorem dX2_fillCell_131 : decode cX2_fillCell 131 = .ok (.iload 4, 2) := by decide +kernel
theorem dX2_fillCell_133 : decode cX2_fillCell 133 = .ok (.if_icmp .eq 7, 3) := by decide +kernel
theorem dX2_fillCell_136 : decode cX2_fillCell 136 = .ok (.iconst 4, 1) := by decide +kernel
theorem dX2_fillCell_137 : decode cX2_fillCell 137 = .ok (.goto 4, 3) := by decide +kernel
theorem dX2_fillCell_140 : decode cX2_fillCell 140 = .ok (.iconst 0, 1) := by decide +kernel
theorem dX2_fillCell_141 : decode cX2_fillCell 141 = .ok (.ior, 1) := by decide +kernel
theorem dX2_fillCell_142 : decode cX2_fillCell 142 = .ok (.iload 7, 2) := by decide +kernel
theorem dX2_fillCell_144 : decode cX2_fillCell 144 = .ok (.iconst 3, 1) := by decide +kernel
theorem dX2_fillCell_145 : decode cX2_fillCell 145 = .ok (.ishl, 1) := by decide +kernel
theorem dX2_fillCell_146 : decode cX2_fillCell 146 = .ok (.ior, 1) := by decide +kernel
theorem dX2_fillCell_147 : decode cX2_fillCell 147 = .ok (.ior, 1) := by decide +kernel
theorem dX2_fillCell_148 : decode cX2_fillCell 148 = .ok (.iastore, 1) := by decide +kernel
theorem dX2_fillCell_149 : decode cX2_fillCell 149 = .ok (.return_, 1) := by decide +kernel
theorem dX2_slotOf_0 : decode cX2_slotOf 0 = .ok (.iload_n 1, 1) := by decide +kernel
theorem dX2_slotOf_1 : decode cX2_slotOf 1 = .ok (.ifCond .lt 21, 3) := by decide +kernel
theorem dX2_slotOf_4 : decode cX2_slotOf 4 = .ok (.iload_n 1, 1) := by decide +kernel
theorem dX2_slotOf_5 : decode cX2_slotOf 5 = .ok (.aload_n 0, 1) := by decide +kernel
theorem dX2_slotOf_6 : decode cX2_slotOf 6 = .ok (.getfield 9, 3) := by decide +kernel
theorem dX2_slotOf_9 : decode cX2_slotOf 9 = .ok (.arraylength, 1) := by decide +kernel
theorem dX2_slotOf_10 : decode cX2_slotOf 10 = .ok (.if_icmp .ge 12, 3) := by decide +kernel
theorem dX2_slotOf_13 : decode cX2_slotOf 13 = .ok (.aload_n 0, 1) := by decide +kernel
theorem dX2_slotOf_14 : decode cX2_slotOf 14 = .ok (.getfield 9, 3) := by decide +kernel
theorem dX2_slotOf_17 : decode cX2_slotOf 17 = .ok (.iload_n 1, 1) := by decide +kernel
theorem dX2_slotOf_18 : decode cX2_slotOf 18 = .ok (.iaload, 1) := by decide +kernel
theorem dX2_slotOf_19 : decode cX2_slotOf 19 = .ok (.goto 4, 3) := by decide +kernel
theorem dX2_slotOf_22 : decode cX2_slotOf 22 = .ok (.iconst (-1), 1) := by decide +kernel
theorem dX2_slotOf_23 : decode cX2_slotOf 23 = .ok (.ireturn, 1) := by decide +kernel
theorem dX2_indexAt_0 : decode cX2_indexAt 0 = .ok (.iload_n 1, 1) := by decide +kernel
theorem dX2_indexAt_1 : decode cX2_indexAt 1 = .ok (.ifCond .lt 29, 3) := by decide +kernel
theorem dX2_indexAt_4 : decode cX2_indexAt 4 = .ok (.iload_n 1, 1) := by decide +kernel
theorem dX2_indexAt_5 : decode cX2_indexAt 5 = .ok (.aload_n 0, 1) := by decide +kernel
theorem dX2_indexAt_6 : decode cX2_indexAt 6 = .ok (.getfield 25, 3) := by decide +kernel
theorem dX2_indexAt_9 : decode cX2_indexAt 9 = .ok (.if_icmp .ge 21, 3) := by decide +kernel
theorem dX2_indexAt_12 : decode cX2_indexAt 12 = .ok (.iload_n 1, 1) := by decide +kernel
theorem dX2_indexAt_13 : decode cX2_indexAt 13 = .ok (.aload_n 0, 1) := by decide +kernel
theorem dX2_indexAt_14 : decode cX2_indexAt 14 = .ok (.getfield 15, 3) := by decide +kernel
theorem dX2_indexAt_17 : decode cX2_indexAt 17 = .ok (.arraylength, 1) := by decide +kernel
theorem dX2_indexAt_18 : decode cX2_indexAt 18 = .ok (.if_icmp .ge 12, 3) := by decide +kernel
theorem dX2_indexAt_21 : decode cX2_indexAt 21 = .ok (.aload_n 0, 1) := by decide +kernel
theorem dX2_indexAt_22 : decode cX2_indexAt 22 = .ok (.getfield 15, 3) := by decide +kernel
theorem dX2_indexAt_25 : decode cX2_indexAt 25 = .ok (.iload_n 1, 1) := by decide +kernel
theorem dX2_indexAt_26 : decode cX2_indexAt 26 = .ok (.iaload, 1) := by decide +kernel
theorem dX2_indexAt_27 : decode cX2_indexAt 27 = .ok (.goto 4, 3) := by decide +kernel
theorem dX2_indexAt_30 : decode cX2_indexAt 30 = .ok (.iconst (-1), 1) := by decide +kernel
theorem dX2_indexAt_31 : decode cX2_indexAt 31 = .ok (.ireturn, 1) := by decide +kernel
theorem dX2_cellAt_0 : decode cX2_cellAt 0 = .ok (.iload_n 1, 1) := by decide +kernel
theorem dX2_cellAt_1 : decode cX2_cellAt 1 = .ok (.ifCond .lt 29, 3) := by decide +kernel
theorem dX2_cellAt_4 : decode cX2_cellAt 4 = .ok (.iload_n 1, 1) := by decide +kernel
theorem dX2_cellAt_5 : decode cX2_cellAt 5 = .ok (.aload_n 0, 1) := by decide +kernel
theorem dX2_cellAt_6 : decode cX2_cellAt 6 = .ok (.getfield 25, 3) := by decide +kernel
theorem dX2_cellAt_9 : decode cX2_cellAt 9 = .ok (.if_icmp .ge 21, 3) := by decide +kernel
theorem dX2_cellAt_12 : decode cX2_cellAt 12 = .ok (.iload_n 1, 1) := by decide +kernel
theorem dX2_cellAt_13 : decode cX2_cellAt 13 = .ok (.aload_n 0, 1) := by decide +kernel
theorem dX2_cellAt_14 : decode cX2_cellAt 14 = .ok (.getfield 18, 3) := by decide +kernel
theorem dX2_cellAt_17 : decode cX2_cellAt 17 = .ok (.arraylength, 1) := by decide +kernel
theorem dX2_cellAt_18 : decode cX2_cellAt 18 = .ok (.if_icmp .ge 12, 3) := by decide +kernel
theorem dX2_cellAt_21 : decode cX2_cellAt 21 = .ok (.aload_n 0, 1) := by decide +kernel
theorem dX2_cellAt_22 : decode cX2_cellAt 22 = .ok (.getfield 18, 3) := by decide +kernel
theorem dX2_cellAt_25 : decode cX2_cellAt 25 = .ok (.iload_n 1, 1) := by decide +kernel
theorem dX2_cellAt_26 : decode cX2_cellAt 26 = .ok (.iaload, 1) := by decide +kernel
theorem dX2_cellAt_27 : decode cX2_cellAt 27 = .ok (.goto 4, 3) := by decide +kernel
theorem dX2_cellAt_30 : decode cX2_cellAt 30 = .ok (.iconst 0, 1) := by decide +kernel
theorem dX2_cellAt_31 : decode cX2_cellAt 31 = .ok (.ireturn, 1) := by decide +kernel
theorem dX2_isMarked_0 : decode cX2_isMarked 0 = .ok (.aload_n 0, 1) := by decide +kernel
theorem dX2_isMarked_1 : decode cX2_isMarked 1 = .ok (.iload_n 1, 1) := by decide +kernel
theorem dX2_isMarked_2 : decode cX2_isMarked 2 = .ok (.invokevirtual 62, 3) := by decide +kernel
theorem dX2_isMarked_5 : decode cX2_isMarked 5 = .ok (.iload_n 2, 1) := by decide +kernel
theorem dX2_isMarked_6 : decode cX2_isMarked 6 = .ok (.iand, 1) := by decide +kernel
theorem dX2_isMarked_7 : decode cX2_isMarked 7 = .ok (.ifCond .eq 7, 3) := by decide +kernel
theorem dX2_isMarked_10 : decode cX2_isMarked 10 = .ok (.iconst 1, 1) := by decide +kernel
theorem dX2_isMarked_11 : decode cX2_isMarked 11 = .ok (.goto 4, 3) := by decide +kernel
theorem dX2_isMarked_14 : decode cX2_isMarked 14 = .ok (.iconst 0, 1) := by decide +kernel
theorem dX2_isMarked_15 : decode cX2_isMarked 15 = .ok (.ireturn, 1) := by decide +kernel
theorem dX2_cellBits_0 : decode cX2_cellBits 0 = .ok (.aload_n 0, 1) := by decide +kernel
theorem dX2_cellBits_1 : decode cX2_cellBits 1 = .ok (.getfield 28, 3) := by decide +kernel
theorem dX2_cellBits_4 : decode cX2_cellBits 4 = .ok (.iconst 3, 1) := by decide +kernel
theorem dX2_cellBits_5 : decode cX2_cellBits 5 = .ok (.iadd, 1) := by decide +kernel
theorem dX2_cellBits_6 : decode cX2_cellBits 6 = .ok (.ireturn, 1) := by decide +kernel
theorem dX2_wordAt_0 : decode cX2_wordAt 0 = .ok (.aload_n 0, 1) := by decide +kernel
theorem dX2_wordAt_1 : decode cX2_wordAt 1 = .ok (.invokevirtual 65, 3) := by decide +kernel
theorem dX2_wordAt_4 : decode cX2_wordAt 4 = .ok (.istore_n 2, 1) := by decide +kernel
theorem dX2_wordAt_5 : decode cX2_wordAt 5 = .ok (.lconst 0, 1) := by decide +kernel
theorem dX2_wordAt_6 : decode cX2_wordAt 6 = .ok (.lstore_n 3, 1) := by decide +kernel
theorem dX2_wordAt_7 : decode cX2_wordAt 7 = .ok (.iconst 0, 1) := by decide +kernel
theorem dX2_wordAt_8 : decode cX2_wordAt 8 = .ok (.istore 5, 2) := by decide +kernel
theorem dX2_wordAt_10 : decode cX2_wordAt 10 = .ok (.iload 5, 2) := by decide +kernel
theorem dX2_wordAt_12 : decode cX2_wordAt 12 = .ok (.aload_n 0, 1) := by decide +kernel
theorem dX2_wordAt_13 : decode cX2_wordAt 13 = .ok (.getfield 25, 3) := by decide +kernel
theorem dX2_wordAt_16 : decode cX2_wordAt 16 = .ok (.if_icmp .ge 73, 3) := by decide +kernel
theorem dX2_wordAt_19 : decode cX2_wordAt 19 = .ok (.iload 5, 2) := by decide +kernel
theorem dX2_wordAt_21 : decode cX2_wordAt 21 = .ok (.iload_n 2, 1) := by decide +kernel
theorem dX2_wordAt_22 : decode cX2_wordAt 22 = .ok (.imul, 1) := by decide +kernel
theorem dX2_wordAt_23 : decode cX2_wordAt 23 = .ok (.iload_n 1, 1) := by decide +kernel
theorem dX2_wordAt_24 : decode cX2_wordAt 24 = .ok (.bipush 64, 2) := by decide +kernel
theorem dX2_wordAt_26 : decode cX2_wordAt 26 = .ok (.imul, 1) := by decide +kernel
theorem dX2_wordAt_27 : decode cX2_wordAt 27 = .ok (.isub, 1) := by decide +kernel
theorem dX2_wordAt_28 : decode cX2_wordAt 28 = .ok (.istore 6, 2) := by decide +kernel
theorem dX2_wordAt_30 : decode cX2_wordAt 30 = .ok (.aload_n 0, 1) := by decide +kernel
theorem dX2_wordAt_31 : decode cX2_wordAt 31 = .ok (.iload 5, 2) := by decide +kernel
theorem dX2_wordAt_33 : decode cX2_wordAt 33 = .ok (.invokevirtual 62, 3) := by decide +kernel
theorem dX2_wordAt_36 : decode cX2_wordAt 36 = .ok (.i2l, 1) := by decide +kernel
theorem dX2_wordAt_37 : decode cX2_wordAt 37 = .ok (.lstore 7, 2) := by decide +kernel
theorem dX2_wordAt_39 : decode cX2_wordAt 39 = .ok (.iload 6, 2) := by decide +kernel
theorem dX2_wordAt_41 : decode cX2_wordAt 41 = .ok (.ifCond .lt 21, 3) := by decide +kernel
theorem dX2_wordAt_44 : decode cX2_wordAt 44 = .ok (.iload 6, 2) := by decide +kernel
theorem dX2_wordAt_46 : decode cX2_wordAt 46 = .ok (.bipush 64, 2) := by decide +kernel
theorem dX2_wordAt_48 : decode cX2_wordAt 48 = .ok (.if_icmp .ge 14, 3) := by decide +kernel
theorem dX2_wordAt_51 : decode cX2_wordAt 51 = .ok (.lload_n 3, 1) := by decide +kernel
theorem dX2_wordAt_52 : decode cX2_wordAt 52 = .ok (.lload 7, 2) := by decide +kernel
theorem dX2_wordAt_54 : decode cX2_wordAt 54 = .ok (.iload 6, 2) := by decide +kernel
theorem dX2_wordAt_56 : decode cX2_wordAt 56 = .ok (.lshl, 1) := by decide +kernel
theorem dX2_wordAt_57 : decode cX2_wordAt 57 = .ok (.lor, 1) := by decide +kernel
theorem dX2_wordAt_58 : decode cX2_wordAt 58 = .ok (.lstore_n 3, 1) := by decide +kernel
theorem dX2_wordAt_59 : decode cX2_wordAt 59 = .ok (.goto 24, 3) := by decide +kernel
theorem dX2_wordAt_62 : decode cX2_wordAt 62 = .ok (.iload 6, 2) := by decide +kernel
theorem dX2_wordAt_64 : decode cX2_wordAt 64 = .ok (.ifCond .ge 19, 3) := by decide +kernel
theorem dX2_wordAt_67 : decode cX2_wordAt 67 = .ok (.iload 6, 2) := by decide +kernel
theorem dX2_wordAt_69 : decode cX2_wordAt 69 = .ok (.iload_n 2, 1) := by decide +kernel
theorem dX2_wordAt_70 : decode cX2_wordAt 70 = .ok (.ineg, 1) := by decide +kernel
theorem dX2_wordAt_71 : decode cX2_wordAt 71 = .ok (.if_icmp .le 12, 3) := by decide +kernel
theorem dX2_wordAt_74 : decode cX2_wordAt 74 = .ok (.lload_n 3, 1) := by decide +kernel
theorem dX2_wordAt_75 : decode cX2_wordAt 75 = .ok (.lload 7, 2) := by decide +kernel
theorem dX2_wordAt_77 : decode cX2_wordAt 77 = .ok (.iload 6, 2) := by decide +kernel
theorem dX2_wordAt_79 : decode cX2_wordAt 79 = .ok (.ineg, 1) := by decide +kernel
theorem dX2_wordAt_80 : decode cX2_wordAt 80 = .ok (.lushr, 1) := by decide +kernel
theorem dX2_wordAt_81 : decode cX2_wordAt 81 = .ok (.lor, 1) := by decide +kernel
theorem dX2_wordAt_82 : decode cX2_wordAt 82 = .ok (.lstore_n 3, 1) := by decide +kernel
theorem dX2_wordAt_83 : decode cX2_wordAt 83 = .ok (.iinc 5 1, 3) := by decide +kernel
theorem dX2_wordAt_86 : decode cX2_wordAt 86 = .ok (.goto (-76), 3) := by decide +kernel
theorem dX2_wordAt_89 : decode cX2_wordAt 89 = .ok (.lload_n 3, 1) := by decide +kernel
theorem dX2_wordAt_90 : decode cX2_wordAt 90 = .ok (.lreturn, 1) := by decide +kernel
theorem dX2_around_0 : decode cX2_around 0 = .ok (.iload_n 1, 1) := by decide +kernel
theorem dX2_around_1 : decode cX2_around 1 = .ok (.aload_n 0, 1) := by decide +kernel
theorem dX2_around_2 : decode cX2_around 2 = .ok (.getfield 25, 3) := by decide +kernel
theorem dX2_around_5 : decode cX2_around 5 = .ok (.iconst 1, 1) := by decide +kernel
theorem dX2_around_6 : decode cX2_around 6 = .ok (.isub, 1) := by decide +kernel
theorem dX2_around_7 : decode cX2_around 7 = .ok (.iand, 1) := by decide +kernel
theorem dX2_around_8 : decode cX2_around 8 = .ok (.ireturn, 1) := by decide +kernel
theorem dX2_startsCluster_0 : decode cX2_startsCluster 0 = .ok (.aload_n 0, 1) := by decide +kernel
theorem dX2_startsCluster_1 : decode cX2_startsCluster 1 = .ok (.iload_n 1, 1) := by decide +kernel
theorem dX2_startsCluster_2 : decode cX2_startsCluster 2 = .ok (.invokevirtual 68, 3) := by decide +kernel
theorem dX2_startsCluster_5 : decode cX2_startsCluster 5 = .ok (.ifCond .lt 16, 3) := by decide +kernel
theorem dX2_startsCluster_8 : decode cX2_startsCluster 8 = .ok (.aload_n 0, 1) := by decide +kernel
theorem dX2_startsCluster_9 : decode cX2_startsCluster 9 = .ok (.iload_n 1, 1) := by decide +kernel
theorem dX2_startsCluster_10 : decode cX2_startsCluster 10 = .ok (.iconst 4, 1) := by decide +kernel
theorem dX2_startsCluster_11 : decode cX2_startsCluster 11 = .ok (.invokevirtual 71, 3) := by decide +kernel
theorem dX2_startsCluster_14 : decode cX2_startsCluster 14 = .ok (.ifCond .ne 7, 3) := by decide +kernel
theorem dX2_startsCluster_17 : decode cX2_startsCluster 17 = .ok (.iconst 1, 1) := by decide +kernel
theorem dX2_startsCluster_18 : decode cX2_startsCluster 18 = .ok (.goto 4, 3) := by decide +kernel
theorem dX2_startsCluster_21 : decode cX2_startsCluster 21 = .ok (.iconst 0, 1) := by decide +kernel
theorem dX2_startsCluster_22 : decode cX2_startsCluster 22 = .ok (.ireturn, 1) := by decide +kernel
theorem dX2_clusterStart_0 : decode cX2_clusterStart 0 = .ok (.iconst 0, 1) := by decide +kernel
theorem dX2_clusterStart_1 : decode cX2_clusterStart 1 = .ok (.istore_n 2, 1) := by decide +kernel
theorem dX2_clusterStart_2 : decode cX2_clusterStart 2 = .ok (.iload_n 2, 1) := by decide +kernel
theorem dX2_clusterStart_3 : decode cX2_clusterStart 3 = .ok (.aload_n 0, 1) := by decide +kernel
theorem dX2_clusterStart_4 : decode cX2_clusterStart 4 = .ok (.getfield 25, 3) := by decide +kernel
theorem dX2_clusterStart_7 : decode cX2_clusterStart 7 = .ok (.if_icmp .ge 24, 3) := by decide +kernel
theorem dX2_clusterStart_10 : decode cX2_clusterStart 10 = .ok (.aload_n 0, 1) := by decide +kernel
theorem dX2_clusterStart_11 : decode cX2_clusterStart 11 = .ok (.aload_n 0, 1) := by decide +kernel
theorem dX2_clusterStart_12 : decode cX2_clusterStart 12 = .ok (.iload_n 1, 1) := by decide +kernel
theorem dX2_clusterStart_13 : decode cX2_clusterStart 13 = .ok (.iload_n 2, 1) := by decide +kernel
theorem dX2_clusterStart_14 : decode cX2_clusterStart 14 = .ok (.isub, 1) := by decide +kernel
theorem dX2_clusterStart_15 : decode cX2_clusterStart 15 = .ok (.invokevirtual 75, 3) := by decide +kernel
theorem dX2_clusterStart_18 : decode cX2_clusterStart 18 = .ok (.iconst 4, 1) := by decide +kernel
theorem dX2_clusterStart_19 : decode cX2_clusterStart 19 = .ok (.invokevirtual 71, 3) := by decide +kernel
theorem dX2_clusterStart_22 : decode cX2_clusterStart 22 = .ok (.ifCond .eq 9, 3) := by decide +kernel
theorem dX2_clusterStart_25 : decode cX2_clusterStart 25 = .ok (.iinc 2 1, 3) := by decide +kernel
theorem dX2_clusterStart_28 : decode cX2_clusterStart 28 = .ok (.goto (-26), 3) := by decide +kernel
theorem dX2_clusterStart_31 : decode cX2_clusterStart 31 = .ok (.aload_n 0, 1) := by decide +kernel
theorem dX2_clusterStart_32 : decode cX2_clusterStart 32 = .ok (.iload_n 1, 1) := by decide +kernel
theorem dX2_clusterStart_33 : decode cX2_clusterStart 33 = .ok (.iload_n 2, 1) := by decide +kernel
theorem dX2_clusterStart_34 : decode cX2_clusterStart 34 = .ok (.isub, 1) := by decide +kernel
theorem dX2_clusterStart_35 : decode cX2_clusterStart 35 = .ok (.invokevirtual 75, 3) := by decide +kernel
theorem dX2_clusterStart_38 : decode cX2_clusterStart 38 = .ok (.ireturn, 1) := by decide +kernel
theorem dX2_clusterLength_0 : decode cX2_clusterLength 0 = .ok (.iconst 1, 1) := by decide +kernel
theorem dX2_clusterLength_1 : decode cX2_clusterLength 1 = .ok (.istore_n 2, 1) := by decide +kernel
theorem dX2_clusterLength_2 : decode cX2_clusterLength 2 = .ok (.iload_n 2, 1) := by decide +kernel
theorem dX2_clusterLength_3 : decode cX2_clusterLength 3 = .ok (.aload_n 0, 1) := by decide +kernel
theorem dX2_clusterLength_4 : decode cX2_clusterLength 4 = .ok (.getfield 25, 3) := by decide +kernel
theorem dX2_clusterLength_7 : decode cX2_clusterLength 7 = .ok (.if_icmp .ge 24, 3) := by decide +kernel
theorem dX2_clusterLength_10 : decode cX2_clusterLength 10 = .ok (.aload_n 0, 1) := by decide +kernel
theorem dX2_clusterLength_11 : decode cX2_clusterLength 11 = .ok (.aload_n 0, 1) := by decide +kernel
theorem dX2_clusterLength_12 : decode cX2_clusterLength 12 = .ok (.iload_n 1, 1) := by decide +kernel
theorem dX2_clusterLength_13 : decode cX2_clusterLength 13 = .ok (.iload_n 2, 1) := by decide +kernel
theorem dX2_clusterLength_14 : decode cX2_clusterLength 14 = .ok (.iadd, 1) := by decide +kernel
theorem dX2_clusterLength_15 : decode cX2_clusterLength 15 = .ok (.invokevirtual 75, 3) := by decide +kernel
theorem dX2_clusterLength_18 : decode cX2_clusterLength 18 = .ok (.iconst 4, 1) := by decide +kernel
theorem dX2_clusterLength_19 : decode cX2_clusterLength 19 = .ok (.invokevirtual 71, 3) := by decide +kernel
theorem dX2_clusterLength_22 : decode cX2_clusterLength 22 = .ok (.ifCond .eq 9, 3) := by decide +kernel
theorem dX2_clusterLength_25 : decode cX2_clusterLength 25 = .ok (.iinc 2 1, 3) := by decide +kernel
theorem dX2_clusterLength_28 : decode cX2_clusterLength 28 = .ok (.goto (-26), 3) := by decide +kernel
theorem dX2_clusterLength_31 : decode cX2_clusterLength 31 = .ok (.iload_n 2, 1) := by decide +kernel
theorem dX2_clusterLength_32 : decode cX2_clusterLength 32 = .ok (.ireturn, 1) := by decide +kernel
theorem dX2_runsIn_0 : decode cX2_runsIn 0 = .ok (.iconst 0, 1) := by decide +kernel
theorem dX2_runsIn_1 : decode cX2_runsIn 1 = .ok (.istore_n 3, 1) := by decide +kernel
theorem dX2_runsIn_2 : decode cX2_runsIn 2 = .ok (.iconst 0, 1) := by decide +kernel
theorem dX2_runsIn_3 : decode cX2_runsIn 3 = .ok (.istore 4, 2) := by decide +kernel
theorem dX2_runsIn_5 : decode cX2_runsIn 5 = .ok (.iload 4, 2) := by decide +kernel
theorem dX2_runsIn_7 : decode cX2_runsIn 7 = .ok (.iload_n 2, 1) := by decide +kernel
theorem dX2_runsIn_8 : decode cX2_runsIn 8 = .ok (.if_icmp .ge 28, 3) := by decide +kernel
theorem dX2_runsIn_11 : decode cX2_runsIn 11 = .ok (.aload_n 0, 1) := by decide +kernel
theorem dX2_runsIn_12 : decode cX2_runsIn 12 = .ok (.aload_n 0, 1) := by decide +kernel
theorem dX2_runsIn_13 : decode cX2_runsIn 13 = .ok (.iload_n 1, 1) := by decide +kernel
theorem dX2_runsIn_14 : decode cX2_runsIn 14 = .ok (.iload 4, 2) := by decide +kernel
theorem dX2_runsIn_16 : decode cX2_runsIn 16 = .ok (.iadd, 1) := by decide +kernel
theorem dX2_runsIn_17 : decode cX2_runsIn 17 = .ok (.invokevirtual 75, 3) := by decide +kernel
theorem dX2_runsIn_20 : decode cX2_runsIn 20 = .ok (.iconst 2, 1) := by decide +kernel
theorem dX2_runsIn_21 : decode cX2_runsIn 21 = .ok (.invokevirtual 71, 3) := by decide +kernel
theorem dX2_runsIn_24 : decode cX2_runsIn 24 = .ok (.ifCond .ne 6, 3) := by decide +kernel
theorem dX2_runsIn_27 : decode cX2_runsIn 27 = .ok (.iinc 3 1, 3) := by decide +kernel
theorem dX2_runsIn_30 : decode cX2_runsIn 30 = .ok (.iinc 4 1, 3) := by decide +kernel
theorem dX2_runsIn_33 : decode cX2_runsIn 33 = .ok (.goto (-28), 3) := by decide +kernel
theorem dX2_runsIn_36 : decode cX2_runsIn 36 = .ok (.iload_n 3, 1) := by decide +kernel
theorem dX2_runsIn_37 : decode cX2_runsIn 37 = .ok (.ireturn, 1) := by decide +kernel
theorem dX2_hasIndexOf_0 : decode cX2_hasIndexOf 0 = .ok (.iconst 0, 1) := by decide +kernel
theorem dX2_hasIndexOf_1 : decode cX2_hasIndexOf 1 = .ok (.istore 5, 2) := by decide +kernel
theorem dX2_hasIndexOf_3 : decode cX2_hasIndexOf 3 = .ok (.iload 5, 2) := by decide +kernel
theorem dX2_hasIndexOf_5 : decode cX2_hasIndexOf 5 = .ok (.iload_n 2, 1) := by decide +kernel
theorem dX2_hasIndexOf_6 : decode cX2_hasIndexOf 6 = .ok (.if_icmp .ge 38, 3) := by decide +kernel
theorem dX2_hasIndexOf_9 : decode cX2_hasIndexOf 9 = .ok (.aload_n 0, 1) := by decide +kernel
theorem dX2_hasIndexOf_10 : decode cX2_hasIndexOf 10 = .ok (.aload_n 0, 1) := by decide +kernel
theorem dX2_hasIndexOf_11 : decode cX2_hasIndexOf 11 = .ok (.iload_n 1, 1) := by decide +kernel
theorem dX2_hasIndexOf_12 : decode cX2_hasIndexOf 12 = .ok (.iload 5, 2) := by decide +kernel
theorem dX2_hasIndexOf_14 : decode cX2_hasIndexOf 14 = .ok (.iadd, 1) := by decide +kernel
theorem dX2_hasIndexOf_15 : decode cX2_hasIndexOf 15 = .ok (.invokevirtual 75, 3) := by decide +kernel
theorem dX2_hasIndexOf_18 : decode cX2_hasIndexOf 18 = .ok (.invokevirtual 68, 3) := by decide +kernel
theorem dX2_hasIndexOf_21 : decode cX2_hasIndexOf 21 = .ok (.istore 6, 2) := by decide +kernel
theorem dX2_hasIndexOf_23 : decode cX2_hasIndexOf 23 = .ok (.iload 6, 2) := by decide +kernel
theorem dX2_hasIndexOf_25 : decode cX2_hasIndexOf 25 = .ok (.iload_n 3, 1) := by decide +kernel
theorem dX2_hasIndexOf_26 : decode cX2_hasIndexOf 26 = .ok (.if_icmp .lt 12, 3) := by decide +kernel
theorem dX2_hasIndexOf_29 : decode cX2_hasIndexOf 29 = .ok (.iload 6, 2) := by decide +kernel
theorem dX2_hasIndexOf_31 : decode cX2_hasIndexOf 31 = .ok (.iload 4, 2) := by decide +kernel
theorem dX2_hasIndexOf_33 : decode cX2_hasIndexOf 33 = .ok (.if_icmp .ge 5, 3) := by decide +kernel
theorem dX2_hasIndexOf_36 : decode cX2_hasIndexOf 36 = .ok (.iconst 1, 1) := by decide +kernel
theorem dX2_hasIndexOf_37 : decode cX2_hasIndexOf 37 = .ok (.ireturn, 1) := by decide +kernel
theorem dX2_hasIndexOf_38 : decode cX2_hasIndexOf 38 = .ok (.iinc 5 1, 3) := by decide +kernel
theorem dX2_hasIndexOf_41 : decode cX2_hasIndexOf 41 = .ok (.goto (-38), 3) := by decide +kernel
theorem dX2_hasIndexOf_44 : decode cX2_hasIndexOf 44 = .ok (.iconst 0, 1) := by decide +kernel
theorem dX2_hasIndexOf_45 : decode cX2_hasIndexOf 45 = .ok (.ireturn, 1) := by decide +kernel
theorem dX2_gapLength_0 : decode cX2_gapLength 0 = .ok (.iconst 0, 1) := by decide +kernel
theorem dX2_gapLength_1 : decode cX2_gapLength 1 = .ok (.istore_n 2, 1) := by decide +kernel
theorem dX2_gapLength_2 : decode cX2_gapLength 2 = .ok (.iload_n 2, 1) := by decide +kernel
theorem dX2_gapLength_3 : decode cX2_gapLength 3 = .ok (.aload_n 0, 1) := by decide +kernel
theorem dX2_gapLength_4 : decode cX2_gapLength 4 = .ok (.getfield 25, 3) := by decide +kernel
theorem dX2_gapLength_7 : decode cX2_gapLength 7 = .ok (.if_icmp .ge 23, 3) := by decide +kernel
theorem dX2_gapLength_10 : decode cX2_gapLength 10 = .ok (.aload_n 0, 1) := by decide +kernel
theorem dX2_gapLength_11 : decode cX2_gapLength 11 = .ok (.aload_n 0, 1) := by decide +kernel
theorem dX2_gapLength_12 : decode cX2_gapLength 12 = .ok (.iload_n 1, 1) := by decide +kernel
theorem dX2_gapLength_13 : decode cX2_gapLength 13 = .ok (.iload_n 2, 1) := by decide +kernel
theorem dX2_gapLength_14 : decode cX2_gapLength 14 = .ok (.iadd, 1) := by decide +kernel
theorem dX2_gapLength_15 : decode cX2_gapLength 15 = .ok (.invokevirtual 75, 3) := by decide +kernel
theorem dX2_gapLength_18 : decode cX2_gapLength 18 = .ok (.invokevirtual 68, 3) := by decide +kernel
theorem dX2_gapLength_21 : decode cX2_gapLength 21 = .ok (.ifCond .ge 9, 3) := by decide +kernel
theorem dX2_gapLength_24 : decode cX2_gapLength 24 = .ok (.iinc 2 1, 3) := by decide +kernel
theorem dX2_gapLength_27 : decode cX2_gapLength 27 = .ok (.goto (-25), 3) := by decide +kernel
theorem dX2_gapLength_30 : decode cX2_gapLength 30 = .ok (.iload_n 2, 1) := by decide +kernel
theorem dX2_gapLength_31 : decode cX2_gapLength 31 = .ok (.ireturn, 1) := by decide +kernel
theorem dX3_init_0 : decode cX3_init 0 = .ok (.aload_n 0, 1) := by decide +kernel
theorem dX3_init_1 : decode cX3_init 1 = .ok (.invokespecial 3, 3) := by decide +kernel
theorem dX3_init_4 : decode cX3_init 4 = .ok (.aload_n 0, 1) := by decide +kernel
theorem dX3_init_5 : decode cX3_init 5 = .ok (.bipush 64, 2) := by decide +kernel
theorem dX3_init_7 : decode cX3_init 7 = .ok (.newarray .long, 2) := by decide +kernel
theorem dX3_init_9 : decode cX3_init 9 = .ok (.putfield 9, 3) := by decide +kernel
theorem dX3_init_12 : decode cX3_init 12 = .ok (.aload_n 0, 1) := by decide +kernel
theorem dX3_init_13 : decode cX3_init 13 = .ok (.iconst 0, 1) := by decide +kernel
theorem dX3_init_14 : decode cX3_init 14 = .ok (.putfield 15, 3) := by decide +kernel
theorem dX3_init_17 : decode cX3_init 17 = .ok (.return_, 1) := by decide +kernel
theorem dX3_restart_0 : decode cX3_restart 0 = .ok (.aload_n 0, 1) := by decide +kernel
theorem dX3_restart_1 : decode cX3_restart 1 = .ok (.iconst 0, 1) := by decide +kernel
theorem dX3_restart_2 : decode cX3_restart 2 = .ok (.putfield 15, 3) := by decide +kernel
theorem dX3_restart_5 : decode cX3_restart 5 = .ok (.return_, 1) := by decide +kernel
theorem dX3_add_0 : decode cX3_add 0 = .ok (.aload_n 0, 1) := by decide +kernel
theorem dX3_add_1 : decode cX3_add 1 = .ok (.getfield 15, 3) := by decide +kernel
theorem dX3_add_4 : decode cX3_add 4 = .ok (.ifCond .lt 35, 3) := by decide +kernel
theorem dX3_add_7 : decode cX3_add 7 = .ok (.aload_n 0, 1) := by decide +kernel
theorem dX3_add_8 : decode cX3_add 8 = .ok (.getfield 15, 3) := by decide +kernel
theorem dX3_add_11 : decode cX3_add 11 = .ok (.aload_n 0, 1) := by decide +kernel
theorem dX3_add_12 : decode cX3_add 12 = .ok (.getfield 9, 3) := by decide +kernel
theorem dX3_add_15 : decode cX3_add 15 = .ok (.arraylength, 1) := by decide +kernel
theorem dX3_add_16 : decode cX3_add 16 = .ok (.if_icmp .ge 23, 3) := by decide +kernel
theorem dX3_add_19 : decode cX3_add 19 = .ok (.aload_n 0, 1) := by decide +kernel
theorem dX3_add_20 : decode cX3_add 20 = .ok (.getfield 9, 3) := by decide +kernel
theorem dX3_add_23 : decode cX3_add 23 = .ok (.aload_n 0, 1) := by decide +kernel
theorem dX3_add_24 : decode cX3_add 24 = .ok (.getfield 15, 3) := by decide +kernel
theorem dX3_add_27 : decode cX3_add 27 = .ok (.lload_n 1, 1) := by decide +kernel
theorem dX3_add_28 : decode cX3_add 28 = .ok (.lastore, 1) := by decide +kernel
theorem dX3_add_29 : decode cX3_add 29 = .ok (.aload_n 0, 1) := by decide +kernel
theorem dX3_add_30 : decode cX3_add 30 = .ok (.dup, 1) := by decide +kernel
theorem dX3_add_31 : decode cX3_add 31 = .ok (.getfield 15, 3) := by decide +kernel
theorem dX3_add_34 : decode cX3_add 34 = .ok (.iconst 1, 1) := by decide +kernel
theorem dX3_add_35 : decode cX3_add 35 = .ok (.iadd, 1) := by decide +kernel
theorem dX3_add_36 : decode cX3_add 36 = .ok (.putfield 15, 3) := by decide +kernel
theorem dX3_add_39 : decode cX3_add 39 = .ok (.return_, 1) := by decide +kernel
theorem dX3_tell_0 : decode cX3_tell 0 = .ok (.aload_n 0, 1) := by decide +kernel
theorem dX3_tell_1 : decode cX3_tell 1 = .ok (.invokevirtual 19, 3) := by decide +kernel
theorem dX3_tell_4 : decode cX3_tell 4 = .ok (.aload_n 0, 1) := by decide +kernel
theorem dX3_tell_5 : decode cX3_tell 5 = .ok (.lload_n 1, 1) := by decide +kernel
theorem dX3_tell_6 : decode cX3_tell 6 = .ok (.invokevirtual 22, 3) := by decide +kernel
theorem dX3_tell_9 : decode cX3_tell 9 = .ok (.return_, 1) := by decide +kernel
theorem dX3_tell__0 : decode cX3_tell_ 0 = .ok (.aload_n 0, 1) := by decide +kernel
theorem dX3_tell__1 : decode cX3_tell_ 1 = .ok (.lload_n 1, 1) := by decide +kernel
theorem dX3_tell__2 : decode cX3_tell_ 2 = .ok (.invokevirtual 26, 3) := by decide +kernel
theorem dX3_tell__5 : decode cX3_tell_ 5 = .ok (.aload_n 0, 1) := by decide +kernel
theorem dX3_tell__6 : decode cX3_tell_ 6 = .ok (.lload_n 3, 1) := by decide +kernel
theorem dX3_tell__7 : decode cX3_tell_ 7 = .ok (.invokevirtual 22, 3) := by decide +kernel
theorem dX3_tell__10 : decode cX3_tell_ 10 = .ok (.return_, 1) := by decide +kernel
theorem dX3_tell___0 : decode cX3_tell__ 0 = .ok (.aload_n 0, 1) := by decide +kernel
theorem dX3_tell___1 : decode cX3_tell__ 1 = .ok (.lload_n 1, 1) := by decide +kernel
theorem dX3_tell___2 : decode cX3_tell__ 2 = .ok (.lload_n 3, 1) := by decide +kernel
theorem dX3_tell___3 : decode cX3_tell__ 3 = .ok (.invokevirtual 29, 3) := by decide +kernel
theorem dX3_tell___6 : decode cX3_tell__ 6 = .ok (.aload_n 0, 1) := by decide +kernel
theorem dX3_tell___7 : decode cX3_tell__ 7 = .ok (.lload 5, 2) := by decide +kernel
theorem dX3_tell___9 : decode cX3_tell__ 9 = .ok (.invokevirtual 22, 3) := by decide +kernel
theorem dX3_tell___12 : decode cX3_tell__ 12 = .ok (.return_, 1) := by decide +kernel
theorem dX3_at_0 : decode cX3_at 0 = .ok (.iload_n 1, 1) := by decide +kernel
theorem dX3_at_1 : decode cX3_at 1 = .ok (.ifCond .lt 21, 3) := by decide +kernel
theorem dX3_at_4 : decode cX3_at 4 = .ok (.iload_n 1, 1) := by decide +kernel
theorem dX3_at_5 : decode cX3_at 5 = .ok (.aload_n 0, 1) := by decide +kernel
theorem dX3_at_6 : decode cX3_at 6 = .ok (.getfield 9, 3) := by decide +kernel
theorem dX3_at_9 : decode cX3_at 9 = .ok (.arraylength, 1) := by decide +kernel
theorem dX3_at_10 : decode cX3_at 10 = .ok (.if_icmp .ge 12, 3) := by decide +kernel
theorem dX3_at_13 : decode cX3_at 13 = .ok (.aload_n 0, 1) := by decide +kernel
theorem dX3_at_14 : decode cX3_at 14 = .ok (.getfield 9, 3) := by decide +kernel
theorem dX3_at_17 : decode cX3_at 17 = .ok (.iload_n 1, 1) := by decide +kernel
theorem dX3_at_18 : decode cX3_at 18 = .ok (.laload, 1) := by decide +kernel
theorem dX3_at_19 : decode cX3_at 19 = .ok (.goto 4, 3) := by decide +kernel
theorem dX3_at_22 : decode cX3_at 22 = .ok (.lconst 0, 1) := by decide +kernel
theorem dX3_at_23 : decode cX3_at 23 = .ok (.lreturn, 1) := by decide +kernel
theorem dX4_init_0 : decode cX4_init 0 = .ok (.aload_n 0, 1) := by decide +kernel
theorem dX4_init_1 : decode cX4_init 1 = .ok (.invokespecial 3, 3) := by decide +kernel
theorem dX4_init_4 : decode cX4_init 4 = .ok (.aload_n 0, 1) := by decide +kernel
theorem dX4_init_5 : decode cX4_init 5 = .ok (.bipush 64, 2) := by decide +kernel
theorem dX4_init_7 : decode cX4_init 7 = .ok (.newarray .int, 2) := by decide +kernel
theorem dX4_init_9 : decode cX4_init 9 = .ok (.putfield 9, 3) := by decide +kernel
theorem dX4_init_12 : decode cX4_init 12 = .ok (.aload_n 0, 1) := by decide +kernel
theorem dX4_init_13 : decode cX4_init 13 = .ok (.bipush 64, 2) := by decide +kernel
theorem dX4_init_15 : decode cX4_init 15 = .ok (.newarray .int, 2) := by decide +kernel
theorem dX4_init_17 : decode cX4_init 17 = .ok (.putfield 15, 3) := by decide +kernel
theorem dX4_init_20 : decode cX4_init 20 = .ok (.aload_n 0, 1) := by decide +kernel
theorem dX4_init_21 : decode cX4_init 21 = .ok (.iconst 3, 1) := by decide +kernel
theorem dX4_init_22 : decode cX4_init 22 = .ok (.putfield 18, 3) := by decide +kernel
theorem dX4_init_25 : decode cX4_init 25 = .ok (.return_, 1) := by decide +kernel
theorem dX4_slotCount_0 : decode cX4_slotCount 0 = .ok (.iconst 1, 1) := by decide +kernel
theorem dX4_slotCount_1 : decode cX4_slotCount 1 = .ok (.aload_n 0, 1) := by decide +kernel
theorem dX4_slotCount_2 : decode cX4_slotCount 2 = .ok (.getfield 18, 3) := by decide +kernel
theorem dX4_slotCount_5 : decode cX4_slotCount 5 = .ok (.ishl, 1) := by decide +kernel
theorem dX4_slotCount_6 : decode cX4_slotCount 6 = .ok (.ireturn, 1) := by decide +kernel
theorem dX4_cellAt_0 : decode cX4_cellAt 0 = .ok (.iload_n 1, 1) := by decide +kernel
theorem dX4_cellAt_1 : decode cX4_cellAt 1 = .ok (.ifCond .lt 21, 3) := by decide +kernel
theorem dX4_cellAt_4 : decode cX4_cellAt 4 = .ok (.iload_n 1, 1) := by decide +kernel
theorem dX4_cellAt_5 : decode cX4_cellAt 5 = .ok (.aload_n 0, 1) := by decide +kernel
theorem dX4_cellAt_6 : decode cX4_cellAt 6 = .ok (.getfield 9, 3) := by decide +kernel
theorem dX4_cellAt_9 : decode cX4_cellAt 9 = .ok (.arraylength, 1) := by decide +kernel
theorem dX4_cellAt_10 : decode cX4_cellAt 10 = .ok (.if_icmp .ge 12, 3) := by decide +kernel
theorem dX4_cellAt_13 : decode cX4_cellAt 13 = .ok (.aload_n 0, 1) := by decide +kernel
theorem dX4_cellAt_14 : decode cX4_cellAt 14 = .ok (.getfield 9, 3) := by decide +kernel
theorem dX4_cellAt_17 : decode cX4_cellAt 17 = .ok (.iload_n 1, 1) := by decide +kernel
theorem dX4_cellAt_18 : decode cX4_cellAt 18 = .ok (.iaload, 1) := by decide +kernel
theorem dX4_cellAt_19 : decode cX4_cellAt 19 = .ok (.goto 4, 3) := by decide +kernel
theorem dX4_cellAt_22 : decode cX4_cellAt 22 = .ok (.iconst 0, 1) := by decide +kernel
theorem dX4_cellAt_23 : decode cX4_cellAt 23 = .ok (.ireturn, 1) := by decide +kernel
theorem dX4_setCell_0 : decode cX4_setCell 0 = .ok (.iload_n 1, 1) := by decide +kernel
theorem dX4_setCell_1 : decode cX4_setCell 1 = .ok (.ifCond .lt 19, 3) := by decide +kernel
theorem dX4_setCell_4 : decode cX4_setCell 4 = .ok (.iload_n 1, 1) := by decide +kernel
theorem dX4_setCell_5 : decode cX4_setCell 5 = .ok (.aload_n 0, 1) := by decide +kernel
theorem dX4_setCell_6 : decode cX4_setCell 6 = .ok (.getfield 9, 3) := by decide +kernel
theorem dX4_setCell_9 : decode cX4_setCell 9 = .ok (.arraylength, 1) := by decide +kernel
theorem dX4_setCell_10 : decode cX4_setCell 10 = .ok (.if_icmp .ge 10, 3) := by decide +kernel
theorem dX4_setCell_13 : decode cX4_setCell 13 = .ok (.aload_n 0, 1) := by decide +kernel
theorem dX4_setCell_14 : decode cX4_setCell 14 = .ok (.getfield 9, 3) := by decide +kernel
theorem dX4_setCell_17 : decode cX4_setCell 17 = .ok (.iload_n 1, 1) := by decide +kernel
theorem dX4_setCell_18 : decode cX4_setCell 18 = .ok (.iload_n 2, 1) := by decide +kernel
theorem dX4_setCell_19 : decode cX4_setCell 19 = .ok (.iastore, 1) := by decide +kernel
theorem dX4_setCell_20 : decode cX4_setCell 20 = .ok (.return_, 1) := by decide +kernel
theorem dX4_readText_0 : decode cX4_readText 0 = .ok (.aload_n 1, 1) := by decide +kernel
theorem dX4_readText_1 : decode cX4_readText 1 = .ok (.iconst 0, 1) := by decide +kernel
theorem dX4_readText_2 : decode cX4_readText 2 = .ok (.invokevirtual 22, 3) := by decide +kernel
theorem dX4_readText_5 : decode cX4_readText 5 = .ok (.bipush 48, 2) := by decide +kernel
theorem dX4_readText_7 : decode cX4_readText 7 = .ok (.isub, 1) := by decide +kernel
theorem dX4_readText_8 : decode cX4_readText 8 = .ok (.istore_n 3, 1) := by decide +kernel
theorem dX4_readText_9 : decode cX4_readText 9 = .ok (.iload_n 3, 1) := by decide +kernel
theorem dX4_readText_10 : decode cX4_readText 10 = .ok (.iconst 3, 1) := by decide +kernel
theorem dX4_readText_11 : decode cX4_readText 11 = .ok (.if_icmp .eq 10, 3) := by decide +kernel
theorem dX4_readText_14 : decode cX4_readText 14 = .ok (.iload_n 3, 1) := by decide +kernel
theorem dX4_readText_15 : decode cX4_readText 15 = .ok (.iconst 4, 1) := by decide +kernel
theorem dX4_readText_16 : decode cX4_readText 16 = .ok (.if_icmp .eq 5, 3) := by decide +kernel
theorem dX4_readText_19 : decode cX4_readText 19 = .ok (.iconst (-1), 1) := by decide +kernel
theorem dX4_readText_20 : decode cX4_readText 20 = .ok (.ireturn, 1) := by decide +kernel
theorem dX4_readText_21 : decode cX4_readText 21 = .ok (.aload_n 0, 1) := by decide +kernel
theorem dX4_readText_22 : decode cX4_readText 22 = .ok (.iload_n 3, 1) := by decide +kernel
theorem dX4_readText_23 : decode cX4_readText 23 = .ok (.putfield 18, 3) := by decide +kernel
theorem dX4_readText_26 : decode cX4_readText 26 = .ok (.iconst 0, 1) := by decide +kernel
theorem dX4_readText_27 : decode cX4_readText 27 = .ok (.istore 4, 2) := by decide +kernel
theorem dX4_readText_29 : decode cX4_readText 29 = .ok (.iload 4, 2) := by decide +kernel
theorem dX4_readText_31 : decode cX4_readText 31 = .ok (.aload_n 0, 1) := by decide +kernel
theorem dX4_readText_32 : decode cX4_readText 32 = .ok (.invokevirtual 28, 3) := by decide +kernel
theorem dX4_readText_35 : decode cX4_readText 35 = .ok (.if_icmp .ge 32, 3) := by decide +kernel
theorem dX4_readText_38 : decode cX4_readText 38 = .ok (.aload_n 0, 1) := by decide +kernel
theorem dX4_readText_39 : decode cX4_readText 39 = .ok (.aload_n 1, 1) := by decide +kernel
theorem dX4_readText_40 : decode cX4_readText 40 = .ok (.iload 4, 2) := by decide +kernel
theorem dX4_readText_42 : decode cX4_readText 42 = .ok (.iload_n 2, 1) := by decide +kernel
theorem dX4_readText_43 : decode cX4_readText 43 = .ok (.aload_n 0, 1) := by decide +kernel
theorem dX4_readText_44 : decode cX4_readText 44 = .ok (.getfield 18, 3) := by decide +kernel
theorem dX4_readText_47 : decode cX4_readText 47 = .ok (.isub, 1) := by decide +kernel
theorem dX4_readText_48 : decode cX4_readText 48 = .ok (.invokevirtual 32, 3) := by decide +kernel
theorem dX4_readText_51 : decode cX4_readText 51 = .ok (.istore 5, 2) := by decide +kernel
theorem dX4_readText_53 : decode cX4_readText 53 = .ok (.iload 5, 2) := by decide +kernel
theorem dX4_readText_55 : decode cX4_readText 55 = .ok (.ifCond .ge 6, 3) := by decide +kernel
theorem dX4_readText_58 : decode cX4_readText 58 = .ok (.iload 5, 2) := by decide +kernel
theorem dX4_readText_60 : decode cX4_readText 60 = .ok (.ireturn, 1) := by decide +kernel
theorem dX4_readText_61 : decode cX4_readText 61 = .ok (.iinc 4 1, 3) := by decide +kernel
theorem dX4_readText_64 : decode cX4_readText 64 = .ok (.goto (-35), 3) := by decide +kernel
theorem dX4_readText_67 : decode cX4_readText 67 = .ok (.iconst 1, 1) := by decide +kernel
theorem dX4_readText_68 : decode cX4_readText 68 = .ok (.iconst 4, 1) := by decide +kernel
theorem dX4_readText_69 : decode cX4_readText 69 = .ok (.aload_n 0, 1) := by decide +kernel
theorem dX4_readText_70 : decode cX4_readText 70 = .ok (.invokevirtual 28, 3) := by decide +kernel
theorem dX4_readText_73 : decode cX4_readText 73 = .ok (.imul, 1) := by decide +kernel
theorem dX4_readText_74 : decode cX4_readText 74 = .ok (.iadd, 1) := by decide +kernel
theorem dX4_readText_75 : decode cX4_readText 75 = .ok (.istore 4, 2) := by decide +kernel
theorem dX4_readText_77 : decode cX4_readText 77 = .ok (.aload_n 1, 1) := by decide +kernel
theorem dX4_readText_78 : decode cX4_readText 78 = .ok (.getfield 36, 3) := by decide +kernel
theorem dX4_readText_81 : decode cX4_readText 81 = .ok (.iload 4, 2) := by decide +kernel
theorem dX4_readText_83 : decode cX4_readText 83 = .ok (.if_icmp .le 10, 3) := by decide +kernel
theorem dX4_readText_86 : decode cX4_readText 86 = .ok (.iconst (-1), 1) := by decide +kernel
theorem dX4_readText_87 : decode cX4_readText 87 = .ok (.iload 4, 2) := by decide +kernel
theorem dX4_readText_89 : decode cX4_readText 89 = .ok (.isub, 1) := by decide +kernel
theorem dX4_readText_90 : decode cX4_readText 90 = .ok (.goto 4, 3) := by decide +kernel
theorem dX4_readText_93 : decode cX4_readText 93 = .ok (.iconst 0, 1) := by decide +kernel
theorem dX4_readText_94 : decode cX4_readText 94 = .ok (.ireturn, 1) := by decide +kernel
theorem dX4_readCell_0 : decode cX4_readCell 0 = .ok (.iconst 1, 1) := by decide +kernel
theorem dX4_readCell_1 : decode cX4_readCell 1 = .ok (.iconst 4, 1) := by decide +kernel
theorem dX4_readCell_2 : decode cX4_readCell 2 = .ok (.iload_n 2, 1) := by decide +kernel
theorem dX4_readCell_3 : decode cX4_readCell 3 = .ok (.imul, 1) := by decide +kernel
theorem dX4_readCell_4 : decode cX4_readCell 4 = .ok (.iadd, 1) := by decide +kernel
theorem dX4_readCell_5 : decode cX4_readCell 5 = .ok (.istore 4, 2) := by decide +kernel
theorem dX4_readCell_7 : decode cX4_readCell 7 = .ok (.aload_n 1, 1) := by decide +kernel
theorem dX4_readCell_8 : decode cX4_readCell 8 = .ok (.iload 4, 2) := by decide +kernel
theorem dX4_readCell_10 : decode cX4_readCell 10 = .ok (.invokevirtual 22, 3) := by decide +kernel
theorem dX4_readCell_13 : decode cX4_readCell 13 = .ok (.invokestatic 39, 3) := by decide +kernel
theorem dX4_readCell_16 : decode cX4_readCell 16 = .ok (.istore 5, 2) := by decide +kernel
theorem dX4_readCell_18 : decode cX4_readCell 18 = .ok (.iload 5, 2) := by decide +kernel
theorem dX4_readCell_20 : decode cX4_readCell 20 = .ok (.ifCond .lt 10, 3) := by decide +kernel
theorem dX4_readCell_23 : decode cX4_readCell 23 = .ok (.iload 5, 2) := by decide +kernel
theorem dX4_readCell_25 : decode cX4_readCell 25 = .ok (.bipush 7, 2) := by decide +kernel
theorem dX4_readCell_27 : decode cX4_readCell 27 = .ok (.if_icmp .le 8, 3) := by decide +kernel
theorem dX4_readCell_30 : decode cX4_readCell 30 = .ok (.iconst (-1), 1) := by decide +kernel
theorem dX4_readCell_31 : decode cX4_readCell 31 = .ok (.iload 4, 2) := by decide +kernel
theorem dX4_readCell_33 : decode cX4_readCell 33 = .ok (.isub, 1) := by decide +kernel
theorem dX4_readCell_34 : decode cX4_readCell 34 = .ok (.ireturn, 1) := by decide +kernel
theorem dX4_readCell_35 : decode cX4_readCell 35 = .ok (.iconst 0, 1) := by decide +kernel
theorem dX4_readCell_36 : decode cX4_readCell 36 = .ok (.istore 6, 2) := by decide +kernel
theorem dX4_readCell_38 : decode cX4_readCell 38 = .ok (.iload 4, 2) := by decide +kernel
theorem dX4_readCell_40 : decode cX4_readCell 40 = .ok (.iconst 1, 1) := by decide +kernel
theorem dX4_readCell_41 : decode cX4_readCell 41 = .ok (.iadd, 1) := by decide +kernel
theorem dX4_readCell_42 : decode cX4_readCell 42 = .ok (.istore 7, 2) := by decide +kernel
theorem dX4_readCell_44 : decode cX4_readCell 44 = .ok (.iload 7, 2) := by decide +kernel
theorem dX4_readCell_46 : decode cX4_readCell 46 = .ok (.iload 4, 2) := by decide +kernel
theorem dX4_readCell_48 : decode cX4_readCell 48 = .ok (.iconst 4, 1) := by decide +kernel
theorem dX4_readCell_49 : decode cX4_readCell 49 = .ok (.iadd, 1) := by decide +kernel
theorem dX4_readCell_50 : decode cX4_readCell 50 = .ok (.if_icmp .ge 40, 3) := by decide +kernel
theorem dX4_readCell_53 : decode cX4_readCell 53 = .ok (.aload_n 1, 1) := by decide +kernel
theorem dX4_readCell_54 : decode cX4_readCell 54 = .ok (.iload 7, 2) := by decide +kernel
theorem dX4_readCell_56 : decode cX4_readCell 56 = .ok (.invokevirtual 22, 3) := by decide +kernel
theorem dX4_readCell_59 : decode cX4_readCell 59 = .ok (.invokestatic 39, 3) := by decide +kernel
theorem dX4_readCell_62 : decode cX4_readCell 62 = .ok (.istore 8, 2) := by decide +kernel
theorem dX4_readCell_64 : decode cX4_readCell 64 = .ok (.iload 8, 2) := by decide +kernel
theorem dX4_readCell_66 : decode cX4_readCell 66 = .ok (.ifCond .ge 8, 3) := by decide +kernel
theorem dX4_readCell_69 : decode cX4_readCell 69 = .ok (.iconst (-1), 1) := by decide +kernel
theorem dX4_readCell_70 : decode cX4_readCell 70 = .ok (.iload 7, 2) := by decide +kernel
theorem dX4_readCell_72 : decode cX4_readCell 72 = .ok (.isub, 1) := by decide +kernel
theorem dX4_readCell_73 : decode cX4_readCell 73 = .ok (.ireturn, 1) := by decide +kernel
theorem dX4_readCell_74 : decode cX4_readCell 74 = .ok (.iload 6, 2) := by decide +kernel
theorem dX4_readCell_76 : decode cX4_readCell 76 = .ok (.bipush 16, 2) := by decide +kernel
theorem dX4_readCell_78 : decode cX4_readCell 78 = .ok (.imul, 1) := by decide +kernel
theorem dX4_readCell_79 : decode cX4_readCell 79 = .ok (.iload 8, 2) := by decide +kernel
theorem dX4_readCell_81 : decode cX4_readCell 81 = .ok (.iadd, 1) := by decide +kernel
theorem dX4_readCell_82 : decode cX4_readCell 82 = .ok (.istore 6, 2) := by decide +kernel
theorem dX4_readCell_84 : decode cX4_readCell 84 = .ok (.iinc 7 1, 3) := by decide +kernel
theorem dX4_readCell_87 : decode cX4_readCell 87 = .ok (.goto (-43), 3) := by decide +kernel
theorem dX4_readCell_90 : decode cX4_readCell 90 = .ok (.iload 6, 2) := by decide +kernel
theorem dX4_readCell_92 : decode cX4_readCell 92 = .ok (.iconst 1, 1) := by decide +kernel
theorem dX4_readCell_93 : decode cX4_readCell 93 = .ok (.iload_n 3, 1) := by decide +kernel
theorem dX4_readCell_94 : decode cX4_readCell 94 = .ok (.ishl, 1) := by decide +kernel
theorem dX4_readCell_95 : decode cX4_readCell 95 = .ok (.if_icmp .lt 10, 3) := by decide +kernel
theorem dX4_readCell_98 : decode cX4_readCell 98 = .ok (.iconst (-1), 1) := by decide +kernel
theorem dX4_readCell_99 : decode cX4_readCell 99 = .ok (.iload 4, 2) := by decide +kernel
theorem dX4_readCell_101 : decode cX4_readCell 101 = .ok (.iconst 3, 1) := by decide +kernel
theorem dX4_readCell_102 : decode cX4_readCell 102 = .ok (.iadd, 1) := by decide +kernel
theorem dX4_readCell_103 : decode cX4_readCell 103 = .ok (.isub, 1) := by decide +kernel
theorem dX4_readCell_104 : decode cX4_readCell 104 = .ok (.ireturn, 1) := by decide +kernel
theorem dX4_readCell_105 : decode cX4_readCell 105 = .ok (.aload_n 0, 1) := by decide +kernel
theorem dX4_readCell_106 : decode cX4_readCell 106 = .ok (.iload_n 2, 1) := by decide +kernel
theorem dX4_readCell_107 : decode cX4_readCell 107 = .ok (.iload 6, 2) := by decide +kernel
theorem dX4_readCell_109 : decode cX4_readCell 109 = .ok (.iconst 3, 1) := by decide +kernel
theorem dX4_readCell_110 : decode cX4_readCell 110 = .ok (.ishl, 1) := by decide +kernel
theorem dX4_readCell_111 : decode cX4_readCell 111 = .ok (.iload 5, 2) := by decide +kernel
theorem dX4_readCell_113 : decode cX4_readCell 113 = .ok (.ior, 1) := by decide +kernel
theorem dX4_readCell_114 : decode cX4_readCell 114 = .ok (.invokevirtual 42, 3) := by decide +kernel
theorem dX4_readCell_117 : decode cX4_readCell 117 = .ok (.iconst 0, 1) := by decide +kernel
theorem dX4_readCell_118 : decode cX4_readCell 118 = .ok (.ireturn, 1) := by decide +kernel
theorem dX4_hexOf_0 : decode cX4_hexOf 0 = .ok (.iload_n 0, 1) := by decide +kernel
theorem dX4_hexOf_1 : decode cX4_hexOf 1 = .ok (.bipush 48, 2) := by decide +kernel
theorem dX4_hexOf_3 : decode cX4_hexOf 3 = .ok (.if_icmp .lt 14, 3) := by decide +kernel
theorem dX4_hexOf_6 : decode cX4_hexOf 6 = .ok (.iload_n 0, 1) := by decide +kernel
theorem dX4_hexOf_7 : decode cX4_hexOf 7 = .ok (.bipush 57, 2) := by decide +kernel
theorem dX4_hexOf_9 : decode cX4_hexOf 9 = .ok (.if_icmp .gt 8, 3) := by decide +kernel
theorem dX4_hexOf_12 : decode cX4_hexOf 12 = .ok (.iload_n 0, 1) := by decide +kernel
theorem dX4_hexOf_13 : decode cX4_hexOf 13 = .ok (.bipush 48, 2) := by decide +kernel
theorem dX4_hexOf_15 : decode cX4_hexOf 15 = .ok (.isub, 1) := by decide +kernel
theorem dX4_hexOf_16 : decode cX4_hexOf 16 = .ok (.ireturn, 1) := by decide +kernel
theorem dX4_hexOf_17 : decode cX4_hexOf 17 = .ok (.iload_n 0, 1) := by decide +kernel
theorem dX4_hexOf_18 : decode cX4_hexOf 18 = .ok (.bipush 97, 2) := by decide +kernel
theorem dX4_hexOf_20 : decode cX4_hexOf 20 = .ok (.if_icmp .lt 19, 3) := by decide +kernel
theorem dX4_hexOf_23 : decode cX4_hexOf 23 = .ok (.iload_n 0, 1) := by decide +kernel
theorem dX4_hexOf_24 : decode cX4_hexOf 24 = .ok (.bipush 102, 2) := by decide +kernel
theorem dX4_hexOf_26 : decode cX4_hexOf 26 = .ok (.if_icmp .gt 13, 3) := by decide +kernel
theorem dX4_hexOf_29 : decode cX4_hexOf 29 = .ok (.iload_n 0, 1) := by decide +kernel
theorem dX4_hexOf_30 : decode cX4_hexOf 30 = .ok (.bipush 97, 2) := by decide +kernel
theorem dX4_hexOf_32 : decode cX4_hexOf 32 = .ok (.isub, 1) := by decide +kernel
theorem dX4_hexOf_33 : decode cX4_hexOf 33 = .ok (.bipush 10, 2) := by decide +kernel
theorem dX4_hexOf_35 : decode cX4_hexOf 35 = .ok (.iadd, 1) := by decide +kernel
theorem dX4_hexOf_36 : decode cX4_hexOf 36 = .ok (.goto 4, 3) := by decide +kernel
theorem dX4_hexOf_39 : decode cX4_hexOf 39 = .ok (.iconst (-1), 1) := by decide +kernel
theorem dX4_hexOf_40 : decode cX4_hexOf 40 = .ok (.ireturn, 1) := by decide +kernel
theorem dX4_readWord_0 : decode cX4_readWord 0 = .ok (.aload_n 0, 1) := by decide +kernel
theorem dX4_readWord_1 : decode cX4_readWord 1 = .ok (.aload_n 1, 1) := by decide +kernel
theorem dX4_readWord_2 : decode cX4_readWord 2 = .ok (.getfield 46, 3) := by decide +kernel
theorem dX4_readWord_5 : decode cX4_readWord 5 = .ok (.putfield 18, 3) := by decide +kernel
theorem dX4_readWord_8 : decode cX4_readWord 8 = .ok (.aload_n 1, 1) := by decide +kernel
theorem dX4_readWord_9 : decode cX4_readWord 9 = .ok (.invokevirtual 49, 3) := by decide +kernel
theorem dX4_readWord_12 : decode cX4_readWord 12 = .ok (.istore 5, 2) := by decide +kernel
theorem dX4_readWord_14 : decode cX4_readWord 14 = .ok (.aload_n 1, 1) := by decide +kernel
theorem dX4_readWord_15 : decode cX4_readWord 15 = .ok (.getfield 52, 3) := by decide +kernel
theorem dX4_readWord_18 : decode cX4_readWord 18 = .ok (.iload 5, 2) := by decide +kernel
theorem dX4_readWord_20 : decode cX4_readWord 20 = .ok (.imul, 1) := by decide +kernel
theorem dX4_readWord_21 : decode cX4_readWord 21 = .ok (.iload_n 2, 1) := by decide +kernel
theorem dX4_readWord_22 : decode cX4_readWord 22 = .ok (.bipush 64, 2) := by decide +kernel
theorem dX4_readWord_24 : decode cX4_readWord 24 = .ok (.imul, 1) := by decide +kernel
theorem dX4_readWord_25 : decode cX4_readWord 25 = .ok (.isub, 1) := by decide +kernel
theorem dX4_readWord_26 : decode cX4_readWord 26 = .ok (.istore 6, 2) := by decide +kernel
theorem dX4_readWord_28 : decode cX4_readWord 28 = .ok (.iload 6, 2) := by decide +kernel
theorem dX4_readWord_30 : decode cX4_readWord 30 = .ok (.bipush 64, 2) := by decide +kernel
theorem dX4_readWord_32 : decode cX4_readWord 32 = .ok (.if_icmp .ge 14, 3) := by decide +kernel
theorem dX4_readWord_35 : decode cX4_readWord 35 = .ok (.lload_n 3, 1) := by decide +kernel
theorem dX4_readWord_36 : decode cX4_readWord 36 = .ok (.iload 6, 2) := by decide +kernel
theorem dX4_readWord_38 : decode cX4_readWord 38 = .ok (.lushr, 1) := by decide +kernel
theorem dX4_readWord_39 : decode cX4_readWord 39 = .ok (.lconst 0, 1) := by decide +kernel
theorem dX4_readWord_40 : decode cX4_readWord 40 = .ok (.lcmp, 1) := by decide +kernel
theorem dX4_readWord_41 : decode cX4_readWord 41 = .ok (.ifCond .eq 5, 3) := by decide +kernel
theorem dX4_readWord_44 : decode cX4_readWord 44 = .ok (.iconst 0, 1) := by decide +kernel
theorem dX4_readWord_45 : decode cX4_readWord 45 = .ok (.ireturn, 1) := by decide +kernel
theorem dX4_readWord_46 : decode cX4_readWord 46 = .ok (.iconst 0, 1) := by decide +kernel
theorem dX4_readWord_47 : decode cX4_readWord 47 = .ok (.istore 7, 2) := by decide +kernel
theorem dX4_readWord_49 : decode cX4_readWord 49 = .ok (.iload 7, 2) := by decide +kernel
theorem dX4_readWord_51 : decode cX4_readWord 51 = .ok (.aload_n 1, 1) := by decide +kernel
theorem dX4_readWord_52 : decode cX4_readWord 52 = .ok (.getfield 52, 3) := by decide +kernel
theorem dX4_readWord_55 : decode cX4_readWord 55 = .ok (.if_icmp .ge 37, 3) := by decide +kernel
theorem dX4_readWord_58 : decode cX4_readWord 58 = .ok (.aload_n 0, 1) := by decide +kernel
theorem dX4_readWord_59 : decode cX4_readWord 59 = .ok (.iload 7, 2) := by decide +kernel
theorem dX4_readWord_61 : decode cX4_readWord 61 = .ok (.aload_n 1, 1) := by decide +kernel
theorem dX4_readWord_62 : decode cX4_readWord 62 = .ok (.iload 7, 2) := by decide +kernel
theorem dX4_readWord_64 : decode cX4_readWord 64 = .ok (.invokevirtual 55, 3) := by decide +kernel
theorem dX4_readWord_67 : decode cX4_readWord 67 = .ok (.iload 7, 2) := by decide +kernel
theorem dX4_readWord_69 : decode cX4_readWord 69 = .ok (.iload 5, 2) := by decide +kernel
theorem dX4_readWord_71 : decode cX4_readWord 71 = .ok (.imul, 1) := by decide +kernel
theorem dX4_readWord_72 : decode cX4_readWord 72 = .ok (.iload_n 2, 1) := by decide +kernel
theorem dX4_readWord_73 : decode cX4_readWord 73 = .ok (.bipush 64, 2) := by decide +kernel
theorem dX4_readWord_75 : decode cX4_readWord 75 = .ok (.imul, 1) := by decide +kernel
theorem dX4_readWord_76 : decode cX4_readWord 76 = .ok (.isub, 1) := by decide +kernel
theorem dX4_readWord_77 : decode cX4_readWord 77 = .ok (.iload 5, 2) := by decide +kernel
theorem dX4_readWord_79 : decode cX4_readWord 79 = .ok (.lload_n 3, 1) := by decide +kernel
theorem dX4_readWord_80 : decode cX4_readWord 80 = .ok (.invokestatic 58, 3) := by decide +kernel
theorem dX4_readWord_83 : decode cX4_readWord 83 = .ok (.invokevirtual 42, 3) := by decide +kernel
theorem dX4_readWord_86 : decode cX4_readWord 86 = .ok (.iinc 7 1, 3) := by decide +kernel
theorem dX4_readWord_89 : decode cX4_readWord 89 = .ok (.goto (-40), 3) := by decide +kernel
theorem dX4_readWord_92 : decode cX4_readWord 92 = .ok (.iconst 1, 1) := by decide +kernel
theorem dX4_readWord_93 : decode cX4_readWord 93 = .ok (.ireturn, 1) := by decide +kernel
theorem dX4_overlaid_0 : decode cX4_overlaid 0 = .ok (.iload_n 0, 1) := by decide +kernel
theorem dX4_overlaid_1 : decode cX4_overlaid 1 = .ok (.istore 5, 2) := by decide +kernel
theorem dX4_overlaid_3 : decode cX4_overlaid 3 = .ok (.iconst 0, 1) := by decide +kernel
theorem dX4_overlaid_4 : decode cX4_overlaid 4 = .ok (.istore 6, 2) := by decide +kernel
theorem dX4_overlaid_6 : decode cX4_overlaid 6 = .ok (.iload 6, 2) := by decide +kernel
theorem dX4_overlaid_8 : decode cX4_overlaid 8 = .ok (.iload_n 2, 1) := by decide +kernel
theorem dX4_overlaid_9 : decode cX4_overlaid 9 = .ok (.if_icmp .ge 53, 3) := by decide +kernel
theorem dX4_overlaid_12 : decode cX4_overlaid 12 = .ok (.iload_n 1, 1) := by decide +kernel
theorem dX4_overlaid_13 : decode cX4_overlaid 13 = .ok (.iload 6, 2) := by decide +kernel
theorem dX4_overlaid_15 : decode cX4_overlaid 15 = .ok (.iadd, 1) := by decide +kernel
theorem dX4_overlaid_16 : decode cX4_overlaid 16 = .ok (.istore 7, 2) := by decide +kernel
theorem dX4_overlaid_18 : decode cX4_overlaid 18 = .ok (.iload 7, 2) := by decide +kernel
theorem dX4_overlaid_20 : decode cX4_overlaid 20 = .ok (.ifCond .lt 36, 3) := by decide +kernel
theorem dX4_overlaid_23 : decode cX4_overlaid 23 = .ok (.iload 7, 2) := by decide +kernel
theorem dX4_overlaid_25 : decode cX4_overlaid 25 = .ok (.bipush 64, 2) := by decide +kernel
theorem dX4_overlaid_27 : decode cX4_overlaid 27 = .ok (.if_icmp .ge 29, 3) := by decide +kernel
theorem dX4_overlaid_30 : decode cX4_overlaid 30 = .ok (.lload_n 3, 1) := by decide +kernel
theorem dX4_overlaid_31 : decode cX4_overlaid 31 = .ok (.iload 7, 2) := by decide +kernel
theorem dX4_overlaid_33 : decode cX4_overlaid 33 = .ok (.lushr, 1) := by decide +kernel
theorem dX4_overlaid_34 : decode cX4_overlaid 34 = .ok (.l2i, 1) := by decide +kernel
theorem dX4_overlaid_35 : decode cX4_overlaid 35 = .ok (.iconst 1, 1) := by decide +kernel
theorem dX4_overlaid_36 : decode cX4_overlaid 36 = .ok (.iand, 1) := by decide +kernel
theorem dX4_overlaid_37 : decode cX4_overlaid 37 = .ok (.istore 8, 2) := by decide +kernel
theorem dX4_overlaid_39 : decode cX4_overlaid 39 = .ok (.iload 5, 2) := by decide +kernel
theorem dX4_overlaid_41 : decode cX4_overlaid 41 = .ok (.iconst 1, 1) := by decide +kernel
theorem dX4_overlaid_42 : decode cX4_overlaid 42 = .ok (.iload 6, 2) := by decide +kernel
theorem dX4_overlaid_44 : decode cX4_overlaid 44 = .ok (.ishl, 1) := by decide +kernel
theorem dX4_overlaid_45 : decode cX4_overlaid 45 = .ok (.iconst (-1), 1) := by decide +kernel
theorem dX4_overlaid_46 : decode cX4_overlaid 46 = .ok (.ixor, 1) := by decide +kernel
theorem dX4_overlaid_47 : decode cX4_overlaid 47 = .ok (.iand, 1) := by decide +kernel
theorem dX4_overlaid_48 : decode cX4_overlaid 48 = .ok (.iload 8, 2) := by decide +kernel
theorem dX4_overlaid_50 : decode cX4_overlaid 50 = .ok (.iload 6, 2) := by decide +kernel
theorem dX4_overlaid_52 : decode cX4_overlaid 52 = .ok (.ishl, 1) := by decide +kernel
theorem dX4_overlaid_53 : decode cX4_overlaid 53 = .ok (.ior, 1) := by decide +kernel
theorem dX4_overlaid_54 : decode cX4_overlaid 54 = .ok (.istore 5, 2) := by decide +kernel
theorem dX4_overlaid_56 : decode cX4_overlaid 56 = .ok (.iinc 6 1, 3) := by decide +kernel
theorem dX4_overlaid_59 : decode cX4_overlaid 59 = .ok (.goto (-53), 3) := by decide +kernel
theorem dX4_overlaid_62 : decode cX4_overlaid 62 = .ok (.iload 5, 2) := by decide +kernel
theorem dX4_overlaid_64 : decode cX4_overlaid 64 = .ok (.ireturn, 1) := by decide +kernel
theorem dX4_decode_0 : decode cX4_decode 0 = .ok (.aload_n 1, 1) := by decide +kernel
theorem dX4_decode_1 : decode cX4_decode 1 = .ok (.aload_n 0, 1) := by decide +kernel
theorem dX4_decode_2 : decode cX4_decode 2 = .ok (.getfield 18, 3) := by decide +kernel
theorem dX4_decode_5 : decode cX4_decode 5 = .ok (.invokevirtual 62, 3) := by decide +kernel
theorem dX4_decode_8 : decode cX4_decode 8 = .ok (.aload_n 0, 1) := by decide +kernel
theorem dX4_decode_9 : decode cX4_decode 9 = .ok (.invokevirtual 68, 3) := by decide +kernel
theorem dX4_decode_12 : decode cX4_decode 12 = .ok (.istore_n 3, 1) := by decide +kernel
theorem dX4_decode_13 : decode cX4_decode 13 = .ok (.iload_n 3, 1) := by decide +kernel
theorem dX4_decode_14 : decode cX4_decode 14 = .ok (.ifCond .ge 5, 3) := by decide +kernel
theorem dX4_decode_17 : decode cX4_decode 17 = .ok (.iconst 0, 1) := by decide +kernel
theorem dX4_decode_18 : decode cX4_decode 18 = .ok (.ireturn, 1) := by decide +kernel
theorem dX4_decode_19 : decode cX4_decode 19 = .ok (.iload_n 2, 1) := by decide +kernel
theorem dX4_decode_20 : decode cX4_decode 20 = .ok (.aload_n 0, 1) := by decide +kernel
theorem dX4_decode_21 : decode cX4_decode 21 = .ok (.getfield 18, 3) := by decide +kernel
theorem dX4_decode_24 : decode cX4_decode 24 = .ok (.isub, 1) := by decide +kernel
theorem dX4_decode_25 : decode cX4_decode 25 = .ok (.istore 4, 2) := by decide +kernel
theorem dX4_decode_27 : decode cX4_decode 27 = .ok (.iconst 0, 1) := by decide +kernel
theorem dX4_decode_28 : decode cX4_decode 28 = .ok (.istore 5, 2) := by decide +kernel
theorem dX4_decode_30 : decode cX4_decode 30 = .ok (.iconst 0, 1) := by decide +kernel
theorem dX4_decode_31 : decode cX4_decode 31 = .ok (.istore 6, 2) := by decide +kernel
theorem dX4_decode_33 : decode cX4_decode 33 = .ok (.iconst 1, 1) := by decide +kernel
theorem dX4_decode_34 : decode cX4_decode 34 = .ok (.istore 7, 2) := by decide +kernel
theorem dX4_decode_36 : decode cX4_decode 36 = .ok (.iload 7, 2) := by decide +kernel
theorem dX4_decode_38 : decode cX4_decode 38 = .ok (.aload_n 0, 1) := by decide +kernel
theorem dX4_decode_39 : decode cX4_decode 39 = .ok (.invokevirtual 28, 3) := by decide +kernel
theorem dX4_decode_42 : decode cX4_decode 42 = .ok (.if_icmp .ge 121, 3) := by decide +kernel
theorem dX4_decode_45 : decode cX4_decode 45 = .ok (.iload_n 3, 1) := by decide +kernel
theorem dX4_decode_46 : decode cX4_decode 46 = .ok (.iload 7, 2) := by decide +kernel
theorem dX4_decode_48 : decode cX4_decode 48 = .ok (.iadd, 1) := by decide +kernel
theorem dX4_decode_49 : decode cX4_decode 49 = .ok (.aload_n 0, 1) := by decide +kernel
theorem dX4_decode_50 : decode cX4_decode 50 = .ok (.invokevirtual 28, 3) := by decide +kernel
theorem dX4_decode_53 : decode cX4_decode 53 = .ok (.iconst 1, 1) := by decide +kernel
theorem dX4_decode_54 : decode cX4_decode 54 = .ok (.isub, 1) := by decide +kernel
theorem dX4_decode_55 : decode cX4_decode 55 = .ok (.iand, 1) := by decide +kernel
theorem dX4_decode_56 : decode cX4_decode 56 = .ok (.istore 8, 2) := by decide +kernel
theorem dX4_decode_58 : decode cX4_decode 58 = .ok (.aload_n 0, 1) := by decide +kernel
theorem dX4_decode_59 : decode cX4_decode 59 = .ok (.iload 8, 2) := by decide +kernel
theorem dX4_decode_61 : decode cX4_decode 61 = .ok (.invokevirtual 71, 3) := by decide +kernel
theorem dX4_decode_64 : decode cX4_decode 64 = .ok (.istore 9, 2) := by decide +kernel
theorem dX4_decode_66 : decode cX4_decode 66 = .ok (.iload 9, 2) := by decide +kernel
theorem dX4_decode_68 : decode cX4_decode 68 = .ok (.iconst 1, 1) := by decide +kernel
theorem dX4_decode_69 : decode cX4_decode 69 = .ok (.iand, 1) := by decide +kernel
theorem dX4_decode_70 : decode cX4_decode 70 = .ok (.ifCond .eq 25, 3) := by decide +kernel
theorem dX4_decode_73 : decode cX4_decode 73 = .ok (.iload 5, 2) := by decide +kernel
theorem dX4_decode_75 : decode cX4_decode 75 = .ok (.aload_n 0, 1) := by decide +kernel
theorem dX4_decode_76 : decode cX4_decode 76 = .ok (.getfield 15, 3) := by decide +kernel
theorem dX4_decode_79 : decode cX4_decode 79 = .ok (.arraylength, 1) := by decide +kernel
theorem dX4_decode_80 : decode cX4_decode 80 = .ok (.if_icmp .ge 15, 3) := by decide +kernel
theorem dX4_decode_83 : decode cX4_decode 83 = .ok (.aload_n 0, 1) := by decide +kernel
theorem dX4_decode_84 : decode cX4_decode 84 = .ok (.getfield 15, 3) := by decide +kernel
theorem dX4_decode_87 : decode cX4_decode 87 = .ok (.iload 5, 2) := by decide +kernel
theorem dX4_decode_89 : decode cX4_decode 89 = .ok (.iload 8, 2) := by decide +kernel
theorem dX4_decode_91 : decode cX4_decode 91 = .ok (.iastore, 1) := by decide +kernel
theorem dX4_decode_92 : decode cX4_decode 92 = .ok (.iinc 5 1, 3) := by decide +kernel
theorem dX4_decode_95 : decode cX4_decode 95 = .ok (.iload 9, 2) := by decide +kernel
theorem dX4_decode_97 : decode cX4_decode 97 = .ok (.invokestatic 72, 3) := by decide +kernel
theorem dX4_decode_100 : decode cX4_decode 100 = .ok (.ifCond .eq 57, 3) := by decide +kernel
theorem dX4_decode_103 : decode cX4_decode 103 = .ok (.iload 6, 2) := by decide +kernel
theorem dX4_decode_105 : decode cX4_decode 105 = .ok (.iload 9, 2) := by decide +kernel
theorem dX4_decode_107 : decode cX4_decode 107 = .ok (.iconst 2, 1) := by decide +kernel
theorem dX4_decode_108 : decode cX4_decode 108 = .ok (.iand, 1) := by decide +kernel
theorem dX4_decode_109 : decode cX4_decode 109 = .ok (.ifCond .ne 7, 3) := by decide +kernel
theorem dX4_decode_112 : decode cX4_decode 112 = .ok (.iconst 1, 1) := by decide +kernel
theorem dX4_decode_113 : decode cX4_decode 113 = .ok (.goto 4, 3) := by decide +kernel
theorem dX4_decode_116 : decode cX4_decode 116 = .ok (.iconst 0, 1) := by decide +kernel
theorem dX4_decode_117 : decode cX4_decode 117 = .ok (.iadd, 1) := by decide +kernel
theorem dX4_decode_118 : decode cX4_decode 118 = .ok (.istore 6, 2) := by decide +kernel
theorem dX4_decode_120 : decode cX4_decode 120 = .ok (.iload 6, 2) := by decide +kernel
theorem dX4_decode_122 : decode cX4_decode 122 = .ok (.iconst 1, 1) := by decide +kernel
theorem dX4_decode_123 : decode cX4_decode 123 = .ok (.if_icmp .lt 10, 3) := by decide +kernel
theorem dX4_decode_126 : decode cX4_decode 126 = .ok (.iload 6, 2) := by decide +kernel
theorem dX4_decode_128 : decode cX4_decode 128 = .ok (.iload 5, 2) := by decide +kernel
theorem dX4_decode_130 : decode cX4_decode 130 = .ok (.if_icmp .le 5, 3) := by decide +kernel
theorem dX4_decode_133 : decode cX4_decode 133 = .ok (.iconst 0, 1) := by decide +kernel
theorem dX4_decode_134 : decode cX4_decode 134 = .ok (.ireturn, 1) := by decide +kernel
theorem dX4_decode_135 : decode cX4_decode 135 = .ok (.aload_n 1, 1) := by decide +kernel
theorem dX4_decode_136 : decode cX4_decode 136 = .ok (.aload_n 0, 1) := by decide +kernel
theorem dX4_decode_137 : decode cX4_decode 137 = .ok (.getfield 15, 3) := by decide +kernel
theorem dX4_decode_140 : decode cX4_decode 140 = .ok (.iload 6, 2) := by decide +kernel
theorem dX4_decode_142 : decode cX4_decode 142 = .ok (.iconst 1, 1) := by decide +kernel
theorem dX4_decode_143 : decode cX4_decode 143 = .ok (.isub, 1) := by decide +kernel
theorem dX4_decode_144 : decode cX4_decode 144 = .ok (.iaload, 1) := by decide +kernel
theorem dX4_decode_145 : decode cX4_decode 145 = .ok (.iload 4, 2) := by decide +kernel
theorem dX4_decode_147 : decode cX4_decode 147 = .ok (.ishl, 1) := by decide +kernel
theorem dX4_decode_148 : decode cX4_decode 148 = .ok (.iload 9, 2) := by decide +kernel
theorem dX4_decode_150 : decode cX4_decode 150 = .ok (.iconst 3, 1) := by decide +kernel
theorem dX4_decode_151 : decode cX4_decode 151 = .ok (.ishr, 1) := by decide +kernel
theorem dX4_decode_152 : decode cX4_decode 152 = .ok (.ior, 1) := by decide +kernel
theorem dX4_decode_153 : decode cX4_decode 153 = .ok (.invokevirtual 75, 3) := by decide +kernel
theorem dX4_decode_156 : decode cX4_decode 156 = .ok (.pop, 1) := by decide +kernel
theorem dX4_decode_157 : decode cX4_decode 157 = .ok (.iinc 7 1, 3) := by decide +kernel
theorem dX4_decode_160 : decode cX4_decode 160 = .ok (.goto (-124), 3) := by decide +kernel
theorem dX4_decode_163 : decode cX4_decode 163 = .ok (.iconst 1, 1) := by decide +kernel
theorem dX4_decode_164 : decode cX4_decode 164 = .ok (.ireturn, 1) := by decide +kernel
theorem dX4_emptySlot_0 : decode cX4_emptySlot 0 = .ok (.iconst 0, 1) := by decide +kernel
theorem dX4_emptySlot_1 : decode cX4_emptySlot 1 = .ok (.istore_n 1, 1) := by decide +kernel
theorem dX4_emptySlot_2 : decode cX4_emptySlot 2 = .ok (.iload_n 1, 1) := by decide +kernel
theorem dX4_emptySlot_3 : decode cX4_emptySlot 3 = .ok (.aload_n 0, 1) := by decide +kernel
theorem dX4_emptySlot_4 : decode cX4_emptySlot 4 = .ok (.invokevirtual 28, 3) := by decide +kernel
theorem dX4_emptySlot_7 : decode cX4_emptySlot 7 = .ok (.if_icmp .ge 22, 3) := by decide +kernel
theorem dX4_emptySlot_10 : decode cX4_emptySlot 10 = .ok (.aload_n 0, 1) := by decide +kernel
theorem dX4_emptySlot_11 : decode cX4_emptySlot 11 = .ok (.iload_n 1, 1) := by decide +kernel
theorem dX4_emptySlot_12 : decode cX4_emptySlot 12 = .ok (.invokevirtual 71, 3) := by decide +kernel
theorem dX4_emptySlot_15 : decode cX4_emptySlot 15 = .ok (.invokestatic 72, 3) := by decide +kernel
theorem dX4_emptySlot_18 : decode cX4_emptySlot 18 = .ok (.ifCond .ne 5, 3) := by decide +kernel
theorem dX4_emptySlot_21 : decode cX4_emptySlot 21 = .ok (.iload_n 1, 1) := by decide +kernel
theorem dX4_emptySlot_22 : decode cX4_emptySlot 22 = .ok (.ireturn, 1) := by decide +kernel
theorem dX4_emptySlot_23 : decode cX4_emptySlot 23 = .ok (.iinc 1 1, 3) := by decide +kernel
theorem dX4_emptySlot_26 : decode cX4_emptySlot 26 = .ok (.goto (-24), 3) := by decide +kernel
theorem dX4_emptySlot_29 : decode cX4_emptySlot 29 = .ok (.iconst (-1), 1) := by decide +kernel
theorem dX4_emptySlot_30 : decode cX4_emptySlot 30 = .ok (.ireturn, 1) := by decide +kernel
theorem dX4_marksOf_0 : decode cX4_marksOf 0 = .ok (.iload_n 0, 1) := by decide +kernel
theorem dX4_marksOf_1 : decode cX4_marksOf 1 = .ok (.bipush 7, 2) := by decide +kernel
theorem dX4_marksOf_3 : decode cX4_marksOf 3 = .ok (.iand, 1) := by decide +kernel
theorem dX4_marksOf_4 : decode cX4_marksOf 4 = .ok (.ireturn, 1) := by decide +kernel
theorem dX4_liesAs_0 : decode cX4_liesAs 0 = .ok (.iconst 0, 1) := by decide +kernel
theorem dX4_liesAs_1 : decode cX4_liesAs 1 = .ok (.istore_n 2, 1) := by decide +kernel
theorem dX4_liesAs_2 : decode cX4_liesAs 2 = .ok (.iload_n 2, 1) := by decide +kernel
theorem dX4_liesAs_3 : decode cX4_liesAs 3 = .ok (.aload_n 0, 1) := by decide +kernel
theorem dX4_liesAs_4 : decode cX4_liesAs 4 = .ok (.invokevirtual 28, 3) := by decide +kernel
theorem dX4_liesAs_7 : decode cX4_liesAs 7 = .ok (.if_icmp .ge 24, 3) := by decide +kernel
theorem dX4_liesAs_10 : decode cX4_liesAs 10 = .ok (.aload_n 0, 1) := by decide +kernel
theorem dX4_liesAs_11 : decode cX4_liesAs 11 = .ok (.iload_n 2, 1) := by decide +kernel
theorem dX4_liesAs_12 : decode cX4_liesAs 12 = .ok (.invokevirtual 71, 3) := by decide +kernel
theorem dX4_liesAs_15 : decode cX4_liesAs 15 = .ok (.aload_n 1, 1) := by decide +kernel
theorem dX4_liesAs_16 : decode cX4_liesAs 16 = .ok (.iload_n 2, 1) := by decide +kernel
theorem dX4_liesAs_17 : decode cX4_liesAs 17 = .ok (.invokevirtual 55, 3) := by decide +kernel
theorem dX4_liesAs_20 : decode cX4_liesAs 20 = .ok (.if_icmp .eq 5, 3) := by decide +kernel
theorem dX4_liesAs_23 : decode cX4_liesAs 23 = .ok (.iconst 0, 1) := by decide +kernel
theorem dX4_liesAs_24 : decode cX4_liesAs 24 = .ok (.ireturn, 1) := by decide +kernel
theorem dX4_liesAs_25 : decode cX4_liesAs 25 = .ok (.iinc 2 1, 3) := by decide +kernel
theorem dX4_liesAs_28 : decode cX4_liesAs 28 = .ok (.goto (-26), 3) := by decide +kernel
theorem dX4_liesAs_31 : decode cX4_liesAs 31 = .ok (.iconst 1, 1) := by decide +kernel
theorem dX4_liesAs_32 : decode cX4_liesAs 32 = .ok (.ireturn, 1) := by decide +kernel
theorem dX5_init_0 : decode cX5_init 0 = .ok (.aload_n 0, 1) := by decide +kernel
theorem dX5_init_1 : decode cX5_init 1 = .ok (.invokespecial 3, 3) := by decide +kernel
theorem dX5_init_4 : decode cX5_init 4 = .ok (.aload_n 0, 1) := by decide +kernel
theorem dX5_init_5 : decode cX5_init 5 = .ok (.bipush 80, 2) := by decide +kernel
theorem dX5_init_7 : decode cX5_init 7 = .ok (.newarray .char, 2) := by decide +kernel
theorem dX5_init_9 : decode cX5_init 9 = .ok (.putfield 9, 3) := by decide +kernel
theorem dX5_init_12 : decode cX5_init 12 = .ok (.aload_n 0, 1) := by decide +kernel
theorem dX5_init_13 : decode cX5_init 13 = .ok (.iconst 0, 1) := by decide +kernel
theorem dX5_init_14 : decode cX5_init 14 = .ok (.putfield 15, 3) := by decide +kernel
theorem dX5_init_17 : decode cX5_init 17 = .ok (.return_, 1) := by decide +kernel
theorem dX5_addFour_0 : decode cX5_addFour 0 = .ok (.aload_n 0, 1) := by decide +kernel
theorem dX5_addFour_1 : decode cX5_addFour 1 = .ok (.getfield 15, 3) := by decide +kernel
theorem dX5_addFour_4 : decode cX5_addFour 4 = .ok (.ifCond .lt 17, 3) := by decide +kernel
theorem dX5_addFour_7 : decode cX5_addFour 7 = .ok (.aload_n 0, 1) := by decide +kernel
theorem dX5_addFour_8 : decode cX5_addFour 8 = .ok (.getfield 15, 3) := by decide +kernel
theorem dX5_addFour_11 : decode cX5_addFour 11 = .ok (.iconst 4, 1) := by decide +kernel
theorem dX5_addFour_12 : decode cX5_addFour 12 = .ok (.iadd, 1) := by decide +kernel
theorem dX5_addFour_13 : decode cX5_addFour 13 = .ok (.aload_n 0, 1) := by decide +kernel
theorem dX5_addFour_14 : decode cX5_addFour 14 = .ok (.getfield 9, 3) := by decide +kernel
theorem dX5_addFour_17 : decode cX5_addFour 17 = .ok (.arraylength, 1) := by decide +kernel
theorem dX5_addFour_18 : decode cX5_addFour 18 = .ok (.if_icmp .le 5, 3) := by decide +kernel
theorem dX5_addFour_21 : decode cX5_addFour 21 = .ok (.iconst 0, 1) := by decide +kernel
theorem dX5_addFour_22 : decode cX5_addFour 22 = .ok (.ireturn, 1) := by decide +kernel
theorem dX5_addFour_23 : decode cX5_addFour 23 = .ok (.bipush 24, 2) := by decide +kernel
theorem dX5_addFour_25 : decode cX5_addFour 25 = .ok (.istore_n 2, 1) := by decide +kernel
theorem dX5_addFour_26 : decode cX5_addFour 26 = .ok (.iload_n 2, 1) := by decide +kernel
theorem dX5_addFour_27 : decode cX5_addFour 27 = .ok (.ifCond .lt 36, 3) := by decide +kernel
theorem dX5_addFour_30 : decode cX5_addFour 30 = .ok (.aload_n 0, 1) := by decide +kernel
theorem dX5_addFour_31 : decode cX5_addFour 31 = .ok (.getfield 9, 3) := by decide +kernel
theorem dX5_addFour_34 : decode cX5_addFour 34 = .ok (.aload_n 0, 1) := by decide +kernel
theorem dX5_addFour_35 : decode cX5_addFour 35 = .ok (.getfield 15, 3) := by decide +kernel
theorem dX5_addFour_38 : decode cX5_addFour 38 = .ok (.iload_n 1, 1) := by decide +kernel
theorem dX5_addFour_39 : decode cX5_addFour 39 = .ok (.iload_n 2, 1) := by decide +kernel
theorem dX5_addFour_40 : decode cX5_addFour 40 = .ok (.iushr, 1) := by decide +kernel
theorem dX5_addFour_41 : decode cX5_addFour 41 = .ok (.sipush 255, 3) := by decide +kernel
theorem dX5_addFour_44 : decode cX5_addFour 44 = .ok (.iand, 1) := by decide +kernel
theorem dX5_addFour_45 : decode cX5_addFour 45 = .ok (.i2c, 1) := by decide +kernel
theorem dX5_addFour_46 : decode cX5_addFour 46 = .ok (.castore, 1) := by decide +kernel
theorem dX5_addFour_47 : decode cX5_addFour 47 = .ok (.aload_n 0, 1) := by decide +kernel
theorem dX5_addFour_48 : decode cX5_addFour 48 = .ok (.dup, 1) := by decide +kernel
theorem dX5_addFour_49 : decode cX5_addFour 49 = .ok (.getfield 15, 3) := by decide +kernel
theorem dX5_addFour_52 : decode cX5_addFour 52 = .ok (.iconst 1, 1) := by decide +kernel
theorem dX5_addFour_53 : decode cX5_addFour 53 = .ok (.iadd, 1) := by decide +kernel
theorem dX5_addFour_54 : decode cX5_addFour 54 = .ok (.putfield 15, 3) := by decide +kernel
theorem dX5_addFour_57 : decode cX5_addFour 57 = .ok (.iinc 2 (-8), 3) := by decide +kernel
theorem dX5_addFour_60 : decode cX5_addFour 60 = .ok (.goto (-34), 3) := by decide +kernel
theorem dX5_addFour_63 : decode cX5_addFour 63 = .ok (.iconst 1, 1) := by decide +kernel
theorem dX5_addFour_64 : decode cX5_addFour 64 = .ok (.ireturn, 1) := by decide +kernel
theorem dX5_cutTo_0 : decode cX5_cutTo 0 = .ok (.iload_n 1, 1) := by decide +kernel
theorem dX5_cutTo_1 : decode cX5_cutTo 1 = .ok (.ifCond .lt 11, 3) := by decide +kernel
theorem dX5_cutTo_4 : decode cX5_cutTo 4 = .ok (.iload_n 1, 1) := by decide +kernel
theorem dX5_cutTo_5 : decode cX5_cutTo 5 = .ok (.aload_n 0, 1) := by decide +kernel
theorem dX5_cutTo_6 : decode cX5_cutTo 6 = .ok (.getfield 15, 3) := by decide +kernel
theorem dX5_cutTo_9 : decode cX5_cutTo 9 = .ok (.if_icmp .le 5, 3) := by decide +kernel
theorem dX5_cutTo_12 : decode cX5_cutTo 12 = .ok (.iconst 0, 1) := by decide +kernel
theorem dX5_cutTo_13 : decode cX5_cutTo 13 = .ok (.ireturn, 1) := by decide +kernel
theorem dX5_cutTo_14 : decode cX5_cutTo 14 = .ok (.aload_n 0, 1) := by decide +kernel
theorem dX5_cutTo_15 : decode cX5_cutTo 15 = .ok (.iload_n 1, 1) := by decide +kernel
theorem dX5_cutTo_16 : decode cX5_cutTo 16 = .ok (.putfield 15, 3) := by decide +kernel
theorem dX5_cutTo_19 : decode cX5_cutTo 19 = .ok (.iconst 1, 1) := by decide +kernel
theorem dX5_cutTo_20 : decode cX5_cutTo 20 = .ok (.ireturn, 1) := by decide +kernel
theorem dX5_at_0 : decode cX5_at 0 = .ok (.iload_n 1, 1) := by decide +kernel
theorem dX5_at_1 : decode cX5_at 1 = .ok (.ifCond .lt 29, 3) := by decide +kernel
theorem dX5_at_4 : decode cX5_at 4 = .ok (.iload_n 1, 1) := by decide +kernel
theorem dX5_at_5 : decode cX5_at 5 = .ok (.aload_n 0, 1) := by decide +kernel
theorem dX5_at_6 : decode cX5_at 6 = .ok (.getfield 15, 3) := by decide +kernel
theorem dX5_at_9 : decode cX5_at 9 = .ok (.if_icmp .ge 21, 3) := by decide +kernel
theorem dX5_at_12 : decode cX5_at 12 = .ok (.iload_n 1, 1) := by decide +kernel
theorem dX5_at_13 : decode cX5_at 13 = .ok (.aload_n 0, 1) := by decide +kernel
theorem dX5_at_14 : decode cX5_at 14 = .ok (.getfield 9, 3) := by decide +kernel
theorem dX5_at_17 : decode cX5_at 17 = .ok (.arraylength, 1) := by decide +kernel
theorem dX5_at_18 : decode cX5_at 18 = .ok (.if_icmp .ge 12, 3) := by decide +kernel
theorem dX5_at_21 : decode cX5_at 21 = .ok (.aload_n 0, 1) := by decide +kernel
theorem dX5_at_22 : decode cX5_at 22 = .ok (.getfield 9, 3) := by decide +kernel
theorem dX5_at_25 : decode cX5_at 25 = .ok (.iload_n 1, 1) := by decide +kernel
theorem dX5_at_26 : decode cX5_at 26 = .ok (.caload, 1) := by decide +kernel
theorem dX5_at_27 : decode cX5_at 27 = .ok (.goto 4, 3) := by decide +kernel
theorem dX5_at_30 : decode cX5_at 30 = .ok (.iconst (-1), 1) := by decide +kernel
theorem dX5_at_31 : decode cX5_at 31 = .ok (.ireturn, 1) := by decide +kernel
theorem dX6_init_0 : decode cX6_init 0 = .ok (.aload_n 0, 1) := by decide +kernel
theorem dX6_init_1 : decode cX6_init 1 = .ok (.invokespecial 1, 3) := by decide +kernel
theorem dX6_init_4 : decode cX6_init 4 = .ok (.aload_n 0, 1) := by decide +kernel
theorem dX6_init_5 : decode cX6_init 5 = .ok (.bipush 10, 2) := by decide +kernel
theorem dX6_init_7 : decode cX6_init 7 = .ok (.putfield 7, 3) := by decide +kernel
theorem dX6_init_10 : decode cX6_init 10 = .ok (.aload_n 0, 1) := by decide +kernel
theorem dX6_init_11 : decode cX6_init 11 = .ok (.ldc 13, 2) := by decide +kernel
theorem dX6_init_13 : decode cX6_init 13 = .ok (.putfield 14, 3) := by decide +kernel
theorem dX6_init_16 : decode cX6_init 16 = .ok (.aload_n 0, 1) := by decide +kernel
theorem dX6_init_17 : decode cX6_init 17 = .ok (.bipush 75, 2) := by decide +kernel
theorem dX6_init_19 : decode cX6_init 19 = .ok (.putfield 17, 3) := by decide +kernel
theorem dX6_init_22 : decode cX6_init 22 = .ok (.aload_n 0, 1) := by decide +kernel
theorem dX6_init_23 : decode cX6_init 23 = .ok (.new 20, 3) := by decide +kernel
theorem dX6_init_26 : decode cX6_init 26 = .ok (.dup, 1) := by decide +kernel
theorem dX6_init_27 : decode cX6_init 27 = .ok (.invokespecial 22, 3) := by decide +kernel
theorem dX6_init_30 : decode cX6_init 30 = .ok (.putfield 23, 3) := by decide +kernel
theorem dX6_init_33 : decode cX6_init 33 = .ok (.aload_n 0, 1) := by decide +kernel
theorem dX6_init_34 : decode cX6_init 34 = .ok (.new 20, 3) := by decide +kernel
theorem dX6_init_37 : decode cX6_init 37 = .ok (.dup, 1) := by decide +kernel
theorem dX6_init_38 : decode cX6_init 38 = .ok (.invokespecial 22, 3) := by decide +kernel
theorem dX6_init_41 : decode cX6_init 41 = .ok (.putfield 27, 3) := by decide +kernel
theorem dX6_init_44 : decode cX6_init 44 = .ok (.aload_n 0, 1) := by decide +kernel
theorem dX6_init_45 : decode cX6_init 45 = .ok (.new 20, 3) := by decide +kernel
theorem dX6_init_48 : decode cX6_init 48 = .ok (.dup, 1) := by decide +kernel
theorem dX6_init_49 : decode cX6_init 49 = .ok (.invokespecial 22, 3) := by decide +kernel
theorem dX6_init_52 : decode cX6_init 52 = .ok (.putfield 30, 3) := by decide +kernel
theorem dX6_init_55 : decode cX6_init 55 = .ok (.aload_n 0, 1) := by decide +kernel
theorem dX6_init_56 : decode cX6_init 56 = .ok (.new 33, 3) := by decide +kernel
theorem dX6_init_59 : decode cX6_init 59 = .ok (.dup, 1) := by decide +kernel
theorem dX6_init_60 : decode cX6_init 60 = .ok (.invokespecial 35, 3) := by decide +kernel
theorem dX6_init_63 : decode cX6_init 63 = .ok (.putfield 36, 3) := by decide +kernel
theorem dX6_init_66 : decode cX6_init 66 = .ok (.aload_n 0, 1) := by decide +kernel
theorem dX6_init_67 : decode cX6_init 67 = .ok (.new 33, 3) := by decide +kernel
theorem dX6_init_70 : decode cX6_init 70 = .ok (.dup, 1) := by decide +kernel
theorem dX6_init_71 : decode cX6_init 71 = .ok (.invokespecial 35, 3) := by decide +kernel
theorem dX6_init_74 : decode cX6_init 74 = .ok (.putfield 40, 3) := by decide +kernel
theorem dX6_init_77 : decode cX6_init 77 = .ok (.aload_n 0, 1) := by decide +kernel
theorem dX6_init_78 : decode cX6_init 78 = .ok (.new 43, 3) := by decide +kernel
theorem dX6_init_81 : decode cX6_init 81 = .ok (.dup, 1) := by decide +kernel
theorem dX6_init_82 : decode cX6_init 82 = .ok (.invokespecial 45, 3) := by decide +kernel
theorem dX6_init_85 : decode cX6_init 85 = .ok (.putfield 46, 3) := by decide +kernel
theorem dX6_init_88 : decode cX6_init 88 = .ok (.aload_n 0, 1) := by decide +kernel
theorem dX6_init_89 : decode cX6_init 89 = .ok (.new 50, 3) := by decide +kernel
theorem dX6_init_92 : decode cX6_init 92 = .ok (.dup, 1) := by decide +kernel
theorem dX6_init_93 : decode cX6_init 93 = .ok (.invokespecial 52, 3) := by decide +kernel
theorem dX6_init_96 : decode cX6_init 96 = .ok (.putfield 53, 3) := by decide +kernel
theorem dX6_init_99 : decode cX6_init 99 = .ok (.aload_n 0, 1) := by decide +kernel
theorem dX6_init_100 : decode cX6_init 100 = .ok (.new 57, 3) := by decide +kernel
theorem dX6_init_103 : decode cX6_init 103 = .ok (.dup, 1) := by decide +kernel
theorem dX6_init_104 : decode cX6_init 104 = .ok (.invokespecial 59, 3) := by decide +kernel
theorem dX6_init_107 : decode cX6_init 107 = .ok (.putfield 60, 3) := by decide +kernel
theorem dX6_init_110 : decode cX6_init 110 = .ok (.aload_n 0, 1) := by decide +kernel
theorem dX6_init_111 : decode cX6_init 111 = .ok (.new 64, 3) := by decide +kernel
theorem dX6_init_114 : decode cX6_init 114 = .ok (.dup, 1) := by decide +kernel
theorem dX6_init_115 : decode cX6_init 115 = .ok (.invokespecial 66, 3) := by decide +kernel
theorem dX6_init_118 : decode cX6_init 118 = .ok (.putfield 67, 3) := by decide +kernel
theorem dX6_init_121 : decode cX6_init 121 = .ok (.return_, 1) := by decide +kernel
theorem dX6_shape_0 : decode cX6_shape 0 = .ok (.iload_n 1, 1) := by decide +kernel
theorem dX6_shape_1 : decode cX6_shape 1 = .ok (.bipush 6, 2) := by decide +kernel
theorem dX6_shape_3 : decode cX6_shape 3 = .ok (.if_icmp .lt 15, 3) := by decide +kernel
theorem dX6_shape_6 : decode cX6_shape 6 = .ok (.iload_n 1, 1) := by decide +kernel
theorem dX6_shape_7 : decode cX6_shape 7 = .ok (.bipush 14, 2) := by decide +kernel
theorem dX6_shape_9 : decode cX6_shape 9 = .ok (.if_icmp .gt 9, 3) := by decide +kernel
theorem dX6_shape_12 : decode cX6_shape 12 = .ok (.iload_n 2, 1) := by decide +kernel
theorem dX6_shape_13 : decode cX6_shape 13 = .ok (.iconst 1, 1) := by decide +kernel
theorem dX6_shape_14 : decode cX6_shape 14 = .ok (.iand, 1) := by decide +kernel
theorem dX6_shape_15 : decode cX6_shape 15 = .ok (.ifCond .ne 5, 3) := by decide +kernel
theorem dX6_shape_18 : decode cX6_shape 18 = .ok (.iconst (-1), 1) := by decide +kernel
theorem dX6_shape_19 : decode cX6_shape 19 = .ok (.ireturn, 1) := by decide +kernel
theorem dX6_shape_20 : decode cX6_shape 20 = .ok (.aload_n 0, 1) := by decide +kernel
theorem dX6_shape_21 : decode cX6_shape 21 = .ok (.getfield 7, 3) := by decide +kernel
theorem dX6_shape_24 : decode cX6_shape 24 = .ok (.istore_n 3, 1) := by decide +kernel
theorem dX6_shape_25 : decode cX6_shape 25 = .ok (.aload_n 0, 1) := by decide +kernel
theorem dX6_shape_26 : decode cX6_shape 26 = .ok (.iload_n 1, 1) := by decide +kernel
theorem dX6_shape_27 : decode cX6_shape 27 = .ok (.putfield 7, 3) := by decide +kernel
theorem dX6_shape_30 : decode cX6_shape 30 = .ok (.aload_n 0, 1) := by decide +kernel
theorem dX6_shape_31 : decode cX6_shape 31 = .ok (.iload_n 2, 1) := by decide +kernel
theorem dX6_shape_32 : decode cX6_shape 32 = .ok (.putfield 14, 3) := by decide +kernel
theorem dX6_shape_35 : decode cX6_shape 35 = .ok (.aload_n 0, 1) := by decide +kernel
theorem dX6_shape_36 : decode cX6_shape 36 = .ok (.getfield 23, 3) := by decide +kernel
theorem dX6_shape_39 : decode cX6_shape 39 = .ok (.iconst 3, 1) := by decide +kernel
theorem dX6_shape_40 : decode cX6_shape 40 = .ok (.invokevirtual 71, 3) := by decide +kernel
theorem dX6_shape_43 : decode cX6_shape 43 = .ok (.aload_n 0, 1) := by decide +kernel
theorem dX6_shape_44 : decode cX6_shape 44 = .ok (.getfield 27, 3) := by decide +kernel
theorem dX6_shape_47 : decode cX6_shape 47 = .ok (.iconst 3, 1) := by decide +kernel
theorem dX6_shape_48 : decode cX6_shape 48 = .ok (.invokevirtual 71, 3) := by decide +kernel
theorem dX6_shape_51 : decode cX6_shape 51 = .ok (.iload_n 3, 1) := by decide +kernel
theorem dX6_shape_52 : decode cX6_shape 52 = .ok (.ireturn, 1) := by decide +kernel
theorem dX6_load_0 : decode cX6_load 0 = .ok (.iload_n 1, 1) := by decide +kernel
theorem dX6_load_1 : decode cX6_load 1 = .ok (.bipush 50, 2) := by decide +kernel
theorem dX6_load_3 : decode cX6_load 3 = .ok (.if_icmp .lt 9, 3) := by decide +kernel
theorem dX6_load_6 : decode cX6_load 6 = .ok (.iload_n 1, 1) := by decide +kernel
theorem dX6_load_7 : decode cX6_load 7 = .ok (.bipush 95, 2) := by decide +kernel
theorem dX6_load_9 : decode cX6_load 9 = .ok (.if_icmp .le 5, 3) := by decide +kernel
theorem dX6_load_12 : decode cX6_load 12 = .ok (.iconst (-1), 1) := by decide +kernel
theorem dX6_load_13 : decode cX6_load 13 = .ok (.ireturn, 1) := by decide +kernel
theorem dX6_load_14 : decode cX6_load 14 = .ok (.iload_n 1, 1) := by decide +kernel
theorem dX6_load_15 : decode cX6_load 15 = .ok (.aload_n 0, 1) := by decide +kernel
theorem dX6_load_16 : decode cX6_load 16 = .ok (.getfield 17, 3) := by decide +kernel
theorem dX6_load_19 : decode cX6_load 19 = .ok (.if_icmp .ne 6, 3) := by decide +kernel
theorem dX6_load_22 : decode cX6_load 22 = .ok (.bipush (-2), 2) := by decide +kernel
theorem dX6_load_24 : decode cX6_load 24 = .ok (.ireturn, 1) := by decide +kernel
theorem dX6_load_25 : decode cX6_load 25 = .ok (.aload_n 0, 1) := by decide +kernel
theorem dX6_load_26 : decode cX6_load 26 = .ok (.getfield 17, 3) := by decide +kernel
theorem dX6_load_29 : decode cX6_load 29 = .ok (.istore_n 2, 1) := by decide +kernel
theorem dX6_load_30 : decode cX6_load 30 = .ok (.aload_n 0, 1) := by decide +kernel
theorem dX6_load_31 : decode cX6_load 31 = .ok (.iload_n 1, 1) := by decide +kernel
theorem dX6_load_32 : decode cX6_load 32 = .ok (.putfield 17, 3) := by decide +kernel
theorem dX6_load_35 : decode cX6_load 35 = .ok (.iload_n 2, 1) := by decide +kernel
theorem dX6_load_36 : decode cX6_load 36 = .ok (.ireturn, 1) := by decide +kernel
theorem dX6_print_0 : decode cX6_print 0 = .ok (.aload_n 0, 1) := by decide +kernel
theorem dX6_print_1 : decode cX6_print 1 = .ok (.iload_n 1, 1) := by decide +kernel
theorem dX6_print_2 : decode cX6_print 2 = .ok (.invokevirtual 75, 3) := by decide +kernel
theorem dX6_print_5 : decode cX6_print 5 = .ok (.astore_n 3, 1) := by decide +kernel
theorem dX6_print_6 : decode cX6_print 6 = .ok (.aload_n 3, 1) := by decide +kernel
theorem dX6_print_7 : decode cX6_print 7 = .ok (.ifnull 10, 3) := by decide +kernel
theorem dX6_print_10 : decode cX6_print 10 = .ok (.iload_n 2, 1) := by decide +kernel
theorem dX6_print_11 : decode cX6_print 11 = .ok (.invokestatic 79, 3) := by decide +kernel
theorem dX6_print_14 : decode cX6_print 14 = .ok (.ifCond .ne 5, 3) := by decide +kernel
theorem dX6_print_17 : decode cX6_print 17 = .ok (.iconst (-1), 1) := by decide +kernel
theorem dX6_print_18 : decode cX6_print 18 = .ok (.ireturn, 1) := by decide +kernel
theorem dX6_print_19 : decode cX6_print 19 = .ok (.aload_n 0, 1) := by decide +kernel
theorem dX6_print_20 : decode cX6_print 20 = .ok (.iload_n 2, 1) := by decide +kernel
theorem dX6_print_21 : decode cX6_print 21 = .ok (.invokevirtual 83, 3) := by decide +kernel
theorem dX6_print_24 : decode cX6_print 24 = .ok (.istore 4, 2) := by decide +kernel
theorem dX6_print_26 : decode cX6_print 26 = .ok (.aload_n 0, 1) := by decide +kernel
theorem dX6_print_27 : decode cX6_print 27 = .ok (.getfield 7, 3) := by decide +kernel
theorem dX6_print_30 : decode cX6_print 30 = .ok (.aload_n 3, 1) := by decide +kernel
theorem dX6_print_31 : decode cX6_print 31 = .ok (.getfield 87, 3) := by decide +kernel
theorem dX6_print_34 : decode cX6_print 34 = .ok (.isub, 1) := by decide +kernel
theorem dX6_print_35 : decode cX6_print 35 = .ok (.istore 5, 2) := by decide +kernel
theorem dX6_print_37 : decode cX6_print 37 = .ok (.aload_n 0, 1) := by decide +kernel
theorem dX6_print_38 : decode cX6_print 38 = .ok (.getfield 53, 3) := by decide +kernel
theorem dX6_print_41 : decode cX6_print 41 = .ok (.iload 4, 2) := by decide +kernel
theorem dX6_print_43 : decode cX6_print 43 = .ok (.iload 5, 2) := by decide +kernel
theorem dX6_print_45 : decode cX6_print 45 = .ok (.ishr, 1) := by decide +kernel
theorem dX6_print_46 : decode cX6_print 46 = .ok (.i2l, 1) := by decide +kernel
theorem dX6_print_47 : decode cX6_print 47 = .ok (.iload 4, 2) := by decide +kernel
theorem dX6_print_49 : decode cX6_print 49 = .ok (.iconst 1, 1) := by decide +kernel
theorem dX6_print_50 : decode cX6_print 50 = .ok (.iload 5, 2) := by decide +kernel
theorem dX6_print_52 : decode cX6_print 52 = .ok (.ishl, 1) := by decide +kernel
theorem dX6_print_53 : decode cX6_print 53 = .ok (.iconst 1, 1) := by decide +kernel
theorem dX6_print_54 : decode cX6_print 54 = .ok (.isub, 1) := by decide +kernel
theorem dX6_print_55 : decode cX6_print 55 = .ok (.iand, 1) := by decide +kernel
theorem dX6_print_56 : decode cX6_print 56 = .ok (.i2l, 1) := by decide +kernel
theorem dX6_print_57 : decode cX6_print 57 = .ok (.invokevirtual 90, 3) := by decide +kernel
theorem dX6_print_60 : decode cX6_print 60 = .ok (.iload 4, 2) := by decide +kernel
theorem dX6_print_62 : decode cX6_print 62 = .ok (.ireturn, 1) := by decide +kernel
theorem dX6_puts_0 : decode cX6_puts 0 = .ok (.aload_n 0, 1) := by decide +kernel
theorem dX6_puts_1 : decode cX6_puts 1 = .ok (.iload_n 1, 1) := by decide +kernel
theorem dX6_puts_2 : decode cX6_puts 2 = .ok (.invokevirtual 75, 3) := by decide +kernel
theorem dX6_puts_5 : decode cX6_puts 5 = .ok (.astore_n 3, 1) := by decide +kernel
theorem dX6_puts_6 : decode cX6_puts 6 = .ok (.aload_n 3, 1) := by decide +kernel
theorem dX6_puts_7 : decode cX6_puts 7 = .ok (.ifnull 10, 3) := by decide +kernel
theorem dX6_puts_10 : decode cX6_puts 10 = .ok (.iload_n 2, 1) := by decide +kernel
theorem dX6_puts_11 : decode cX6_puts 11 = .ok (.invokestatic 79, 3) := by decide +kernel
theorem dX6_puts_14 : decode cX6_puts 14 = .ok (.ifCond .ne 5, 3) := by decide +kernel
theorem dX6_puts_17 : decode cX6_puts 17 = .ok (.iconst (-1), 1) := by decide +kernel
theorem dX6_puts_18 : decode cX6_puts 18 = .ok (.ireturn, 1) := by decide +kernel
theorem dX6_puts_19 : decode cX6_puts 19 = .ok (.aload_n 0, 1) := by decide +kernel
theorem dX6_puts_20 : decode cX6_puts 20 = .ok (.aload_n 3, 1) := by decide +kernel
theorem dX6_puts_21 : decode cX6_puts 21 = .ok (.aload_n 0, 1) := by decide +kernel
theorem dX6_puts_22 : decode cX6_puts 22 = .ok (.iload_n 2, 1) := by decide +kernel
theorem dX6_puts_23 : decode cX6_puts 23 = .ok (.invokevirtual 83, 3) := by decide +kernel
theorem dX6_puts_26 : decode cX6_puts 26 = .ok (.invokevirtual 94, 3) := by decide +kernel
theorem dX6_puts_29 : decode cX6_puts 29 = .ok (.istore 4, 2) := by decide +kernel
theorem dX6_puts_31 : decode cX6_puts 31 = .ok (.iload 4, 2) := by decide +kernel
theorem dX6_puts_33 : decode cX6_puts 33 = .ok (.ifCond .ge 6, 3) := by decide +kernel
theorem dX6_puts_36 : decode cX6_puts 36 = .ok (.bipush (-5), 2) := by decide +kernel
theorem dX6_puts_38 : decode cX6_puts 38 = .ok (.ireturn, 1) := by decide +kernel
theorem dX6_puts_39 : decode cX6_puts 39 = .ok (.aload_n 0, 1) := by decide +kernel
theorem dX6_puts_40 : decode cX6_puts 40 = .ok (.getfield 36, 3) := by decide +kernel
theorem dX6_puts_43 : decode cX6_puts 43 = .ok (.aload_n 3, 1) := by decide +kernel
theorem dX6_puts_44 : decode cX6_puts 44 = .ok (.aload_n 0, 1) := by decide +kernel
theorem dX6_puts_45 : decode cX6_puts 45 = .ok (.getfield 7, 3) := by decide +kernel
theorem dX6_puts_48 : decode cX6_puts 48 = .ok (.invokevirtual 98, 3) := by decide +kernel
theorem dX6_puts_51 : decode cX6_puts 51 = .ok (.aload_n 0, 1) := by decide +kernel
theorem dX6_puts_52 : decode cX6_puts 52 = .ok (.getfield 53, 3) := by decide +kernel
theorem dX6_puts_55 : decode cX6_puts 55 = .ok (.aload_n 0, 1) := by decide +kernel
theorem dX6_puts_56 : decode cX6_puts 56 = .ok (.getfield 36, 3) := by decide +kernel
theorem dX6_puts_59 : decode cX6_puts 59 = .ok (.iload 4, 2) := by decide +kernel
theorem dX6_puts_61 : decode cX6_puts 61 = .ok (.invokevirtual 102, 3) := by decide +kernel
theorem dX6_puts_64 : decode cX6_puts 64 = .ok (.i2l, 1) := by decide +kernel
theorem dX6_puts_65 : decode cX6_puts 65 = .ok (.aload_n 3, 1) := by decide +kernel
theorem dX6_puts_66 : decode cX6_puts 66 = .ok (.getfield 105, 3) := by decide +kernel
theorem dX6_puts_69 : decode cX6_puts 69 = .ok (.i2l, 1) := by decide +kernel
theorem dX6_puts_70 : decode cX6_puts 70 = .ok (.invokevirtual 90, 3) := by decide +kernel
theorem dX6_puts_73 : decode cX6_puts 73 = .ok (.aload_n 3, 1) := by decide +kernel
theorem dX6_puts_74 : decode cX6_puts 74 = .ok (.invokevirtual 108, 3) := by decide +kernel
theorem dX6_puts_77 : decode cX6_puts 77 = .ok (.ireturn, 1) := by decide +kernel
theorem dX6_takes_0 : decode cX6_takes 0 = .ok (.aload_n 0, 1) := by decide +kernel
theorem dX6_takes_1 : decode cX6_takes 1 = .ok (.iload_n 1, 1) := by decide +kernel
theorem dX6_takes_2 : decode cX6_takes 2 = .ok (.invokevirtual 75, 3) := by decide +kernel
theorem dX6_takes_5 : decode cX6_takes 5 = .ok (.astore_n 3, 1) := by decide +kernel
theorem dX6_takes_6 : decode cX6_takes 6 = .ok (.aload_n 3, 1) := by decide +kernel
theorem dX6_takes_7 : decode cX6_takes 7 = .ok (.ifnull 10, 3) := by decide +kernel
theorem dX6_takes_10 : decode cX6_takes 10 = .ok (.iload_n 2, 1) := by decide +kernel
theorem dX6_takes_11 : decode cX6_takes 11 = .ok (.invokestatic 79, 3) := by decide +kernel
theorem dX6_takes_14 : decode cX6_takes 14 = .ok (.ifCond .ne 5, 3) := by decide +kernel
theorem dX6_takes_17 : decode cX6_takes 17 = .ok (.iconst (-1), 1) := by decide +kernel
theorem dX6_takes_18 : decode cX6_takes 18 = .ok (.ireturn, 1) := by decide +kernel
theorem dX6_takes_19 : decode cX6_takes 19 = .ok (.aload_n 0, 1) := by decide +kernel
theorem dX6_takes_20 : decode cX6_takes 20 = .ok (.iload_n 2, 1) := by decide +kernel
theorem dX6_takes_21 : decode cX6_takes 21 = .ok (.invokevirtual 83, 3) := by decide +kernel
theorem dX6_takes_24 : decode cX6_takes 24 = .ok (.istore 4, 2) := by decide +kernel
theorem dX6_takes_26 : decode cX6_takes 26 = .ok (.aload_n 3, 1) := by decide +kernel
theorem dX6_takes_27 : decode cX6_takes 27 = .ok (.iload 4, 2) := by decide +kernel
theorem dX6_takes_29 : decode cX6_takes 29 = .ok (.invokevirtual 112, 3) := by decide +kernel
theorem dX6_takes_32 : decode cX6_takes 32 = .ok (.ifCond .ne 6, 3) := by decide +kernel
theorem dX6_takes_35 : decode cX6_takes 35 = .ok (.bipush (-2), 2) := by decide +kernel
theorem dX6_takes_37 : decode cX6_takes 37 = .ok (.ireturn, 1) := by decide +kernel
theorem dX6_takes_38 : decode cX6_takes 38 = .ok (.aload_n 0, 1) := by decide +kernel
theorem dX6_takes_39 : decode cX6_takes 39 = .ok (.getfield 53, 3) := by decide +kernel
theorem dX6_takes_42 : decode cX6_takes 42 = .ok (.aload_n 3, 1) := by decide +kernel
theorem dX6_takes_43 : decode cX6_takes 43 = .ok (.getfield 105, 3) := by decide +kernel
theorem dX6_takes_46 : decode cX6_takes 46 = .ok (.i2l, 1) := by decide +kernel
theorem dX6_takes_47 : decode cX6_takes 47 = .ok (.invokevirtual 115, 3) := by decide +kernel
theorem dX6_takes_50 : decode cX6_takes 50 = .ok (.aload_n 3, 1) := by decide +kernel
theorem dX6_takes_51 : decode cX6_takes 51 = .ok (.iload 4, 2) := by decide +kernel
theorem dX6_takes_53 : decode cX6_takes 53 = .ok (.invokevirtual 118, 3) := by decide +kernel
theorem dX6_takes_56 : decode cX6_takes 56 = .ok (.ireturn, 1) := by decide +kernel
theorem dX6_has_0 : decode cX6_has 0 = .ok (.aload_n 0, 1) := by decide +kernel
theorem dX6_has_1 : decode cX6_has 1 = .ok (.iload_n 1, 1) := by decide +kernel
theorem dX6_has_2 : decode cX6_has 2 = .ok (.invokevirtual 75, 3) := by decide +kernel
theorem dX6_has_5 : decode cX6_has 5 = .ok (.astore_n 3, 1) := by decide +kernel
theorem dX6_has_6 : decode cX6_has 6 = .ok (.aload_n 3, 1) := by decide +kernel
theorem dX6_has_7 : decode cX6_has 7 = .ok (.ifnull 10, 3) := by decide +kernel
theorem dX6_has_10 : decode cX6_has 10 = .ok (.iload_n 2, 1) := by decide +kernel
theorem dX6_has_11 : decode cX6_has 11 = .ok (.invokestatic 79, 3) := by decide +kernel
theorem dX6_has_14 : decode cX6_has 14 = .ok (.ifCond .ne 5, 3) := by decide +kernel
theorem dX6_has_17 : decode cX6_has 17 = .ok (.iconst (-1), 1) := by decide +kernel
theorem dX6_has_18 : decode cX6_has 18 = .ok (.ireturn, 1) := by decide +kernel
theorem dX6_has_19 : decode cX6_has 19 = .ok (.aload_n 0, 1) := by decide +kernel
theorem dX6_has_20 : decode cX6_has 20 = .ok (.iload_n 2, 1) := by decide +kernel
theorem dX6_has_21 : decode cX6_has 21 = .ok (.invokevirtual 83, 3) := by decide +kernel
theorem dX6_has_24 : decode cX6_has 24 = .ok (.istore 4, 2) := by decide +kernel
theorem dX6_has_26 : decode cX6_has 26 = .ok (.aload_n 0, 1) := by decide +kernel
theorem dX6_has_27 : decode cX6_has 27 = .ok (.getfield 53, 3) := by decide +kernel
theorem dX6_has_30 : decode cX6_has 30 = .ok (.aload_n 0, 1) := by decide +kernel
theorem dX6_has_31 : decode cX6_has 31 = .ok (.aload_n 3, 1) := by decide +kernel
theorem dX6_has_32 : decode cX6_has 32 = .ok (.aload_n 3, 1) := by decide +kernel
theorem dX6_has_33 : decode cX6_has 33 = .ok (.getfield 87, 3) := by decide +kernel
theorem dX6_has_36 : decode cX6_has 36 = .ok (.iload 4, 2) := by decide +kernel
theorem dX6_has_38 : decode cX6_has 38 = .ok (.invokevirtual 121, 3) := by decide +kernel
theorem dX6_has_41 : decode cX6_has 41 = .ok (.i2l, 1) := by decide +kernel
theorem dX6_has_42 : decode cX6_has 42 = .ok (.invokevirtual 115, 3) := by decide +kernel
theorem dX6_has_45 : decode cX6_has 45 = .ok (.aload_n 3, 1) := by decide +kernel
theorem dX6_has_46 : decode cX6_has 46 = .ok (.iload 4, 2) := by decide +kernel
theorem dX6_has_48 : decode cX6_has 48 = .ok (.invokevirtual 118, 3) := by decide +kernel
theorem dX6_has_51 : decode cX6_has 51 = .ok (.ireturn, 1) := by decide +kernel
theorem dX6_twin_0 : decode cX6_twin 0 = .ok (.iload_n 1, 1) := by decide +kernel
theorem dX6_twin_1 : decode cX6_twin 1 = .ok (.invokestatic 79, 3) := by decide +kernel
theorem dX6_twin_4 : decode cX6_twin 4 = .ok (.ifCond .ne 5, 3) := by decide +kernel
theorem dX6_twin_7 : decode cX6_twin 7 = .ok (.iconst (-1), 1) := by decide +kernel
theorem dX6_twin_8 : decode cX6_twin 8 = .ok (.ireturn, 1) := by decide +kernel
theorem dX6_twin_9 : decode cX6_twin 9 = .ok (.aload_n 0, 1) := by decide +kernel
theorem dX6_twin_10 : decode cX6_twin 10 = .ok (.iload_n 1, 1) := by decide +kernel
theorem dX6_twin_11 : decode cX6_twin 11 = .ok (.invokevirtual 83, 3) := by decide +kernel
theorem dX6_twin_14 : decode cX6_twin 14 = .ok (.istore_n 2, 1) := by decide +kernel
theorem dX6_twin_15 : decode cX6_twin 15 = .ok (.iconst 0, 1) := by decide +kernel
theorem dX6_twin_16 : decode cX6_twin 16 = .ok (.istore_n 3, 1) := by decide +kernel
theorem dX6_twin_17 : decode cX6_twin 17 = .ok (.iload_n 3, 1) := by decide +kernel
theorem dX6_twin_18 : decode cX6_twin 18 = .ok (.sipush 10000, 3) := by decide +kernel
theorem dX6_twin_21 : decode cX6_twin 21 = .ok (.if_icmp .ge 25, 3) := by decide +kernel
theorem dX6_twin_24 : decode cX6_twin 24 = .ok (.iload_n 3, 1) := by decide +kernel
theorem dX6_twin_25 : decode cX6_twin 25 = .ok (.iload_n 1, 1) := by decide +kernel
theorem dX6_twin_26 : decode cX6_twin 26 = .ok (.if_icmp .eq 14, 3) := by decide +kernel
theorem dX6_twin_29 : decode cX6_twin 29 = .ok (.aload_n 0, 1) := by decide +kernel
theorem dX6_twin_30 : decode cX6_twin 30 = .ok (.iload_n 3, 1) := by decide +kernel
theorem dX6_twin_31 : decode cX6_twin 31 = .ok (.invokevirtual 83, 3) := by decide +kernel
theorem dX6_twin_34 : decode cX6_twin 34 = .ok (.iload_n 2, 1) := by decide +kernel
theorem dX6_twin_35 : decode cX6_twin 35 = .ok (.if_icmp .ne 5, 3) := by decide +kernel
theorem dX6_twin_38 : decode cX6_twin 38 = .ok (.iload_n 3, 1) := by decide +kernel
theorem dX6_twin_39 : decode cX6_twin 39 = .ok (.ireturn, 1) := by decide +kernel
theorem dX6_twin_40 : decode cX6_twin 40 = .ok (.iinc 3 1, 3) := by decide +kernel
theorem dX6_twin_43 : decode cX6_twin 43 = .ok (.goto (-26), 3) := by decide +kernel
theorem dX6_twin_46 : decode cX6_twin 46 = .ok (.bipush (-2), 2) := by decide +kernel
theorem dX6_twin_48 : decode cX6_twin 48 = .ok (.ireturn, 1) := by decide +kernel
theorem dX6_keys_0 : decode cX6_keys 0 = .ok (.aload_n 0, 1) := by decide +kernel
theorem dX6_keys_1 : decode cX6_keys 1 = .ok (.iload_n 1, 1) := by decide +kernel
theorem dX6_keys_2 : decode cX6_keys 2 = .ok (.invokevirtual 75, 3) := by decide +kernel
theorem dX6_keys_5 : decode cX6_keys 5 = .ok (.astore_n 2, 1) := by decide +kernel
theorem dX6_keys_6 : decode cX6_keys 6 = .ok (.aload_n 2, 1) := by decide +kernel
theorem dX6_keys_7 : decode cX6_keys 7 = .ok (.ifnonnull 7, 3) := by decide +kernel
theorem dX6_keys_10 : decode cX6_keys 10 = .ok (.iconst (-1), 1) := by decide +kernel
theorem dX6_keys_11 : decode cX6_keys 11 = .ok (.goto 15, 3) := by decide +kernel
theorem dX6_keys_14 : decode cX6_keys 14 = .ok (.aload_n 0, 1) := by decide +kernel
theorem dX6_keys_15 : decode cX6_keys 15 = .ok (.getfield 67, 3) := by decide +kernel
theorem dX6_keys_18 : decode cX6_keys 18 = .ok (.aload_n 0, 1) := by decide +kernel
theorem dX6_keys_19 : decode cX6_keys 19 = .ok (.getfield 60, 3) := by decide +kernel
theorem dX6_keys_22 : decode cX6_keys 22 = .ok (.iconst 1, 1) := by decide +kernel
theorem dX6_keys_23 : decode cX6_keys 23 = .ok (.invokevirtual 125, 3) := by decide +kernel
theorem dX6_keys_26 : decode cX6_keys 26 = .ok (.istore_n 3, 1) := by decide +kernel
theorem dX6_keys_27 : decode cX6_keys 27 = .ok (.aload_n 0, 1) := by decide +kernel
theorem dX6_keys_28 : decode cX6_keys 28 = .ok (.getfield 60, 3) := by decide +kernel
theorem dX6_keys_31 : decode cX6_keys 31 = .ok (.iconst 0, 1) := by decide +kernel
theorem dX6_keys_32 : decode cX6_keys 32 = .ok (.invokevirtual 129, 3) := by decide +kernel
theorem dX6_keys_35 : decode cX6_keys 35 = .ok (.pop, 1) := by decide +kernel
theorem dX6_keys_36 : decode cX6_keys 36 = .ok (.aload_n 2, 1) := by decide +kernel
theorem dX6_keys_37 : decode cX6_keys 37 = .ok (.ifnull 7, 3) := by decide +kernel
theorem dX6_keys_40 : decode cX6_keys 40 = .ok (.iload_n 3, 1) := by decide +kernel
theorem dX6_keys_41 : decode cX6_keys 41 = .ok (.ifCond .ge 5, 3) := by decide +kernel
theorem dX6_keys_44 : decode cX6_keys 44 = .ok (.iload_n 3, 1) := by decide +kernel
theorem dX6_keys_45 : decode cX6_keys 45 = .ok (.ireturn, 1) := by decide +kernel
theorem dX6_keys_46 : decode cX6_keys 46 = .ok (.iconst 0, 1) := by decide +kernel
theorem dX6_keys_47 : decode cX6_keys 47 = .ok (.istore 4, 2) := by decide +kernel
theorem dX6_keys_49 : decode cX6_keys 49 = .ok (.iload 4, 2) := by decide +kernel
theorem dX6_keys_51 : decode cX6_keys 51 = .ok (.aload_n 0, 1) := by decide +kernel
theorem dX6_keys_52 : decode cX6_keys 52 = .ok (.getfield 67, 3) := by decide +kernel
theorem dX6_keys_55 : decode cX6_keys 55 = .ok (.getfield 132, 3) := by decide +kernel
theorem dX6_keys_58 : decode cX6_keys 58 = .ok (.if_icmp .ge 35, 3) := by decide +kernel
theorem dX6_keys_61 : decode cX6_keys 61 = .ok (.aload_n 0, 1) := by decide +kernel
theorem dX6_keys_62 : decode cX6_keys 62 = .ok (.aload_n 2, 1) := by decide +kernel
theorem dX6_keys_63 : decode cX6_keys 63 = .ok (.aload_n 0, 1) := by decide +kernel
theorem dX6_keys_64 : decode cX6_keys 64 = .ok (.getfield 67, 3) := by decide +kernel
theorem dX6_keys_67 : decode cX6_keys 67 = .ok (.iload 4, 2) := by decide +kernel
theorem dX6_keys_69 : decode cX6_keys 69 = .ok (.invokevirtual 133, 3) := by decide +kernel
theorem dX6_keys_72 : decode cX6_keys 72 = .ok (.aload_n 0, 1) := by decide +kernel
theorem dX6_keys_73 : decode cX6_keys 73 = .ok (.getfield 67, 3) := by decide +kernel
theorem dX6_keys_76 : decode cX6_keys 76 = .ok (.iload 4, 2) := by decide +kernel
theorem dX6_keys_78 : decode cX6_keys 78 = .ok (.invokevirtual 136, 3) := by decide +kernel
theorem dX6_keys_81 : decode cX6_keys 81 = .ok (.invokevirtual 139, 3) := by decide +kernel
theorem dX6_keys_84 : decode cX6_keys 84 = .ok (.ifCond .eq 9, 3) := by decide +kernel
theorem dX6_keys_87 : decode cX6_keys 87 = .ok (.iinc 4 1, 3) := by decide +kernel
theorem dX6_keys_90 : decode cX6_keys 90 = .ok (.goto (-41), 3) := by decide +kernel
theorem dX6_keys_93 : decode cX6_keys 93 = .ok (.aload_n 0, 1) := by decide +kernel
theorem dX6_keys_94 : decode cX6_keys 94 = .ok (.getfield 53, 3) := by decide +kernel
theorem dX6_keys_97 : decode cX6_keys 97 = .ok (.iload 4, 2) := by decide +kernel
theorem dX6_keys_99 : decode cX6_keys 99 = .ok (.aload_n 0, 1) := by decide +kernel
theorem dX6_keys_100 : decode cX6_keys 100 = .ok (.getfield 67, 3) := by decide +kernel
theorem dX6_keys_103 : decode cX6_keys 103 = .ok (.getfield 132, 3) := by decide +kernel
theorem dX6_keys_106 : decode cX6_keys 106 = .ok (.if_icmp .ge 7, 3) := by decide +kernel
theorem dX6_keys_109 : decode cX6_keys 109 = .ok (.lconst 1, 1) := by decide +kernel
theorem dX6_keys_110 : decode cX6_keys 110 = .ok (.goto 4, 3) := by decide +kernel
theorem dX6_keys_113 : decode cX6_keys 113 = .ok (.lconst 0, 1) := by decide +kernel
theorem dX6_keys_114 : decode cX6_keys 114 = .ok (.aload_n 2, 1) := by decide +kernel
theorem dX6_keys_115 : decode cX6_keys 115 = .ok (.getfield 105, 3) := by decide +kernel
theorem dX6_keys_118 : decode cX6_keys 118 = .ok (.i2l, 1) := by decide +kernel
theorem dX6_keys_119 : decode cX6_keys 119 = .ok (.invokevirtual 90, 3) := by decide +kernel
theorem dX6_keys_122 : decode cX6_keys 122 = .ok (.iload 4, 2) := by decide +kernel
theorem dX6_keys_124 : decode cX6_keys 124 = .ok (.ireturn, 1) := by decide +kernel
theorem dX6_wrongs_0 : decode cX6_wrongs 0 = .ok (.aload_n 0, 1) := by decide +kernel
theorem dX6_wrongs_1 : decode cX6_wrongs 1 = .ok (.iload_n 1, 1) := by decide +kernel
theorem dX6_wrongs_2 : decode cX6_wrongs 2 = .ok (.invokevirtual 75, 3) := by decide +kernel
theorem dX6_wrongs_5 : decode cX6_wrongs 5 = .ok (.astore_n 2, 1) := by decide +kernel
theorem dX6_wrongs_6 : decode cX6_wrongs 6 = .ok (.aload_n 2, 1) := by decide +kernel
theorem dX6_wrongs_7 : decode cX6_wrongs 7 = .ok (.ifnonnull 7, 3) := by decide +kernel
theorem dX6_wrongs_10 : decode cX6_wrongs 10 = .ok (.iconst (-1), 1) := by decide +kernel
theorem dX6_wrongs_11 : decode cX6_wrongs 11 = .ok (.goto 15, 3) := by decide +kernel
theorem dX6_wrongs_14 : decode cX6_wrongs 14 = .ok (.aload_n 0, 1) := by decide +kernel
theorem dX6_wrongs_15 : decode cX6_wrongs 15 = .ok (.getfield 67, 3) := by decide +kernel
theorem dX6_wrongs_18 : decode cX6_wrongs 18 = .ok (.aload_n 0, 1) := by decide +kernel
theorem dX6_wrongs_19 : decode cX6_wrongs 19 = .ok (.getfield 60, 3) := by decide +kernel
theorem dX6_wrongs_22 : decode cX6_wrongs 22 = .ok (.iconst 0, 1) := by decide +kernel
theorem dX6_wrongs_23 : decode cX6_wrongs 23 = .ok (.invokevirtual 125, 3) := by decide +kernel
theorem dX6_wrongs_26 : decode cX6_wrongs 26 = .ok (.istore_n 3, 1) := by decide +kernel
theorem dX6_wrongs_27 : decode cX6_wrongs 27 = .ok (.aload_n 0, 1) := by decide +kernel
theorem dX6_wrongs_28 : decode cX6_wrongs 28 = .ok (.getfield 60, 3) := by decide +kernel
theorem dX6_wrongs_31 : decode cX6_wrongs 31 = .ok (.iconst 0, 1) := by decide +kernel
theorem dX6_wrongs_32 : decode cX6_wrongs 32 = .ok (.invokevirtual 129, 3) := by decide +kernel
theorem dX6_wrongs_35 : decode cX6_wrongs 35 = .ok (.pop, 1) := by decide +kernel
theorem dX6_wrongs_36 : decode cX6_wrongs 36 = .ok (.aload_n 2, 1) := by decide +kernel
theorem dX6_wrongs_37 : decode cX6_wrongs 37 = .ok (.ifnull 7, 3) := by decide +kernel
theorem dX6_wrongs_40 : decode cX6_wrongs 40 = .ok (.iload_n 3, 1) := by decide +kernel
theorem dX6_wrongs_41 : decode cX6_wrongs 41 = .ok (.ifCond .ge 5, 3) := by decide +kernel
theorem dX6_wrongs_44 : decode cX6_wrongs 44 = .ok (.iload_n 3, 1) := by decide +kernel
theorem dX6_wrongs_45 : decode cX6_wrongs 45 = .ok (.ireturn, 1) := by decide +kernel
theorem dX6_wrongs_46 : decode cX6_wrongs 46 = .ok (.iconst 0, 1) := by decide +kernel
theorem dX6_wrongs_47 : decode cX6_wrongs 47 = .ok (.istore 4, 2) := by decide +kernel
theorem dX6_wrongs_49 : decode cX6_wrongs 49 = .ok (.iconst (-1), 1) := by decide +kernel
theorem dX6_wrongs_50 : decode cX6_wrongs 50 = .ok (.istore 5, 2) := by decide +kernel
theorem dX6_wrongs_52 : decode cX6_wrongs 52 = .ok (.iconst 0, 1) := by decide +kernel
theorem dX6_wrongs_53 : decode cX6_wrongs 53 = .ok (.istore 6, 2) := by decide +kernel
theorem dX6_wrongs_55 : decode cX6_wrongs 55 = .ok (.iload 6, 2) := by decide +kernel
theorem dX6_wrongs_57 : decode cX6_wrongs 57 = .ok (.sipush 1000, 3) := by decide +kernel
theorem dX6_wrongs_60 : decode cX6_wrongs 60 = .ok (.if_icmp .ge 51, 3) := by decide +kernel
theorem dX6_wrongs_63 : decode cX6_wrongs 63 = .ok (.aload_n 2, 1) := by decide +kernel
theorem dX6_wrongs_64 : decode cX6_wrongs 64 = .ok (.aload_n 0, 1) := by decide +kernel
theorem dX6_wrongs_65 : decode cX6_wrongs 65 = .ok (.iload 6, 2) := by decide +kernel
theorem dX6_wrongs_67 : decode cX6_wrongs 67 = .ok (.invokevirtual 83, 3) := by decide +kernel
theorem dX6_wrongs_70 : decode cX6_wrongs 70 = .ok (.invokevirtual 143, 3) := by decide +kernel
theorem dX6_wrongs_73 : decode cX6_wrongs 73 = .ok (.ifCond .eq 32, 3) := by decide +kernel
theorem dX6_wrongs_76 : decode cX6_wrongs 76 = .ok (.aload_n 0, 1) := by decide +kernel
theorem dX6_wrongs_77 : decode cX6_wrongs 77 = .ok (.getfield 67, 3) := by decide +kernel
theorem dX6_wrongs_80 : decode cX6_wrongs 80 = .ok (.iload 6, 2) := by decide +kernel
theorem dX6_wrongs_82 : decode cX6_wrongs 82 = .ok (.invokevirtual 146, 3) := by decide +kernel
theorem dX6_wrongs_85 : decode cX6_wrongs 85 = .ok (.ifCond .ne 20, 3) := by decide +kernel
theorem dX6_wrongs_88 : decode cX6_wrongs 88 = .ok (.iinc 4 1, 3) := by decide +kernel
theorem dX6_wrongs_91 : decode cX6_wrongs 91 = .ok (.iload 5, 2) := by decide +kernel
theorem dX6_wrongs_93 : decode cX6_wrongs 93 = .ok (.ifCond .ge 8, 3) := by decide +kernel
theorem dX6_wrongs_96 : decode cX6_wrongs 96 = .ok (.iload 6, 2) := by decide +kernel
theorem dX6_wrongs_98 : decode cX6_wrongs 98 = .ok (.goto 5, 3) := by decide +kernel
theorem dX6_wrongs_101 : decode cX6_wrongs 101 = .ok (.iload 5, 2) := by decide +kernel
theorem dX6_wrongs_103 : decode cX6_wrongs 103 = .ok (.istore 5, 2) := by decide +kernel
theorem dX6_wrongs_105 : decode cX6_wrongs 105 = .ok (.iinc 6 1, 3) := by decide +kernel
theorem dX6_wrongs_108 : decode cX6_wrongs 108 = .ok (.goto (-53), 3) := by decide +kernel
theorem dX6_wrongs_111 : decode cX6_wrongs 111 = .ok (.aload_n 0, 1) := by decide +kernel
theorem dX6_wrongs_112 : decode cX6_wrongs 112 = .ok (.getfield 53, 3) := by decide +kernel
theorem dX6_wrongs_115 : decode cX6_wrongs 115 = .ok (.iload 5, 2) := by decide +kernel
theorem dX6_wrongs_117 : decode cX6_wrongs 117 = .ok (.i2l, 1) := by decide +kernel
theorem dX6_wrongs_118 : decode cX6_wrongs 118 = .ok (.aload_n 0, 1) := by decide +kernel
theorem dX6_wrongs_119 : decode cX6_wrongs 119 = .ok (.aload_n 2, 1) := by decide +kernel
theorem dX6_wrongs_120 : decode cX6_wrongs 120 = .ok (.invokevirtual 147, 3) := by decide +kernel
theorem dX6_wrongs_123 : decode cX6_wrongs 123 = .ok (.i2l, 1) := by decide +kernel
theorem dX6_wrongs_124 : decode cX6_wrongs 124 = .ok (.invokevirtual 90, 3) := by decide +kernel
theorem dX6_wrongs_127 : decode cX6_wrongs 127 = .ok (.iload 4, 2) := by decide +kernel
theorem dX6_wrongs_129 : decode cX6_wrongs 129 = .ok (.ireturn, 1) := by decide +kernel
theorem dX6_slot_0 : decode cX6_slot 0 = .ok (.aload_n 0, 1) := by decide +kernel
theorem dX6_slot_1 : decode cX6_slot 1 = .ok (.iload_n 1, 1) := by decide +kernel
theorem dX6_slot_2 : decode cX6_slot 2 = .ok (.invokevirtual 75, 3) := by decide +kernel
theorem dX6_slot_5 : decode cX6_slot 5 = .ok (.astore_n 3, 1) := by decide +kernel
theorem dX6_slot_6 : decode cX6_slot 6 = .ok (.aload_n 3, 1) := by decide +kernel
theorem dX6_slot_7 : decode cX6_slot 7 = .ok (.ifnull 15, 3) := by decide +kernel
theorem dX6_slot_10 : decode cX6_slot 10 = .ok (.iload_n 2, 1) := by decide +kernel
theorem dX6_slot_11 : decode cX6_slot 11 = .ok (.ifCond .lt 11, 3) := by decide +kernel
theorem dX6_slot_14 : decode cX6_slot 14 = .ok (.iload_n 2, 1) := by decide +kernel
theorem dX6_slot_15 : decode cX6_slot 15 = .ok (.aload_n 3, 1) := by decide +kernel
theorem dX6_slot_16 : decode cX6_slot 16 = .ok (.invokevirtual 108, 3) := by decide +kernel
theorem dX6_slot_19 : decode cX6_slot 19 = .ok (.if_icmp .lt 5, 3) := by decide +kernel
theorem dX6_slot_22 : decode cX6_slot 22 = .ok (.iconst (-1), 1) := by decide +kernel
theorem dX6_slot_23 : decode cX6_slot 23 = .ok (.ireturn, 1) := by decide +kernel
theorem dX6_slot_24 : decode cX6_slot 24 = .ok (.aload_n 0, 1) := by decide +kernel
theorem dX6_slot_25 : decode cX6_slot 25 = .ok (.getfield 36, 3) := by decide +kernel
theorem dX6_slot_28 : decode cX6_slot 28 = .ok (.aload_n 3, 1) := by decide +kernel
theorem dX6_slot_29 : decode cX6_slot 29 = .ok (.aload_n 0, 1) := by decide +kernel
theorem dX6_slot_30 : decode cX6_slot 30 = .ok (.getfield 7, 3) := by decide +kernel
theorem dX6_slot_33 : decode cX6_slot 33 = .ok (.invokevirtual 98, 3) := by decide +kernel
theorem dX6_slot_36 : decode cX6_slot 36 = .ok (.aload_n 0, 1) := by decide +kernel
theorem dX6_slot_37 : decode cX6_slot 37 = .ok (.getfield 36, 3) := by decide +kernel
theorem dX6_slot_40 : decode cX6_slot 40 = .ok (.iload_n 2, 1) := by decide +kernel
theorem dX6_slot_41 : decode cX6_slot 41 = .ok (.invokevirtual 151, 3) := by decide +kernel
theorem dX6_slot_44 : decode cX6_slot 44 = .ok (.istore 4, 2) := by decide +kernel
theorem dX6_slot_46 : decode cX6_slot 46 = .ok (.iload 4, 2) := by decide +kernel
theorem dX6_slot_48 : decode cX6_slot 48 = .ok (.ifCond .ge 6, 3) := by decide +kernel
theorem dX6_slot_51 : decode cX6_slot 51 = .ok (.bipush (-2), 2) := by decide +kernel
theorem dX6_slot_53 : decode cX6_slot 53 = .ok (.ireturn, 1) := by decide +kernel
theorem dX6_slot_54 : decode cX6_slot 54 = .ok (.aload_n 0, 1) := by decide +kernel
theorem dX6_slot_55 : decode cX6_slot 55 = .ok (.getfield 53, 3) := by decide +kernel
theorem dX6_slot_58 : decode cX6_slot 58 = .ok (.invokevirtual 154, 3) := by decide +kernel
theorem dX6_slot_61 : decode cX6_slot 61 = .ok (.aload_n 0, 1) := by decide +kernel
theorem dX6_slot_62 : decode cX6_slot 62 = .ok (.getfield 53, 3) := by decide +kernel
theorem dX6_slot_65 : decode cX6_slot 65 = .ok (.aload_n 0, 1) := by decide +kernel
theorem dX6_slot_66 : decode cX6_slot 66 = .ok (.getfield 36, 3) := by decide +kernel
theorem dX6_slot_69 : decode cX6_slot 69 = .ok (.iload_n 2, 1) := by decide +kernel
theorem dX6_slot_70 : decode cX6_slot 70 = .ok (.iconst 1, 1) := by decide +kernel
theorem dX6_slot_71 : decode cX6_slot 71 = .ok (.invokevirtual 157, 3) := by decide +kernel
theorem dX6_slot_74 : decode cX6_slot 74 = .ok (.ifCond .eq 7, 3) := by decide +kernel
theorem dX6_slot_77 : decode cX6_slot 77 = .ok (.lconst 1, 1) := by decide +kernel
theorem dX6_slot_78 : decode cX6_slot 78 = .ok (.goto 4, 3) := by decide +kernel
theorem dX6_slot_81 : decode cX6_slot 81 = .ok (.lconst 0, 1) := by decide +kernel
theorem dX6_slot_82 : decode cX6_slot 82 = .ok (.invokevirtual 161, 3) := by decide +kernel
theorem dX6_slot_85 : decode cX6_slot 85 = .ok (.aload_n 0, 1) := by decide +kernel
theorem dX6_slot_86 : decode cX6_slot 86 = .ok (.getfield 53, 3) := by decide +kernel
theorem dX6_slot_89 : decode cX6_slot 89 = .ok (.aload_n 0, 1) := by decide +kernel
theorem dX6_slot_90 : decode cX6_slot 90 = .ok (.getfield 36, 3) := by decide +kernel
theorem dX6_slot_93 : decode cX6_slot 93 = .ok (.iload_n 2, 1) := by decide +kernel
theorem dX6_slot_94 : decode cX6_slot 94 = .ok (.iconst 2, 1) := by decide +kernel
theorem dX6_slot_95 : decode cX6_slot 95 = .ok (.invokevirtual 157, 3) := by decide +kernel
theorem dX6_slot_98 : decode cX6_slot 98 = .ok (.ifCond .eq 7, 3) := by decide +kernel
theorem dX6_slot_101 : decode cX6_slot 101 = .ok (.lconst 1, 1) := by decide +kernel
theorem dX6_slot_102 : decode cX6_slot 102 = .ok (.goto 4, 3) := by decide +kernel
theorem dX6_slot_105 : decode cX6_slot 105 = .ok (.lconst 0, 1) := by decide +kernel
theorem dX6_slot_106 : decode cX6_slot 106 = .ok (.invokevirtual 161, 3) := by decide +kernel
theorem dX6_slot_109 : decode cX6_slot 109 = .ok (.aload_n 0, 1) := by decide +kernel
theorem dX6_slot_110 : decode cX6_slot 110 = .ok (.getfield 53, 3) := by decide +kernel
theorem dX6_slot_113 : decode cX6_slot 113 = .ok (.aload_n 0, 1) := by decide +kernel
theorem dX6_slot_114 : decode cX6_slot 114 = .ok (.getfield 36, 3) := by decide +kernel
theorem dX6_slot_117 : decode cX6_slot 117 = .ok (.iload_n 2, 1) := by decide +kernel
theorem dX6_slot_118 : decode cX6_slot 118 = .ok (.iconst 4, 1) := by decide +kernel
theorem dX6_slot_119 : decode cX6_slot 119 = .ok (.invokevirtual 157, 3) := by decide +kernel
theorem dX6_slot_122 : decode cX6_slot 122 = .ok (.ifCond .eq 7, 3) := by decide +kernel
theorem dX6_slot_125 : decode cX6_slot 125 = .ok (.lconst 1, 1) := by decide +kernel
theorem dX6_slot_126 : decode cX6_slot 126 = .ok (.goto 4, 3) := by decide +kernel
theorem dX6_slot_129 : decode cX6_slot 129 = .ok (.lconst 0, 1) := by decide +kernel
theorem dX6_slot_130 : decode cX6_slot 130 = .ok (.invokevirtual 161, 3) := by decide +kernel
theorem dX6_slot_133 : decode cX6_slot 133 = .ok (.aload_n 0, 1) := by decide +kernel
theorem dX6_slot_134 : decode cX6_slot 134 = .ok (.getfield 53, 3) := by decide +kernel
theorem dX6_slot_137 : decode cX6_slot 137 = .ok (.aload_n 3, 1) := by decide +kernel
theorem dX6_slot_138 : decode cX6_slot 138 = .ok (.iload 4, 2) := by decide +kernel
theorem dX6_slot_140 : decode cX6_slot 140 = .ok (.invokevirtual 164, 3) := by decide +kernel
theorem dX6_slot_143 : decode cX6_slot 143 = .ok (.i2l, 1) := by decide +kernel
theorem dX6_slot_144 : decode cX6_slot 144 = .ok (.invokevirtual 161, 3) := by decide +kernel
theorem dX6_slot_147 : decode cX6_slot 147 = .ok (.aload_n 0, 1) := by decide +kernel
theorem dX6_slot_148 : decode cX6_slot 148 = .ok (.getfield 36, 3) := by decide +kernel
theorem dX6_slot_151 : decode cX6_slot 151 = .ok (.iload_n 2, 1) := by decide +kernel
theorem dX6_slot_152 : decode cX6_slot 152 = .ok (.invokevirtual 167, 3) := by decide +kernel
theorem dX6_slot_155 : decode cX6_slot 155 = .ok (.iconst 3, 1) := by decide +kernel
theorem dX6_slot_156 : decode cX6_slot 156 = .ok (.ishr, 1) := by decide +kernel
theorem dX6_slot_157 : decode cX6_slot 157 = .ok (.ireturn, 1) := by decide +kernel
theorem dX6_word_0 : decode cX6_word 0 = .ok (.aload_n 0, 1) := by decide +kernel
theorem dX6_word_1 : decode cX6_word 1 = .ok (.iload_n 1, 1) := by decide +kernel
theorem dX6_word_2 : decode cX6_word 2 = .ok (.invokevirtual 75, 3) := by decide +kernel
theorem dX6_word_5 : decode cX6_word 5 = .ok (.astore_n 3, 1) := by decide +kernel
theorem dX6_word_6 : decode cX6_word 6 = .ok (.aload_n 3, 1) := by decide +kernel
theorem dX6_word_7 : decode cX6_word 7 = .ok (.ifnull 12, 3) := by decide +kernel
theorem dX6_word_10 : decode cX6_word 10 = .ok (.aload_n 0, 1) := by decide +kernel
theorem dX6_word_11 : decode cX6_word 11 = .ok (.aload_n 3, 1) := by decide +kernel
theorem dX6_word_12 : decode cX6_word 12 = .ok (.iload_n 2, 1) := by decide +kernel
theorem dX6_word_13 : decode cX6_word 13 = .ok (.invokevirtual 170, 3) := by decide +kernel
theorem dX6_word_16 : decode cX6_word 16 = .ok (.ifCond .ne 13, 3) := by decide +kernel
theorem dX6_word_19 : decode cX6_word 19 = .ok (.new 174, 3) := by decide +kernel
theorem dX6_word_22 : decode cX6_word 22 = .ok (.dup, 1) := by decide +kernel
theorem dX6_word_23 : decode cX6_word 23 = .ok (.ldc 176, 2) := by decide +kernel
theorem dX6_word_25 : decode cX6_word 25 = .ok (.invokespecial 178, 3) := by decide +kernel
theorem dX6_word_28 : decode cX6_word 28 = .ok (.athrow, 1) := by decide +kernel
theorem dX6_word_29 : decode cX6_word 29 = .ok (.aload_n 0, 1) := by decide +kernel
theorem dX6_word_30 : decode cX6_word 30 = .ok (.getfield 36, 3) := by decide +kernel
theorem dX6_word_33 : decode cX6_word 33 = .ok (.aload_n 3, 1) := by decide +kernel
theorem dX6_word_34 : decode cX6_word 34 = .ok (.aload_n 0, 1) := by decide +kernel
theorem dX6_word_35 : decode cX6_word 35 = .ok (.getfield 7, 3) := by decide +kernel
theorem dX6_word_38 : decode cX6_word 38 = .ok (.invokevirtual 98, 3) := by decide +kernel
theorem dX6_word_41 : decode cX6_word 41 = .ok (.aload_n 0, 1) := by decide +kernel
theorem dX6_word_42 : decode cX6_word 42 = .ok (.getfield 36, 3) := by decide +kernel
theorem dX6_word_45 : decode cX6_word 45 = .ok (.iload_n 2, 1) := by decide +kernel
theorem dX6_word_46 : decode cX6_word 46 = .ok (.invokevirtual 181, 3) := by decide +kernel
theorem dX6_word_49 : decode cX6_word 49 = .ok (.lreturn, 1) := by decide +kernel
theorem dX6_lays_0 : decode cX6_lays 0 = .ok (.aload_n 0, 1) := by decide +kernel
theorem dX6_lays_1 : decode cX6_lays 1 = .ok (.iload_n 1, 1) := by decide +kernel
theorem dX6_lays_2 : decode cX6_lays 2 = .ok (.invokevirtual 75, 3) := by decide +kernel
theorem dX6_lays_5 : decode cX6_lays 5 = .ok (.astore_n 2, 1) := by decide +kernel
theorem dX6_lays_6 : decode cX6_lays 6 = .ok (.aload_n 2, 1) := by decide +kernel
theorem dX6_lays_7 : decode cX6_lays 7 = .ok (.ifnonnull 7, 3) := by decide +kernel
theorem dX6_lays_10 : decode cX6_lays 10 = .ok (.iconst (-1), 1) := by decide +kernel
theorem dX6_lays_11 : decode cX6_lays 11 = .ok (.goto 18, 3) := by decide +kernel
theorem dX6_lays_14 : decode cX6_lays 14 = .ok (.aload_n 0, 1) := by decide +kernel
theorem dX6_lays_15 : decode cX6_lays 15 = .ok (.getfield 46, 3) := by decide +kernel
theorem dX6_lays_18 : decode cX6_lays 18 = .ok (.aload_n 0, 1) := by decide +kernel
theorem dX6_lays_19 : decode cX6_lays 19 = .ok (.getfield 60, 3) := by decide +kernel
theorem dX6_lays_22 : decode cX6_lays 22 = .ok (.aload_n 0, 1) := by decide +kernel
theorem dX6_lays_23 : decode cX6_lays 23 = .ok (.getfield 7, 3) := by decide +kernel
theorem dX6_lays_26 : decode cX6_lays 26 = .ok (.invokevirtual 185, 3) := by decide +kernel
theorem dX6_lays_29 : decode cX6_lays 29 = .ok (.istore_n 3, 1) := by decide +kernel
theorem dX6_lays_30 : decode cX6_lays 30 = .ok (.aload_n 0, 1) := by decide +kernel
theorem dX6_lays_31 : decode cX6_lays 31 = .ok (.getfield 60, 3) := by decide +kernel
theorem dX6_lays_34 : decode cX6_lays 34 = .ok (.iconst 0, 1) := by decide +kernel
theorem dX6_lays_35 : decode cX6_lays 35 = .ok (.invokevirtual 129, 3) := by decide +kernel
theorem dX6_lays_38 : decode cX6_lays 38 = .ok (.pop, 1) := by decide +kernel
theorem dX6_lays_39 : decode cX6_lays 39 = .ok (.aload_n 2, 1) := by decide +kernel
theorem dX6_lays_40 : decode cX6_lays 40 = .ok (.ifnull 7, 3) := by decide +kernel
theorem dX6_lays_43 : decode cX6_lays 43 = .ok (.iload_n 3, 1) := by decide +kernel
theorem dX6_lays_44 : decode cX6_lays 44 = .ok (.ifCond .ge 5, 3) := by decide +kernel
theorem dX6_lays_47 : decode cX6_lays 47 = .ok (.iload_n 3, 1) := by decide +kernel
theorem dX6_lays_48 : decode cX6_lays 48 = .ok (.ireturn, 1) := by decide +kernel
theorem dX6_lays_49 : decode cX6_lays 49 = .ok (.aload_n 0, 1) := by decide +kernel
theorem dX6_lays_50 : decode cX6_lays 50 = .ok (.aload_n 2, 1) := by decide +kernel
theorem dX6_lays_51 : decode cX6_lays 51 = .ok (.invokevirtual 189, 3) := by decide +kernel
theorem dX6_lays_54 : decode cX6_lays 54 = .ok (.ireturn, 1) := by decide +kernel
theorem dX6_sets_0 : decode cX6_sets 0 = .ok (.aload_n 0, 1) := by decide +kernel
theorem dX6_sets_1 : decode cX6_sets 1 = .ok (.iload_n 1, 1) := by decide +kernel
theorem dX6_sets_2 : decode cX6_sets 2 = .ok (.invokevirtual 75, 3) := by decide +kernel
theorem dX6_sets_5 : decode cX6_sets 5 = .ok (.astore 5, 2) := by decide +kernel
theorem dX6_sets_7 : decode cX6_sets 7 = .ok (.aload 5, 2) := by decide +kernel
theorem dX6_sets_9 : decode cX6_sets 9 = .ok (.ifnull 13, 3) := by decide +kernel
theorem dX6_sets_12 : decode cX6_sets 12 = .ok (.aload_n 0, 1) := by decide +kernel
theorem dX6_sets_13 : decode cX6_sets 13 = .ok (.aload 5, 2) := by decide +kernel
theorem dX6_sets_15 : decode cX6_sets 15 = .ok (.iload_n 2, 1) := by decide +kernel
theorem dX6_sets_16 : decode cX6_sets 16 = .ok (.invokevirtual 170, 3) := by decide +kernel
theorem dX6_sets_19 : decode cX6_sets 19 = .ok (.ifCond .ne 5, 3) := by decide +kernel
theorem dX6_sets_22 : decode cX6_sets 22 = .ok (.iconst (-1), 1) := by decide +kernel
theorem dX6_sets_23 : decode cX6_sets 23 = .ok (.ireturn, 1) := by decide +kernel
theorem dX6_sets_24 : decode cX6_sets 24 = .ok (.iload_n 3, 1) := by decide +kernel
theorem dX6_sets_25 : decode cX6_sets 25 = .ok (.i2l, 1) := by decide +kernel
theorem dX6_sets_26 : decode cX6_sets 26 = .ok (.bipush 32, 2) := by decide +kernel
theorem dX6_sets_28 : decode cX6_sets 28 = .ok (.lshl, 1) := by decide +kernel
theorem dX6_sets_29 : decode cX6_sets 29 = .ok (.iload 4, 2) := by decide +kernel
theorem dX6_sets_31 : decode cX6_sets 31 = .ok (.i2l, 1) := by decide +kernel
theorem dX6_sets_32 : decode cX6_sets 32 = .ok (.ldc2_w 192, 3) := by decide +kernel
theorem dX6_sets_35 : decode cX6_sets 35 = .ok (.land, 1) := by decide +kernel
theorem dX6_sets_36 : decode cX6_sets 36 = .ok (.lor, 1) := by decide +kernel
theorem dX6_sets_37 : decode cX6_sets 37 = .ok (.lstore 6, 2) := by decide +kernel
theorem dX6_sets_39 : decode cX6_sets 39 = .ok (.aload_n 0, 1) := by decide +kernel
theorem dX6_sets_40 : decode cX6_sets 40 = .ok (.getfield 36, 3) := by decide +kernel
theorem dX6_sets_43 : decode cX6_sets 43 = .ok (.aload 5, 2) := by decide +kernel
theorem dX6_sets_45 : decode cX6_sets 45 = .ok (.aload_n 0, 1) := by decide +kernel
theorem dX6_sets_46 : decode cX6_sets 46 = .ok (.getfield 7, 3) := by decide +kernel
theorem dX6_sets_49 : decode cX6_sets 49 = .ok (.invokevirtual 98, 3) := by decide +kernel
theorem dX6_sets_52 : decode cX6_sets 52 = .ok (.lload 6, 2) := by decide +kernel
theorem dX6_sets_54 : decode cX6_sets 54 = .ok (.aload_n 0, 1) := by decide +kernel
theorem dX6_sets_55 : decode cX6_sets 55 = .ok (.getfield 36, 3) := by decide +kernel
theorem dX6_sets_58 : decode cX6_sets 58 = .ok (.iload_n 2, 1) := by decide +kernel
theorem dX6_sets_59 : decode cX6_sets 59 = .ok (.invokevirtual 181, 3) := by decide +kernel
theorem dX6_sets_62 : decode cX6_sets 62 = .ok (.lcmp, 1) := by decide +kernel
theorem dX6_sets_63 : decode cX6_sets 63 = .ok (.ifCond .ne 6, 3) := by decide +kernel
theorem dX6_sets_66 : decode cX6_sets 66 = .ok (.bipush (-2), 2) := by decide +kernel
theorem dX6_sets_68 : decode cX6_sets 68 = .ok (.ireturn, 1) := by decide +kernel
theorem dX6_sets_69 : decode cX6_sets 69 = .ok (.aload_n 0, 1) := by decide +kernel
theorem dX6_sets_70 : decode cX6_sets 70 = .ok (.getfield 46, 3) := by decide +kernel
theorem dX6_sets_73 : decode cX6_sets 73 = .ok (.aload_n 0, 1) := by decide +kernel
theorem dX6_sets_74 : decode cX6_sets 74 = .ok (.getfield 36, 3) := by decide +kernel
theorem dX6_sets_77 : decode cX6_sets 77 = .ok (.iload_n 2, 1) := by decide +kernel
theorem dX6_sets_78 : decode cX6_sets 78 = .ok (.lload 6, 2) := by decide +kernel
theorem dX6_sets_80 : decode cX6_sets 80 = .ok (.invokevirtual 194, 3) := by decide +kernel
theorem dX6_sets_83 : decode cX6_sets 83 = .ok (.ifCond .ne 7, 3) := by decide +kernel
theorem dX6_sets_86 : decode cX6_sets 86 = .ok (.sipush (-300), 3) := by decide +kernel
theorem dX6_sets_89 : decode cX6_sets 89 = .ok (.ireturn, 1) := by decide +kernel
theorem dX6_sets_90 : decode cX6_sets 90 = .ok (.aload_n 0, 1) := by decide +kernel
theorem dX6_sets_91 : decode cX6_sets 91 = .ok (.aload 5, 2) := by decide +kernel
theorem dX6_sets_93 : decode cX6_sets 93 = .ok (.invokevirtual 189, 3) := by decide +kernel
theorem dX6_sets_96 : decode cX6_sets 96 = .ok (.ireturn, 1) := by decide +kernel
theorem dX6_run_0 : decode cX6_run 0 = .ok (.aload_n 0, 1) := by decide +kernel
theorem dX6_run_1 : decode cX6_run 1 = .ok (.iload_n 1, 1) := by decide +kernel
theorem dX6_run_2 : decode cX6_run 2 = .ok (.invokevirtual 75, 3) := by decide +kernel
theorem dX6_run_5 : decode cX6_run 5 = .ok (.astore_n 3, 1) := by decide +kernel
theorem dX6_run_6 : decode cX6_run 6 = .ok (.aload_n 3, 1) := by decide +kernel
theorem dX6_run_7 : decode cX6_run 7 = .ok (.ifnull 15, 3) := by decide +kernel
theorem dX6_run_10 : decode cX6_run 10 = .ok (.iload_n 2, 1) := by decide +kernel
theorem dX6_run_11 : decode cX6_run 11 = .ok (.ifCond .lt 11, 3) := by decide +kernel
theorem dX6_run_14 : decode cX6_run 14 = .ok (.iload_n 2, 1) := by decide +kernel
theorem dX6_run_15 : decode cX6_run 15 = .ok (.aload_n 3, 1) := by decide +kernel
theorem dX6_run_16 : decode cX6_run 16 = .ok (.invokevirtual 108, 3) := by decide +kernel
theorem dX6_run_19 : decode cX6_run 19 = .ok (.if_icmp .lt 5, 3) := by decide +kernel
theorem dX6_run_22 : decode cX6_run 22 = .ok (.iconst (-1), 1) := by decide +kernel
theorem dX6_run_23 : decode cX6_run 23 = .ok (.ireturn, 1) := by decide +kernel
theorem dX6_run_24 : decode cX6_run 24 = .ok (.aload_n 0, 1) := by decide +kernel
theorem dX6_run_25 : decode cX6_run 25 = .ok (.getfield 7, 3) := by decide +kernel
theorem dX6_run_28 : decode cX6_run 28 = .ok (.aload_n 3, 1) := by decide +kernel
theorem dX6_run_29 : decode cX6_run 29 = .ok (.getfield 87, 3) := by decide +kernel
theorem dX6_run_32 : decode cX6_run 32 = .ok (.isub, 1) := by decide +kernel
theorem dX6_run_33 : decode cX6_run 33 = .ok (.istore 4, 2) := by decide +kernel
theorem dX6_run_35 : decode cX6_run 35 = .ok (.aload_n 3, 1) := by decide +kernel
theorem dX6_run_36 : decode cX6_run 36 = .ok (.iload_n 2, 1) := by decide +kernel
theorem dX6_run_37 : decode cX6_run 37 = .ok (.iload 4, 2) := by decide +kernel
theorem dX6_run_39 : decode cX6_run 39 = .ok (.ishl, 1) := by decide +kernel
theorem dX6_run_40 : decode cX6_run 40 = .ok (.invokevirtual 198, 3) := by decide +kernel
theorem dX6_run_43 : decode cX6_run 43 = .ok (.istore 5, 2) := by decide +kernel
theorem dX6_run_45 : decode cX6_run 45 = .ok (.aload_n 3, 1) := by decide +kernel
theorem dX6_run_46 : decode cX6_run 46 = .ok (.iload_n 2, 1) := by decide +kernel
theorem dX6_run_47 : decode cX6_run 47 = .ok (.iconst 1, 1) := by decide +kernel
theorem dX6_run_48 : decode cX6_run 48 = .ok (.iadd, 1) := by decide +kernel
theorem dX6_run_49 : decode cX6_run 49 = .ok (.iload 4, 2) := by decide +kernel
theorem dX6_run_51 : decode cX6_run 51 = .ok (.ishl, 1) := by decide +kernel
theorem dX6_run_52 : decode cX6_run 52 = .ok (.invokevirtual 198, 3) := by decide +kernel
theorem dX6_run_55 : decode cX6_run 55 = .ok (.istore 6, 2) := by decide +kernel
theorem dX6_run_57 : decode cX6_run 57 = .ok (.iload 5, 2) := by decide +kernel
theorem dX6_run_59 : decode cX6_run 59 = .ok (.iload 6, 2) := by decide +kernel
theorem dX6_run_61 : decode cX6_run 61 = .ok (.if_icmp .ne 6, 3) := by decide +kernel
theorem dX6_run_64 : decode cX6_run 64 = .ok (.bipush (-2), 2) := by decide +kernel
theorem dX6_run_66 : decode cX6_run 66 = .ok (.ireturn, 1) := by decide +kernel
theorem dX6_run_67 : decode cX6_run 67 = .ok (.aload_n 0, 1) := by decide +kernel
theorem dX6_run_68 : decode cX6_run 68 = .ok (.getfield 36, 3) := by decide +kernel
theorem dX6_run_71 : decode cX6_run 71 = .ok (.aload_n 3, 1) := by decide +kernel
theorem dX6_run_72 : decode cX6_run 72 = .ok (.aload_n 0, 1) := by decide +kernel
theorem dX6_run_73 : decode cX6_run 73 = .ok (.getfield 7, 3) := by decide +kernel
theorem dX6_run_76 : decode cX6_run 76 = .ok (.invokevirtual 98, 3) := by decide +kernel
theorem dX6_run_79 : decode cX6_run 79 = .ok (.aload_n 0, 1) := by decide +kernel
theorem dX6_run_80 : decode cX6_run 80 = .ok (.getfield 53, 3) := by decide +kernel
theorem dX6_run_83 : decode cX6_run 83 = .ok (.aload_n 0, 1) := by decide +kernel
theorem dX6_run_84 : decode cX6_run 84 = .ok (.getfield 36, 3) := by decide +kernel
theorem dX6_run_87 : decode cX6_run 87 = .ok (.iload 5, 2) := by decide +kernel
theorem dX6_run_89 : decode cX6_run 89 = .ok (.invokevirtual 102, 3) := by decide +kernel
theorem dX6_run_92 : decode cX6_run 92 = .ok (.i2l, 1) := by decide +kernel
theorem dX6_run_93 : decode cX6_run 93 = .ok (.invokevirtual 115, 3) := by decide +kernel
theorem dX6_run_96 : decode cX6_run 96 = .ok (.iload 5, 2) := by decide +kernel
theorem dX6_run_98 : decode cX6_run 98 = .ok (.istore 7, 2) := by decide +kernel
theorem dX6_run_100 : decode cX6_run 100 = .ok (.iload 7, 2) := by decide +kernel
theorem dX6_run_102 : decode cX6_run 102 = .ok (.iload 6, 2) := by decide +kernel
theorem dX6_run_104 : decode cX6_run 104 = .ok (.if_icmp .ge 30, 3) := by decide +kernel
theorem dX6_run_107 : decode cX6_run 107 = .ok (.aload_n 0, 1) := by decide +kernel
theorem dX6_run_108 : decode cX6_run 108 = .ok (.getfield 53, 3) := by decide +kernel
theorem dX6_run_111 : decode cX6_run 111 = .ok (.aload_n 3, 1) := by decide +kernel
theorem dX6_run_112 : decode cX6_run 112 = .ok (.iload 7, 2) := by decide +kernel
theorem dX6_run_114 : decode cX6_run 114 = .ok (.invokevirtual 164, 3) := by decide +kernel
theorem dX6_run_117 : decode cX6_run 117 = .ok (.iconst 1, 1) := by decide +kernel
theorem dX6_run_118 : decode cX6_run 118 = .ok (.iload 4, 2) := by decide +kernel
theorem dX6_run_120 : decode cX6_run 120 = .ok (.ishl, 1) := by decide +kernel
theorem dX6_run_121 : decode cX6_run 121 = .ok (.iconst 1, 1) := by decide +kernel
theorem dX6_run_122 : decode cX6_run 122 = .ok (.isub, 1) := by decide +kernel
theorem dX6_run_123 : decode cX6_run 123 = .ok (.iand, 1) := by decide +kernel
theorem dX6_run_124 : decode cX6_run 124 = .ok (.i2l, 1) := by decide +kernel
theorem dX6_run_125 : decode cX6_run 125 = .ok (.invokevirtual 161, 3) := by decide +kernel
theorem dX6_run_128 : decode cX6_run 128 = .ok (.iinc 7 1, 3) := by decide +kernel
theorem dX6_run_131 : decode cX6_run 131 = .ok (.goto (-31), 3) := by decide +kernel
theorem dX6_run_134 : decode cX6_run 134 = .ok (.iload 6, 2) := by decide +kernel
theorem dX6_run_136 : decode cX6_run 136 = .ok (.iload 5, 2) := by decide +kernel
theorem dX6_run_138 : decode cX6_run 138 = .ok (.isub, 1) := by decide +kernel
theorem dX6_run_139 : decode cX6_run 139 = .ok (.ireturn, 1) := by decide +kernel
theorem dX6_cluster_0 : decode cX6_cluster 0 = .ok (.aload_n 0, 1) := by decide +kernel
theorem dX6_cluster_1 : decode cX6_cluster 1 = .ok (.iload_n 1, 1) := by decide +kernel
theorem dX6_cluster_2 : decode cX6_cluster 2 = .ok (.invokevirtual 75, 3) := by decide +kernel
theorem dX6_cluster_5 : decode cX6_cluster 5 = .ok (.astore_n 3, 1) := by decide +kernel
theorem dX6_cluster_6 : decode cX6_cluster 6 = .ok (.aload_n 3, 1) := by decide +kernel
theorem dX6_cluster_7 : decode cX6_cluster 7 = .ok (.ifnull 15, 3) := by decide +kernel
theorem dX6_cluster_10 : decode cX6_cluster 10 = .ok (.iload_n 2, 1) := by decide +kernel
theorem dX6_cluster_11 : decode cX6_cluster 11 = .ok (.ifCond .lt 11, 3) := by decide +kernel
theorem dX6_cluster_14 : decode cX6_cluster 14 = .ok (.iload_n 2, 1) := by decide +kernel
theorem dX6_cluster_15 : decode cX6_cluster 15 = .ok (.aload_n 3, 1) := by decide +kernel
theorem dX6_cluster_16 : decode cX6_cluster 16 = .ok (.invokevirtual 108, 3) := by decide +kernel
theorem dX6_cluster_19 : decode cX6_cluster 19 = .ok (.if_icmp .lt 5, 3) := by decide +kernel
theorem dX6_cluster_22 : decode cX6_cluster 22 = .ok (.iconst (-1), 1) := by decide +kernel
theorem dX6_cluster_23 : decode cX6_cluster 23 = .ok (.ireturn, 1) := by decide +kernel
theorem dX6_cluster_24 : decode cX6_cluster 24 = .ok (.aload_n 0, 1) := by decide +kernel
theorem dX6_cluster_25 : decode cX6_cluster 25 = .ok (.getfield 36, 3) := by decide +kernel
theorem dX6_cluster_28 : decode cX6_cluster 28 = .ok (.aload_n 3, 1) := by decide +kernel
theorem dX6_cluster_29 : decode cX6_cluster 29 = .ok (.aload_n 0, 1) := by decide +kernel
theorem dX6_cluster_30 : decode cX6_cluster 30 = .ok (.getfield 7, 3) := by decide +kernel
theorem dX6_cluster_33 : decode cX6_cluster 33 = .ok (.invokevirtual 98, 3) := by decide +kernel
theorem dX6_cluster_36 : decode cX6_cluster 36 = .ok (.aload_n 0, 1) := by decide +kernel
theorem dX6_cluster_37 : decode cX6_cluster 37 = .ok (.getfield 36, 3) := by decide +kernel
theorem dX6_cluster_40 : decode cX6_cluster 40 = .ok (.iload_n 2, 1) := by decide +kernel
theorem dX6_cluster_41 : decode cX6_cluster 41 = .ok (.invokevirtual 151, 3) := by decide +kernel
theorem dX6_cluster_44 : decode cX6_cluster 44 = .ok (.ifCond .ge 6, 3) := by decide +kernel
theorem dX6_cluster_47 : decode cX6_cluster 47 = .ok (.bipush (-2), 2) := by decide +kernel
theorem dX6_cluster_49 : decode cX6_cluster 49 = .ok (.ireturn, 1) := by decide +kernel
theorem dX6_cluster_50 : decode cX6_cluster 50 = .ok (.aload_n 0, 1) := by decide +kernel
theorem dX6_cluster_51 : decode cX6_cluster 51 = .ok (.getfield 36, 3) := by decide +kernel
theorem dX6_cluster_54 : decode cX6_cluster 54 = .ok (.iload_n 2, 1) := by decide +kernel
theorem dX6_cluster_55 : decode cX6_cluster 55 = .ok (.invokevirtual 201, 3) := by decide +kernel
theorem dX6_cluster_58 : decode cX6_cluster 58 = .ok (.istore 4, 2) := by decide +kernel
theorem dX6_cluster_60 : decode cX6_cluster 60 = .ok (.aload_n 0, 1) := by decide +kernel
theorem dX6_cluster_61 : decode cX6_cluster 61 = .ok (.getfield 36, 3) := by decide +kernel
theorem dX6_cluster_64 : decode cX6_cluster 64 = .ok (.iload 4, 2) := by decide +kernel
theorem dX6_cluster_66 : decode cX6_cluster 66 = .ok (.invokevirtual 204, 3) := by decide +kernel
theorem dX6_cluster_69 : decode cX6_cluster 69 = .ok (.istore 5, 2) := by decide +kernel
theorem dX6_cluster_71 : decode cX6_cluster 71 = .ok (.aload_n 0, 1) := by decide +kernel
theorem dX6_cluster_72 : decode cX6_cluster 72 = .ok (.getfield 53, 3) := by decide +kernel
theorem dX6_cluster_75 : decode cX6_cluster 75 = .ok (.iload 4, 2) := by decide +kernel
theorem dX6_cluster_77 : decode cX6_cluster 77 = .ok (.i2l, 1) := by decide +kernel
theorem dX6_cluster_78 : decode cX6_cluster 78 = .ok (.aload_n 0, 1) := by decide +kernel
theorem dX6_cluster_79 : decode cX6_cluster 79 = .ok (.getfield 36, 3) := by decide +kernel
theorem dX6_cluster_82 : decode cX6_cluster 82 = .ok (.iload 4, 2) := by decide +kernel
theorem dX6_cluster_84 : decode cX6_cluster 84 = .ok (.iload 5, 2) := by decide +kernel
theorem dX6_cluster_86 : decode cX6_cluster 86 = .ok (.invokevirtual 207, 3) := by decide +kernel
theorem dX6_cluster_89 : decode cX6_cluster 89 = .ok (.i2l, 1) := by decide +kernel
theorem dX6_cluster_90 : decode cX6_cluster 90 = .ok (.invokevirtual 90, 3) := by decide +kernel
theorem dX6_cluster_93 : decode cX6_cluster 93 = .ok (.iload 5, 2) := by decide +kernel
theorem dX6_cluster_95 : decode cX6_cluster 95 = .ok (.ireturn, 1) := by decide +kernel
theorem dX6_clusters_0 : decode cX6_clusters 0 = .ok (.aload_n 0, 1) := by decide +kernel
theorem dX6_clusters_1 : decode cX6_clusters 1 = .ok (.iload_n 1, 1) := by decide +kernel
theorem dX6_clusters_2 : decode cX6_clusters 2 = .ok (.invokevirtual 75, 3) := by decide +kernel
theorem dX6_clusters_5 : decode cX6_clusters 5 = .ok (.astore_n 2, 1) := by decide +kernel
theorem dX6_clusters_6 : decode cX6_clusters 6 = .ok (.aload_n 2, 1) := by decide +kernel
theorem dX6_clusters_7 : decode cX6_clusters 7 = .ok (.ifnonnull 5, 3) := by decide +kernel
theorem dX6_clusters_10 : decode cX6_clusters 10 = .ok (.iconst (-1), 1) := by decide +kernel
theorem dX6_clusters_11 : decode cX6_clusters 11 = .ok (.ireturn, 1) := by decide +kernel
theorem dX6_clusters_12 : decode cX6_clusters 12 = .ok (.aload_n 0, 1) := by decide +kernel
theorem dX6_clusters_13 : decode cX6_clusters 13 = .ok (.getfield 36, 3) := by decide +kernel
theorem dX6_clusters_16 : decode cX6_clusters 16 = .ok (.aload_n 2, 1) := by decide +kernel
theorem dX6_clusters_17 : decode cX6_clusters 17 = .ok (.aload_n 0, 1) := by decide +kernel
theorem dX6_clusters_18 : decode cX6_clusters 18 = .ok (.getfield 7, 3) := by decide +kernel
theorem dX6_clusters_21 : decode cX6_clusters 21 = .ok (.invokevirtual 98, 3) := by decide +kernel
theorem dX6_clusters_24 : decode cX6_clusters 24 = .ok (.iconst 0, 1) := by decide +kernel
theorem dX6_clusters_25 : decode cX6_clusters 25 = .ok (.istore_n 3, 1) := by decide +kernel
theorem dX6_clusters_26 : decode cX6_clusters 26 = .ok (.iconst 0, 1) := by decide +kernel
theorem dX6_clusters_27 : decode cX6_clusters 27 = .ok (.istore 4, 2) := by decide +kernel
theorem dX6_clusters_29 : decode cX6_clusters 29 = .ok (.iconst (-1), 1) := by decide +kernel
theorem dX6_clusters_30 : decode cX6_clusters 30 = .ok (.istore 5, 2) := by decide +kernel
theorem dX6_clusters_32 : decode cX6_clusters 32 = .ok (.iconst 0, 1) := by decide +kernel
theorem dX6_clusters_33 : decode cX6_clusters 33 = .ok (.istore 6, 2) := by decide +kernel
theorem dX6_clusters_35 : decode cX6_clusters 35 = .ok (.iload 6, 2) := by decide +kernel
theorem dX6_clusters_37 : decode cX6_clusters 37 = .ok (.aload_n 0, 1) := by decide +kernel
theorem dX6_clusters_38 : decode cX6_clusters 38 = .ok (.getfield 36, 3) := by decide +kernel
theorem dX6_clusters_41 : decode cX6_clusters 41 = .ok (.getfield 211, 3) := by decide +kernel
theorem dX6_clusters_44 : decode cX6_clusters 44 = .ok (.if_icmp .ge 60, 3) := by decide +kernel
theorem dX6_clusters_47 : decode cX6_clusters 47 = .ok (.aload_n 0, 1) := by decide +kernel
theorem dX6_clusters_48 : decode cX6_clusters 48 = .ok (.getfield 36, 3) := by decide +kernel
theorem dX6_clusters_51 : decode cX6_clusters 51 = .ok (.iload 6, 2) := by decide +kernel
theorem dX6_clusters_53 : decode cX6_clusters 53 = .ok (.invokevirtual 214, 3) := by decide +kernel
theorem dX6_clusters_56 : decode cX6_clusters 56 = .ok (.ifCond .eq 42, 3) := by decide +kernel
theorem dX6_clusters_59 : decode cX6_clusters 59 = .ok (.iinc 3 1, 3) := by decide +kernel
theorem dX6_clusters_62 : decode cX6_clusters 62 = .ok (.aload_n 0, 1) := by decide +kernel
theorem dX6_clusters_63 : decode cX6_clusters 63 = .ok (.getfield 36, 3) := by decide +kernel
theorem dX6_clusters_66 : decode cX6_clusters 66 = .ok (.iload 6, 2) := by decide +kernel
theorem dX6_clusters_68 : decode cX6_clusters 68 = .ok (.invokevirtual 204, 3) := by decide +kernel
theorem dX6_clusters_71 : decode cX6_clusters 71 = .ok (.istore 7, 2) := by decide +kernel
theorem dX6_clusters_73 : decode cX6_clusters 73 = .ok (.iload 7, 2) := by decide +kernel
theorem dX6_clusters_75 : decode cX6_clusters 75 = .ok (.iload 4, 2) := by decide +kernel
theorem dX6_clusters_77 : decode cX6_clusters 77 = .ok (.if_icmp .le 8, 3) := by decide +kernel
theorem dX6_clusters_80 : decode cX6_clusters 80 = .ok (.iload 6, 2) := by decide +kernel
theorem dX6_clusters_82 : decode cX6_clusters 82 = .ok (.goto 5, 3) := by decide +kernel
theorem dX6_clusters_85 : decode cX6_clusters 85 = .ok (.iload 5, 2) := by decide +kernel
theorem dX6_clusters_87 : decode cX6_clusters 87 = .ok (.istore 5, 2) := by decide +kernel
theorem dX6_clusters_89 : decode cX6_clusters 89 = .ok (.iload 4, 2) := by decide +kernel
theorem dX6_clusters_91 : decode cX6_clusters 91 = .ok (.iload 7, 2) := by decide +kernel
theorem dX6_clusters_93 : decode cX6_clusters 93 = .ok (.invokestatic 217, 3) := by decide +kernel
theorem dX6_clusters_96 : decode cX6_clusters 96 = .ok (.istore 4, 2) := by decide +kernel
theorem dX6_clusters_98 : decode cX6_clusters 98 = .ok (.iinc 6 1, 3) := by decide +kernel
theorem dX6_clusters_101 : decode cX6_clusters 101 = .ok (.goto (-66), 3) := by decide +kernel
theorem dX6_clusters_104 : decode cX6_clusters 104 = .ok (.aload_n 0, 1) := by decide +kernel
theorem dX6_clusters_105 : decode cX6_clusters 105 = .ok (.getfield 53, 3) := by decide +kernel
theorem dX6_clusters_108 : decode cX6_clusters 108 = .ok (.iload 4, 2) := by decide +kernel
theorem dX6_clusters_110 : decode cX6_clusters 110 = .ok (.i2l, 1) := by decide +kernel
theorem dX6_clusters_111 : decode cX6_clusters 111 = .ok (.iload 5, 2) := by decide +kernel
theorem dX6_clusters_113 : decode cX6_clusters 113 = .ok (.i2l, 1) := by decide +kernel
theorem dX6_clusters_114 : decode cX6_clusters 114 = .ok (.invokevirtual 90, 3) := by decide +kernel
theorem dX6_clusters_117 : decode cX6_clusters 117 = .ok (.iload_n 3, 1) := by decide +kernel
theorem dX6_clusters_118 : decode cX6_clusters 118 = .ok (.ireturn, 1) := by decide +kernel
theorem dX6_would_0 : decode cX6_would 0 = .ok (.aload_n 0, 1) := by decide +kernel
theorem dX6_would_1 : decode cX6_would 1 = .ok (.iload_n 1, 1) := by decide +kernel
theorem dX6_would_2 : decode cX6_would 2 = .ok (.invokevirtual 75, 3) := by decide +kernel
theorem dX6_would_5 : decode cX6_would 5 = .ok (.astore_n 3, 1) := by decide +kernel
theorem dX6_would_6 : decode cX6_would 6 = .ok (.aload_n 3, 1) := by decide +kernel
theorem dX6_would_7 : decode cX6_would 7 = .ok (.ifnull 10, 3) := by decide +kernel
theorem dX6_would_10 : decode cX6_would 10 = .ok (.iload_n 2, 1) := by decide +kernel
theorem dX6_would_11 : decode cX6_would 11 = .ok (.invokestatic 79, 3) := by decide +kernel
theorem dX6_would_14 : decode cX6_would 14 = .ok (.ifCond .ne 5, 3) := by decide +kernel
theorem dX6_would_17 : decode cX6_would 17 = .ok (.iconst (-1), 1) := by decide +kernel
theorem dX6_would_18 : decode cX6_would 18 = .ok (.ireturn, 1) := by decide +kernel
theorem dX6_would_19 : decode cX6_would 19 = .ok (.aload_n 0, 1) := by decide +kernel
theorem dX6_would_20 : decode cX6_would 20 = .ok (.aload_n 3, 1) := by decide +kernel
theorem dX6_would_21 : decode cX6_would 21 = .ok (.invokevirtual 222, 3) := by decide +kernel
theorem dX6_would_24 : decode cX6_would 24 = .ok (.ifCond .eq 6, 3) := by decide +kernel
theorem dX6_would_27 : decode cX6_would 27 = .ok (.bipush (-3), 2) := by decide +kernel
theorem dX6_would_29 : decode cX6_would 29 = .ok (.ireturn, 1) := by decide +kernel
theorem dX6_would_30 : decode cX6_would 30 = .ok (.aload_n 3, 1) := by decide +kernel
theorem dX6_would_31 : decode cX6_would 31 = .ok (.invokevirtual 226, 3) := by decide +kernel
theorem dX6_would_34 : decode cX6_would 34 = .ok (.ifCond .eq 6, 3) := by decide +kernel
theorem dX6_would_37 : decode cX6_would 37 = .ok (.bipush (-5), 2) := by decide +kernel
theorem dX6_would_39 : decode cX6_would 39 = .ok (.ireturn, 1) := by decide +kernel
theorem dX6_would_40 : decode cX6_would 40 = .ok (.aload_n 0, 1) := by decide +kernel
theorem dX6_would_41 : decode cX6_would 41 = .ok (.getfield 30, 3) := by decide +kernel
theorem dX6_would_44 : decode cX6_would 44 = .ok (.aload_n 3, 1) := by decide +kernel
theorem dX6_would_45 : decode cX6_would 45 = .ok (.invokevirtual 230, 3) := by decide +kernel
theorem dX6_would_48 : decode cX6_would 48 = .ok (.aload_n 0, 1) := by decide +kernel
theorem dX6_would_49 : decode cX6_would 49 = .ok (.getfield 30, 3) := by decide +kernel
theorem dX6_would_52 : decode cX6_would 52 = .ok (.aload_n 0, 1) := by decide +kernel
theorem dX6_would_53 : decode cX6_would 53 = .ok (.iload_n 2, 1) := by decide +kernel
theorem dX6_would_54 : decode cX6_would 54 = .ok (.invokevirtual 83, 3) := by decide +kernel
theorem dX6_would_57 : decode cX6_would 57 = .ok (.invokevirtual 234, 3) := by decide +kernel
theorem dX6_would_60 : decode cX6_would 60 = .ok (.istore 4, 2) := by decide +kernel
theorem dX6_would_62 : decode cX6_would 62 = .ok (.aload_n 0, 1) := by decide +kernel
theorem dX6_would_63 : decode cX6_would 63 = .ok (.getfield 36, 3) := by decide +kernel
theorem dX6_would_66 : decode cX6_would 66 = .ok (.aload_n 3, 1) := by decide +kernel
theorem dX6_would_67 : decode cX6_would 67 = .ok (.aload_n 0, 1) := by decide +kernel
theorem dX6_would_68 : decode cX6_would 68 = .ok (.getfield 7, 3) := by decide +kernel
theorem dX6_would_71 : decode cX6_would 71 = .ok (.invokevirtual 98, 3) := by decide +kernel
theorem dX6_would_74 : decode cX6_would 74 = .ok (.aload_n 0, 1) := by decide +kernel
theorem dX6_would_75 : decode cX6_would 75 = .ok (.getfield 40, 3) := by decide +kernel
theorem dX6_would_78 : decode cX6_would 78 = .ok (.aload_n 0, 1) := by decide +kernel
theorem dX6_would_79 : decode cX6_would 79 = .ok (.getfield 30, 3) := by decide +kernel
theorem dX6_would_82 : decode cX6_would 82 = .ok (.aload_n 0, 1) := by decide +kernel
theorem dX6_would_83 : decode cX6_would 83 = .ok (.getfield 7, 3) := by decide +kernel
theorem dX6_would_86 : decode cX6_would 86 = .ok (.invokevirtual 98, 3) := by decide +kernel
theorem dX6_would_89 : decode cX6_would 89 = .ok (.iconst 0, 1) := by decide +kernel
theorem dX6_would_90 : decode cX6_would 90 = .ok (.istore 5, 2) := by decide +kernel
theorem dX6_would_92 : decode cX6_would 92 = .ok (.iconst 0, 1) := by decide +kernel
theorem dX6_would_93 : decode cX6_would 93 = .ok (.istore 6, 2) := by decide +kernel
theorem dX6_would_95 : decode cX6_would 95 = .ok (.iload 6, 2) := by decide +kernel
theorem dX6_would_97 : decode cX6_would 97 = .ok (.aload_n 3, 1) := by decide +kernel
theorem dX6_would_98 : decode cX6_would 98 = .ok (.getfield 105, 3) := by decide +kernel
theorem dX6_would_101 : decode cX6_would 101 = .ok (.if_icmp .ge 51, 3) := by decide +kernel
theorem dX6_would_104 : decode cX6_would 104 = .ok (.iload 6, 2) := by decide +kernel
theorem dX6_would_106 : decode cX6_would 106 = .ok (.iload 4, 2) := by decide +kernel
theorem dX6_would_108 : decode cX6_would 108 = .ok (.if_icmp .ge 8, 3) := by decide +kernel
theorem dX6_would_111 : decode cX6_would 111 = .ok (.iload 6, 2) := by decide +kernel
theorem dX6_would_113 : decode cX6_would 113 = .ok (.goto 7, 3) := by decide +kernel
theorem dX6_would_116 : decode cX6_would 116 = .ok (.iload 6, 2) := by decide +kernel
theorem dX6_would_118 : decode cX6_would 118 = .ok (.iconst 1, 1) := by decide +kernel
theorem dX6_would_119 : decode cX6_would 119 = .ok (.iadd, 1) := by decide +kernel
theorem dX6_would_120 : decode cX6_would 120 = .ok (.istore 7, 2) := by decide +kernel
theorem dX6_would_122 : decode cX6_would 122 = .ok (.aload_n 0, 1) := by decide +kernel
theorem dX6_would_123 : decode cX6_would 123 = .ok (.getfield 36, 3) := by decide +kernel
theorem dX6_would_126 : decode cX6_would 126 = .ok (.iload 6, 2) := by decide +kernel
theorem dX6_would_128 : decode cX6_would 128 = .ok (.invokevirtual 102, 3) := by decide +kernel
theorem dX6_would_131 : decode cX6_would 131 = .ok (.aload_n 0, 1) := by decide +kernel
theorem dX6_would_132 : decode cX6_would 132 = .ok (.getfield 40, 3) := by decide +kernel
theorem dX6_would_135 : decode cX6_would 135 = .ok (.iload 7, 2) := by decide +kernel
theorem dX6_would_137 : decode cX6_would 137 = .ok (.invokevirtual 102, 3) := by decide +kernel
theorem dX6_would_140 : decode cX6_would 140 = .ok (.if_icmp .eq 6, 3) := by decide +kernel
theorem dX6_would_143 : decode cX6_would 143 = .ok (.iinc 5 1, 3) := by decide +kernel
theorem dX6_would_146 : decode cX6_would 146 = .ok (.iinc 6 1, 3) := by decide +kernel
theorem dX6_would_149 : decode cX6_would 149 = .ok (.goto (-54), 3) := by decide +kernel
theorem dX6_would_152 : decode cX6_would 152 = .ok (.aload_n 0, 1) := by decide +kernel
theorem dX6_would_153 : decode cX6_would 153 = .ok (.getfield 53, 3) := by decide +kernel
theorem dX6_would_156 : decode cX6_would 156 = .ok (.aload_n 0, 1) := by decide +kernel
theorem dX6_would_157 : decode cX6_would 157 = .ok (.getfield 40, 3) := by decide +kernel
theorem dX6_would_160 : decode cX6_would 160 = .ok (.iload 4, 2) := by decide +kernel
theorem dX6_would_162 : decode cX6_would 162 = .ok (.invokevirtual 102, 3) := by decide +kernel
theorem dX6_would_165 : decode cX6_would 165 = .ok (.i2l, 1) := by decide +kernel
theorem dX6_would_166 : decode cX6_would 166 = .ok (.invokevirtual 115, 3) := by decide +kernel
theorem dX6_would_169 : decode cX6_would 169 = .ok (.iload 5, 2) := by decide +kernel
theorem dX6_would_171 : decode cX6_would 171 = .ok (.ireturn, 1) := by decide +kernel
theorem dX6_looks_0 : decode cX6_looks 0 = .ok (.aload_n 0, 1) := by decide +kernel
theorem dX6_looks_1 : decode cX6_looks 1 = .ok (.iload_n 1, 1) := by decide +kernel
theorem dX6_looks_2 : decode cX6_looks 2 = .ok (.invokevirtual 75, 3) := by decide +kernel
theorem dX6_looks_5 : decode cX6_looks 5 = .ok (.astore_n 2, 1) := by decide +kernel
theorem dX6_looks_6 : decode cX6_looks 6 = .ok (.aload_n 2, 1) := by decide +kernel
theorem dX6_looks_7 : decode cX6_looks 7 = .ok (.ifnonnull 5, 3) := by decide +kernel
theorem dX6_looks_10 : decode cX6_looks 10 = .ok (.iconst (-1), 1) := by decide +kernel
theorem dX6_looks_11 : decode cX6_looks 11 = .ok (.ireturn, 1) := by decide +kernel
theorem dX6_looks_12 : decode cX6_looks 12 = .ok (.iconst 0, 1) := by decide +kernel
theorem dX6_looks_13 : decode cX6_looks 13 = .ok (.istore_n 3, 1) := by decide +kernel
theorem dX6_looks_14 : decode cX6_looks 14 = .ok (.iconst (-1), 1) := by decide +kernel
theorem dX6_looks_15 : decode cX6_looks 15 = .ok (.istore 4, 2) := by decide +kernel
theorem dX6_looks_17 : decode cX6_looks 17 = .ok (.iconst 0, 1) := by decide +kernel
theorem dX6_looks_18 : decode cX6_looks 18 = .ok (.istore 5, 2) := by decide +kernel
theorem dX6_looks_20 : decode cX6_looks 20 = .ok (.iload 5, 2) := by decide +kernel
theorem dX6_looks_22 : decode cX6_looks 22 = .ok (.aload_n 2, 1) := by decide +kernel
theorem dX6_looks_23 : decode cX6_looks 23 = .ok (.getfield 105, 3) := by decide +kernel
theorem dX6_looks_26 : decode cX6_looks 26 = .ok (.if_icmp .ge 52, 3) := by decide +kernel
theorem dX6_looks_29 : decode cX6_looks 29 = .ok (.aload_n 0, 1) := by decide +kernel
theorem dX6_looks_30 : decode cX6_looks 30 = .ok (.aload_n 2, 1) := by decide +kernel
theorem dX6_looks_31 : decode cX6_looks 31 = .ok (.aload_n 2, 1) := by decide +kernel
theorem dX6_looks_32 : decode cX6_looks 32 = .ok (.getfield 87, 3) := by decide +kernel
theorem dX6_looks_35 : decode cX6_looks 35 = .ok (.aload_n 2, 1) := by decide +kernel
theorem dX6_looks_36 : decode cX6_looks 36 = .ok (.iload 5, 2) := by decide +kernel
theorem dX6_looks_38 : decode cX6_looks 38 = .ok (.invokevirtual 164, 3) := by decide +kernel
theorem dX6_looks_41 : decode cX6_looks 41 = .ok (.invokevirtual 121, 3) := by decide +kernel
theorem dX6_looks_44 : decode cX6_looks 44 = .ok (.istore 6, 2) := by decide +kernel
theorem dX6_looks_46 : decode cX6_looks 46 = .ok (.iload 6, 2) := by decide +kernel
theorem dX6_looks_48 : decode cX6_looks 48 = .ok (.iload_n 3, 1) := by decide +kernel
theorem dX6_looks_49 : decode cX6_looks 49 = .ok (.if_icmp .le 12, 3) := by decide +kernel
theorem dX6_looks_52 : decode cX6_looks 52 = .ok (.aload_n 2, 1) := by decide +kernel
theorem dX6_looks_53 : decode cX6_looks 53 = .ok (.iload 5, 2) := by decide +kernel
theorem dX6_looks_55 : decode cX6_looks 55 = .ok (.invokevirtual 164, 3) := by decide +kernel
theorem dX6_looks_58 : decode cX6_looks 58 = .ok (.goto 5, 3) := by decide +kernel
theorem dX6_looks_61 : decode cX6_looks 61 = .ok (.iload 4, 2) := by decide +kernel
theorem dX6_looks_63 : decode cX6_looks 63 = .ok (.istore 4, 2) := by decide +kernel
theorem dX6_looks_65 : decode cX6_looks 65 = .ok (.iload_n 3, 1) := by decide +kernel
theorem dX6_looks_66 : decode cX6_looks 66 = .ok (.iload 6, 2) := by decide +kernel
theorem dX6_looks_68 : decode cX6_looks 68 = .ok (.invokestatic 217, 3) := by decide +kernel
theorem dX6_looks_71 : decode cX6_looks 71 = .ok (.istore_n 3, 1) := by decide +kernel
theorem dX6_looks_72 : decode cX6_looks 72 = .ok (.iinc 5 1, 3) := by decide +kernel
theorem dX6_looks_75 : decode cX6_looks 75 = .ok (.goto (-55), 3) := by decide +kernel
theorem dX6_looks_78 : decode cX6_looks 78 = .ok (.aload_n 0, 1) := by decide +kernel
theorem dX6_looks_79 : decode cX6_looks 79 = .ok (.getfield 53, 3) := by decide +kernel
theorem dX6_looks_82 : decode cX6_looks 82 = .ok (.iload_n 3, 1) := by decide +kernel
theorem dX6_looks_83 : decode cX6_looks 83 = .ok (.i2l, 1) := by decide +kernel
theorem dX6_looks_84 : decode cX6_looks 84 = .ok (.iload 4, 2) := by decide +kernel
theorem dX6_looks_86 : decode cX6_looks 86 = .ok (.i2l, 1) := by decide +kernel
theorem dX6_looks_87 : decode cX6_looks 87 = .ok (.aload_n 2, 1) := by decide +kernel
theorem dX6_looks_88 : decode cX6_looks 88 = .ok (.invokevirtual 237, 3) := by decide +kernel
theorem dX6_looks_91 : decode cX6_looks 91 = .ok (.i2l, 1) := by decide +kernel
theorem dX6_looks_92 : decode cX6_looks 92 = .ok (.invokevirtual 240, 3) := by decide +kernel
theorem dX6_looks_95 : decode cX6_looks 95 = .ok (.aload_n 0, 1) := by decide +kernel
theorem dX6_looks_96 : decode cX6_looks 96 = .ok (.aload_n 2, 1) := by decide +kernel
theorem dX6_looks_97 : decode cX6_looks 97 = .ok (.aload_n 2, 1) := by decide +kernel
theorem dX6_looks_98 : decode cX6_looks 98 = .ok (.getfield 87, 3) := by decide +kernel
theorem dX6_looks_101 : decode cX6_looks 101 = .ok (.invokevirtual 243, 3) := by decide +kernel
theorem dX6_looks_104 : decode cX6_looks 104 = .ok (.ireturn, 1) := by decide +kernel
theorem dX6_nth_0 : decode cX6_nth 0 = .ok (.aload_n 0, 1) := by decide +kernel
theorem dX6_nth_1 : decode cX6_nth 1 = .ok (.iload_n 1, 1) := by decide +kernel
theorem dX6_nth_2 : decode cX6_nth 2 = .ok (.invokevirtual 75, 3) := by decide +kernel
theorem dX6_nth_5 : decode cX6_nth 5 = .ok (.astore_n 3, 1) := by decide +kernel
theorem dX6_nth_6 : decode cX6_nth 6 = .ok (.aload_n 3, 1) := by decide +kernel
theorem dX6_nth_7 : decode cX6_nth 7 = .ok (.ifnull 15, 3) := by decide +kernel
theorem dX6_nth_10 : decode cX6_nth 10 = .ok (.iload_n 2, 1) := by decide +kernel
theorem dX6_nth_11 : decode cX6_nth 11 = .ok (.ifCond .lt 11, 3) := by decide +kernel
theorem dX6_nth_14 : decode cX6_nth 14 = .ok (.iload_n 2, 1) := by decide +kernel
theorem dX6_nth_15 : decode cX6_nth 15 = .ok (.aload_n 3, 1) := by decide +kernel
theorem dX6_nth_16 : decode cX6_nth 16 = .ok (.getfield 105, 3) := by decide +kernel
theorem dX6_nth_19 : decode cX6_nth 19 = .ok (.if_icmp .lt 5, 3) := by decide +kernel
theorem dX6_nth_22 : decode cX6_nth 22 = .ok (.iconst (-1), 1) := by decide +kernel
theorem dX6_nth_23 : decode cX6_nth 23 = .ok (.ireturn, 1) := by decide +kernel
theorem dX6_nth_24 : decode cX6_nth 24 = .ok (.aload_n 0, 1) := by decide +kernel
theorem dX6_nth_25 : decode cX6_nth 25 = .ok (.getfield 36, 3) := by decide +kernel
theorem dX6_nth_28 : decode cX6_nth 28 = .ok (.aload_n 3, 1) := by decide +kernel
theorem dX6_nth_29 : decode cX6_nth 29 = .ok (.aload_n 0, 1) := by decide +kernel
theorem dX6_nth_30 : decode cX6_nth 30 = .ok (.getfield 7, 3) := by decide +kernel
theorem dX6_nth_33 : decode cX6_nth 33 = .ok (.invokevirtual 98, 3) := by decide +kernel
theorem dX6_nth_36 : decode cX6_nth 36 = .ok (.aload_n 0, 1) := by decide +kernel
theorem dX6_nth_37 : decode cX6_nth 37 = .ok (.getfield 53, 3) := by decide +kernel
theorem dX6_nth_40 : decode cX6_nth 40 = .ok (.aload_n 0, 1) := by decide +kernel
theorem dX6_nth_41 : decode cX6_nth 41 = .ok (.getfield 36, 3) := by decide +kernel
theorem dX6_nth_44 : decode cX6_nth 44 = .ok (.iload_n 2, 1) := by decide +kernel
theorem dX6_nth_45 : decode cX6_nth 45 = .ok (.invokevirtual 102, 3) := by decide +kernel
theorem dX6_nth_48 : decode cX6_nth 48 = .ok (.i2l, 1) := by decide +kernel
theorem dX6_nth_49 : decode cX6_nth 49 = .ok (.invokevirtual 115, 3) := by decide +kernel
theorem dX6_nth_52 : decode cX6_nth 52 = .ok (.aload_n 3, 1) := by decide +kernel
theorem dX6_nth_53 : decode cX6_nth 53 = .ok (.iload_n 2, 1) := by decide +kernel
theorem dX6_nth_54 : decode cX6_nth 54 = .ok (.invokevirtual 164, 3) := by decide +kernel
theorem dX6_nth_57 : decode cX6_nth 57 = .ok (.ireturn, 1) := by decide +kernel
theorem dX6_best_0 : decode cX6_best 0 = .ok (.aload_n 0, 1) := by decide +kernel
theorem dX6_best_1 : decode cX6_best 1 = .ok (.iload_n 1, 1) := by decide +kernel
theorem dX6_best_2 : decode cX6_best 2 = .ok (.invokevirtual 75, 3) := by decide +kernel
theorem dX6_best_5 : decode cX6_best 5 = .ok (.astore_n 2, 1) := by decide +kernel
theorem dX6_best_6 : decode cX6_best 6 = .ok (.aload_n 2, 1) := by decide +kernel
theorem dX6_best_7 : decode cX6_best 7 = .ok (.ifnonnull 5, 3) := by decide +kernel
theorem dX6_best_10 : decode cX6_best 10 = .ok (.iconst (-1), 1) := by decide +kernel
theorem dX6_best_11 : decode cX6_best 11 = .ok (.ireturn, 1) := by decide +kernel
theorem dX6_best_12 : decode cX6_best 12 = .ok (.iconst (-1), 1) := by decide +kernel
theorem dX6_best_13 : decode cX6_best 13 = .ok (.istore_n 3, 1) := by decide +kernel
theorem dX6_best_14 : decode cX6_best 14 = .ok (.iconst (-1), 1) := by decide +kernel
theorem dX6_best_15 : decode cX6_best 15 = .ok (.istore 4, 2) := by decide +kernel
theorem dX6_best_17 : decode cX6_best 17 = .ok (.aload_n 0, 1) := by decide +kernel
theorem dX6_best_18 : decode cX6_best 18 = .ok (.getfield 53, 3) := by decide +kernel
theorem dX6_best_21 : decode cX6_best 21 = .ok (.invokevirtual 154, 3) := by decide +kernel
theorem dX6_best_24 : decode cX6_best 24 = .ok (.iconst 3, 1) := by decide +kernel
theorem dX6_best_25 : decode cX6_best 25 = .ok (.istore 5, 2) := by decide +kernel
theorem dX6_best_27 : decode cX6_best 27 = .ok (.iload 5, 2) := by decide +kernel
theorem dX6_best_29 : decode cX6_best 29 = .ok (.bipush 6, 2) := by decide +kernel
theorem dX6_best_31 : decode cX6_best 31 = .ok (.if_icmp .gt 87, 3) := by decide +kernel
theorem dX6_best_34 : decode cX6_best 34 = .ok (.iload 5, 2) := by decide +kernel
theorem dX6_best_36 : decode cX6_best 36 = .ok (.aload_n 0, 1) := by decide +kernel
theorem dX6_best_37 : decode cX6_best 37 = .ok (.invokevirtual 246, 3) := by decide +kernel
theorem dX6_best_40 : decode cX6_best 40 = .ok (.if_icmp .gt 18, 3) := by decide +kernel
theorem dX6_best_43 : decode cX6_best 43 = .ok (.aload_n 2, 1) := by decide +kernel
theorem dX6_best_44 : decode cX6_best 44 = .ok (.getfield 105, 3) := by decide +kernel
theorem dX6_best_47 : decode cX6_best 47 = .ok (.iconst 1, 1) := by decide +kernel
theorem dX6_best_48 : decode cX6_best 48 = .ok (.iload 5, 2) := by decide +kernel
theorem dX6_best_50 : decode cX6_best 50 = .ok (.ishl, 1) := by decide +kernel
theorem dX6_best_51 : decode cX6_best 51 = .ok (.if_icmp .ge 7, 3) := by decide +kernel
theorem dX6_best_54 : decode cX6_best 54 = .ok (.iconst 1, 1) := by decide +kernel
theorem dX6_best_55 : decode cX6_best 55 = .ok (.goto 4, 3) := by decide +kernel
theorem dX6_best_58 : decode cX6_best 58 = .ok (.iconst 0, 1) := by decide +kernel
theorem dX6_best_59 : decode cX6_best 59 = .ok (.istore 6, 2) := by decide +kernel
theorem dX6_best_61 : decode cX6_best 61 = .ok (.iload 6, 2) := by decide +kernel
theorem dX6_best_63 : decode cX6_best 63 = .ok (.ifCond .eq 13, 3) := by decide +kernel
theorem dX6_best_66 : decode cX6_best 66 = .ok (.aload_n 0, 1) := by decide +kernel
theorem dX6_best_67 : decode cX6_best 67 = .ok (.aload_n 2, 1) := by decide +kernel
theorem dX6_best_68 : decode cX6_best 68 = .ok (.iload 5, 2) := by decide +kernel
theorem dX6_best_70 : decode cX6_best 70 = .ok (.invokevirtual 243, 3) := by decide +kernel
theorem dX6_best_73 : decode cX6_best 73 = .ok (.goto 4, 3) := by decide +kernel
theorem dX6_best_76 : decode cX6_best 76 = .ok (.iconst (-1), 1) := by decide +kernel
theorem dX6_best_77 : decode cX6_best 77 = .ok (.istore 7, 2) := by decide +kernel
theorem dX6_best_79 : decode cX6_best 79 = .ok (.iload 6, 2) := by decide +kernel
theorem dX6_best_81 : decode cX6_best 81 = .ok (.ifCond .eq 21, 3) := by decide +kernel
theorem dX6_best_84 : decode cX6_best 84 = .ok (.iload_n 3, 1) := by decide +kernel
theorem dX6_best_85 : decode cX6_best 85 = .ok (.ifCond .lt 10, 3) := by decide +kernel
theorem dX6_best_88 : decode cX6_best 88 = .ok (.iload 7, 2) := by decide +kernel
theorem dX6_best_90 : decode cX6_best 90 = .ok (.iload 4, 2) := by decide +kernel
theorem dX6_best_92 : decode cX6_best 92 = .ok (.if_icmp .ge 10, 3) := by decide +kernel
theorem dX6_best_95 : decode cX6_best 95 = .ok (.iload 5, 2) := by decide +kernel
theorem dX6_best_97 : decode cX6_best 97 = .ok (.istore_n 3, 1) := by decide +kernel
theorem dX6_best_98 : decode cX6_best 98 = .ok (.iload 7, 2) := by decide +kernel
theorem dX6_best_100 : decode cX6_best 100 = .ok (.istore 4, 2) := by decide +kernel
theorem dX6_best_102 : decode cX6_best 102 = .ok (.aload_n 0, 1) := by decide +kernel
theorem dX6_best_103 : decode cX6_best 103 = .ok (.getfield 53, 3) := by decide +kernel
theorem dX6_best_106 : decode cX6_best 106 = .ok (.iload 7, 2) := by decide +kernel
theorem dX6_best_108 : decode cX6_best 108 = .ok (.i2l, 1) := by decide +kernel
theorem dX6_best_109 : decode cX6_best 109 = .ok (.invokevirtual 161, 3) := by decide +kernel
theorem dX6_best_112 : decode cX6_best 112 = .ok (.iinc 5 1, 3) := by decide +kernel
theorem dX6_best_115 : decode cX6_best 115 = .ok (.goto (-88), 3) := by decide +kernel
theorem dX6_best_118 : decode cX6_best 118 = .ok (.iload_n 3, 1) := by decide +kernel
theorem dX6_best_119 : decode cX6_best 119 = .ok (.ireturn, 1) := by decide +kernel
theorem dX6_span_0 : decode cX6_span 0 = .ok (.aload_n 0, 1) := by decide +kernel
theorem dX6_span_1 : decode cX6_span 1 = .ok (.iload_n 1, 1) := by decide +kernel
theorem dX6_span_2 : decode cX6_span 2 = .ok (.invokevirtual 75, 3) := by decide +kernel
theorem dX6_span_5 : decode cX6_span 5 = .ok (.astore 4, 2) := by decide +kernel
theorem dX6_span_7 : decode cX6_span 7 = .ok (.aload 4, 2) := by decide +kernel
theorem dX6_span_9 : decode cX6_span 9 = .ok (.ifnull 22, 3) := by decide +kernel
theorem dX6_span_12 : decode cX6_span 12 = .ok (.iload_n 2, 1) := by decide +kernel
theorem dX6_span_13 : decode cX6_span 13 = .ok (.ifCond .lt 18, 3) := by decide +kernel
theorem dX6_span_16 : decode cX6_span 16 = .ok (.iload_n 3, 1) := by decide +kernel
theorem dX6_span_17 : decode cX6_span 17 = .ok (.iload_n 2, 1) := by decide +kernel
theorem dX6_span_18 : decode cX6_span 18 = .ok (.if_icmp .lt 13, 3) := by decide +kernel
theorem dX6_span_21 : decode cX6_span 21 = .ok (.iload_n 3, 1) := by decide +kernel
theorem dX6_span_22 : decode cX6_span 22 = .ok (.iconst 1, 1) := by decide +kernel
theorem dX6_span_23 : decode cX6_span 23 = .ok (.aload_n 0, 1) := by decide +kernel
theorem dX6_span_24 : decode cX6_span 24 = .ok (.getfield 7, 3) := by decide +kernel
theorem dX6_span_27 : decode cX6_span 27 = .ok (.ishl, 1) := by decide +kernel
theorem dX6_span_28 : decode cX6_span 28 = .ok (.if_icmp .lt 5, 3) := by decide +kernel
theorem dX6_span_31 : decode cX6_span 31 = .ok (.iconst (-1), 1) := by decide +kernel
theorem dX6_span_32 : decode cX6_span 32 = .ok (.ireturn, 1) := by decide +kernel
theorem dX6_span_33 : decode cX6_span 33 = .ok (.aload 4, 2) := by decide +kernel
theorem dX6_span_35 : decode cX6_span 35 = .ok (.iload_n 2, 1) := by decide +kernel
theorem dX6_span_36 : decode cX6_span 36 = .ok (.invokevirtual 198, 3) := by decide +kernel
theorem dX6_span_39 : decode cX6_span 39 = .ok (.istore 5, 2) := by decide +kernel
theorem dX6_span_41 : decode cX6_span 41 = .ok (.aload 4, 2) := by decide +kernel
theorem dX6_span_43 : decode cX6_span 43 = .ok (.iload_n 3, 1) := by decide +kernel
theorem dX6_span_44 : decode cX6_span 44 = .ok (.iconst 1, 1) := by decide +kernel
theorem dX6_span_45 : decode cX6_span 45 = .ok (.iadd, 1) := by decide +kernel
theorem dX6_span_46 : decode cX6_span 46 = .ok (.invokevirtual 198, 3) := by decide +kernel
theorem dX6_span_49 : decode cX6_span 49 = .ok (.istore 6, 2) := by decide +kernel
theorem dX6_span_51 : decode cX6_span 51 = .ok (.aload_n 0, 1) := by decide +kernel
theorem dX6_span_52 : decode cX6_span 52 = .ok (.getfield 36, 3) := by decide +kernel
theorem dX6_span_55 : decode cX6_span 55 = .ok (.aload 4, 2) := by decide +kernel
theorem dX6_span_57 : decode cX6_span 57 = .ok (.aload_n 0, 1) := by decide +kernel
theorem dX6_span_58 : decode cX6_span 58 = .ok (.getfield 7, 3) := by decide +kernel
theorem dX6_span_61 : decode cX6_span 61 = .ok (.invokevirtual 98, 3) := by decide +kernel
theorem dX6_span_64 : decode cX6_span 64 = .ok (.iconst 0, 1) := by decide +kernel
theorem dX6_span_65 : decode cX6_span 65 = .ok (.istore 7, 2) := by decide +kernel
theorem dX6_span_67 : decode cX6_span 67 = .ok (.iconst 0, 1) := by decide +kernel
theorem dX6_span_68 : decode cX6_span 68 = .ok (.istore 8, 2) := by decide +kernel
theorem dX6_span_70 : decode cX6_span 70 = .ok (.iconst 0, 1) := by decide +kernel
theorem dX6_span_71 : decode cX6_span 71 = .ok (.istore 9, 2) := by decide +kernel
theorem dX6_span_73 : decode cX6_span 73 = .ok (.iload 9, 2) := by decide +kernel
theorem dX6_span_75 : decode cX6_span 75 = .ok (.aload_n 0, 1) := by decide +kernel
theorem dX6_span_76 : decode cX6_span 76 = .ok (.getfield 36, 3) := by decide +kernel
theorem dX6_span_79 : decode cX6_span 79 = .ok (.getfield 211, 3) := by decide +kernel
theorem dX6_span_82 : decode cX6_span 82 = .ok (.if_icmp .ge 80, 3) := by decide +kernel
theorem dX6_span_85 : decode cX6_span 85 = .ok (.aload_n 0, 1) := by decide +kernel
theorem dX6_span_86 : decode cX6_span 86 = .ok (.getfield 36, 3) := by decide +kernel
theorem dX6_span_89 : decode cX6_span 89 = .ok (.iload 9, 2) := by decide +kernel
theorem dX6_span_91 : decode cX6_span 91 = .ok (.invokevirtual 214, 3) := by decide +kernel
theorem dX6_span_94 : decode cX6_span 94 = .ok (.ifCond .eq 62, 3) := by decide +kernel
theorem dX6_span_97 : decode cX6_span 97 = .ok (.aload_n 0, 1) := by decide +kernel
theorem dX6_span_98 : decode cX6_span 98 = .ok (.getfield 36, 3) := by decide +kernel
theorem dX6_span_101 : decode cX6_span 101 = .ok (.iload 9, 2) := by decide +kernel
theorem dX6_span_103 : decode cX6_span 103 = .ok (.invokevirtual 204, 3) := by decide +kernel
theorem dX6_span_106 : decode cX6_span 106 = .ok (.istore 10, 2) := by decide +kernel
theorem dX6_span_108 : decode cX6_span 108 = .ok (.aload_n 0, 1) := by decide +kernel
theorem dX6_span_109 : decode cX6_span 109 = .ok (.getfield 36, 3) := by decide +kernel
theorem dX6_span_112 : decode cX6_span 112 = .ok (.iload 9, 2) := by decide +kernel
theorem dX6_span_114 : decode cX6_span 114 = .ok (.iload 10, 2) := by decide +kernel
theorem dX6_span_116 : decode cX6_span 116 = .ok (.iload 5, 2) := by decide +kernel
theorem dX6_span_118 : decode cX6_span 118 = .ok (.iload 6, 2) := by decide +kernel
theorem dX6_span_120 : decode cX6_span 120 = .ok (.invokevirtual 249, 3) := by decide +kernel
theorem dX6_span_123 : decode cX6_span 123 = .ok (.istore 11, 2) := by decide +kernel
theorem dX6_span_125 : decode cX6_span 125 = .ok (.iload 7, 2) := by decide +kernel
theorem dX6_span_127 : decode cX6_span 127 = .ok (.iload 11, 2) := by decide +kernel
theorem dX6_span_129 : decode cX6_span 129 = .ok (.ifCond .eq 7, 3) := by decide +kernel
theorem dX6_span_132 : decode cX6_span 132 = .ok (.iconst 1, 1) := by decide +kernel
theorem dX6_span_133 : decode cX6_span 133 = .ok (.goto 4, 3) := by decide +kernel
theorem dX6_span_136 : decode cX6_span 136 = .ok (.iconst 0, 1) := by decide +kernel
theorem dX6_span_137 : decode cX6_span 137 = .ok (.iadd, 1) := by decide +kernel
theorem dX6_span_138 : decode cX6_span 138 = .ok (.istore 7, 2) := by decide +kernel
theorem dX6_span_140 : decode cX6_span 140 = .ok (.iload 8, 2) := by decide +kernel
theorem dX6_span_142 : decode cX6_span 142 = .ok (.iload 11, 2) := by decide +kernel
theorem dX6_span_144 : decode cX6_span 144 = .ok (.ifCond .eq 8, 3) := by decide +kernel
theorem dX6_span_147 : decode cX6_span 147 = .ok (.iload 10, 2) := by decide +kernel
theorem dX6_span_149 : decode cX6_span 149 = .ok (.goto 4, 3) := by decide +kernel
theorem dX6_span_152 : decode cX6_span 152 = .ok (.iconst 0, 1) := by decide +kernel
theorem dX6_span_153 : decode cX6_span 153 = .ok (.iadd, 1) := by decide +kernel
theorem dX6_span_154 : decode cX6_span 154 = .ok (.istore 8, 2) := by decide +kernel
theorem dX6_span_156 : decode cX6_span 156 = .ok (.iinc 9 1, 3) := by decide +kernel
theorem dX6_span_159 : decode cX6_span 159 = .ok (.goto (-86), 3) := by decide +kernel
theorem dX6_span_162 : decode cX6_span 162 = .ok (.aload_n 0, 1) := by decide +kernel
theorem dX6_span_163 : decode cX6_span 163 = .ok (.getfield 53, 3) := by decide +kernel
theorem dX6_span_166 : decode cX6_span 166 = .ok (.iload 7, 2) := by decide +kernel
theorem dX6_span_168 : decode cX6_span 168 = .ok (.i2l, 1) := by decide +kernel
theorem dX6_span_169 : decode cX6_span 169 = .ok (.iload 8, 2) := by decide +kernel
theorem dX6_span_171 : decode cX6_span 171 = .ok (.i2l, 1) := by decide +kernel
theorem dX6_span_172 : decode cX6_span 172 = .ok (.invokevirtual 90, 3) := by decide +kernel
theorem dX6_span_175 : decode cX6_span 175 = .ok (.iload 6, 2) := by decide +kernel
theorem dX6_span_177 : decode cX6_span 177 = .ok (.iload 5, 2) := by decide +kernel
theorem dX6_span_179 : decode cX6_span 179 = .ok (.isub, 1) := by decide +kernel
theorem dX6_span_180 : decode cX6_span 180 = .ok (.ireturn, 1) := by decide +kernel
theorem dX6_after_0 : decode cX6_after 0 = .ok (.aload_n 0, 1) := by decide +kernel
theorem dX6_after_1 : decode cX6_after 1 = .ok (.iload_n 1, 1) := by decide +kernel
theorem dX6_after_2 : decode cX6_after 2 = .ok (.invokevirtual 75, 3) := by decide +kernel
theorem dX6_after_5 : decode cX6_after 5 = .ok (.astore_n 3, 1) := by decide +kernel
theorem dX6_after_6 : decode cX6_after 6 = .ok (.aload_n 3, 1) := by decide +kernel
theorem dX6_after_7 : decode cX6_after 7 = .ok (.ifnull 7, 3) := by decide +kernel
theorem dX6_after_10 : decode cX6_after 10 = .ok (.iload_n 2, 1) := by decide +kernel
theorem dX6_after_11 : decode cX6_after 11 = .ok (.ifCond .ge 5, 3) := by decide +kernel
theorem dX6_after_14 : decode cX6_after 14 = .ok (.iconst (-1), 1) := by decide +kernel
theorem dX6_after_15 : decode cX6_after 15 = .ok (.ireturn, 1) := by decide +kernel
theorem dX6_after_16 : decode cX6_after 16 = .ok (.aload_n 3, 1) := by decide +kernel
theorem dX6_after_17 : decode cX6_after 17 = .ok (.iload_n 2, 1) := by decide +kernel
theorem dX6_after_18 : decode cX6_after 18 = .ok (.invokevirtual 198, 3) := by decide +kernel
theorem dX6_after_21 : decode cX6_after 21 = .ok (.istore 4, 2) := by decide +kernel
theorem dX6_after_23 : decode cX6_after 23 = .ok (.iload 4, 2) := by decide +kernel
theorem dX6_after_25 : decode cX6_after 25 = .ok (.aload_n 3, 1) := by decide +kernel
theorem dX6_after_26 : decode cX6_after 26 = .ok (.getfield 105, 3) := by decide +kernel
theorem dX6_after_29 : decode cX6_after 29 = .ok (.if_icmp .lt 6, 3) := by decide +kernel
theorem dX6_after_32 : decode cX6_after 32 = .ok (.bipush (-2), 2) := by decide +kernel
theorem dX6_after_34 : decode cX6_after 34 = .ok (.ireturn, 1) := by decide +kernel
theorem dX6_after_35 : decode cX6_after 35 = .ok (.aload_n 3, 1) := by decide +kernel
theorem dX6_after_36 : decode cX6_after 36 = .ok (.iload 4, 2) := by decide +kernel
theorem dX6_after_38 : decode cX6_after 38 = .ok (.invokevirtual 164, 3) := by decide +kernel
theorem dX6_after_41 : decode cX6_after 41 = .ok (.istore 5, 2) := by decide +kernel
theorem dX6_after_43 : decode cX6_after 43 = .ok (.aload_n 0, 1) := by decide +kernel
theorem dX6_after_44 : decode cX6_after 44 = .ok (.getfield 36, 3) := by decide +kernel
theorem dX6_after_47 : decode cX6_after 47 = .ok (.aload_n 3, 1) := by decide +kernel
theorem dX6_after_48 : decode cX6_after 48 = .ok (.aload_n 0, 1) := by decide +kernel
theorem dX6_after_49 : decode cX6_after 49 = .ok (.getfield 7, 3) := by decide +kernel
theorem dX6_after_52 : decode cX6_after 52 = .ok (.invokevirtual 98, 3) := by decide +kernel
theorem dX6_after_55 : decode cX6_after 55 = .ok (.aload_n 0, 1) := by decide +kernel
theorem dX6_after_56 : decode cX6_after 56 = .ok (.getfield 53, 3) := by decide +kernel
theorem dX6_after_59 : decode cX6_after 59 = .ok (.aload_n 3, 1) := by decide +kernel
theorem dX6_after_60 : decode cX6_after 60 = .ok (.iload 5, 2) := by decide +kernel
theorem dX6_after_62 : decode cX6_after 62 = .ok (.invokevirtual 118, 3) := by decide +kernel
theorem dX6_after_65 : decode cX6_after 65 = .ok (.i2l, 1) := by decide +kernel
theorem dX6_after_66 : decode cX6_after 66 = .ok (.aload_n 0, 1) := by decide +kernel
theorem dX6_after_67 : decode cX6_after 67 = .ok (.getfield 36, 3) := by decide +kernel
theorem dX6_after_70 : decode cX6_after 70 = .ok (.iload 4, 2) := by decide +kernel
theorem dX6_after_72 : decode cX6_after 72 = .ok (.invokevirtual 102, 3) := by decide +kernel
theorem dX6_after_75 : decode cX6_after 75 = .ok (.i2l, 1) := by decide +kernel
theorem dX6_after_76 : decode cX6_after 76 = .ok (.invokevirtual 90, 3) := by decide +kernel
theorem dX6_after_79 : decode cX6_after 79 = .ok (.iload 5, 2) := by decide +kernel
theorem dX6_after_81 : decode cX6_after 81 = .ok (.ireturn, 1) := by decide +kernel
theorem dX6_gaps_0 : decode cX6_gaps 0 = .ok (.aload_n 0, 1) := by decide +kernel
theorem dX6_gaps_1 : decode cX6_gaps 1 = .ok (.iload_n 1, 1) := by decide +kernel
theorem dX6_gaps_2 : decode cX6_gaps 2 = .ok (.invokevirtual 75, 3) := by decide +kernel
theorem dX6_gaps_5 : decode cX6_gaps 5 = .ok (.astore_n 2, 1) := by decide +kernel
theorem dX6_gaps_6 : decode cX6_gaps 6 = .ok (.aload_n 2, 1) := by decide +kernel
theorem dX6_gaps_7 : decode cX6_gaps 7 = .ok (.ifnonnull 5, 3) := by decide +kernel
theorem dX6_gaps_10 : decode cX6_gaps 10 = .ok (.iconst (-1), 1) := by decide +kernel
theorem dX6_gaps_11 : decode cX6_gaps 11 = .ok (.ireturn, 1) := by decide +kernel
theorem dX6_gaps_12 : decode cX6_gaps 12 = .ok (.aload_n 0, 1) := by decide +kernel
theorem dX6_gaps_13 : decode cX6_gaps 13 = .ok (.getfield 36, 3) := by decide +kernel
theorem dX6_gaps_16 : decode cX6_gaps 16 = .ok (.aload_n 2, 1) := by decide +kernel
theorem dX6_gaps_17 : decode cX6_gaps 17 = .ok (.aload_n 0, 1) := by decide +kernel
theorem dX6_gaps_18 : decode cX6_gaps 18 = .ok (.getfield 7, 3) := by decide +kernel
theorem dX6_gaps_21 : decode cX6_gaps 21 = .ok (.invokevirtual 98, 3) := by decide +kernel
theorem dX6_gaps_24 : decode cX6_gaps 24 = .ok (.iconst 0, 1) := by decide +kernel
theorem dX6_gaps_25 : decode cX6_gaps 25 = .ok (.istore_n 3, 1) := by decide +kernel
theorem dX6_gaps_26 : decode cX6_gaps 26 = .ok (.iconst (-1), 1) := by decide +kernel
theorem dX6_gaps_27 : decode cX6_gaps 27 = .ok (.istore 4, 2) := by decide +kernel
theorem dX6_gaps_29 : decode cX6_gaps 29 = .ok (.iconst 0, 1) := by decide +kernel
theorem dX6_gaps_30 : decode cX6_gaps 30 = .ok (.istore 5, 2) := by decide +kernel
theorem dX6_gaps_32 : decode cX6_gaps 32 = .ok (.iload 5, 2) := by decide +kernel
theorem dX6_gaps_34 : decode cX6_gaps 34 = .ok (.aload_n 0, 1) := by decide +kernel
theorem dX6_gaps_35 : decode cX6_gaps 35 = .ok (.getfield 36, 3) := by decide +kernel
theorem dX6_gaps_38 : decode cX6_gaps 38 = .ok (.getfield 211, 3) := by decide +kernel
theorem dX6_gaps_41 : decode cX6_gaps 41 = .ok (.if_icmp .ge 42, 3) := by decide +kernel
theorem dX6_gaps_44 : decode cX6_gaps 44 = .ok (.aload_n 0, 1) := by decide +kernel
theorem dX6_gaps_45 : decode cX6_gaps 45 = .ok (.getfield 36, 3) := by decide +kernel
theorem dX6_gaps_48 : decode cX6_gaps 48 = .ok (.iload 5, 2) := by decide +kernel
theorem dX6_gaps_50 : decode cX6_gaps 50 = .ok (.invokevirtual 253, 3) := by decide +kernel
theorem dX6_gaps_53 : decode cX6_gaps 53 = .ok (.istore 6, 2) := by decide +kernel
theorem dX6_gaps_55 : decode cX6_gaps 55 = .ok (.iload 6, 2) := by decide +kernel
theorem dX6_gaps_57 : decode cX6_gaps 57 = .ok (.iload_n 3, 1) := by decide +kernel
theorem dX6_gaps_58 : decode cX6_gaps 58 = .ok (.if_icmp .le 8, 3) := by decide +kernel
theorem dX6_gaps_61 : decode cX6_gaps 61 = .ok (.iload 5, 2) := by decide +kernel
theorem dX6_gaps_63 : decode cX6_gaps 63 = .ok (.goto 5, 3) := by decide +kernel
theorem dX6_gaps_66 : decode cX6_gaps 66 = .ok (.iload 4, 2) := by decide +kernel
theorem dX6_gaps_68 : decode cX6_gaps 68 = .ok (.istore 4, 2) := by decide +kernel
theorem dX6_gaps_70 : decode cX6_gaps 70 = .ok (.iload_n 3, 1) := by decide +kernel
theorem dX6_gaps_71 : decode cX6_gaps 71 = .ok (.iload 6, 2) := by decide +kernel
theorem dX6_gaps_73 : decode cX6_gaps 73 = .ok (.invokestatic 217, 3) := by decide +kernel
theorem dX6_gaps_76 : decode cX6_gaps 76 = .ok (.istore_n 3, 1) := by decide +kernel
theorem dX6_gaps_77 : decode cX6_gaps 77 = .ok (.iinc 5 1, 3) := by decide +kernel
theorem dX6_gaps_80 : decode cX6_gaps 80 = .ok (.goto (-48), 3) := by decide +kernel
theorem dX6_gaps_83 : decode cX6_gaps 83 = .ok (.aload_n 0, 1) := by decide +kernel
theorem dX6_gaps_84 : decode cX6_gaps 84 = .ok (.getfield 53, 3) := by decide +kernel
theorem dX6_gaps_87 : decode cX6_gaps 87 = .ok (.iload_n 3, 1) := by decide +kernel
theorem dX6_gaps_88 : decode cX6_gaps 88 = .ok (.i2l, 1) := by decide +kernel
theorem dX6_gaps_89 : decode cX6_gaps 89 = .ok (.iload 4, 2) := by decide +kernel
theorem dX6_gaps_91 : decode cX6_gaps 91 = .ok (.i2l, 1) := by decide +kernel
theorem dX6_gaps_92 : decode cX6_gaps 92 = .ok (.invokevirtual 90, 3) := by decide +kernel
theorem dX6_gaps_95 : decode cX6_gaps 95 = .ok (.aload_n 2, 1) := by decide +kernel
theorem dX6_gaps_96 : decode cX6_gaps 96 = .ok (.invokevirtual 108, 3) := by decide +kernel
theorem dX6_gaps_99 : decode cX6_gaps 99 = .ok (.aload_n 2, 1) := by decide +kernel
theorem dX6_gaps_100 : decode cX6_gaps 100 = .ok (.getfield 105, 3) := by decide +kernel
theorem dX6_gaps_103 : decode cX6_gaps 103 = .ok (.isub, 1) := by decide +kernel
theorem dX6_gaps_104 : decode cX6_gaps 104 = .ok (.ireturn, 1) := by decide +kernel
theorem dX6_doubles_0 : decode cX6_doubles 0 = .ok (.aload_n 0, 1) := by decide +kernel
theorem dX6_doubles_1 : decode cX6_doubles 1 = .ok (.iload_n 1, 1) := by decide +kernel
theorem dX6_doubles_2 : decode cX6_doubles 2 = .ok (.invokevirtual 75, 3) := by decide +kernel
theorem dX6_doubles_5 : decode cX6_doubles 5 = .ok (.astore_n 2, 1) := by decide +kernel
theorem dX6_doubles_6 : decode cX6_doubles 6 = .ok (.aload_n 2, 1) := by decide +kernel
theorem dX6_doubles_7 : decode cX6_doubles 7 = .ok (.ifnonnull 5, 3) := by decide +kernel
theorem dX6_doubles_10 : decode cX6_doubles 10 = .ok (.iconst (-1), 1) := by decide +kernel
theorem dX6_doubles_11 : decode cX6_doubles 11 = .ok (.ireturn, 1) := by decide +kernel
theorem dX6_doubles_12 : decode cX6_doubles 12 = .ok (.aload_n 2, 1) := by decide +kernel
theorem dX6_doubles_13 : decode cX6_doubles 13 = .ok (.getfield 87, 3) := by decide +kernel
theorem dX6_doubles_16 : decode cX6_doubles 16 = .ok (.aload_n 0, 1) := by decide +kernel
theorem dX6_doubles_17 : decode cX6_doubles 17 = .ok (.invokevirtual 246, 3) := by decide +kernel
theorem dX6_doubles_20 : decode cX6_doubles 20 = .ok (.if_icmp .lt 6, 3) := by decide +kernel
theorem dX6_doubles_23 : decode cX6_doubles 23 = .ok (.bipush (-2), 2) := by decide +kernel
theorem dX6_doubles_25 : decode cX6_doubles 25 = .ok (.ireturn, 1) := by decide +kernel
theorem dX6_doubles_26 : decode cX6_doubles 26 = .ok (.aload_n 2, 1) := by decide +kernel
theorem dX6_doubles_27 : decode cX6_doubles 27 = .ok (.dup, 1) := by decide +kernel
theorem dX6_doubles_28 : decode cX6_doubles 28 = .ok (.getfield 87, 3) := by decide +kernel
theorem dX6_doubles_31 : decode cX6_doubles 31 = .ok (.iconst 1, 1) := by decide +kernel
theorem dX6_doubles_32 : decode cX6_doubles 32 = .ok (.iadd, 1) := by decide +kernel
theorem dX6_doubles_33 : decode cX6_doubles 33 = .ok (.putfield 87, 3) := by decide +kernel
theorem dX6_doubles_36 : decode cX6_doubles 36 = .ok (.aload_n 2, 1) := by decide +kernel
theorem dX6_doubles_37 : decode cX6_doubles 37 = .ok (.invokevirtual 108, 3) := by decide +kernel
theorem dX6_doubles_40 : decode cX6_doubles 40 = .ok (.ireturn, 1) := by decide +kernel
theorem dX6_halves_0 : decode cX6_halves 0 = .ok (.aload_n 0, 1) := by decide +kernel
theorem dX6_halves_1 : decode cX6_halves 1 = .ok (.iload_n 1, 1) := by decide +kernel
theorem dX6_halves_2 : decode cX6_halves 2 = .ok (.invokevirtual 75, 3) := by decide +kernel
theorem dX6_halves_5 : decode cX6_halves 5 = .ok (.astore_n 2, 1) := by decide +kernel
theorem dX6_halves_6 : decode cX6_halves 6 = .ok (.aload_n 2, 1) := by decide +kernel
theorem dX6_halves_7 : decode cX6_halves 7 = .ok (.ifnonnull 5, 3) := by decide +kernel
theorem dX6_halves_10 : decode cX6_halves 10 = .ok (.iconst (-1), 1) := by decide +kernel
theorem dX6_halves_11 : decode cX6_halves 11 = .ok (.ireturn, 1) := by decide +kernel
theorem dX6_halves_12 : decode cX6_halves 12 = .ok (.aload_n 2, 1) := by decide +kernel
theorem dX6_halves_13 : decode cX6_halves 13 = .ok (.getfield 87, 3) := by decide +kernel
theorem dX6_halves_16 : decode cX6_halves 16 = .ok (.iconst 3, 1) := by decide +kernel
theorem dX6_halves_17 : decode cX6_halves 17 = .ok (.if_icmp .gt 6, 3) := by decide +kernel
theorem dX6_halves_20 : decode cX6_halves 20 = .ok (.bipush (-2), 2) := by decide +kernel
theorem dX6_halves_22 : decode cX6_halves 22 = .ok (.ireturn, 1) := by decide +kernel
theorem dX6_halves_23 : decode cX6_halves 23 = .ok (.aload_n 2, 1) := by decide +kernel
theorem dX6_halves_24 : decode cX6_halves 24 = .ok (.getfield 105, 3) := by decide +kernel
theorem dX6_halves_27 : decode cX6_halves 27 = .ok (.aload_n 2, 1) := by decide +kernel
theorem dX6_halves_28 : decode cX6_halves 28 = .ok (.invokevirtual 108, 3) := by decide +kernel
theorem dX6_halves_31 : decode cX6_halves 31 = .ok (.iconst 2, 1) := by decide +kernel
theorem dX6_halves_32 : decode cX6_halves 32 = .ok (.idiv, 1) := by decide +kernel
theorem dX6_halves_33 : decode cX6_halves 33 = .ok (.iconst 1, 1) := by decide +kernel
theorem dX6_halves_34 : decode cX6_halves 34 = .ok (.isub, 1) := by decide +kernel
theorem dX6_halves_35 : decode cX6_halves 35 = .ok (.if_icmp .le 6, 3) := by decide +kernel
theorem dX6_halves_38 : decode cX6_halves 38 = .ok (.bipush (-5), 2) := by decide +kernel
theorem dX6_halves_40 : decode cX6_halves 40 = .ok (.ireturn, 1) := by decide +kernel
theorem dX6_halves_41 : decode cX6_halves 41 = .ok (.aload_n 2, 1) := by decide +kernel
theorem dX6_halves_42 : decode cX6_halves 42 = .ok (.dup, 1) := by decide +kernel
theorem dX6_halves_43 : decode cX6_halves 43 = .ok (.getfield 87, 3) := by decide +kernel
theorem dX6_halves_46 : decode cX6_halves 46 = .ok (.iconst 1, 1) := by decide +kernel
theorem dX6_halves_47 : decode cX6_halves 47 = .ok (.isub, 1) := by decide +kernel
theorem dX6_halves_48 : decode cX6_halves 48 = .ok (.putfield 87, 3) := by decide +kernel
theorem dX6_halves_51 : decode cX6_halves 51 = .ok (.aload_n 2, 1) := by decide +kernel
theorem dX6_halves_52 : decode cX6_halves 52 = .ok (.invokevirtual 108, 3) := by decide +kernel
theorem dX6_halves_55 : decode cX6_halves 55 = .ok (.ireturn, 1) := by decide +kernel
theorem dX6_merges_0 : decode cX6_merges 0 = .ok (.aload_n 0, 1) := by decide +kernel
theorem dX6_merges_1 : decode cX6_merges 1 = .ok (.getfield 27, 3) := by decide +kernel
theorem dX6_merges_4 : decode cX6_merges 4 = .ok (.getfield 105, 3) := by decide +kernel
theorem dX6_merges_7 : decode cX6_merges 7 = .ok (.istore_n 1, 1) := by decide +kernel
theorem dX6_merges_8 : decode cX6_merges 8 = .ok (.iload_n 1, 1) := by decide +kernel
theorem dX6_merges_9 : decode cX6_merges 9 = .ok (.ifCond .ne 6, 3) := by decide +kernel
theorem dX6_merges_12 : decode cX6_merges 12 = .ok (.bipush (-2), 2) := by decide +kernel
theorem dX6_merges_14 : decode cX6_merges 14 = .ok (.ireturn, 1) := by decide +kernel
theorem dX6_merges_15 : decode cX6_merges 15 = .ok (.aload_n 0, 1) := by decide +kernel
theorem dX6_merges_16 : decode cX6_merges 16 = .ok (.invokevirtual 256, 3) := by decide +kernel
theorem dX6_merges_19 : decode cX6_merges 19 = .ok (.ifCond .ne 6, 3) := by decide +kernel
theorem dX6_merges_22 : decode cX6_merges 22 = .ok (.bipush (-5), 2) := by decide +kernel
theorem dX6_merges_24 : decode cX6_merges 24 = .ok (.ireturn, 1) := by decide +kernel
theorem dX6_merges_25 : decode cX6_merges 25 = .ok (.aload_n 0, 1) := by decide +kernel
theorem dX6_merges_26 : decode cX6_merges 26 = .ok (.aload_n 0, 1) := by decide +kernel
theorem dX6_merges_27 : decode cX6_merges 27 = .ok (.getfield 27, 3) := by decide +kernel
theorem dX6_merges_30 : decode cX6_merges 30 = .ok (.aload_n 0, 1) := by decide +kernel
theorem dX6_merges_31 : decode cX6_merges 31 = .ok (.getfield 23, 3) := by decide +kernel
theorem dX6_merges_34 : decode cX6_merges 34 = .ok (.invokevirtual 259, 3) := by decide +kernel
theorem dX6_merges_37 : decode cX6_merges 37 = .ok (.aload_n 0, 1) := by decide +kernel
theorem dX6_merges_38 : decode cX6_merges 38 = .ok (.getfield 53, 3) := by decide +kernel
theorem dX6_merges_41 : decode cX6_merges 41 = .ok (.aload_n 0, 1) := by decide +kernel
theorem dX6_merges_42 : decode cX6_merges 42 = .ok (.getfield 23, 3) := by decide +kernel
theorem dX6_merges_45 : decode cX6_merges 45 = .ok (.invokevirtual 108, 3) := by decide +kernel
theorem dX6_merges_48 : decode cX6_merges 48 = .ok (.i2l, 1) := by decide +kernel
theorem dX6_merges_49 : decode cX6_merges 49 = .ok (.aload_n 0, 1) := by decide +kernel
theorem dX6_merges_50 : decode cX6_merges 50 = .ok (.getfield 23, 3) := by decide +kernel
theorem dX6_merges_53 : decode cX6_merges 53 = .ok (.getfield 105, 3) := by decide +kernel
theorem dX6_merges_56 : decode cX6_merges 56 = .ok (.i2l, 1) := by decide +kernel
theorem dX6_merges_57 : decode cX6_merges 57 = .ok (.invokevirtual 90, 3) := by decide +kernel
theorem dX6_merges_60 : decode cX6_merges 60 = .ok (.iload_n 1, 1) := by decide +kernel
theorem dX6_merges_61 : decode cX6_merges 61 = .ok (.ireturn, 1) := by decide +kernel
theorem dX6_spills_0 : decode cX6_spills 0 = .ok (.iload_n 1, 1) := by decide +kernel
theorem dX6_spills_1 : decode cX6_spills 1 = .ok (.invokestatic 79, 3) := by decide +kernel
theorem dX6_spills_4 : decode cX6_spills 4 = .ok (.ifCond .ne 5, 3) := by decide +kernel
theorem dX6_spills_7 : decode cX6_spills 7 = .ok (.iconst (-1), 1) := by decide +kernel
theorem dX6_spills_8 : decode cX6_spills 8 = .ok (.ireturn, 1) := by decide +kernel
theorem dX6_spills_9 : decode cX6_spills 9 = .ok (.aload_n 0, 1) := by decide +kernel
theorem dX6_spills_10 : decode cX6_spills 10 = .ok (.aload_n 0, 1) := by decide +kernel
theorem dX6_spills_11 : decode cX6_spills 11 = .ok (.getfield 23, 3) := by decide +kernel
theorem dX6_spills_14 : decode cX6_spills 14 = .ok (.invokevirtual 222, 3) := by decide +kernel
theorem dX6_spills_17 : decode cX6_spills 17 = .ok (.ifCond .ne 13, 3) := by decide +kernel
theorem dX6_spills_20 : decode cX6_spills 20 = .ok (.aload_n 0, 1) := by decide +kernel
theorem dX6_spills_21 : decode cX6_spills 21 = .ok (.getfield 23, 3) := by decide +kernel
theorem dX6_spills_24 : decode cX6_spills 24 = .ok (.invokevirtual 226, 3) := by decide +kernel
theorem dX6_spills_27 : decode cX6_spills 27 = .ok (.ifCond .eq 7, 3) := by decide +kernel
theorem dX6_spills_30 : decode cX6_spills 30 = .ok (.iconst 1, 1) := by decide +kernel
theorem dX6_spills_31 : decode cX6_spills 31 = .ok (.goto 4, 3) := by decide +kernel
theorem dX6_spills_34 : decode cX6_spills 34 = .ok (.iconst 0, 1) := by decide +kernel
theorem dX6_spills_35 : decode cX6_spills 35 = .ok (.istore_n 2, 1) := by decide +kernel
theorem dX6_spills_36 : decode cX6_spills 36 = .ok (.iload_n 2, 1) := by decide +kernel
theorem dX6_spills_37 : decode cX6_spills 37 = .ok (.ifCond .eq 13, 3) := by decide +kernel
theorem dX6_spills_40 : decode cX6_spills 40 = .ok (.aload_n 0, 1) := by decide +kernel
theorem dX6_spills_41 : decode cX6_spills 41 = .ok (.invokevirtual 256, 3) := by decide +kernel
theorem dX6_spills_44 : decode cX6_spills 44 = .ok (.ifCond .ne 6, 3) := by decide +kernel
theorem dX6_spills_47 : decode cX6_spills 47 = .ok (.bipush (-5), 2) := by decide +kernel
theorem dX6_spills_49 : decode cX6_spills 49 = .ok (.ireturn, 1) := by decide +kernel
theorem dX6_spills_50 : decode cX6_spills 50 = .ok (.iload_n 2, 1) := by decide +kernel
theorem dX6_spills_51 : decode cX6_spills 51 = .ok (.ifCond .eq 15, 3) := by decide +kernel
theorem dX6_spills_54 : decode cX6_spills 54 = .ok (.aload_n 0, 1) := by decide +kernel
theorem dX6_spills_55 : decode cX6_spills 55 = .ok (.aload_n 0, 1) := by decide +kernel
theorem dX6_spills_56 : decode cX6_spills 56 = .ok (.getfield 23, 3) := by decide +kernel
theorem dX6_spills_59 : decode cX6_spills 59 = .ok (.aload_n 0, 1) := by decide +kernel
theorem dX6_spills_60 : decode cX6_spills 60 = .ok (.getfield 27, 3) := by decide +kernel
theorem dX6_spills_63 : decode cX6_spills 63 = .ok (.invokevirtual 259, 3) := by decide +kernel
theorem dX6_spills_66 : decode cX6_spills 66 = .ok (.aload_n 0, 1) := by decide +kernel
theorem dX6_spills_67 : decode cX6_spills 67 = .ok (.getfield 23, 3) := by decide +kernel
theorem dX6_spills_70 : decode cX6_spills 70 = .ok (.aload_n 0, 1) := by decide +kernel
theorem dX6_spills_71 : decode cX6_spills 71 = .ok (.iload_n 1, 1) := by decide +kernel
theorem dX6_spills_72 : decode cX6_spills 72 = .ok (.invokevirtual 83, 3) := by decide +kernel
theorem dX6_spills_75 : decode cX6_spills 75 = .ok (.invokevirtual 234, 3) := by decide +kernel
theorem dX6_spills_78 : decode cX6_spills 78 = .ok (.pop, 1) := by decide +kernel
theorem dX6_spills_79 : decode cX6_spills 79 = .ok (.aload_n 0, 1) := by decide +kernel
theorem dX6_spills_80 : decode cX6_spills 80 = .ok (.getfield 53, 3) := by decide +kernel
theorem dX6_spills_83 : decode cX6_spills 83 = .ok (.aload_n 0, 1) := by decide +kernel
theorem dX6_spills_84 : decode cX6_spills 84 = .ok (.getfield 23, 3) := by decide +kernel
theorem dX6_spills_87 : decode cX6_spills 87 = .ok (.getfield 105, 3) := by decide +kernel
theorem dX6_spills_90 : decode cX6_spills 90 = .ok (.i2l, 1) := by decide +kernel
theorem dX6_spills_91 : decode cX6_spills 91 = .ok (.aload_n 0, 1) := by decide +kernel
theorem dX6_spills_92 : decode cX6_spills 92 = .ok (.getfield 27, 3) := by decide +kernel
theorem dX6_spills_95 : decode cX6_spills 95 = .ok (.getfield 105, 3) := by decide +kernel
theorem dX6_spills_98 : decode cX6_spills 98 = .ok (.i2l, 1) := by decide +kernel
theorem dX6_spills_99 : decode cX6_spills 99 = .ok (.invokevirtual 90, 3) := by decide +kernel
theorem dX6_spills_102 : decode cX6_spills 102 = .ok (.iload_n 2, 1) := by decide +kernel
theorem dX6_spills_103 : decode cX6_spills 103 = .ok (.ifCond .eq 7, 3) := by decide +kernel
theorem dX6_spills_106 : decode cX6_spills 106 = .ok (.iconst 1, 1) := by decide +kernel
theorem dX6_spills_107 : decode cX6_spills 107 = .ok (.goto 4, 3) := by decide +kernel
theorem dX6_spills_110 : decode cX6_spills 110 = .ok (.iconst 0, 1) := by decide +kernel
theorem dX6_spills_111 : decode cX6_spills 111 = .ok (.ireturn, 1) := by decide +kernel
theorem dX6_both_0 : decode cX6_both 0 = .ok (.iload_n 1, 1) := by decide +kernel
theorem dX6_both_1 : decode cX6_both 1 = .ok (.invokestatic 79, 3) := by decide +kernel
theorem dX6_both_4 : decode cX6_both 4 = .ok (.ifCond .ne 5, 3) := by decide +kernel
theorem dX6_both_7 : decode cX6_both 7 = .ok (.iconst (-1), 1) := by decide +kernel
theorem dX6_both_8 : decode cX6_both 8 = .ok (.ireturn, 1) := by decide +kernel
theorem dX6_both_9 : decode cX6_both 9 = .ok (.aload_n 0, 1) := by decide +kernel
theorem dX6_both_10 : decode cX6_both 10 = .ok (.iload_n 1, 1) := by decide +kernel
theorem dX6_both_11 : decode cX6_both 11 = .ok (.invokevirtual 83, 3) := by decide +kernel
theorem dX6_both_14 : decode cX6_both 14 = .ok (.istore_n 2, 1) := by decide +kernel
theorem dX6_both_15 : decode cX6_both 15 = .ok (.aload_n 0, 1) := by decide +kernel
theorem dX6_both_16 : decode cX6_both 16 = .ok (.getfield 23, 3) := by decide +kernel
theorem dX6_both_19 : decode cX6_both 19 = .ok (.iload_n 2, 1) := by decide +kernel
theorem dX6_both_20 : decode cX6_both 20 = .ok (.invokevirtual 118, 3) := by decide +kernel
theorem dX6_both_23 : decode cX6_both 23 = .ok (.istore_n 3, 1) := by decide +kernel
theorem dX6_both_24 : decode cX6_both 24 = .ok (.iload_n 3, 1) := by decide +kernel
theorem dX6_both_25 : decode cX6_both 25 = .ok (.ifCond .le 7, 3) := by decide +kernel
theorem dX6_both_28 : decode cX6_both 28 = .ok (.iconst 0, 1) := by decide +kernel
theorem dX6_both_29 : decode cX6_both 29 = .ok (.goto 19, 3) := by decide +kernel
theorem dX6_both_32 : decode cX6_both 32 = .ok (.aload_n 0, 1) := by decide +kernel
theorem dX6_both_33 : decode cX6_both 33 = .ok (.aload_n 0, 1) := by decide +kernel
theorem dX6_both_34 : decode cX6_both 34 = .ok (.getfield 27, 3) := by decide +kernel
theorem dX6_both_37 : decode cX6_both 37 = .ok (.aload_n 0, 1) := by decide +kernel
theorem dX6_both_38 : decode cX6_both 38 = .ok (.getfield 27, 3) := by decide +kernel
theorem dX6_both_41 : decode cX6_both 41 = .ok (.getfield 87, 3) := by decide +kernel
theorem dX6_both_44 : decode cX6_both 44 = .ok (.iload_n 2, 1) := by decide +kernel
theorem dX6_both_45 : decode cX6_both 45 = .ok (.invokevirtual 121, 3) := by decide +kernel
theorem dX6_both_48 : decode cX6_both 48 = .ok (.istore 4, 2) := by decide +kernel
theorem dX6_both_50 : decode cX6_both 50 = .ok (.aload_n 0, 1) := by decide +kernel
theorem dX6_both_51 : decode cX6_both 51 = .ok (.getfield 53, 3) := by decide +kernel
theorem dX6_both_54 : decode cX6_both 54 = .ok (.aload_n 0, 1) := by decide +kernel
theorem dX6_both_55 : decode cX6_both 55 = .ok (.aload_n 0, 1) := by decide +kernel
theorem dX6_both_56 : decode cX6_both 56 = .ok (.getfield 23, 3) := by decide +kernel
theorem dX6_both_59 : decode cX6_both 59 = .ok (.aload_n 0, 1) := by decide +kernel
theorem dX6_both_60 : decode cX6_both 60 = .ok (.getfield 23, 3) := by decide +kernel
theorem dX6_both_63 : decode cX6_both 63 = .ok (.getfield 87, 3) := by decide +kernel
theorem dX6_both_66 : decode cX6_both 66 = .ok (.iload_n 2, 1) := by decide +kernel
theorem dX6_both_67 : decode cX6_both 67 = .ok (.invokevirtual 121, 3) := by decide +kernel
theorem dX6_both_70 : decode cX6_both 70 = .ok (.i2l, 1) := by decide +kernel
theorem dX6_both_71 : decode cX6_both 71 = .ok (.iload 4, 2) := by decide +kernel
theorem dX6_both_73 : decode cX6_both 73 = .ok (.i2l, 1) := by decide +kernel
theorem dX6_both_74 : decode cX6_both 74 = .ok (.invokevirtual 90, 3) := by decide +kernel
theorem dX6_both_77 : decode cX6_both 77 = .ok (.iload_n 3, 1) := by decide +kernel
theorem dX6_both_78 : decode cX6_both 78 = .ok (.aload_n 0, 1) := by decide +kernel
theorem dX6_both_79 : decode cX6_both 79 = .ok (.getfield 27, 3) := by decide +kernel
theorem dX6_both_82 : decode cX6_both 82 = .ok (.iload_n 2, 1) := by decide +kernel
theorem dX6_both_83 : decode cX6_both 83 = .ok (.invokevirtual 118, 3) := by decide +kernel
theorem dX6_both_86 : decode cX6_both 86 = .ok (.iadd, 1) := by decide +kernel
theorem dX6_both_87 : decode cX6_both 87 = .ok (.ireturn, 1) := by decide +kernel
theorem dX6_parts_0 : decode cX6_parts 0 = .ok (.iload_n 1, 1) := by decide +kernel
theorem dX6_parts_1 : decode cX6_parts 1 = .ok (.ifCond .lt 13, 3) := by decide +kernel
theorem dX6_parts_4 : decode cX6_parts 4 = .ok (.iload_n 1, 1) := by decide +kernel
theorem dX6_parts_5 : decode cX6_parts 5 = .ok (.iconst 1, 1) := by decide +kernel
theorem dX6_parts_6 : decode cX6_parts 6 = .ok (.aload_n 0, 1) := by decide +kernel
theorem dX6_parts_7 : decode cX6_parts 7 = .ok (.getfield 7, 3) := by decide +kernel
theorem dX6_parts_10 : decode cX6_parts 10 = .ok (.ishl, 1) := by decide +kernel
theorem dX6_parts_11 : decode cX6_parts 11 = .ok (.if_icmp .lt 5, 3) := by decide +kernel
theorem dX6_parts_14 : decode cX6_parts 14 = .ok (.iconst (-1), 1) := by decide +kernel
theorem dX6_parts_15 : decode cX6_parts 15 = .ok (.ireturn, 1) := by decide +kernel
theorem dX6_parts_16 : decode cX6_parts 16 = .ok (.aload_n 0, 1) := by decide +kernel
theorem dX6_parts_17 : decode cX6_parts 17 = .ok (.getfield 23, 3) := by decide +kernel
theorem dX6_parts_20 : decode cX6_parts 20 = .ok (.iload_n 1, 1) := by decide +kernel
theorem dX6_parts_21 : decode cX6_parts 21 = .ok (.invokevirtual 198, 3) := by decide +kernel
theorem dX6_parts_24 : decode cX6_parts 24 = .ok (.istore_n 2, 1) := by decide +kernel
theorem dX6_parts_25 : decode cX6_parts 25 = .ok (.aload_n 0, 1) := by decide +kernel
theorem dX6_parts_26 : decode cX6_parts 26 = .ok (.getfield 23, 3) := by decide +kernel
theorem dX6_parts_29 : decode cX6_parts 29 = .ok (.getfield 105, 3) := by decide +kernel
theorem dX6_parts_32 : decode cX6_parts 32 = .ok (.iload_n 2, 1) := by decide +kernel
theorem dX6_parts_33 : decode cX6_parts 33 = .ok (.isub, 1) := by decide +kernel
theorem dX6_parts_34 : decode cX6_parts 34 = .ok (.istore_n 3, 1) := by decide +kernel
theorem dX6_parts_35 : decode cX6_parts 35 = .ok (.iload_n 3, 1) := by decide +kernel
theorem dX6_parts_36 : decode cX6_parts 36 = .ok (.ifCond .ne 6, 3) := by decide +kernel
theorem dX6_parts_39 : decode cX6_parts 39 = .ok (.bipush (-2), 2) := by decide +kernel
theorem dX6_parts_41 : decode cX6_parts 41 = .ok (.ireturn, 1) := by decide +kernel
theorem dX6_parts_42 : decode cX6_parts 42 = .ok (.aload_n 0, 1) := by decide +kernel
theorem dX6_parts_43 : decode cX6_parts 43 = .ok (.getfield 27, 3) := by decide +kernel
theorem dX6_parts_46 : decode cX6_parts 46 = .ok (.getfield 105, 3) := by decide +kernel
theorem dX6_parts_49 : decode cX6_parts 49 = .ok (.ifCond .le 6, 3) := by decide +kernel
theorem dX6_parts_52 : decode cX6_parts 52 = .ok (.bipush (-3), 2) := by decide +kernel
theorem dX6_parts_54 : decode cX6_parts 54 = .ok (.ireturn, 1) := by decide +kernel
theorem dX6_parts_55 : decode cX6_parts 55 = .ok (.aload_n 0, 1) := by decide +kernel
theorem dX6_parts_56 : decode cX6_parts 56 = .ok (.getfield 27, 3) := by decide +kernel
theorem dX6_parts_59 : decode cX6_parts 59 = .ok (.aload_n 0, 1) := by decide +kernel
theorem dX6_parts_60 : decode cX6_parts 60 = .ok (.getfield 23, 3) := by decide +kernel
theorem dX6_parts_63 : decode cX6_parts 63 = .ok (.getfield 87, 3) := by decide +kernel
theorem dX6_parts_66 : decode cX6_parts 66 = .ok (.invokevirtual 71, 3) := by decide +kernel
theorem dX6_parts_69 : decode cX6_parts 69 = .ok (.iload_n 2, 1) := by decide +kernel
theorem dX6_parts_70 : decode cX6_parts 70 = .ok (.istore 4, 2) := by decide +kernel
theorem dX6_parts_72 : decode cX6_parts 72 = .ok (.iload 4, 2) := by decide +kernel
theorem dX6_parts_74 : decode cX6_parts 74 = .ok (.aload_n 0, 1) := by decide +kernel
theorem dX6_parts_75 : decode cX6_parts 75 = .ok (.getfield 23, 3) := by decide +kernel
theorem dX6_parts_78 : decode cX6_parts 78 = .ok (.getfield 105, 3) := by decide +kernel
theorem dX6_parts_81 : decode cX6_parts 81 = .ok (.if_icmp .ge 26, 3) := by decide +kernel
theorem dX6_parts_84 : decode cX6_parts 84 = .ok (.aload_n 0, 1) := by decide +kernel
theorem dX6_parts_85 : decode cX6_parts 85 = .ok (.getfield 27, 3) := by decide +kernel
theorem dX6_parts_88 : decode cX6_parts 88 = .ok (.aload_n 0, 1) := by decide +kernel
theorem dX6_parts_89 : decode cX6_parts 89 = .ok (.getfield 23, 3) := by decide +kernel
theorem dX6_parts_92 : decode cX6_parts 92 = .ok (.iload 4, 2) := by decide +kernel
theorem dX6_parts_94 : decode cX6_parts 94 = .ok (.invokevirtual 164, 3) := by decide +kernel
theorem dX6_parts_97 : decode cX6_parts 97 = .ok (.invokevirtual 234, 3) := by decide +kernel
theorem dX6_parts_100 : decode cX6_parts 100 = .ok (.pop, 1) := by decide +kernel
theorem dX6_parts_101 : decode cX6_parts 101 = .ok (.iinc 4 1, 3) := by decide +kernel
theorem dX6_parts_104 : decode cX6_parts 104 = .ok (.goto (-32), 3) := by decide +kernel
theorem dX6_parts_107 : decode cX6_parts 107 = .ok (.aload_n 0, 1) := by decide +kernel
theorem dX6_parts_108 : decode cX6_parts 108 = .ok (.getfield 23, 3) := by decide +kernel
theorem dX6_parts_111 : decode cX6_parts 111 = .ok (.iload_n 2, 1) := by decide +kernel
theorem dX6_parts_112 : decode cX6_parts 112 = .ok (.invokevirtual 263, 3) := by decide +kernel
theorem dX6_parts_115 : decode cX6_parts 115 = .ok (.iload_n 3, 1) := by decide +kernel
theorem dX6_parts_116 : decode cX6_parts 116 = .ok (.ireturn, 1) := by decide +kernel
theorem dX6_keeps_0 : decode cX6_keeps 0 = .ok (.aload_n 0, 1) := by decide +kernel
theorem dX6_keeps_1 : decode cX6_keeps 1 = .ok (.getfield 30, 3) := by decide +kernel
theorem dX6_keeps_4 : decode cX6_keeps 4 = .ok (.aload_n 0, 1) := by decide +kernel
theorem dX6_keeps_5 : decode cX6_keeps 5 = .ok (.getfield 23, 3) := by decide +kernel
theorem dX6_keeps_8 : decode cX6_keeps 8 = .ok (.getfield 87, 3) := by decide +kernel
theorem dX6_keeps_11 : decode cX6_keeps 11 = .ok (.invokevirtual 71, 3) := by decide +kernel
theorem dX6_keeps_14 : decode cX6_keeps 14 = .ok (.iconst 0, 1) := by decide +kernel
theorem dX6_keeps_15 : decode cX6_keeps 15 = .ok (.istore_n 2, 1) := by decide +kernel
theorem dX6_keeps_16 : decode cX6_keeps 16 = .ok (.iload_n 2, 1) := by decide +kernel
theorem dX6_keeps_17 : decode cX6_keeps 17 = .ok (.aload_n 0, 1) := by decide +kernel
theorem dX6_keeps_18 : decode cX6_keeps 18 = .ok (.getfield 23, 3) := by decide +kernel
theorem dX6_keeps_21 : decode cX6_keeps 21 = .ok (.getfield 105, 3) := by decide +kernel
theorem dX6_keeps_24 : decode cX6_keeps 24 = .ok (.if_icmp .ge 34, 3) := by decide +kernel
theorem dX6_keeps_27 : decode cX6_keeps 27 = .ok (.aload_n 0, 1) := by decide +kernel
theorem dX6_keeps_28 : decode cX6_keeps 28 = .ok (.iload_n 2, 1) := by decide +kernel
theorem dX6_keeps_29 : decode cX6_keeps 29 = .ok (.invokevirtual 265, 3) := by decide +kernel
theorem dX6_keeps_32 : decode cX6_keeps 32 = .ok (.iload_n 1, 1) := by decide +kernel
theorem dX6_keeps_33 : decode cX6_keeps 33 = .ok (.if_icmp .ne 19, 3) := by decide +kernel
theorem dX6_keeps_36 : decode cX6_keeps 36 = .ok (.aload_n 0, 1) := by decide +kernel
theorem dX6_keeps_37 : decode cX6_keeps 37 = .ok (.getfield 30, 3) := by decide +kernel
theorem dX6_keeps_40 : decode cX6_keeps 40 = .ok (.aload_n 0, 1) := by decide +kernel
theorem dX6_keeps_41 : decode cX6_keeps 41 = .ok (.getfield 23, 3) := by decide +kernel
theorem dX6_keeps_44 : decode cX6_keeps 44 = .ok (.iload_n 2, 1) := by decide +kernel
theorem dX6_keeps_45 : decode cX6_keeps 45 = .ok (.invokevirtual 164, 3) := by decide +kernel
theorem dX6_keeps_48 : decode cX6_keeps 48 = .ok (.invokevirtual 234, 3) := by decide +kernel
theorem dX6_keeps_51 : decode cX6_keeps 51 = .ok (.pop, 1) := by decide +kernel
theorem dX6_keeps_52 : decode cX6_keeps 52 = .ok (.iinc 2 1, 3) := by decide +kernel
theorem dX6_keeps_55 : decode cX6_keeps 55 = .ok (.goto (-39), 3) := by decide +kernel
theorem dX6_keeps_58 : decode cX6_keeps 58 = .ok (.aload_n 0, 1) := by decide +kernel
theorem dX6_keeps_59 : decode cX6_keeps 59 = .ok (.getfield 23, 3) := by decide +kernel
theorem dX6_keeps_62 : decode cX6_keeps 62 = .ok (.getfield 105, 3) := by decide +kernel
theorem dX6_keeps_65 : decode cX6_keeps 65 = .ok (.aload_n 0, 1) := by decide +kernel
theorem dX6_keeps_66 : decode cX6_keeps 66 = .ok (.getfield 30, 3) := by decide +kernel
theorem dX6_keeps_69 : decode cX6_keeps 69 = .ok (.getfield 105, 3) := by decide +kernel
theorem dX6_keeps_72 : decode cX6_keeps 72 = .ok (.isub, 1) := by decide +kernel
theorem dX6_keeps_73 : decode cX6_keeps 73 = .ok (.istore_n 2, 1) := by decide +kernel
theorem dX6_keeps_74 : decode cX6_keeps 74 = .ok (.iload_n 2, 1) := by decide +kernel
theorem dX6_keeps_75 : decode cX6_keeps 75 = .ok (.ifCond .ne 6, 3) := by decide +kernel
theorem dX6_keeps_78 : decode cX6_keeps 78 = .ok (.bipush (-2), 2) := by decide +kernel
theorem dX6_keeps_80 : decode cX6_keeps 80 = .ok (.ireturn, 1) := by decide +kernel
theorem dX6_keeps_81 : decode cX6_keeps 81 = .ok (.aload_n 0, 1) := by decide +kernel
theorem dX6_keeps_82 : decode cX6_keeps 82 = .ok (.getfield 23, 3) := by decide +kernel
theorem dX6_keeps_85 : decode cX6_keeps 85 = .ok (.aload_n 0, 1) := by decide +kernel
theorem dX6_keeps_86 : decode cX6_keeps 86 = .ok (.getfield 30, 3) := by decide +kernel
theorem dX6_keeps_89 : decode cX6_keeps 89 = .ok (.invokevirtual 230, 3) := by decide +kernel
theorem dX6_keeps_92 : decode cX6_keeps 92 = .ok (.iload_n 2, 1) := by decide +kernel
theorem dX6_keeps_93 : decode cX6_keeps 93 = .ok (.ireturn, 1) := by decide +kernel
theorem dX6_clears_0 : decode cX6_clears 0 = .ok (.aload_n 0, 1) := by decide +kernel
theorem dX6_clears_1 : decode cX6_clears 1 = .ok (.iload_n 1, 1) := by decide +kernel
theorem dX6_clears_2 : decode cX6_clears 2 = .ok (.invokevirtual 75, 3) := by decide +kernel
theorem dX6_clears_5 : decode cX6_clears 5 = .ok (.astore_n 2, 1) := by decide +kernel
theorem dX6_clears_6 : decode cX6_clears 6 = .ok (.aload_n 2, 1) := by decide +kernel
theorem dX6_clears_7 : decode cX6_clears 7 = .ok (.ifnonnull 5, 3) := by decide +kernel
theorem dX6_clears_10 : decode cX6_clears 10 = .ok (.iconst (-1), 1) := by decide +kernel
theorem dX6_clears_11 : decode cX6_clears 11 = .ok (.ireturn, 1) := by decide +kernel
theorem dX6_clears_12 : decode cX6_clears 12 = .ok (.aload_n 2, 1) := by decide +kernel
theorem dX6_clears_13 : decode cX6_clears 13 = .ok (.getfield 105, 3) := by decide +kernel
theorem dX6_clears_16 : decode cX6_clears 16 = .ok (.istore_n 3, 1) := by decide +kernel
theorem dX6_clears_17 : decode cX6_clears 17 = .ok (.aload_n 2, 1) := by decide +kernel
theorem dX6_clears_18 : decode cX6_clears 18 = .ok (.iconst 3, 1) := by decide +kernel
theorem dX6_clears_19 : decode cX6_clears 19 = .ok (.invokevirtual 71, 3) := by decide +kernel
theorem dX6_clears_22 : decode cX6_clears 22 = .ok (.iload_n 3, 1) := by decide +kernel
theorem dX6_clears_23 : decode cX6_clears 23 = .ok (.ireturn, 1) := by decide +kernel
theorem dX6_common_0 : decode cX6_common 0 = .ok (.iconst 0, 1) := by decide +kernel
theorem dX6_common_1 : decode cX6_common 1 = .ok (.istore_n 1, 1) := by decide +kernel
theorem dX6_common_2 : decode cX6_common 2 = .ok (.iconst 0, 1) := by decide +kernel
theorem dX6_common_3 : decode cX6_common 3 = .ok (.istore_n 2, 1) := by decide +kernel
theorem dX6_common_4 : decode cX6_common 4 = .ok (.iconst 0, 1) := by decide +kernel
theorem dX6_common_5 : decode cX6_common 5 = .ok (.istore_n 3, 1) := by decide +kernel
theorem dX6_common_6 : decode cX6_common 6 = .ok (.iload_n 3, 1) := by decide +kernel
theorem dX6_common_7 : decode cX6_common 7 = .ok (.aload_n 0, 1) := by decide +kernel
theorem dX6_common_8 : decode cX6_common 8 = .ok (.getfield 23, 3) := by decide +kernel
theorem dX6_common_11 : decode cX6_common 11 = .ok (.getfield 105, 3) := by decide +kernel
theorem dX6_common_14 : decode cX6_common 14 = .ok (.if_icmp .ge 39, 3) := by decide +kernel
theorem dX6_common_17 : decode cX6_common 17 = .ok (.aload_n 0, 1) := by decide +kernel
theorem dX6_common_18 : decode cX6_common 18 = .ok (.iload_n 3, 1) := by decide +kernel
theorem dX6_common_19 : decode cX6_common 19 = .ok (.invokevirtual 265, 3) := by decide +kernel
theorem dX6_common_22 : decode cX6_common 22 = .ok (.ifCond .eq 25, 3) := by decide +kernel
theorem dX6_common_25 : decode cX6_common 25 = .ok (.iinc 1 1, 3) := by decide +kernel
theorem dX6_common_28 : decode cX6_common 28 = .ok (.iload_n 2, 1) := by decide +kernel
theorem dX6_common_29 : decode cX6_common 29 = .ok (.aload_n 0, 1) := by decide +kernel
theorem dX6_common_30 : decode cX6_common 30 = .ok (.getfield 23, 3) := by decide +kernel
theorem dX6_common_33 : decode cX6_common 33 = .ok (.iload_n 3, 1) := by decide +kernel
theorem dX6_common_34 : decode cX6_common 34 = .ok (.invokevirtual 268, 3) := by decide +kernel
theorem dX6_common_37 : decode cX6_common 37 = .ok (.ifCond .ne 7, 3) := by decide +kernel
theorem dX6_common_40 : decode cX6_common 40 = .ok (.iconst 1, 1) := by decide +kernel
theorem dX6_common_41 : decode cX6_common 41 = .ok (.goto 4, 3) := by decide +kernel
theorem dX6_common_44 : decode cX6_common 44 = .ok (.iconst 0, 1) := by decide +kernel
theorem dX6_common_45 : decode cX6_common 45 = .ok (.iadd, 1) := by decide +kernel
theorem dX6_common_46 : decode cX6_common 46 = .ok (.istore_n 2, 1) := by decide +kernel
theorem dX6_common_47 : decode cX6_common 47 = .ok (.iinc 3 1, 3) := by decide +kernel
theorem dX6_common_50 : decode cX6_common 50 = .ok (.goto (-44), 3) := by decide +kernel
theorem dX6_common_53 : decode cX6_common 53 = .ok (.aload_n 0, 1) := by decide +kernel
theorem dX6_common_54 : decode cX6_common 54 = .ok (.getfield 53, 3) := by decide +kernel
theorem dX6_common_57 : decode cX6_common 57 = .ok (.iload_n 2, 1) := by decide +kernel
theorem dX6_common_58 : decode cX6_common 58 = .ok (.i2l, 1) := by decide +kernel
theorem dX6_common_59 : decode cX6_common 59 = .ok (.iload_n 1, 1) := by decide +kernel
theorem dX6_common_60 : decode cX6_common 60 = .ok (.aload_n 0, 1) := by decide +kernel
theorem dX6_common_61 : decode cX6_common 61 = .ok (.getfield 23, 3) := by decide +kernel
theorem dX6_common_64 : decode cX6_common 64 = .ok (.getfield 105, 3) := by decide +kernel
theorem dX6_common_67 : decode cX6_common 67 = .ok (.if_icmp .ne 7, 3) := by decide +kernel
theorem dX6_common_70 : decode cX6_common 70 = .ok (.lconst 1, 1) := by decide +kernel
theorem dX6_common_71 : decode cX6_common 71 = .ok (.goto 4, 3) := by decide +kernel
theorem dX6_common_74 : decode cX6_common 74 = .ok (.lconst 0, 1) := by decide +kernel
theorem dX6_common_75 : decode cX6_common 75 = .ok (.iload_n 1, 1) := by decide +kernel
theorem dX6_common_76 : decode cX6_common 76 = .ok (.aload_n 0, 1) := by decide +kernel
theorem dX6_common_77 : decode cX6_common 77 = .ok (.getfield 27, 3) := by decide +kernel
theorem dX6_common_80 : decode cX6_common 80 = .ok (.getfield 105, 3) := by decide +kernel
theorem dX6_common_83 : decode cX6_common 83 = .ok (.if_icmp .ne 7, 3) := by decide +kernel
theorem dX6_common_86 : decode cX6_common 86 = .ok (.lconst 1, 1) := by decide +kernel
theorem dX6_common_87 : decode cX6_common 87 = .ok (.goto 4, 3) := by decide +kernel
theorem dX6_common_90 : decode cX6_common 90 = .ok (.lconst 0, 1) := by decide +kernel
theorem dX6_common_91 : decode cX6_common 91 = .ok (.invokevirtual 240, 3) := by decide +kernel
theorem dX6_common_94 : decode cX6_common 94 = .ok (.iload_n 1, 1) := by decide +kernel
theorem dX6_common_95 : decode cX6_common 95 = .ok (.ireturn, 1) := by decide +kernel
theorem dX6_full_0 : decode cX6_full 0 = .ok (.aload_n 0, 1) := by decide +kernel
theorem dX6_full_1 : decode cX6_full 1 = .ok (.iload_n 1, 1) := by decide +kernel
theorem dX6_full_2 : decode cX6_full 2 = .ok (.invokevirtual 75, 3) := by decide +kernel
theorem dX6_full_5 : decode cX6_full 5 = .ok (.astore_n 2, 1) := by decide +kernel
theorem dX6_full_6 : decode cX6_full 6 = .ok (.aload_n 2, 1) := by decide +kernel
theorem dX6_full_7 : decode cX6_full 7 = .ok (.ifnonnull 5, 3) := by decide +kernel
theorem dX6_full_10 : decode cX6_full 10 = .ok (.iconst (-1), 1) := by decide +kernel
theorem dX6_full_11 : decode cX6_full 11 = .ok (.ireturn, 1) := by decide +kernel
theorem dX6_full_12 : decode cX6_full 12 = .ok (.iconst 0, 1) := by decide +kernel
theorem dX6_full_13 : decode cX6_full 13 = .ok (.istore_n 3, 1) := by decide +kernel
theorem dX6_full_14 : decode cX6_full 14 = .ok (.iconst 0, 1) := by decide +kernel
theorem dX6_full_15 : decode cX6_full 15 = .ok (.istore 4, 2) := by decide +kernel
theorem dX6_full_17 : decode cX6_full 17 = .ok (.iload 4, 2) := by decide +kernel
theorem dX6_full_19 : decode cX6_full 19 = .ok (.sipush 1000, 3) := by decide +kernel
theorem dX6_full_22 : decode cX6_full 22 = .ok (.if_icmp .ge 25, 3) := by decide +kernel
theorem dX6_full_25 : decode cX6_full 25 = .ok (.aload_n 2, 1) := by decide +kernel
theorem dX6_full_26 : decode cX6_full 26 = .ok (.aload_n 0, 1) := by decide +kernel
theorem dX6_full_27 : decode cX6_full 27 = .ok (.iload 4, 2) := by decide +kernel
theorem dX6_full_29 : decode cX6_full 29 = .ok (.invokevirtual 83, 3) := by decide +kernel
theorem dX6_full_32 : decode cX6_full 32 = .ok (.invokevirtual 143, 3) := by decide +kernel
theorem dX6_full_35 : decode cX6_full 35 = .ok (.ifCond .eq 6, 3) := by decide +kernel
theorem dX6_full_38 : decode cX6_full 38 = .ok (.iinc 3 1, 3) := by decide +kernel
theorem dX6_full_41 : decode cX6_full 41 = .ok (.iinc 4 1, 3) := by decide +kernel
theorem dX6_full_44 : decode cX6_full 44 = .ok (.goto (-27), 3) := by decide +kernel
theorem dX6_full_47 : decode cX6_full 47 = .ok (.aload_n 0, 1) := by decide +kernel
theorem dX6_full_48 : decode cX6_full 48 = .ok (.getfield 53, 3) := by decide +kernel
theorem dX6_full_51 : decode cX6_full 51 = .ok (.aload_n 2, 1) := by decide +kernel
theorem dX6_full_52 : decode cX6_full 52 = .ok (.invokevirtual 237, 3) := by decide +kernel
theorem dX6_full_55 : decode cX6_full 55 = .ok (.aload_n 0, 1) := by decide +kernel
theorem dX6_full_56 : decode cX6_full 56 = .ok (.getfield 7, 3) := by decide +kernel
theorem dX6_full_59 : decode cX6_full 59 = .ok (.invokestatic 271, 3) := by decide +kernel
theorem dX6_full_62 : decode cX6_full 62 = .ok (.iload_n 3, 1) := by decide +kernel
theorem dX6_full_63 : decode cX6_full 63 = .ok (.i2l, 1) := by decide +kernel
theorem dX6_full_64 : decode cX6_full 64 = .ok (.invokevirtual 90, 3) := by decide +kernel
theorem dX6_full_67 : decode cX6_full 67 = .ok (.aload_n 2, 1) := by decide +kernel
theorem dX6_full_68 : decode cX6_full 68 = .ok (.getfield 105, 3) := by decide +kernel
theorem dX6_full_71 : decode cX6_full 71 = .ok (.aload_n 2, 1) := by decide +kernel
theorem dX6_full_72 : decode cX6_full 72 = .ok (.getfield 87, 3) := by decide +kernel
theorem dX6_full_75 : decode cX6_full 75 = .ok (.invokestatic 275, 3) := by decide +kernel
theorem dX6_full_78 : decode cX6_full 78 = .ok (.ireturn, 1) := by decide +kernel
theorem dX6_count_0 : decode cX6_count 0 = .ok (.iload_n 2, 1) := by decide +kernel
theorem dX6_count_1 : decode cX6_count 1 = .ok (.tableswitch 66 6 10 #[35, 40, 45, 50, 58], 35) := by decide +kernel
theorem dX6_count_36 : decode cX6_count 36 = .ok (.aload_n 0, 1) := by decide +kernel
theorem dX6_count_37 : decode cX6_count 37 = .ok (.getfield 7, 3) := by decide +kernel
theorem dX6_count_40 : decode cX6_count 40 = .ok (.ireturn, 1) := by decide +kernel
theorem dX6_count_41 : decode cX6_count 41 = .ok (.aload_n 0, 1) := by decide +kernel
theorem dX6_count_42 : decode cX6_count 42 = .ok (.getfield 14, 3) := by decide +kernel
theorem dX6_count_45 : decode cX6_count 45 = .ok (.ireturn, 1) := by decide +kernel
theorem dX6_count_46 : decode cX6_count 46 = .ok (.aload_n 0, 1) := by decide +kernel
theorem dX6_count_47 : decode cX6_count 47 = .ok (.getfield 17, 3) := by decide +kernel
theorem dX6_count_50 : decode cX6_count 50 = .ok (.ireturn, 1) := by decide +kernel
theorem dX6_count_51 : decode cX6_count 51 = .ok (.aload_n 0, 1) := by decide +kernel
theorem dX6_count_52 : decode cX6_count 52 = .ok (.getfield 53, 3) := by decide +kernel
theorem dX6_count_55 : decode cX6_count 55 = .ok (.getfield 278, 3) := by decide +kernel
theorem dX6_count_58 : decode cX6_count 58 = .ok (.ireturn, 1) := by decide +kernel
theorem dX6_count_59 : decode cX6_count 59 = .ok (.aload_n 0, 1) := by decide +kernel
theorem dX6_count_60 : decode cX6_count 60 = .ok (.getfield 60, 3) := by decide +kernel
theorem dX6_count_63 : decode cX6_count 63 = .ok (.getfield 279, 3) := by decide +kernel
theorem dX6_count_66 : decode cX6_count 66 = .ok (.ireturn, 1) := by decide +kernel
theorem dX6_count_67 : decode cX6_count 67 = .ok (.aload_n 0, 1) := by decide +kernel
theorem dX6_count_68 : decode cX6_count 68 = .ok (.iload_n 1, 1) := by decide +kernel
theorem dX6_count_69 : decode cX6_count 69 = .ok (.invokevirtual 75, 3) := by decide +kernel
theorem dX6_count_72 : decode cX6_count 72 = .ok (.astore_n 3, 1) := by decide +kernel
theorem dX6_count_73 : decode cX6_count 73 = .ok (.aload_n 3, 1) := by decide +kernel
theorem dX6_count_74 : decode cX6_count 74 = .ok (.ifnonnull 7, 3) := by decide +kernel
theorem dX6_count_77 : decode cX6_count 77 = .ok (.iconst (-1), 1) := by decide +kernel
theorem dX6_count_78 : decode cX6_count 78 = .ok (.goto 9, 3) := by decide +kernel
theorem dX6_count_81 : decode cX6_count 81 = .ok (.aload_n 0, 1) := by decide +kernel
theorem dX6_count_82 : decode cX6_count 82 = .ok (.aload_n 3, 1) := by decide +kernel
theorem dX6_count_83 : decode cX6_count 83 = .ok (.iload_n 2, 1) := by decide +kernel
theorem dX6_count_84 : decode cX6_count 84 = .ok (.invokevirtual 280, 3) := by decide +kernel
theorem dX6_count_87 : decode cX6_count 87 = .ok (.ireturn, 1) := by decide +kernel
theorem dX6_sign_0 : decode cX6_sign 0 = .ok (.aload_n 0, 1) := by decide +kernel
theorem dX6_sign_1 : decode cX6_sign 1 = .ok (.getfield 60, 3) := by decide +kernel
theorem dX6_sign_4 : decode cX6_sign 4 = .ok (.iload_n 1, 1) := by decide +kernel
theorem dX6_sign_5 : decode cX6_sign 5 = .ok (.invokevirtual 283, 3) := by decide +kernel
theorem dX6_sign_8 : decode cX6_sign 8 = .ok (.ifCond .eq 13, 3) := by decide +kernel
theorem dX6_sign_11 : decode cX6_sign 11 = .ok (.aload_n 0, 1) := by decide +kernel
theorem dX6_sign_12 : decode cX6_sign 12 = .ok (.getfield 60, 3) := by decide +kernel
theorem dX6_sign_15 : decode cX6_sign 15 = .ok (.getfield 279, 3) := by decide +kernel
theorem dX6_sign_18 : decode cX6_sign 18 = .ok (.goto 4, 3) := by decide +kernel
theorem dX6_sign_21 : decode cX6_sign 21 = .ok (.iconst (-1), 1) := by decide +kernel
theorem dX6_sign_22 : decode cX6_sign 22 = .ok (.ireturn, 1) := by decide +kernel
theorem dX6_end_0 : decode cX6_end 0 = .ok (.aload_n 0, 1) := by decide +kernel
theorem dX6_end_1 : decode cX6_end 1 = .ok (.getfield 60, 3) := by decide +kernel
theorem dX6_end_4 : decode cX6_end 4 = .ok (.iload_n 1, 1) := by decide +kernel
theorem dX6_end_5 : decode cX6_end 5 = .ok (.invokevirtual 129, 3) := by decide +kernel
theorem dX6_end_8 : decode cX6_end 8 = .ok (.ireturn, 1) := by decide +kernel
theorem dX6_row_0 : decode cX6_row 0 = .ok (.iload_n 1, 1) := by decide +kernel
theorem dX6_row_1 : decode cX6_row 1 = .ok (.ifCond .lt 14, 3) := by decide +kernel
theorem dX6_row_4 : decode cX6_row 4 = .ok (.iload_n 1, 1) := by decide +kernel
theorem dX6_row_5 : decode cX6_row 5 = .ok (.aload_n 0, 1) := by decide +kernel
theorem dX6_row_6 : decode cX6_row 6 = .ok (.getfield 53, 3) := by decide +kernel
theorem dX6_row_9 : decode cX6_row 9 = .ok (.getfield 278, 3) := by decide +kernel
theorem dX6_row_12 : decode cX6_row 12 = .ok (.if_icmp .lt 14, 3) := by decide +kernel
theorem dX6_row_15 : decode cX6_row 15 = .ok (.new 174, 3) := by decide +kernel
theorem dX6_row_18 : decode cX6_row 18 = .ok (.dup, 1) := by decide +kernel
theorem dX6_row_19 : decode cX6_row 19 = .ok (.ldc_w 286, 3) := by decide +kernel
theorem dX6_row_22 : decode cX6_row 22 = .ok (.invokespecial 178, 3) := by decide +kernel
theorem dX6_row_25 : decode cX6_row 25 = .ok (.athrow, 1) := by decide +kernel
theorem dX6_row_26 : decode cX6_row 26 = .ok (.aload_n 0, 1) := by decide +kernel
theorem dX6_row_27 : decode cX6_row 27 = .ok (.getfield 53, 3) := by decide +kernel
theorem dX6_row_30 : decode cX6_row 30 = .ok (.iload_n 1, 1) := by decide +kernel
theorem dX6_row_31 : decode cX6_row 31 = .ok (.invokevirtual 288, 3) := by decide +kernel
theorem dX6_row_34 : decode cX6_row 34 = .ok (.lreturn, 1) := by decide +kernel
theorem dX6_bagOf_0 : decode cX6_bagOf 0 = .ok (.iload_n 1, 1) := by decide +kernel
theorem dX6_bagOf_1 : decode cX6_bagOf 1 = .ok (.ifCond .ne 8, 3) := by decide +kernel
theorem dX6_bagOf_4 : decode cX6_bagOf 4 = .ok (.aload_n 0, 1) := by decide +kernel
theorem dX6_bagOf_5 : decode cX6_bagOf 5 = .ok (.getfield 23, 3) := by decide +kernel
theorem dX6_bagOf_8 : decode cX6_bagOf 8 = .ok (.areturn, 1) := by decide +kernel
theorem dX6_bagOf_9 : decode cX6_bagOf 9 = .ok (.iload_n 1, 1) := by decide +kernel
theorem dX6_bagOf_10 : decode cX6_bagOf 10 = .ok (.iconst 1, 1) := by decide +kernel
theorem dX6_bagOf_11 : decode cX6_bagOf 11 = .ok (.if_icmp .ne 10, 3) := by decide +kernel
theorem dX6_bagOf_14 : decode cX6_bagOf 14 = .ok (.aload_n 0, 1) := by decide +kernel
theorem dX6_bagOf_15 : decode cX6_bagOf 15 = .ok (.getfield 27, 3) := by decide +kernel
theorem dX6_bagOf_18 : decode cX6_bagOf 18 = .ok (.goto 4, 3) := by decide +kernel
theorem dX6_bagOf_21 : decode cX6_bagOf 21 = .ok (.aconst_null, 1) := by decide +kernel
theorem dX6_bagOf_22 : decode cX6_bagOf 22 = .ok (.areturn, 1) := by decide +kernel
theorem dX6_isKey_0 : decode cX6_isKey 0 = .ok (.iload_n 0, 1) := by decide +kernel
theorem dX6_isKey_1 : decode cX6_isKey 1 = .ok (.ifCond .lt 14, 3) := by decide +kernel
theorem dX6_isKey_4 : decode cX6_isKey 4 = .ok (.iload_n 0, 1) := by decide +kernel
theorem dX6_isKey_5 : decode cX6_isKey 5 = .ok (.ldc_w 290, 3) := by decide +kernel
theorem dX6_isKey_8 : decode cX6_isKey 8 = .ok (.if_icmp .gt 7, 3) := by decide +kernel
theorem dX6_isKey_11 : decode cX6_isKey 11 = .ok (.iconst 1, 1) := by decide +kernel
theorem dX6_isKey_12 : decode cX6_isKey 12 = .ok (.goto 4, 3) := by decide +kernel
theorem dX6_isKey_15 : decode cX6_isKey 15 = .ok (.iconst 0, 1) := by decide +kernel
theorem dX6_isKey_16 : decode cX6_isKey 16 = .ok (.ireturn, 1) := by decide +kernel
theorem dX6_printOf_0 : decode cX6_printOf 0 = .ok (.iload_n 1, 1) := by decide +kernel
theorem dX6_printOf_1 : decode cX6_printOf 1 = .ok (.aload_n 0, 1) := by decide +kernel
theorem dX6_printOf_2 : decode cX6_printOf 2 = .ok (.getfield 14, 3) := by decide +kernel
theorem dX6_printOf_5 : decode cX6_printOf 5 = .ok (.imul, 1) := by decide +kernel
theorem dX6_printOf_6 : decode cX6_printOf 6 = .ok (.bipush 32, 2) := by decide +kernel
theorem dX6_printOf_8 : decode cX6_printOf 8 = .ok (.aload_n 0, 1) := by decide +kernel
theorem dX6_printOf_9 : decode cX6_printOf 9 = .ok (.getfield 7, 3) := by decide +kernel
theorem dX6_printOf_12 : decode cX6_printOf 12 = .ok (.isub, 1) := by decide +kernel
theorem dX6_printOf_13 : decode cX6_printOf 13 = .ok (.iushr, 1) := by decide +kernel
theorem dX6_printOf_14 : decode cX6_printOf 14 = .ok (.ireturn, 1) := by decide +kernel
theorem dX6_greatestQ_0 : decode cX6_greatestQ 0 = .ok (.bipush 6, 2) := by decide +kernel
theorem dX6_greatestQ_2 : decode cX6_greatestQ 2 = .ok (.aload_n 0, 1) := by decide +kernel
theorem dX6_greatestQ_3 : decode cX6_greatestQ 3 = .ok (.getfield 7, 3) := by decide +kernel
theorem dX6_greatestQ_6 : decode cX6_greatestQ 6 = .ok (.iconst 1, 1) := by decide +kernel
theorem dX6_greatestQ_7 : decode cX6_greatestQ 7 = .ok (.isub, 1) := by decide +kernel
theorem dX6_greatestQ_8 : decode cX6_greatestQ 8 = .ok (.invokestatic 291, 3) := by decide +kernel
theorem dX6_greatestQ_11 : decode cX6_greatestQ 11 = .ok (.ireturn, 1) := by decide +kernel
theorem dX6_isWord_0 : decode cX6_isWord 0 = .ok (.aload_n 1, 1) := by decide +kernel
theorem dX6_isWord_1 : decode cX6_isWord 1 = .ok (.invokevirtual 108, 3) := by decide +kernel
theorem dX6_isWord_4 : decode cX6_isWord 4 = .ok (.aload_n 0, 1) := by decide +kernel
theorem dX6_isWord_5 : decode cX6_isWord 5 = .ok (.getfield 7, 3) := by decide +kernel
theorem dX6_isWord_8 : decode cX6_isWord 8 = .ok (.aload_n 1, 1) := by decide +kernel
theorem dX6_isWord_9 : decode cX6_isWord 9 = .ok (.getfield 87, 3) := by decide +kernel
theorem dX6_isWord_12 : decode cX6_isWord 12 = .ok (.isub, 1) := by decide +kernel
theorem dX6_isWord_13 : decode cX6_isWord 13 = .ok (.iconst 3, 1) := by decide +kernel
theorem dX6_isWord_14 : decode cX6_isWord 14 = .ok (.iadd, 1) := by decide +kernel
theorem dX6_isWord_15 : decode cX6_isWord 15 = .ok (.imul, 1) := by decide +kernel
theorem dX6_isWord_16 : decode cX6_isWord 16 = .ok (.istore_n 3, 1) := by decide +kernel
theorem dX6_isWord_17 : decode cX6_isWord 17 = .ok (.iload_n 2, 1) := by decide +kernel
theorem dX6_isWord_18 : decode cX6_isWord 18 = .ok (.ifCond .lt 17, 3) := by decide +kernel
theorem dX6_isWord_21 : decode cX6_isWord 21 = .ok (.iload_n 2, 1) := by decide +kernel
theorem dX6_isWord_22 : decode cX6_isWord 22 = .ok (.iload_n 3, 1) := by decide +kernel
theorem dX6_isWord_23 : decode cX6_isWord 23 = .ok (.iconst 1, 1) := by decide +kernel
theorem dX6_isWord_24 : decode cX6_isWord 24 = .ok (.isub, 1) := by decide +kernel
theorem dX6_isWord_25 : decode cX6_isWord 25 = .ok (.bipush 64, 2) := by decide +kernel
theorem dX6_isWord_27 : decode cX6_isWord 27 = .ok (.idiv, 1) := by decide +kernel
theorem dX6_isWord_28 : decode cX6_isWord 28 = .ok (.if_icmp .gt 7, 3) := by decide +kernel
theorem dX6_isWord_31 : decode cX6_isWord 31 = .ok (.iconst 1, 1) := by decide +kernel
theorem dX6_isWord_32 : decode cX6_isWord 32 = .ok (.goto 4, 3) := by decide +kernel
theorem dX6_isWord_35 : decode cX6_isWord 35 = .ok (.iconst 0, 1) := by decide +kernel
theorem dX6_isWord_36 : decode cX6_isWord 36 = .ok (.ireturn, 1) := by decide +kernel
theorem dX6_mustDouble_0 : decode cX6_mustDouble 0 = .ok (.bipush 100, 2) := by decide +kernel
theorem dX6_mustDouble_2 : decode cX6_mustDouble 2 = .ok (.aload_n 1, 1) := by decide +kernel
theorem dX6_mustDouble_3 : decode cX6_mustDouble 3 = .ok (.getfield 105, 3) := by decide +kernel
theorem dX6_mustDouble_6 : decode cX6_mustDouble 6 = .ok (.iconst 1, 1) := by decide +kernel
theorem dX6_mustDouble_7 : decode cX6_mustDouble 7 = .ok (.iadd, 1) := by decide +kernel
theorem dX6_mustDouble_8 : decode cX6_mustDouble 8 = .ok (.imul, 1) := by decide +kernel
theorem dX6_mustDouble_9 : decode cX6_mustDouble 9 = .ok (.aload_n 0, 1) := by decide +kernel
theorem dX6_mustDouble_10 : decode cX6_mustDouble 10 = .ok (.getfield 17, 3) := by decide +kernel
theorem dX6_mustDouble_13 : decode cX6_mustDouble 13 = .ok (.aload_n 1, 1) := by decide +kernel
theorem dX6_mustDouble_14 : decode cX6_mustDouble 14 = .ok (.invokevirtual 108, 3) := by decide +kernel
theorem dX6_mustDouble_17 : decode cX6_mustDouble 17 = .ok (.imul, 1) := by decide +kernel
theorem dX6_mustDouble_18 : decode cX6_mustDouble 18 = .ok (.if_icmp .le 18, 3) := by decide +kernel
theorem dX6_mustDouble_21 : decode cX6_mustDouble 21 = .ok (.aload_n 1, 1) := by decide +kernel
theorem dX6_mustDouble_22 : decode cX6_mustDouble 22 = .ok (.getfield 87, 3) := by decide +kernel
theorem dX6_mustDouble_25 : decode cX6_mustDouble 25 = .ok (.aload_n 0, 1) := by decide +kernel
theorem dX6_mustDouble_26 : decode cX6_mustDouble 26 = .ok (.invokevirtual 246, 3) := by decide +kernel
theorem dX6_mustDouble_29 : decode cX6_mustDouble 29 = .ok (.if_icmp .ge 7, 3) := by decide +kernel
theorem dX6_mustDouble_32 : decode cX6_mustDouble 32 = .ok (.iconst 1, 1) := by decide +kernel
theorem dX6_mustDouble_33 : decode cX6_mustDouble 33 = .ok (.goto 4, 3) := by decide +kernel
theorem dX6_mustDouble_36 : decode cX6_mustDouble 36 = .ok (.iconst 0, 1) := by decide +kernel
theorem dX6_mustDouble_37 : decode cX6_mustDouble 37 = .ok (.ireturn, 1) := by decide +kernel
theorem dX6_putIn_0 : decode cX6_putIn 0 = .ok (.aload_n 0, 1) := by decide +kernel
theorem dX6_putIn_1 : decode cX6_putIn 1 = .ok (.aload_n 1, 1) := by decide +kernel
theorem dX6_putIn_2 : decode cX6_putIn 2 = .ok (.invokevirtual 222, 3) := by decide +kernel
theorem dX6_putIn_5 : decode cX6_putIn 5 = .ok (.ifCond .eq 13, 3) := by decide +kernel
theorem dX6_putIn_8 : decode cX6_putIn 8 = .ok (.aload_n 1, 1) := by decide +kernel
theorem dX6_putIn_9 : decode cX6_putIn 9 = .ok (.dup, 1) := by decide +kernel
theorem dX6_putIn_10 : decode cX6_putIn 10 = .ok (.getfield 87, 3) := by decide +kernel
theorem dX6_putIn_13 : decode cX6_putIn 13 = .ok (.iconst 1, 1) := by decide +kernel
theorem dX6_putIn_14 : decode cX6_putIn 14 = .ok (.iadd, 1) := by decide +kernel
theorem dX6_putIn_15 : decode cX6_putIn 15 = .ok (.putfield 87, 3) := by decide +kernel
theorem dX6_putIn_18 : decode cX6_putIn 18 = .ok (.aload_n 1, 1) := by decide +kernel
theorem dX6_putIn_19 : decode cX6_putIn 19 = .ok (.invokevirtual 226, 3) := by decide +kernel
theorem dX6_putIn_22 : decode cX6_putIn 22 = .ok (.ifCond .eq 7, 3) := by decide +kernel
theorem dX6_putIn_25 : decode cX6_putIn 25 = .ok (.iconst (-1), 1) := by decide +kernel
theorem dX6_putIn_26 : decode cX6_putIn 26 = .ok (.goto 8, 3) := by decide +kernel
theorem dX6_putIn_29 : decode cX6_putIn 29 = .ok (.aload_n 1, 1) := by decide +kernel
theorem dX6_putIn_30 : decode cX6_putIn 30 = .ok (.iload_n 2, 1) := by decide +kernel
theorem dX6_putIn_31 : decode cX6_putIn 31 = .ok (.invokevirtual 234, 3) := by decide +kernel
theorem dX6_putIn_34 : decode cX6_putIn 34 = .ok (.ireturn, 1) := by decide +kernel
theorem dX6_doKey_0 : decode cX6_doKey 0 = .ok (.aload_n 0, 1) := by decide +kernel
theorem dX6_doKey_1 : decode cX6_doKey 1 = .ok (.iload_n 2, 1) := by decide +kernel
theorem dX6_doKey_2 : decode cX6_doKey 2 = .ok (.invokevirtual 83, 3) := by decide +kernel
theorem dX6_doKey_5 : decode cX6_doKey 5 = .ok (.istore 4, 2) := by decide +kernel
theorem dX6_doKey_7 : decode cX6_doKey 7 = .ok (.iload_n 3, 1) := by decide +kernel
theorem dX6_doKey_8 : decode cX6_doKey 8 = .ok (.ifCond .eq 12, 3) := by decide +kernel
theorem dX6_doKey_11 : decode cX6_doKey 11 = .ok (.aload_n 1, 1) := by decide +kernel
theorem dX6_doKey_12 : decode cX6_doKey 12 = .ok (.iload 4, 2) := by decide +kernel
theorem dX6_doKey_14 : decode cX6_doKey 14 = .ok (.invokevirtual 112, 3) := by decide +kernel
theorem dX6_doKey_17 : decode cX6_doKey 17 = .ok (.goto 18, 3) := by decide +kernel
theorem dX6_doKey_20 : decode cX6_doKey 20 = .ok (.aload_n 0, 1) := by decide +kernel
theorem dX6_doKey_21 : decode cX6_doKey 21 = .ok (.aload_n 1, 1) := by decide +kernel
theorem dX6_doKey_22 : decode cX6_doKey 22 = .ok (.iload 4, 2) := by decide +kernel
theorem dX6_doKey_24 : decode cX6_doKey 24 = .ok (.invokevirtual 94, 3) := by decide +kernel
theorem dX6_doKey_27 : decode cX6_doKey 27 = .ok (.ifCond .lt 7, 3) := by decide +kernel
theorem dX6_doKey_30 : decode cX6_doKey 30 = .ok (.iconst 1, 1) := by decide +kernel
theorem dX6_doKey_31 : decode cX6_doKey 31 = .ok (.goto 4, 3) := by decide +kernel
theorem dX6_doKey_34 : decode cX6_doKey 34 = .ok (.iconst 0, 1) := by decide +kernel
theorem dX6_doKey_35 : decode cX6_doKey 35 = .ok (.ireturn, 1) := by decide +kernel
theorem dX6_missingOfTold_0 : decode cX6_missingOfTold 0 = .ok (.iconst 0, 1) := by decide +kernel
theorem dX6_missingOfTold_1 : decode cX6_missingOfTold 1 = .ok (.istore_n 2, 1) := by decide +kernel
theorem dX6_missingOfTold_2 : decode cX6_missingOfTold 2 = .ok (.iconst 0, 1) := by decide +kernel
theorem dX6_missingOfTold_3 : decode cX6_missingOfTold 3 = .ok (.istore_n 3, 1) := by decide +kernel
theorem dX6_missingOfTold_4 : decode cX6_missingOfTold 4 = .ok (.iload_n 3, 1) := by decide +kernel
theorem dX6_missingOfTold_5 : decode cX6_missingOfTold 5 = .ok (.aload_n 0, 1) := by decide +kernel
theorem dX6_missingOfTold_6 : decode cX6_missingOfTold 6 = .ok (.getfield 67, 3) := by decide +kernel
theorem dX6_missingOfTold_9 : decode cX6_missingOfTold 9 = .ok (.getfield 132, 3) := by decide +kernel
theorem dX6_missingOfTold_12 : decode cX6_missingOfTold 12 = .ok (.if_icmp .ge 31, 3) := by decide +kernel
theorem dX6_missingOfTold_15 : decode cX6_missingOfTold 15 = .ok (.aload_n 1, 1) := by decide +kernel
theorem dX6_missingOfTold_16 : decode cX6_missingOfTold 16 = .ok (.aload_n 0, 1) := by decide +kernel
theorem dX6_missingOfTold_17 : decode cX6_missingOfTold 17 = .ok (.aload_n 0, 1) := by decide +kernel
theorem dX6_missingOfTold_18 : decode cX6_missingOfTold 18 = .ok (.getfield 67, 3) := by decide +kernel
theorem dX6_missingOfTold_21 : decode cX6_missingOfTold 21 = .ok (.iload_n 3, 1) := by decide +kernel
theorem dX6_missingOfTold_22 : decode cX6_missingOfTold 22 = .ok (.invokevirtual 133, 3) := by decide +kernel
theorem dX6_missingOfTold_25 : decode cX6_missingOfTold 25 = .ok (.invokevirtual 83, 3) := by decide +kernel
theorem dX6_missingOfTold_28 : decode cX6_missingOfTold 28 = .ok (.invokevirtual 143, 3) := by decide +kernel
theorem dX6_missingOfTold_31 : decode cX6_missingOfTold 31 = .ok (.ifCond .ne 6, 3) := by decide +kernel
theorem dX6_missingOfTold_34 : decode cX6_missingOfTold 34 = .ok (.iinc 2 1, 3) := by decide +kernel
theorem dX6_missingOfTold_37 : decode cX6_missingOfTold 37 = .ok (.iinc 3 1, 3) := by decide +kernel
theorem dX6_missingOfTold_40 : decode cX6_missingOfTold 40 = .ok (.goto (-36), 3) := by decide +kernel
theorem dX6_missingOfTold_43 : decode cX6_missingOfTold 43 = .ok (.iload_n 2, 1) := by decide +kernel
theorem dX6_missingOfTold_44 : decode cX6_missingOfTold 44 = .ok (.ireturn, 1) := by decide +kernel
theorem dX6_becomeRaw_0 : decode cX6_becomeRaw 0 = .ok (.aload_n 0, 1) := by decide +kernel
theorem dX6_becomeRaw_1 : decode cX6_becomeRaw 1 = .ok (.getfield 46, 3) := by decide +kernel
theorem dX6_becomeRaw_4 : decode cX6_becomeRaw 4 = .ok (.aload_n 0, 1) := by decide +kernel
theorem dX6_becomeRaw_5 : decode cX6_becomeRaw 5 = .ok (.getfield 30, 3) := by decide +kernel
theorem dX6_becomeRaw_8 : decode cX6_becomeRaw 8 = .ok (.aload_n 0, 1) := by decide +kernel
theorem dX6_becomeRaw_9 : decode cX6_becomeRaw 9 = .ok (.getfield 7, 3) := by decide +kernel
theorem dX6_becomeRaw_12 : decode cX6_becomeRaw 12 = .ok (.invokevirtual 294, 3) := by decide +kernel
theorem dX6_becomeRaw_15 : decode cX6_becomeRaw 15 = .ok (.ifCond .ne 7, 3) := by decide +kernel
theorem dX6_becomeRaw_18 : decode cX6_becomeRaw 18 = .ok (.sipush (-300), 3) := by decide +kernel
theorem dX6_becomeRaw_21 : decode cX6_becomeRaw 21 = .ok (.ireturn, 1) := by decide +kernel
theorem dX6_becomeRaw_22 : decode cX6_becomeRaw 22 = .ok (.aload_n 0, 1) := by decide +kernel
theorem dX6_becomeRaw_23 : decode cX6_becomeRaw 23 = .ok (.getfield 40, 3) := by decide +kernel
theorem dX6_becomeRaw_26 : decode cX6_becomeRaw 26 = .ok (.aload_n 0, 1) := by decide +kernel
theorem dX6_becomeRaw_27 : decode cX6_becomeRaw 27 = .ok (.getfield 30, 3) := by decide +kernel
theorem dX6_becomeRaw_30 : decode cX6_becomeRaw 30 = .ok (.aload_n 0, 1) := by decide +kernel
theorem dX6_becomeRaw_31 : decode cX6_becomeRaw 31 = .ok (.getfield 7, 3) := by decide +kernel
theorem dX6_becomeRaw_34 : decode cX6_becomeRaw 34 = .ok (.invokevirtual 98, 3) := by decide +kernel
theorem dX6_becomeRaw_37 : decode cX6_becomeRaw 37 = .ok (.aload_n 0, 1) := by decide +kernel
theorem dX6_becomeRaw_38 : decode cX6_becomeRaw 38 = .ok (.getfield 46, 3) := by decide +kernel
theorem dX6_becomeRaw_41 : decode cX6_becomeRaw 41 = .ok (.aload_n 0, 1) := by decide +kernel
theorem dX6_becomeRaw_42 : decode cX6_becomeRaw 42 = .ok (.getfield 40, 3) := by decide +kernel
theorem dX6_becomeRaw_45 : decode cX6_becomeRaw 45 = .ok (.invokevirtual 297, 3) := by decide +kernel
theorem dX6_becomeRaw_48 : decode cX6_becomeRaw 48 = .ok (.ifCond .ne 7, 3) := by decide +kernel
theorem dX6_becomeRaw_51 : decode cX6_becomeRaw 51 = .ok (.sipush (-300), 3) := by decide +kernel
theorem dX6_becomeRaw_54 : decode cX6_becomeRaw 54 = .ok (.ireturn, 1) := by decide +kernel
theorem dX6_becomeRaw_55 : decode cX6_becomeRaw 55 = .ok (.aload_n 1, 1) := by decide +kernel
theorem dX6_becomeRaw_56 : decode cX6_becomeRaw 56 = .ok (.aload_n 0, 1) := by decide +kernel
theorem dX6_becomeRaw_57 : decode cX6_becomeRaw 57 = .ok (.getfield 30, 3) := by decide +kernel
theorem dX6_becomeRaw_60 : decode cX6_becomeRaw 60 = .ok (.invokevirtual 230, 3) := by decide +kernel
theorem dX6_becomeRaw_63 : decode cX6_becomeRaw 63 = .ok (.aload_n 1, 1) := by decide +kernel
theorem dX6_becomeRaw_64 : decode cX6_becomeRaw 64 = .ok (.getfield 105, 3) := by decide +kernel
theorem dX6_becomeRaw_67 : decode cX6_becomeRaw 67 = .ok (.ireturn, 1) := by decide +kernel
theorem dX6_lookedAt_0 : decode cX6_lookedAt 0 = .ok (.aload_n 0, 1) := by decide +kernel
theorem dX6_lookedAt_1 : decode cX6_lookedAt 1 = .ok (.getfield 7, 3) := by decide +kernel
theorem dX6_lookedAt_4 : decode cX6_lookedAt 4 = .ok (.iload_n 2, 1) := by decide +kernel
theorem dX6_lookedAt_5 : decode cX6_lookedAt 5 = .ok (.isub, 1) := by decide +kernel
theorem dX6_lookedAt_6 : decode cX6_lookedAt 6 = .ok (.istore 4, 2) := by decide +kernel
theorem dX6_lookedAt_8 : decode cX6_lookedAt 8 = .ok (.iload_n 3, 1) := by decide +kernel
theorem dX6_lookedAt_9 : decode cX6_lookedAt 9 = .ok (.iload 4, 2) := by decide +kernel
theorem dX6_lookedAt_11 : decode cX6_lookedAt 11 = .ok (.ishr, 1) := by decide +kernel
theorem dX6_lookedAt_12 : decode cX6_lookedAt 12 = .ok (.istore 5, 2) := by decide +kernel
theorem dX6_lookedAt_14 : decode cX6_lookedAt 14 = .ok (.aload_n 1, 1) := by decide +kernel
theorem dX6_lookedAt_15 : decode cX6_lookedAt 15 = .ok (.iload 5, 2) := by decide +kernel
theorem dX6_lookedAt_17 : decode cX6_lookedAt 17 = .ok (.iload 4, 2) := by decide +kernel
theorem dX6_lookedAt_19 : decode cX6_lookedAt 19 = .ok (.ishl, 1) := by decide +kernel
theorem dX6_lookedAt_20 : decode cX6_lookedAt 20 = .ok (.invokevirtual 198, 3) := by decide +kernel
theorem dX6_lookedAt_23 : decode cX6_lookedAt 23 = .ok (.istore 6, 2) := by decide +kernel
theorem dX6_lookedAt_25 : decode cX6_lookedAt 25 = .ok (.aload_n 1, 1) := by decide +kernel
theorem dX6_lookedAt_26 : decode cX6_lookedAt 26 = .ok (.iload 5, 2) := by decide +kernel
theorem dX6_lookedAt_28 : decode cX6_lookedAt 28 = .ok (.iconst 1, 1) := by decide +kernel
theorem dX6_lookedAt_29 : decode cX6_lookedAt 29 = .ok (.iadd, 1) := by decide +kernel
theorem dX6_lookedAt_30 : decode cX6_lookedAt 30 = .ok (.iload 4, 2) := by decide +kernel
theorem dX6_lookedAt_32 : decode cX6_lookedAt 32 = .ok (.ishl, 1) := by decide +kernel
theorem dX6_lookedAt_33 : decode cX6_lookedAt 33 = .ok (.invokevirtual 198, 3) := by decide +kernel
theorem dX6_lookedAt_36 : decode cX6_lookedAt 36 = .ok (.istore 7, 2) := by decide +kernel
theorem dX6_lookedAt_38 : decode cX6_lookedAt 38 = .ok (.aload_n 1, 1) := by decide +kernel
theorem dX6_lookedAt_39 : decode cX6_lookedAt 39 = .ok (.iload_n 3, 1) := by decide +kernel
theorem dX6_lookedAt_40 : decode cX6_lookedAt 40 = .ok (.iconst 1, 1) := by decide +kernel
theorem dX6_lookedAt_41 : decode cX6_lookedAt 41 = .ok (.iadd, 1) := by decide +kernel
theorem dX6_lookedAt_42 : decode cX6_lookedAt 42 = .ok (.invokevirtual 198, 3) := by decide +kernel
theorem dX6_lookedAt_45 : decode cX6_lookedAt 45 = .ok (.istore 8, 2) := by decide +kernel
theorem dX6_lookedAt_47 : decode cX6_lookedAt 47 = .ok (.iload 8, 2) := by decide +kernel
theorem dX6_lookedAt_49 : decode cX6_lookedAt 49 = .ok (.iload 7, 2) := by decide +kernel
theorem dX6_lookedAt_51 : decode cX6_lookedAt 51 = .ok (.if_icmp .ge 13, 3) := by decide +kernel
theorem dX6_lookedAt_54 : decode cX6_lookedAt 54 = .ok (.iload 8, 2) := by decide +kernel
theorem dX6_lookedAt_56 : decode cX6_lookedAt 56 = .ok (.iload 6, 2) := by decide +kernel
theorem dX6_lookedAt_58 : decode cX6_lookedAt 58 = .ok (.isub, 1) := by decide +kernel
theorem dX6_lookedAt_59 : decode cX6_lookedAt 59 = .ok (.iconst 1, 1) := by decide +kernel
theorem dX6_lookedAt_60 : decode cX6_lookedAt 60 = .ok (.iadd, 1) := by decide +kernel
theorem dX6_lookedAt_61 : decode cX6_lookedAt 61 = .ok (.goto 8, 3) := by decide +kernel
theorem dX6_lookedAt_64 : decode cX6_lookedAt 64 = .ok (.iload 8, 2) := by decide +kernel
theorem dX6_lookedAt_66 : decode cX6_lookedAt 66 = .ok (.iload 6, 2) := by decide +kernel
theorem dX6_lookedAt_68 : decode cX6_lookedAt 68 = .ok (.isub, 1) := by decide +kernel
theorem dX6_lookedAt_69 : decode cX6_lookedAt 69 = .ok (.ireturn, 1) := by decide +kernel
theorem dX6_allLookedAt_0 : decode cX6_allLookedAt 0 = .ok (.iconst 0, 1) := by decide +kernel
theorem dX6_allLookedAt_1 : decode cX6_allLookedAt 1 = .ok (.istore_n 3, 1) := by decide +kernel
theorem dX6_allLookedAt_2 : decode cX6_allLookedAt 2 = .ok (.iconst 0, 1) := by decide +kernel
theorem dX6_allLookedAt_3 : decode cX6_allLookedAt 3 = .ok (.istore 4, 2) := by decide +kernel
theorem dX6_allLookedAt_5 : decode cX6_allLookedAt 5 = .ok (.iload 4, 2) := by decide +kernel
theorem dX6_allLookedAt_7 : decode cX6_allLookedAt 7 = .ok (.aload_n 1, 1) := by decide +kernel
theorem dX6_allLookedAt_8 : decode cX6_allLookedAt 8 = .ok (.getfield 105, 3) := by decide +kernel
theorem dX6_allLookedAt_11 : decode cX6_allLookedAt 11 = .ok (.if_icmp .ge 24, 3) := by decide +kernel
theorem dX6_allLookedAt_14 : decode cX6_allLookedAt 14 = .ok (.iload_n 3, 1) := by decide +kernel
theorem dX6_allLookedAt_15 : decode cX6_allLookedAt 15 = .ok (.aload_n 0, 1) := by decide +kernel
theorem dX6_allLookedAt_16 : decode cX6_allLookedAt 16 = .ok (.aload_n 1, 1) := by decide +kernel
theorem dX6_allLookedAt_17 : decode cX6_allLookedAt 17 = .ok (.iload_n 2, 1) := by decide +kernel
theorem dX6_allLookedAt_18 : decode cX6_allLookedAt 18 = .ok (.aload_n 1, 1) := by decide +kernel
theorem dX6_allLookedAt_19 : decode cX6_allLookedAt 19 = .ok (.iload 4, 2) := by decide +kernel
theorem dX6_allLookedAt_21 : decode cX6_allLookedAt 21 = .ok (.invokevirtual 164, 3) := by decide +kernel
theorem dX6_allLookedAt_24 : decode cX6_allLookedAt 24 = .ok (.invokevirtual 121, 3) := by decide +kernel
theorem dX6_allLookedAt_27 : decode cX6_allLookedAt 27 = .ok (.iadd, 1) := by decide +kernel
theorem dX6_allLookedAt_28 : decode cX6_allLookedAt 28 = .ok (.istore_n 3, 1) := by decide +kernel
theorem dX6_allLookedAt_29 : decode cX6_allLookedAt 29 = .ok (.iinc 4 1, 3) := by decide +kernel
theorem dX6_allLookedAt_32 : decode cX6_allLookedAt 32 = .ok (.goto (-27), 3) := by decide +kernel
theorem dX6_allLookedAt_35 : decode cX6_allLookedAt 35 = .ok (.iload_n 3, 1) := by decide +kernel
theorem dX6_allLookedAt_36 : decode cX6_allLookedAt 36 = .ok (.ireturn, 1) := by decide +kernel
theorem dX6_fitTogether_0 : decode cX6_fitTogether 0 = .ok (.aload_n 0, 1) := by decide +kernel
theorem dX6_fitTogether_1 : decode cX6_fitTogether 1 = .ok (.getfield 23, 3) := by decide +kernel
theorem dX6_fitTogether_4 : decode cX6_fitTogether 4 = .ok (.getfield 105, 3) := by decide +kernel
theorem dX6_fitTogether_7 : decode cX6_fitTogether 7 = .ok (.aload_n 0, 1) := by decide +kernel
theorem dX6_fitTogether_8 : decode cX6_fitTogether 8 = .ok (.getfield 27, 3) := by decide +kernel
theorem dX6_fitTogether_11 : decode cX6_fitTogether 11 = .ok (.getfield 105, 3) := by decide +kernel
theorem dX6_fitTogether_14 : decode cX6_fitTogether 14 = .ok (.iadd, 1) := by decide +kernel
theorem dX6_fitTogether_15 : decode cX6_fitTogether 15 = .ok (.iconst 1, 1) := by decide +kernel
theorem dX6_fitTogether_16 : decode cX6_fitTogether 16 = .ok (.aload_n 0, 1) := by decide +kernel
theorem dX6_fitTogether_17 : decode cX6_fitTogether 17 = .ok (.invokevirtual 246, 3) := by decide +kernel
theorem dX6_fitTogether_20 : decode cX6_fitTogether 20 = .ok (.ishl, 1) := by decide +kernel
theorem dX6_fitTogether_21 : decode cX6_fitTogether 21 = .ok (.if_icmp .ge 7, 3) := by decide +kernel
theorem dX6_fitTogether_24 : decode cX6_fitTogether 24 = .ok (.iconst 1, 1) := by decide +kernel
theorem dX6_fitTogether_25 : decode cX6_fitTogether 25 = .ok (.goto 4, 3) := by decide +kernel
theorem dX6_fitTogether_28 : decode cX6_fitTogether 28 = .ok (.iconst 0, 1) := by decide +kernel
theorem dX6_fitTogether_29 : decode cX6_fitTogether 29 = .ok (.ireturn, 1) := by decide +kernel
theorem dX6_pour_0 : decode cX6_pour 0 = .ok (.iconst 0, 1) := by decide +kernel
theorem dX6_pour_1 : decode cX6_pour 1 = .ok (.istore_n 3, 1) := by decide +kernel
theorem dX6_pour_2 : decode cX6_pour 2 = .ok (.iload_n 3, 1) := by decide +kernel
theorem dX6_pour_3 : decode cX6_pour 3 = .ok (.aload_n 1, 1) := by decide +kernel
theorem dX6_pour_4 : decode cX6_pour 4 = .ok (.getfield 105, 3) := by decide +kernel
theorem dX6_pour_7 : decode cX6_pour 7 = .ok (.if_icmp .ge 19, 3) := by decide +kernel
theorem dX6_pour_10 : decode cX6_pour 10 = .ok (.aload_n 2, 1) := by decide +kernel
theorem dX6_pour_11 : decode cX6_pour 11 = .ok (.aload_n 1, 1) := by decide +kernel
theorem dX6_pour_12 : decode cX6_pour 12 = .ok (.iload_n 3, 1) := by decide +kernel
theorem dX6_pour_13 : decode cX6_pour 13 = .ok (.invokevirtual 164, 3) := by decide +kernel
theorem dX6_pour_16 : decode cX6_pour 16 = .ok (.invokevirtual 234, 3) := by decide +kernel
theorem dX6_pour_19 : decode cX6_pour 19 = .ok (.pop, 1) := by decide +kernel
theorem dX6_pour_20 : decode cX6_pour 20 = .ok (.iinc 3 1, 3) := by decide +kernel
theorem dX6_pour_23 : decode cX6_pour 23 = .ok (.goto (-21), 3) := by decide +kernel
theorem dX6_pour_26 : decode cX6_pour 26 = .ok (.aload_n 1, 1) := by decide +kernel
theorem dX6_pour_27 : decode cX6_pour 27 = .ok (.iconst 0, 1) := by decide +kernel
theorem dX6_pour_28 : decode cX6_pour 28 = .ok (.invokevirtual 263, 3) := by decide +kernel
theorem dX6_pour_31 : decode cX6_pour 31 = .ok (.aload_n 2, 1) := by decide +kernel
theorem dX6_pour_32 : decode cX6_pour 32 = .ok (.aload_n 0, 1) := by decide +kernel
theorem dX6_pour_33 : decode cX6_pour 33 = .ok (.aload_n 2, 1) := by decide +kernel
theorem dX6_pour_34 : decode cX6_pour 34 = .ok (.getfield 87, 3) := by decide +kernel
theorem dX6_pour_37 : decode cX6_pour 37 = .ok (.aload_n 2, 1) := by decide +kernel
theorem dX6_pour_38 : decode cX6_pour 38 = .ok (.getfield 105, 3) := by decide +kernel
theorem dX6_pour_41 : decode cX6_pour 41 = .ok (.invokevirtual 301, 3) := by decide +kernel
theorem dX6_pour_44 : decode cX6_pour 44 = .ok (.putfield 87, 3) := by decide +kernel
theorem dX6_pour_47 : decode cX6_pour 47 = .ok (.return_, 1) := by decide +kernel
theorem dX6_fittingQ_0 : decode cX6_fittingQ 0 = .ok (.aload_n 0, 1) := by decide +kernel
theorem dX6_fittingQ_1 : decode cX6_fittingQ 1 = .ok (.invokevirtual 246, 3) := by decide +kernel
theorem dX6_fittingQ_4 : decode cX6_fittingQ 4 = .ok (.istore_n 3, 1) := by decide +kernel
theorem dX6_fittingQ_5 : decode cX6_fittingQ 5 = .ok (.iload_n 1, 1) := by decide +kernel
theorem dX6_fittingQ_6 : decode cX6_fittingQ 6 = .ok (.istore 4, 2) := by decide +kernel
theorem dX6_fittingQ_8 : decode cX6_fittingQ 8 = .ok (.iload 4, 2) := by decide +kernel
theorem dX6_fittingQ_10 : decode cX6_fittingQ 10 = .ok (.iload_n 3, 1) := by decide +kernel
theorem dX6_fittingQ_11 : decode cX6_fittingQ 11 = .ok (.if_icmp .ge 26, 3) := by decide +kernel
theorem dX6_fittingQ_14 : decode cX6_fittingQ 14 = .ok (.bipush 100, 2) := by decide +kernel
theorem dX6_fittingQ_16 : decode cX6_fittingQ 16 = .ok (.iload_n 2, 1) := by decide +kernel
theorem dX6_fittingQ_17 : decode cX6_fittingQ 17 = .ok (.imul, 1) := by decide +kernel
theorem dX6_fittingQ_18 : decode cX6_fittingQ 18 = .ok (.aload_n 0, 1) := by decide +kernel
theorem dX6_fittingQ_19 : decode cX6_fittingQ 19 = .ok (.getfield 17, 3) := by decide +kernel
theorem dX6_fittingQ_22 : decode cX6_fittingQ 22 = .ok (.iload 4, 2) := by decide +kernel
theorem dX6_fittingQ_24 : decode cX6_fittingQ 24 = .ok (.ishl, 1) := by decide +kernel
theorem dX6_fittingQ_25 : decode cX6_fittingQ 25 = .ok (.if_icmp .gt 6, 3) := by decide +kernel
theorem dX6_fittingQ_28 : decode cX6_fittingQ 28 = .ok (.iload 4, 2) := by decide +kernel
theorem dX6_fittingQ_30 : decode cX6_fittingQ 30 = .ok (.ireturn, 1) := by decide +kernel
theorem dX6_fittingQ_31 : decode cX6_fittingQ 31 = .ok (.iinc 4 1, 3) := by decide +kernel
theorem dX6_fittingQ_34 : decode cX6_fittingQ 34 = .ok (.goto (-26), 3) := by decide +kernel
theorem dX6_fittingQ_37 : decode cX6_fittingQ 37 = .ok (.iload_n 3, 1) := by decide +kernel
theorem dX6_fittingQ_38 : decode cX6_fittingQ 38 = .ok (.ireturn, 1) := by decide +kernel
theorem dX6_isShared_0 : decode cX6_isShared 0 = .ok (.aload_n 0, 1) := by decide +kernel
theorem dX6_isShared_1 : decode cX6_isShared 1 = .ok (.getfield 23, 3) := by decide +kernel
theorem dX6_isShared_4 : decode cX6_isShared 4 = .ok (.iload_n 1, 1) := by decide +kernel
theorem dX6_isShared_5 : decode cX6_isShared 5 = .ok (.invokevirtual 268, 3) := by decide +kernel
theorem dX6_isShared_8 : decode cX6_isShared 8 = .ok (.aload_n 0, 1) := by decide +kernel
theorem dX6_isShared_9 : decode cX6_isShared 9 = .ok (.getfield 27, 3) := by decide +kernel
theorem dX6_isShared_12 : decode cX6_isShared 12 = .ok (.aload_n 0, 1) := by decide +kernel
theorem dX6_isShared_13 : decode cX6_isShared 13 = .ok (.getfield 23, 3) := by decide +kernel
theorem dX6_isShared_16 : decode cX6_isShared 16 = .ok (.iload_n 1, 1) := by decide +kernel
theorem dX6_isShared_17 : decode cX6_isShared 17 = .ok (.invokevirtual 164, 3) := by decide +kernel
theorem dX6_isShared_20 : decode cX6_isShared 20 = .ok (.invokevirtual 118, 3) := by decide +kernel
theorem dX6_isShared_23 : decode cX6_isShared 23 = .ok (.if_icmp .ge 7, 3) := by decide +kernel
theorem dX6_isShared_26 : decode cX6_isShared 26 = .ok (.iconst 1, 1) := by decide +kernel
theorem dX6_isShared_27 : decode cX6_isShared 27 = .ok (.goto 4, 3) := by decide +kernel
theorem dX6_isShared_30 : decode cX6_isShared 30 = .ok (.iconst 0, 1) := by decide +kernel
theorem dX6_isShared_31 : decode cX6_isShared 31 = .ok (.ireturn, 1) := by decide +kernel
theorem dX6_countOf_0 : decode cX6_countOf 0 = .ok (.iload_n 2, 1) := by decide +kernel
theorem dX6_countOf_1 : decode cX6_countOf 1 = .ok (.tableswitch 75 0 5 #[39, 44, 49, 54, 61, 68], 39) := by decide +kernel
theorem dX6_countOf_40 : decode cX6_countOf 40 = .ok (.aload_n 1, 1) := by decide +kernel
theorem dX6_countOf_41 : decode cX6_countOf 41 = .ok (.getfield 105, 3) := by decide +kernel
theorem dX6_countOf_44 : decode cX6_countOf 44 = .ok (.ireturn, 1) := by decide +kernel
theorem dX6_countOf_45 : decode cX6_countOf 45 = .ok (.aload_n 1, 1) := by decide +kernel
theorem dX6_countOf_46 : decode cX6_countOf 46 = .ok (.invokevirtual 108, 3) := by decide +kernel
theorem dX6_countOf_49 : decode cX6_countOf 49 = .ok (.ireturn, 1) := by decide +kernel
theorem dX6_countOf_50 : decode cX6_countOf 50 = .ok (.aload_n 1, 1) := by decide +kernel
theorem dX6_countOf_51 : decode cX6_countOf 51 = .ok (.getfield 87, 3) := by decide +kernel
theorem dX6_countOf_54 : decode cX6_countOf 54 = .ok (.ireturn, 1) := by decide +kernel
theorem dX6_countOf_55 : decode cX6_countOf 55 = .ok (.aload_n 0, 1) := by decide +kernel
theorem dX6_countOf_56 : decode cX6_countOf 56 = .ok (.aload_n 1, 1) := by decide +kernel
theorem dX6_countOf_57 : decode cX6_countOf 57 = .ok (.iconst 1, 1) := by decide +kernel
theorem dX6_countOf_58 : decode cX6_countOf 58 = .ok (.invokevirtual 304, 3) := by decide +kernel
theorem dX6_countOf_61 : decode cX6_countOf 61 = .ok (.ireturn, 1) := by decide +kernel
theorem dX6_countOf_62 : decode cX6_countOf 62 = .ok (.aload_n 0, 1) := by decide +kernel
theorem dX6_countOf_63 : decode cX6_countOf 63 = .ok (.aload_n 1, 1) := by decide +kernel
theorem dX6_countOf_64 : decode cX6_countOf 64 = .ok (.iconst 2, 1) := by decide +kernel
theorem dX6_countOf_65 : decode cX6_countOf 65 = .ok (.invokevirtual 304, 3) := by decide +kernel
theorem dX6_countOf_68 : decode cX6_countOf 68 = .ok (.ireturn, 1) := by decide +kernel
theorem dX6_countOf_69 : decode cX6_countOf 69 = .ok (.aload_n 0, 1) := by decide +kernel
theorem dX6_countOf_70 : decode cX6_countOf 70 = .ok (.aload_n 1, 1) := by decide +kernel
theorem dX6_countOf_71 : decode cX6_countOf 71 = .ok (.iconst 4, 1) := by decide +kernel
theorem dX6_countOf_72 : decode cX6_countOf 72 = .ok (.invokevirtual 304, 3) := by decide +kernel
theorem dX6_countOf_75 : decode cX6_countOf 75 = .ok (.ireturn, 1) := by decide +kernel
theorem dX6_countOf_76 : decode cX6_countOf 76 = .ok (.iconst (-1), 1) := by decide +kernel
theorem dX6_countOf_77 : decode cX6_countOf 77 = .ok (.ireturn, 1) := by decide +kernel
theorem dX6_countMarked_0 : decode cX6_countMarked 0 = .ok (.aload_n 0, 1) := by decide +kernel
theorem dX6_countMarked_1 : decode cX6_countMarked 1 = .ok (.getfield 36, 3) := by decide +kernel
theorem dX6_countMarked_4 : decode cX6_countMarked 4 = .ok (.aload_n 1, 1) := by decide +kernel
theorem dX6_countMarked_5 : decode cX6_countMarked 5 = .ok (.aload_n 0, 1) := by decide +kernel
theorem dX6_countMarked_6 : decode cX6_countMarked 6 = .ok (.getfield 7, 3) := by decide +kernel
theorem dX6_countMarked_9 : decode cX6_countMarked 9 = .ok (.invokevirtual 98, 3) := by decide +kernel
theorem dX6_countMarked_12 : decode cX6_countMarked 12 = .ok (.iconst 0, 1) := by decide +kernel
theorem dX6_countMarked_13 : decode cX6_countMarked 13 = .ok (.istore_n 3, 1) := by decide +kernel
theorem dX6_countMarked_14 : decode cX6_countMarked 14 = .ok (.iconst 0, 1) := by decide +kernel
theorem dX6_countMarked_15 : decode cX6_countMarked 15 = .ok (.istore 4, 2) := by decide +kernel
theorem dX6_countMarked_17 : decode cX6_countMarked 17 = .ok (.iload 4, 2) := by decide +kernel
theorem dX6_countMarked_19 : decode cX6_countMarked 19 = .ok (.aload_n 0, 1) := by decide +kernel
theorem dX6_countMarked_20 : decode cX6_countMarked 20 = .ok (.getfield 36, 3) := by decide +kernel
theorem dX6_countMarked_23 : decode cX6_countMarked 23 = .ok (.getfield 211, 3) := by decide +kernel
theorem dX6_countMarked_26 : decode cX6_countMarked 26 = .ok (.if_icmp .ge 25, 3) := by decide +kernel
theorem dX6_countMarked_29 : decode cX6_countMarked 29 = .ok (.aload_n 0, 1) := by decide +kernel
theorem dX6_countMarked_30 : decode cX6_countMarked 30 = .ok (.getfield 36, 3) := by decide +kernel
theorem dX6_countMarked_33 : decode cX6_countMarked 33 = .ok (.iload 4, 2) := by decide +kernel
theorem dX6_countMarked_35 : decode cX6_countMarked 35 = .ok (.iload_n 2, 1) := by decide +kernel
theorem dX6_countMarked_36 : decode cX6_countMarked 36 = .ok (.invokevirtual 157, 3) := by decide +kernel
theorem dX6_countMarked_39 : decode cX6_countMarked 39 = .ok (.ifCond .eq 6, 3) := by decide +kernel
theorem dX6_countMarked_42 : decode cX6_countMarked 42 = .ok (.iinc 3 1, 3) := by decide +kernel
theorem dX6_countMarked_45 : decode cX6_countMarked 45 = .ok (.iinc 4 1, 3) := by decide +kernel
theorem dX6_countMarked_48 : decode cX6_countMarked 48 = .ok (.goto (-31), 3) := by decide +kernel
theorem dX6_countMarked_51 : decode cX6_countMarked 51 = .ok (.iload_n 3, 1) := by decide +kernel
theorem dX6_countMarked_52 : decode cX6_countMarked 52 = .ok (.ireturn, 1) := by decide +kernel
theorem dX6_floatBits_0 : decode cX6_floatBits 0 = .ok (.iload_n 0, 1) := by decide +kernel
theorem dX6_floatBits_1 : decode cX6_floatBits 1 = .ok (.ifCond .gt 5, 3) := by decide +kernel
theorem dX6_floatBits_4 : decode cX6_floatBits 4 = .ok (.iconst 0, 1) := by decide +kernel
theorem dX6_floatBits_5 : decode cX6_floatBits 5 = .ok (.ireturn, 1) := by decide +kernel
theorem dX6_floatBits_6 : decode cX6_floatBits 6 = .ok (.iload_n 0, 1) := by decide +kernel
theorem dX6_floatBits_7 : decode cX6_floatBits 7 = .ok (.invokestatic 307, 3) := by decide +kernel
theorem dX6_floatBits_10 : decode cX6_floatBits 10 = .ok (.istore_n 2, 1) := by decide +kernel
theorem dX6_floatBits_11 : decode cX6_floatBits 11 = .ok (.iload_n 2, 1) := by decide +kernel
theorem dX6_floatBits_12 : decode cX6_floatBits 12 = .ok (.iload_n 1, 1) := by decide +kernel
theorem dX6_floatBits_13 : decode cX6_floatBits 13 = .ok (.isub, 1) := by decide +kernel
theorem dX6_floatBits_14 : decode cX6_floatBits 14 = .ok (.bipush 127, 2) := by decide +kernel
theorem dX6_floatBits_16 : decode cX6_floatBits 16 = .ok (.iadd, 1) := by decide +kernel
theorem dX6_floatBits_17 : decode cX6_floatBits 17 = .ok (.istore_n 3, 1) := by decide +kernel
theorem dX6_floatBits_18 : decode cX6_floatBits 18 = .ok (.iload_n 3, 1) := by decide +kernel
theorem dX6_floatBits_19 : decode cX6_floatBits 19 = .ok (.bipush 23, 2) := by decide +kernel
theorem dX6_floatBits_21 : decode cX6_floatBits 21 = .ok (.ishl, 1) := by decide +kernel
theorem dX6_floatBits_22 : decode cX6_floatBits 22 = .ok (.iload_n 0, 1) := by decide +kernel
theorem dX6_floatBits_23 : decode cX6_floatBits 23 = .ok (.iconst 1, 1) := by decide +kernel
theorem dX6_floatBits_24 : decode cX6_floatBits 24 = .ok (.iload_n 2, 1) := by decide +kernel
theorem dX6_floatBits_25 : decode cX6_floatBits 25 = .ok (.ishl, 1) := by decide +kernel
theorem dX6_floatBits_26 : decode cX6_floatBits 26 = .ok (.isub, 1) := by decide +kernel
theorem dX6_floatBits_27 : decode cX6_floatBits 27 = .ok (.bipush 23, 2) := by decide +kernel
theorem dX6_floatBits_29 : decode cX6_floatBits 29 = .ok (.iload_n 2, 1) := by decide +kernel
theorem dX6_floatBits_30 : decode cX6_floatBits 30 = .ok (.isub, 1) := by decide +kernel
theorem dX6_floatBits_31 : decode cX6_floatBits 31 = .ok (.ishl, 1) := by decide +kernel
theorem dX6_floatBits_32 : decode cX6_floatBits 32 = .ok (.ior, 1) := by decide +kernel
theorem dX6_floatBits_33 : decode cX6_floatBits 33 = .ok (.ireturn, 1) := by decide +kernel
theorem dX6_doubleBits_0 : decode cX6_doubleBits 0 = .ok (.iload_n 0, 1) := by decide +kernel
theorem dX6_doubleBits_1 : decode cX6_doubleBits 1 = .ok (.ifCond .gt 5, 3) := by decide +kernel
theorem dX6_doubleBits_4 : decode cX6_doubleBits 4 = .ok (.lconst 0, 1) := by decide +kernel
theorem dX6_doubleBits_5 : decode cX6_doubleBits 5 = .ok (.lreturn, 1) := by decide +kernel
theorem dX6_doubleBits_6 : decode cX6_doubleBits 6 = .ok (.iload_n 0, 1) := by decide +kernel
theorem dX6_doubleBits_7 : decode cX6_doubleBits 7 = .ok (.invokestatic 307, 3) := by decide +kernel
theorem dX6_doubleBits_10 : decode cX6_doubleBits 10 = .ok (.istore_n 2, 1) := by decide +kernel
theorem dX6_doubleBits_11 : decode cX6_doubleBits 11 = .ok (.iload_n 2, 1) := by decide +kernel
theorem dX6_doubleBits_12 : decode cX6_doubleBits 12 = .ok (.iload_n 1, 1) := by decide +kernel
theorem dX6_doubleBits_13 : decode cX6_doubleBits 13 = .ok (.isub, 1) := by decide +kernel
theorem dX6_doubleBits_14 : decode cX6_doubleBits 14 = .ok (.sipush 1023, 3) := by decide +kernel
theorem dX6_doubleBits_17 : decode cX6_doubleBits 17 = .ok (.iadd, 1) := by decide +kernel
theorem dX6_doubleBits_18 : decode cX6_doubleBits 18 = .ok (.i2l, 1) := by decide +kernel
theorem dX6_doubleBits_19 : decode cX6_doubleBits 19 = .ok (.lstore_n 3, 1) := by decide +kernel
theorem dX6_doubleBits_20 : decode cX6_doubleBits 20 = .ok (.lload_n 3, 1) := by decide +kernel
theorem dX6_doubleBits_21 : decode cX6_doubleBits 21 = .ok (.bipush 52, 2) := by decide +kernel
theorem dX6_doubleBits_23 : decode cX6_doubleBits 23 = .ok (.lshl, 1) := by decide +kernel
theorem dX6_doubleBits_24 : decode cX6_doubleBits 24 = .ok (.iload_n 0, 1) := by decide +kernel
theorem dX6_doubleBits_25 : decode cX6_doubleBits 25 = .ok (.iconst 1, 1) := by decide +kernel
theorem dX6_doubleBits_26 : decode cX6_doubleBits 26 = .ok (.iload_n 2, 1) := by decide +kernel
theorem dX6_doubleBits_27 : decode cX6_doubleBits 27 = .ok (.ishl, 1) := by decide +kernel
theorem dX6_doubleBits_28 : decode cX6_doubleBits 28 = .ok (.isub, 1) := by decide +kernel
theorem dX6_doubleBits_29 : decode cX6_doubleBits 29 = .ok (.i2l, 1) := by decide +kernel
theorem dX6_doubleBits_30 : decode cX6_doubleBits 30 = .ok (.bipush 52, 2) := by decide +kernel
theorem dX6_doubleBits_32 : decode cX6_doubleBits 32 = .ok (.iload_n 2, 1) := by decide +kernel
theorem dX6_doubleBits_33 : decode cX6_doubleBits 33 = .ok (.isub, 1) := by decide +kernel
theorem dX6_doubleBits_34 : decode cX6_doubleBits 34 = .ok (.lshl, 1) := by decide +kernel
theorem dX6_doubleBits_35 : decode cX6_doubleBits 35 = .ok (.lor, 1) := by decide +kernel
theorem dX6_doubleBits_36 : decode cX6_doubleBits 36 = .ok (.lreturn, 1) := by decide +kernel
theorem dX6_highestBit_0 : decode cX6_highestBit 0 = .ok (.iconst 0, 1) := by decide +kernel
theorem dX6_highestBit_1 : decode cX6_highestBit 1 = .ok (.istore_n 1, 1) := by decide +kernel
theorem dX6_highestBit_2 : decode cX6_highestBit 2 = .ok (.iload_n 1, 1) := by decide +kernel
theorem dX6_highestBit_3 : decode cX6_highestBit 3 = .ok (.bipush 6, 2) := by decide +kernel
theorem dX6_highestBit_5 : decode cX6_highestBit 5 = .ok (.if_icmp .ge 17, 3) := by decide +kernel
theorem dX6_highestBit_8 : decode cX6_highestBit 8 = .ok (.iload_n 0, 1) := by decide +kernel
theorem dX6_highestBit_9 : decode cX6_highestBit 9 = .ok (.iload_n 1, 1) := by decide +kernel
theorem dX6_highestBit_10 : decode cX6_highestBit 10 = .ok (.iconst 1, 1) := by decide +kernel
theorem dX6_highestBit_11 : decode cX6_highestBit 11 = .ok (.iadd, 1) := by decide +kernel
theorem dX6_highestBit_12 : decode cX6_highestBit 12 = .ok (.ishr, 1) := by decide +kernel
theorem dX6_highestBit_13 : decode cX6_highestBit 13 = .ok (.ifCond .le 9, 3) := by decide +kernel
theorem dX6_highestBit_16 : decode cX6_highestBit 16 = .ok (.iinc 1 1, 3) := by decide +kernel
theorem dX6_highestBit_19 : decode cX6_highestBit 19 = .ok (.goto (-17), 3) := by decide +kernel
theorem dX6_highestBit_22 : decode cX6_highestBit 22 = .ok (.iload_n 1, 1) := by decide +kernel
theorem dX6_highestBit_23 : decode cX6_highestBit 23 = .ok (.ireturn, 1) := by decide +kernel
theorem dX7_thrown_0 : decode cX7_thrown 0 = .ok (.aload_n 0, 1) := by decide +kernel
theorem dX7_thrown_1 : decode cX7_thrown 1 = .ok (.getfield 1, 3) := by decide +kernel
theorem dX7_thrown_4 : decode cX7_thrown 4 = .ok (.ireturn, 1) := by decide +kernel
theorem dX7_in_0 : decode cX7_in 0 = .ok (.lload_n 0, 1) := by decide +kernel
theorem dX7_in_1 : decode cX7_in 1 = .ok (.lload_n 2, 1) := by decide +kernel
theorem dX7_in_2 : decode cX7_in 2 = .ok (.lcmp, 1) := by decide +kernel
theorem dX7_in_3 : decode cX7_in 3 = .ok (.ifCond .lt 14, 3) := by decide +kernel
theorem dX7_in_6 : decode cX7_in 6 = .ok (.lload_n 0, 1) := by decide +kernel
theorem dX7_in_7 : decode cX7_in 7 = .ok (.lload 4, 2) := by decide +kernel
theorem dX7_in_9 : decode cX7_in 9 = .ok (.lcmp, 1) := by decide +kernel
theorem dX7_in_10 : decode cX7_in 10 = .ok (.ifCond .gt 7, 3) := by decide +kernel
theorem dX7_in_13 : decode cX7_in 13 = .ok (.iconst 1, 1) := by decide +kernel
theorem dX7_in_14 : decode cX7_in 14 = .ok (.goto 4, 3) := by decide +kernel
theorem dX7_in_17 : decode cX7_in 17 = .ok (.iconst 0, 1) := by decide +kernel
theorem dX7_in_18 : decode cX7_in 18 = .ok (.ireturn, 1) := by decide +kernel
theorem dX7_flag_0 : decode cX7_flag 0 = .ok (.iload_n 0, 1) := by decide +kernel
theorem dX7_flag_1 : decode cX7_flag 1 = .ok (.ifCond .eq 7, 3) := by decide +kernel
theorem dX7_flag_4 : decode cX7_flag 4 = .ok (.iconst 1, 1) := by decide +kernel
theorem dX7_flag_5 : decode cX7_flag 5 = .ok (.goto 4, 3) := by decide +kernel
theorem dX7_flag_8 : decode cX7_flag 8 = .ok (.iconst 0, 1) := by decide +kernel
theorem dX7_flag_9 : decode cX7_flag 9 = .ok (.ireturn, 1) := by decide +kernel
theorem dX7_enters_0 : decode cX7_enters 0 = .ok (.aload_n 0, 1) := by decide +kernel
theorem dX7_enters_1 : decode cX7_enters 1 = .ok (.getfield 7, 3) := by decide +kernel
theorem dX7_enters_4 : decode cX7_enters 4 = .ok (.aload_n 0, 1) := by decide +kernel
theorem dX7_enters_5 : decode cX7_enters 5 = .ok (.getfield 11, 3) := by decide +kernel
theorem dX7_enters_8 : decode cX7_enters 8 = .ok (.lload_n 1, 1) := by decide +kernel
theorem dX7_enters_9 : decode cX7_enters 9 = .ok (.lastore, 1) := by decide +kernel
theorem dX7_enters_10 : decode cX7_enters 10 = .ok (.aload_n 0, 1) := by decide +kernel
theorem dX7_enters_11 : decode cX7_enters 11 = .ok (.dup, 1) := by decide +kernel
theorem dX7_enters_12 : decode cX7_enters 12 = .ok (.getfield 11, 3) := by decide +kernel
theorem dX7_enters_15 : decode cX7_enters 15 = .ok (.iconst 1, 1) := by decide +kernel
theorem dX7_enters_16 : decode cX7_enters 16 = .ok (.iadd, 1) := by decide +kernel
theorem dX7_enters_17 : decode cX7_enters 17 = .ok (.putfield 11, 3) := by decide +kernel
theorem dX7_enters_20 : decode cX7_enters 20 = .ok (.return_, 1) := by decide +kernel
theorem dX7_sign_0 : decode cX7_sign 0 = .ok (.aload_n 0, 1) := by decide +kernel
theorem dX7_sign_1 : decode cX7_sign 1 = .ok (.iconst 0, 1) := by decide +kernel
theorem dX7_sign_2 : decode cX7_sign 2 = .ok (.putfield 1, 3) := by decide +kernel
theorem dX7_sign_5 : decode cX7_sign 5 = .ok (.aload_n 0, 1) := by decide +kernel
theorem dX7_sign_6 : decode cX7_sign 6 = .ok (.getfield 14, 3) := by decide +kernel
theorem dX7_sign_9 : decode cX7_sign 9 = .ok (.bipush 76, 2) := by decide +kernel
theorem dX7_sign_11 : decode cX7_sign 11 = .ok (.if_icmp .le 5, 3) := by decide +kernel
theorem dX7_sign_14 : decode cX7_sign 14 = .ok (.iconst (-1), 1) := by decide +kernel
theorem dX7_sign_15 : decode cX7_sign 15 = .ok (.ireturn, 1) := by decide +kernel
theorem dX7_sign_16 : decode cX7_sign 16 = .ok (.iconst 0, 1) := by decide +kernel
theorem dX7_sign_17 : decode cX7_sign 17 = .ok (.istore_n 2, 1) := by decide +kernel
theorem dX7_sign_18 : decode cX7_sign 18 = .ok (.iload_n 2, 1) := by decide +kernel
theorem dX7_sign_19 : decode cX7_sign 19 = .ok (.iconst 4, 1) := by decide +kernel
theorem dX7_sign_20 : decode cX7_sign 20 = .ok (.if_icmp .ge 33, 3) := by decide +kernel
theorem dX7_sign_23 : decode cX7_sign 23 = .ok (.aload_n 0, 1) := by decide +kernel
theorem dX7_sign_24 : decode cX7_sign 24 = .ok (.getfield 17, 3) := by decide +kernel
theorem dX7_sign_27 : decode cX7_sign 27 = .ok (.aload_n 0, 1) := by decide +kernel
theorem dX7_sign_28 : decode cX7_sign 28 = .ok (.getfield 14, 3) := by decide +kernel
theorem dX7_sign_31 : decode cX7_sign 31 = .ok (.iload_n 2, 1) := by decide +kernel
theorem dX7_sign_32 : decode cX7_sign 32 = .ok (.iadd, 1) := by decide +kernel
theorem dX7_sign_33 : decode cX7_sign 33 = .ok (.iload_n 1, 1) := by decide +kernel
theorem dX7_sign_34 : decode cX7_sign 34 = .ok (.bipush 24, 2) := by decide +kernel
theorem dX7_sign_36 : decode cX7_sign 36 = .ok (.bipush 8, 2) := by decide +kernel
theorem dX7_sign_38 : decode cX7_sign 38 = .ok (.iload_n 2, 1) := by decide +kernel
theorem dX7_sign_39 : decode cX7_sign 39 = .ok (.imul, 1) := by decide +kernel
theorem dX7_sign_40 : decode cX7_sign 40 = .ok (.isub, 1) := by decide +kernel
theorem dX7_sign_41 : decode cX7_sign 41 = .ok (.ishr, 1) := by decide +kernel
theorem dX7_sign_42 : decode cX7_sign 42 = .ok (.sipush 255, 3) := by decide +kernel
theorem dX7_sign_45 : decode cX7_sign 45 = .ok (.iand, 1) := by decide +kernel
theorem dX7_sign_46 : decode cX7_sign 46 = .ok (.iastore, 1) := by decide +kernel
theorem dX7_sign_47 : decode cX7_sign 47 = .ok (.iinc 2 1, 3) := by decide +kernel
theorem dX7_sign_50 : decode cX7_sign 50 = .ok (.goto (-32), 3) := by decide +kernel
theorem dX7_sign_53 : decode cX7_sign 53 = .ok (.aload_n 0, 1) := by decide +kernel
theorem dX7_sign_54 : decode cX7_sign 54 = .ok (.dup, 1) := by decide +kernel
theorem dX7_sign_55 : decode cX7_sign 55 = .ok (.getfield 14, 3) := by decide +kernel
theorem dX7_sign_58 : decode cX7_sign 58 = .ok (.iconst 4, 1) := by decide +kernel
theorem dX7_sign_59 : decode cX7_sign 59 = .ok (.iadd, 1) := by decide +kernel
theorem dX7_sign_60 : decode cX7_sign 60 = .ok (.putfield 14, 3) := by decide +kernel
theorem dX7_sign_63 : decode cX7_sign 63 = .ok (.aload_n 0, 1) := by decide +kernel
theorem dX7_sign_64 : decode cX7_sign 64 = .ok (.getfield 14, 3) := by decide +kernel
theorem dX7_sign_67 : decode cX7_sign 67 = .ok (.ireturn, 1) := by decide +kernel
theorem dX7_end_0 : decode cX7_end 0 = .ok (.aload_n 0, 1) := by decide +kernel
theorem dX7_end_1 : decode cX7_end 1 = .ok (.iconst 0, 1) := by decide +kernel
theorem dX7_end_2 : decode cX7_end 2 = .ok (.putfield 1, 3) := by decide +kernel
theorem dX7_end_5 : decode cX7_end 5 = .ok (.iload_n 1, 1) := by decide +kernel
theorem dX7_end_6 : decode cX7_end 6 = .ok (.i2l, 1) := by decide +kernel
theorem dX7_end_7 : decode cX7_end 7 = .ok (.lconst 0, 1) := by decide +kernel
theorem dX7_end_8 : decode cX7_end 8 = .ok (.aload_n 0, 1) := by decide +kernel
theorem dX7_end_9 : decode cX7_end 9 = .ok (.getfield 14, 3) := by decide +kernel
theorem dX7_end_12 : decode cX7_end 12 = .ok (.i2l, 1) := by decide +kernel
theorem dX7_end_13 : decode cX7_end 13 = .ok (.invokestatic 21, 3) := by decide +kernel
theorem dX7_end_16 : decode cX7_end 16 = .ok (.ifCond .ne 5, 3) := by decide +kernel
theorem dX7_end_19 : decode cX7_end 19 = .ok (.iconst 0, 1) := by decide +kernel
theorem dX7_end_20 : decode cX7_end 20 = .ok (.ireturn, 1) := by decide +kernel
theorem dX7_end_21 : decode cX7_end 21 = .ok (.aload_n 0, 1) := by decide +kernel
theorem dX7_end_22 : decode cX7_end 22 = .ok (.iload_n 1, 1) := by decide +kernel
theorem dX7_end_23 : decode cX7_end 23 = .ok (.putfield 14, 3) := by decide +kernel
theorem dX7_end_26 : decode cX7_end 26 = .ok (.iconst 1, 1) := by decide +kernel
theorem dX7_end_27 : decode cX7_end 27 = .ok (.ireturn, 1) := by decide +kernel
theorem dX7_reads_0 : decode cX7_reads 0 = .ok (.aload_n 0, 1) := by decide +kernel
theorem dX7_reads_1 : decode cX7_reads 1 = .ok (.aload_n 0, 1) := by decide +kernel
theorem dX7_reads_2 : decode cX7_reads 2 = .ok (.getfield 14, 3) := by decide +kernel
theorem dX7_reads_5 : decode cX7_reads 5 = .ok (.putfield 25, 3) := by decide +kernel
theorem dX7_reads_8 : decode cX7_reads 8 = .ok (.aload_n 0, 1) := by decide +kernel
theorem dX7_reads_9 : decode cX7_reads 9 = .ok (.iconst 0, 1) := by decide +kernel
theorem dX7_reads_10 : decode cX7_reads 10 = .ok (.putfield 14, 3) := by decide +kernel
theorem dX7_reads_13 : decode cX7_reads 13 = .ok (.aload_n 0, 1) := by decide +kernel
theorem dX7_reads_14 : decode cX7_reads 14 = .ok (.iconst 0, 1) := by decide +kernel
theorem dX7_reads_15 : decode cX7_reads 15 = .ok (.putfield 28, 3) := by decide +kernel
theorem dX7_reads_18 : decode cX7_reads 18 = .ok (.return_, 1) := by decide +kernel
theorem dX7_takesOf_0 : decode cX7_takesOf 0 = .ok (.iconst 0, 1) := by decide +kernel
theorem dX7_takesOf_1 : decode cX7_takesOf 1 = .ok (.istore_n 2, 1) := by decide +kernel
theorem dX7_takesOf_2 : decode cX7_takesOf 2 = .ok (.iload_n 2, 1) := by decide +kernel
theorem dX7_takesOf_3 : decode cX7_takesOf 3 = .ok (.aload_n 1, 1) := by decide +kernel
theorem dX7_takesOf_4 : decode cX7_takesOf 4 = .ok (.invokevirtual 31, 3) := by decide +kernel
theorem dX7_takesOf_7 : decode cX7_takesOf 7 = .ok (.if_icmp .ge 49, 3) := by decide +kernel
theorem dX7_takesOf_10 : decode cX7_takesOf 10 = .ok (.aload_n 0, 1) := by decide +kernel
theorem dX7_takesOf_11 : decode cX7_takesOf 11 = .ok (.getfield 28, 3) := by decide +kernel
theorem dX7_takesOf_14 : decode cX7_takesOf 14 = .ok (.aload_n 0, 1) := by decide +kernel
theorem dX7_takesOf_15 : decode cX7_takesOf 15 = .ok (.getfield 25, 3) := by decide +kernel
theorem dX7_takesOf_18 : decode cX7_takesOf 18 = .ok (.if_icmp .ge 38, 3) := by decide +kernel
theorem dX7_takesOf_21 : decode cX7_takesOf 21 = .ok (.aload_n 1, 1) := by decide +kernel
theorem dX7_takesOf_22 : decode cX7_takesOf 22 = .ok (.iload_n 2, 1) := by decide +kernel
theorem dX7_takesOf_23 : decode cX7_takesOf 23 = .ok (.invokevirtual 37, 3) := by decide +kernel
theorem dX7_takesOf_26 : decode cX7_takesOf 26 = .ok (.aload_n 0, 1) := by decide +kernel
theorem dX7_takesOf_27 : decode cX7_takesOf 27 = .ok (.getfield 17, 3) := by decide +kernel
theorem dX7_takesOf_30 : decode cX7_takesOf 30 = .ok (.aload_n 0, 1) := by decide +kernel
theorem dX7_takesOf_31 : decode cX7_takesOf 31 = .ok (.getfield 28, 3) := by decide +kernel
theorem dX7_takesOf_34 : decode cX7_takesOf 34 = .ok (.iaload, 1) := by decide +kernel
theorem dX7_takesOf_35 : decode cX7_takesOf 35 = .ok (.if_icmp .ne 15, 3) := by decide +kernel
theorem dX7_takesOf_38 : decode cX7_takesOf 38 = .ok (.aload_n 0, 1) := by decide +kernel
theorem dX7_takesOf_39 : decode cX7_takesOf 39 = .ok (.dup, 1) := by decide +kernel
theorem dX7_takesOf_40 : decode cX7_takesOf 40 = .ok (.getfield 28, 3) := by decide +kernel
theorem dX7_takesOf_43 : decode cX7_takesOf 43 = .ok (.iconst 1, 1) := by decide +kernel
theorem dX7_takesOf_44 : decode cX7_takesOf 44 = .ok (.iadd, 1) := by decide +kernel
theorem dX7_takesOf_45 : decode cX7_takesOf 45 = .ok (.putfield 28, 3) := by decide +kernel
theorem dX7_takesOf_48 : decode cX7_takesOf 48 = .ok (.iload_n 2, 1) := by decide +kernel
theorem dX7_takesOf_49 : decode cX7_takesOf 49 = .ok (.ireturn, 1) := by decide +kernel
theorem dX7_takesOf_50 : decode cX7_takesOf 50 = .ok (.iinc 2 1, 3) := by decide +kernel
theorem dX7_takesOf_53 : decode cX7_takesOf 53 = .ok (.goto (-51), 3) := by decide +kernel
theorem dX7_takesOf_56 : decode cX7_takesOf 56 = .ok (.iconst (-1), 1) := by decide +kernel
theorem dX7_takesOf_57 : decode cX7_takesOf 57 = .ok (.ireturn, 1) := by decide +kernel
theorem dX7_init_0 : decode cX7_init 0 = .ok (.aload_n 0, 1) := by decide +kernel
theorem dX7_init_1 : decode cX7_init 1 = .ok (.invokespecial 41, 3) := by decide +kernel
theorem dX7_init_4 : decode cX7_init 4 = .ok (.aload_n 0, 1) := by decide +kernel
theorem dX7_init_5 : decode cX7_init 5 = .ok (.bipush 96, 2) := by decide +kernel
theorem dX7_init_7 : decode cX7_init 7 = .ok (.newarray .long, 2) := by decide +kernel
theorem dX7_init_9 : decode cX7_init 9 = .ok (.putfield 7, 3) := by decide +kernel
theorem dX7_init_12 : decode cX7_init 12 = .ok (.aload_n 0, 1) := by decide +kernel
theorem dX7_init_13 : decode cX7_init 13 = .ok (.bipush 80, 2) := by decide +kernel
theorem dX7_init_15 : decode cX7_init 15 = .ok (.newarray .int, 2) := by decide +kernel
theorem dX7_init_17 : decode cX7_init 17 = .ok (.putfield 17, 3) := by decide +kernel
theorem dX7_init_20 : decode cX7_init 20 = .ok (.aload_n 0, 1) := by decide +kernel
theorem dX7_init_21 : decode cX7_init 21 = .ok (.bipush 10, 2) := by decide +kernel
theorem dX7_init_23 : decode cX7_init 23 = .ok (.putfield 47, 3) := by decide +kernel
theorem dX7_init_26 : decode cX7_init 26 = .ok (.aload_n 0, 1) := by decide +kernel
theorem dX7_init_27 : decode cX7_init 27 = .ok (.ldc 50, 2) := by decide +kernel
theorem dX7_init_29 : decode cX7_init 29 = .ok (.putfield 51, 3) := by decide +kernel
theorem dX7_init_32 : decode cX7_init 32 = .ok (.aload_n 0, 1) := by decide +kernel
theorem dX7_init_33 : decode cX7_init 33 = .ok (.bipush 75, 2) := by decide +kernel
theorem dX7_init_35 : decode cX7_init 35 = .ok (.putfield 54, 3) := by decide +kernel
theorem dX7_init_38 : decode cX7_init 38 = .ok (.aload_n 0, 1) := by decide +kernel
theorem dX7_init_39 : decode cX7_init 39 = .ok (.iconst 2, 1) := by decide +kernel
theorem dX7_init_40 : decode cX7_init 40 = .ok (.newarray .int, 2) := by decide +kernel
theorem dX7_init_42 : decode cX7_init 42 = .ok (.dup, 1) := by decide +kernel
theorem dX7_init_43 : decode cX7_init 43 = .ok (.iconst 0, 1) := by decide +kernel
theorem dX7_init_44 : decode cX7_init 44 = .ok (.iconst 3, 1) := by decide +kernel
theorem dX7_init_45 : decode cX7_init 45 = .ok (.iastore, 1) := by decide +kernel
theorem dX7_init_46 : decode cX7_init 46 = .ok (.dup, 1) := by decide +kernel
theorem dX7_init_47 : decode cX7_init 47 = .ok (.iconst 1, 1) := by decide +kernel
theorem dX7_init_48 : decode cX7_init 48 = .ok (.iconst 3, 1) := by decide +kernel
theorem dX7_init_49 : decode cX7_init 49 = .ok (.iastore, 1) := by decide +kernel
theorem dX7_init_50 : decode cX7_init 50 = .ok (.putfield 57, 3) := by decide +kernel
theorem dX7_init_53 : decode cX7_init 53 = .ok (.aload_n 0, 1) := by decide +kernel
theorem dX7_init_54 : decode cX7_init 54 = .ok (.iconst 2, 1) := by decide +kernel
theorem dX7_init_55 : decode cX7_init 55 = .ok (.newarray .int, 2) := by decide +kernel
theorem dX7_init_57 : decode cX7_init 57 = .ok (.putfield 60, 3) := by decide +kernel
theorem dX7_init_60 : decode cX7_init 60 = .ok (.aload_n 0, 1) := by decide +kernel
theorem dX7_init_61 : decode cX7_init 61 = .ok (.sipush 128, 3) := by decide +kernel
theorem dX7_init_64 : decode cX7_init 64 = .ok (.newarray .int, 2) := by decide +kernel
theorem dX7_init_66 : decode cX7_init 66 = .ok (.putfield 63, 3) := by decide +kernel
theorem dX7_init_69 : decode cX7_init 69 = .ok (.aload_n 0, 1) := by decide +kernel
theorem dX7_init_70 : decode cX7_init 70 = .ok (.bipush 64, 2) := by decide +kernel
theorem dX7_init_72 : decode cX7_init 72 = .ok (.newarray .int, 2) := by decide +kernel
theorem dX7_init_74 : decode cX7_init 74 = .ok (.putfield 66, 3) := by decide +kernel
theorem dX7_init_77 : decode cX7_init 77 = .ok (.aload_n 0, 1) := by decide +kernel
theorem dX7_init_78 : decode cX7_init 78 = .ok (.bipush 64, 2) := by decide +kernel
theorem dX7_init_80 : decode cX7_init 80 = .ok (.newarray .int, 2) := by decide +kernel
theorem dX7_init_82 : decode cX7_init 82 = .ok (.putfield 69, 3) := by decide +kernel
theorem dX7_init_85 : decode cX7_init 85 = .ok (.aload_n 0, 1) := by decide +kernel
theorem dX7_init_86 : decode cX7_init 86 = .ok (.bipush 64, 2) := by decide +kernel
theorem dX7_init_88 : decode cX7_init 88 = .ok (.newarray .int, 2) := by decide +kernel
theorem dX7_init_90 : decode cX7_init 90 = .ok (.putfield 72, 3) := by decide +kernel
theorem dX7_init_93 : decode cX7_init 93 = .ok (.aload_n 0, 1) := by decide +kernel
theorem dX7_init_94 : decode cX7_init 94 = .ok (.bipush 80, 2) := by decide +kernel
theorem dX7_init_96 : decode cX7_init 96 = .ok (.newarray .int, 2) := by decide +kernel
theorem dX7_init_98 : decode cX7_init 98 = .ok (.putfield 75, 3) := by decide +kernel
theorem dX7_init_101 : decode cX7_init 101 = .ok (.aload_n 0, 1) := by decide +kernel
theorem dX7_init_102 : decode cX7_init 102 = .ok (.bipush 80, 2) := by decide +kernel
theorem dX7_init_104 : decode cX7_init 104 = .ok (.newarray .boolean, 2) := by decide +kernel
theorem dX7_init_106 : decode cX7_init 106 = .ok (.putfield 78, 3) := by decide +kernel
theorem dX7_init_109 : decode cX7_init 109 = .ok (.aload_n 0, 1) := by decide +kernel
theorem dX7_init_110 : decode cX7_init 110 = .ok (.bipush 16, 2) := by decide +kernel
theorem dX7_init_112 : decode cX7_init 112 = .ok (.newarray .long, 2) := by decide +kernel
theorem dX7_init_114 : decode cX7_init 114 = .ok (.putfield 82, 3) := by decide +kernel
theorem dX7_init_117 : decode cX7_init 117 = .ok (.aload_n 0, 1) := by decide +kernel
theorem dX7_init_118 : decode cX7_init 118 = .ok (.bipush 64, 2) := by decide +kernel
theorem dX7_init_120 : decode cX7_init 120 = .ok (.newarray .int, 2) := by decide +kernel
theorem dX7_init_122 : decode cX7_init 122 = .ok (.putfield 85, 3) := by decide +kernel
theorem dX7_init_125 : decode cX7_init 125 = .ok (.aload_n 0, 1) := by decide +kernel
theorem dX7_init_126 : decode cX7_init 126 = .ok (.bipush 64, 2) := by decide +kernel
theorem dX7_init_128 : decode cX7_init 128 = .ok (.newarray .int, 2) := by decide +kernel
theorem dX7_init_130 : decode cX7_init 130 = .ok (.putfield 88, 3) := by decide +kernel
theorem dX7_init_133 : decode cX7_init 133 = .ok (.aload_n 0, 1) := by decide +kernel
theorem dX7_init_134 : decode cX7_init 134 = .ok (.bipush 64, 2) := by decide +kernel
theorem dX7_init_136 : decode cX7_init 136 = .ok (.newarray .int, 2) := by decide +kernel
theorem dX7_init_138 : decode cX7_init 138 = .ok (.putfield 91, 3) := by decide +kernel
theorem dX7_init_141 : decode cX7_init 141 = .ok (.aload_n 0, 1) := by decide +kernel
theorem dX7_init_142 : decode cX7_init 142 = .ok (.bipush 64, 2) := by decide +kernel
theorem dX7_init_144 : decode cX7_init 144 = .ok (.newarray .int, 2) := by decide +kernel
theorem dX7_init_146 : decode cX7_init 146 = .ok (.putfield 94, 3) := by decide +kernel
theorem dX7_init_149 : decode cX7_init 149 = .ok (.aload_n 0, 1) := by decide +kernel
theorem dX7_init_150 : decode cX7_init 150 = .ok (.bipush 64, 2) := by decide +kernel
theorem dX7_init_152 : decode cX7_init 152 = .ok (.newarray .int, 2) := by decide +kernel
theorem dX7_init_154 : decode cX7_init 154 = .ok (.putfield 97, 3) := by decide +kernel
theorem dX7_init_157 : decode cX7_init 157 = .ok (.return_, 1) := by decide +kernel
theorem dX7_isFile_0 : decode cX7_isFile 0 = .ok (.iload_n 0, 1) := by decide +kernel
theorem dX7_isFile_1 : decode cX7_isFile 1 = .ok (.i2l, 1) := by decide +kernel
theorem dX7_isFile_2 : decode cX7_isFile 2 = .ok (.lconst 0, 1) := by decide +kernel
theorem dX7_isFile_3 : decode cX7_isFile 3 = .ok (.lconst 1, 1) := by decide +kernel
theorem dX7_isFile_4 : decode cX7_isFile 4 = .ok (.invokestatic 21, 3) := by decide +kernel
theorem dX7_isFile_7 : decode cX7_isFile 7 = .ok (.ireturn, 1) := by decide +kernel
theorem dX7_isKey_0 : decode cX7_isKey 0 = .ok (.iload_n 0, 1) := by decide +kernel
theorem dX7_isKey_1 : decode cX7_isKey 1 = .ok (.i2l, 1) := by decide +kernel
theorem dX7_isKey_2 : decode cX7_isKey 2 = .ok (.lconst 0, 1) := by decide +kernel
theorem dX7_isKey_3 : decode cX7_isKey 3 = .ok (.ldc2_w 100, 3) := by decide +kernel
theorem dX7_isKey_6 : decode cX7_isKey 6 = .ok (.invokestatic 21, 3) := by decide +kernel
theorem dX7_isKey_9 : decode cX7_isKey 9 = .ok (.ireturn, 1) := by decide +kernel
theorem dX7_slots_0 : decode cX7_slots 0 = .ok (.iconst 1, 1) := by decide +kernel
theorem dX7_slots_1 : decode cX7_slots 1 = .ok (.aload_n 0, 1) := by decide +kernel
theorem dX7_slots_2 : decode cX7_slots 2 = .ok (.getfield 57, 3) := by decide +kernel
theorem dX7_slots_5 : decode cX7_slots 5 = .ok (.iload_n 1, 1) := by decide +kernel
theorem dX7_slots_6 : decode cX7_slots 6 = .ok (.iaload, 1) := by decide +kernel
theorem dX7_slots_7 : decode cX7_slots 7 = .ok (.ishl, 1) := by decide +kernel
theorem dX7_slots_8 : decode cX7_slots 8 = .ok (.ireturn, 1) := by decide +kernel
theorem dX7_rest_0 : decode cX7_rest 0 = .ok (.aload_n 0, 1) := by decide +kernel
theorem dX7_rest_1 : decode cX7_rest 1 = .ok (.getfield 47, 3) := by decide +kernel
theorem dX7_rest_4 : decode cX7_rest 4 = .ok (.aload_n 0, 1) := by decide +kernel
theorem dX7_rest_5 : decode cX7_rest 5 = .ok (.getfield 57, 3) := by decide +kernel
theorem dX7_rest_8 : decode cX7_rest 8 = .ok (.iload_n 1, 1) := by decide +kernel
theorem dX7_rest_9 : decode cX7_rest 9 = .ok (.iaload, 1) := by decide +kernel
theorem dX7_rest_10 : decode cX7_rest 10 = .ok (.isub, 1) := by decide +kernel
theorem dX7_rest_11 : decode cX7_rest 11 = .ok (.ireturn, 1) := by decide +kernel
theorem dX7_printOf_0 : decode cX7_printOf 0 = .ok (.iload_n 1, 1) := by decide +kernel
theorem dX7_printOf_1 : decode cX7_printOf 1 = .ok (.aload_n 0, 1) := by decide +kernel
theorem dX7_printOf_2 : decode cX7_printOf 2 = .ok (.getfield 51, 3) := by decide +kernel
theorem dX7_printOf_5 : decode cX7_printOf 5 = .ok (.imul, 1) := by decide +kernel
theorem dX7_printOf_6 : decode cX7_printOf 6 = .ok (.bipush 32, 2) := by decide +kernel
theorem dX7_printOf_8 : decode cX7_printOf 8 = .ok (.aload_n 0, 1) := by decide +kernel
theorem dX7_printOf_9 : decode cX7_printOf 9 = .ok (.getfield 47, 3) := by decide +kernel
theorem dX7_printOf_12 : decode cX7_printOf 12 = .ok (.isub, 1) := by decide +kernel
theorem dX7_printOf_13 : decode cX7_printOf 13 = .ok (.iushr, 1) := by decide +kernel
theorem dX7_printOf_14 : decode cX7_printOf 14 = .ok (.ireturn, 1) := by decide +kernel
theorem dX7_at_0 : decode cX7_at 0 = .ok (.aload_n 0, 1) := by decide +kernel
theorem dX7_at_1 : decode cX7_at 1 = .ok (.getfield 63, 3) := by decide +kernel
theorem dX7_at_4 : decode cX7_at 4 = .ok (.bipush 64, 2) := by decide +kernel
theorem dX7_at_6 : decode cX7_at 6 = .ok (.iload_n 1, 1) := by decide +kernel
theorem dX7_at_7 : decode cX7_at 7 = .ok (.imul, 1) := by decide +kernel
theorem dX7_at_8 : decode cX7_at 8 = .ok (.iload_n 2, 1) := by decide +kernel
theorem dX7_at_9 : decode cX7_at 9 = .ok (.iadd, 1) := by decide +kernel
theorem dX7_at_10 : decode cX7_at 10 = .ok (.iaload, 1) := by decide +kernel
theorem dX7_at_11 : decode cX7_at 11 = .ok (.ireturn, 1) := by decide +kernel
theorem dX7_quotientOf_0 : decode cX7_quotientOf 0 = .ok (.iload_n 2, 1) := by decide +kernel
theorem dX7_quotientOf_1 : decode cX7_quotientOf 1 = .ok (.aload_n 0, 1) := by decide +kernel
theorem dX7_quotientOf_2 : decode cX7_quotientOf 2 = .ok (.iload_n 1, 1) := by decide +kernel
theorem dX7_quotientOf_3 : decode cX7_quotientOf 3 = .ok (.invokevirtual 102, 3) := by decide +kernel
theorem dX7_quotientOf_6 : decode cX7_quotientOf 6 = .ok (.ishr, 1) := by decide +kernel
theorem dX7_quotientOf_7 : decode cX7_quotientOf 7 = .ok (.ireturn, 1) := by decide +kernel
theorem dX7_remainderOf_0 : decode cX7_remainderOf 0 = .ok (.iload_n 2, 1) := by decide +kernel
theorem dX7_remainderOf_1 : decode cX7_remainderOf 1 = .ok (.iconst 1, 1) := by decide +kernel
theorem dX7_remainderOf_2 : decode cX7_remainderOf 2 = .ok (.aload_n 0, 1) := by decide +kernel
theorem dX7_remainderOf_3 : decode cX7_remainderOf 3 = .ok (.iload_n 1, 1) := by decide +kernel
theorem dX7_remainderOf_4 : decode cX7_remainderOf 4 = .ok (.invokevirtual 102, 3) := by decide +kernel
theorem dX7_remainderOf_7 : decode cX7_remainderOf 7 = .ok (.ishl, 1) := by decide +kernel
theorem dX7_remainderOf_8 : decode cX7_remainderOf 8 = .ok (.iconst 1, 1) := by decide +kernel
theorem dX7_remainderOf_9 : decode cX7_remainderOf 9 = .ok (.isub, 1) := by decide +kernel
theorem dX7_remainderOf_10 : decode cX7_remainderOf 10 = .ok (.iand, 1) := by decide +kernel
theorem dX7_remainderOf_11 : decode cX7_remainderOf 11 = .ok (.ireturn, 1) := by decide +kernel
theorem dX7_countOf_0 : decode cX7_countOf 0 = .ok (.iconst 0, 1) := by decide +kernel
theorem dX7_countOf_1 : decode cX7_countOf 1 = .ok (.istore_n 3, 1) := by decide +kernel
theorem dX7_countOf_2 : decode cX7_countOf 2 = .ok (.iconst 0, 1) := by decide +kernel
theorem dX7_countOf_3 : decode cX7_countOf 3 = .ok (.istore 4, 2) := by decide +kernel
theorem dX7_countOf_5 : decode cX7_countOf 5 = .ok (.iload 4, 2) := by decide +kernel
theorem dX7_countOf_7 : decode cX7_countOf 7 = .ok (.aload_n 0, 1) := by decide +kernel
theorem dX7_countOf_8 : decode cX7_countOf 8 = .ok (.getfield 60, 3) := by decide +kernel
theorem dX7_countOf_11 : decode cX7_countOf 11 = .ok (.iload_n 1, 1) := by decide +kernel
theorem dX7_countOf_12 : decode cX7_countOf 12 = .ok (.iaload, 1) := by decide +kernel
theorem dX7_countOf_13 : decode cX7_countOf 13 = .ok (.if_icmp .ge 31, 3) := by decide +kernel
theorem dX7_countOf_16 : decode cX7_countOf 16 = .ok (.iload_n 3, 1) := by decide +kernel
theorem dX7_countOf_17 : decode cX7_countOf 17 = .ok (.aload_n 0, 1) := by decide +kernel
theorem dX7_countOf_18 : decode cX7_countOf 18 = .ok (.iload_n 1, 1) := by decide +kernel
theorem dX7_countOf_19 : decode cX7_countOf 19 = .ok (.iload 4, 2) := by decide +kernel
theorem dX7_countOf_21 : decode cX7_countOf 21 = .ok (.invokevirtual 106, 3) := by decide +kernel
theorem dX7_countOf_24 : decode cX7_countOf 24 = .ok (.iload_n 2, 1) := by decide +kernel
theorem dX7_countOf_25 : decode cX7_countOf 25 = .ok (.if_icmp .ne 7, 3) := by decide +kernel
theorem dX7_countOf_28 : decode cX7_countOf 28 = .ok (.iconst 1, 1) := by decide +kernel
theorem dX7_countOf_29 : decode cX7_countOf 29 = .ok (.goto 4, 3) := by decide +kernel
theorem dX7_countOf_32 : decode cX7_countOf 32 = .ok (.iconst 0, 1) := by decide +kernel
theorem dX7_countOf_33 : decode cX7_countOf 33 = .ok (.invokestatic 109, 3) := by decide +kernel
theorem dX7_countOf_36 : decode cX7_countOf 36 = .ok (.iadd, 1) := by decide +kernel
theorem dX7_countOf_37 : decode cX7_countOf 37 = .ok (.istore_n 3, 1) := by decide +kernel
theorem dX7_countOf_38 : decode cX7_countOf 38 = .ok (.iinc 4 1, 3) := by decide +kernel
theorem dX7_countOf_41 : decode cX7_countOf 41 = .ok (.goto (-36), 3) := by decide +kernel
theorem dX7_countOf_44 : decode cX7_countOf 44 = .ok (.iload_n 3, 1) := by decide +kernel
theorem dX7_countOf_45 : decode cX7_countOf 45 = .ok (.ireturn, 1) := by decide +kernel
theorem dX7_comes_0 : decode cX7_comes 0 = .ok (.aload_n 0, 1) := by decide +kernel
theorem dX7_comes_1 : decode cX7_comes 1 = .ok (.getfield 60, 3) := by decide +kernel
theorem dX7_comes_4 : decode cX7_comes 4 = .ok (.iload_n 1, 1) := by decide +kernel
theorem dX7_comes_5 : decode cX7_comes 5 = .ok (.iaload, 1) := by decide +kernel
theorem dX7_comes_6 : decode cX7_comes 6 = .ok (.istore_n 3, 1) := by decide +kernel
theorem dX7_comes_7 : decode cX7_comes 7 = .ok (.iload_n 3, 1) := by decide +kernel
theorem dX7_comes_8 : decode cX7_comes 8 = .ok (.ifCond .le 40, 3) := by decide +kernel
theorem dX7_comes_11 : decode cX7_comes 11 = .ok (.aload_n 0, 1) := by decide +kernel
theorem dX7_comes_12 : decode cX7_comes 12 = .ok (.iload_n 1, 1) := by decide +kernel
theorem dX7_comes_13 : decode cX7_comes 13 = .ok (.iload_n 3, 1) := by decide +kernel
theorem dX7_comes_14 : decode cX7_comes 14 = .ok (.iconst 1, 1) := by decide +kernel
theorem dX7_comes_15 : decode cX7_comes 15 = .ok (.isub, 1) := by decide +kernel
theorem dX7_comes_16 : decode cX7_comes 16 = .ok (.invokevirtual 106, 3) := by decide +kernel
theorem dX7_comes_19 : decode cX7_comes 19 = .ok (.iload_n 2, 1) := by decide +kernel
theorem dX7_comes_20 : decode cX7_comes 20 = .ok (.if_icmp .le 28, 3) := by decide +kernel
theorem dX7_comes_23 : decode cX7_comes 23 = .ok (.aload_n 0, 1) := by decide +kernel
theorem dX7_comes_24 : decode cX7_comes 24 = .ok (.getfield 63, 3) := by decide +kernel
theorem dX7_comes_27 : decode cX7_comes 27 = .ok (.bipush 64, 2) := by decide +kernel
theorem dX7_comes_29 : decode cX7_comes 29 = .ok (.iload_n 1, 1) := by decide +kernel
theorem dX7_comes_30 : decode cX7_comes 30 = .ok (.imul, 1) := by decide +kernel
theorem dX7_comes_31 : decode cX7_comes 31 = .ok (.iload_n 3, 1) := by decide +kernel
theorem dX7_comes_32 : decode cX7_comes 32 = .ok (.iadd, 1) := by decide +kernel
theorem dX7_comes_33 : decode cX7_comes 33 = .ok (.aload_n 0, 1) := by decide +kernel
theorem dX7_comes_34 : decode cX7_comes 34 = .ok (.iload_n 1, 1) := by decide +kernel
theorem dX7_comes_35 : decode cX7_comes 35 = .ok (.iload_n 3, 1) := by decide +kernel
theorem dX7_comes_36 : decode cX7_comes 36 = .ok (.iconst 1, 1) := by decide +kernel
theorem dX7_comes_37 : decode cX7_comes 37 = .ok (.isub, 1) := by decide +kernel
theorem dX7_comes_38 : decode cX7_comes 38 = .ok (.invokevirtual 106, 3) := by decide +kernel
theorem dX7_comes_41 : decode cX7_comes 41 = .ok (.iastore, 1) := by decide +kernel
theorem dX7_comes_42 : decode cX7_comes 42 = .ok (.iinc 3 (-1), 3) := by decide +kernel
theorem dX7_comes_45 : decode cX7_comes 45 = .ok (.goto (-38), 3) := by decide +kernel
theorem dX7_comes_48 : decode cX7_comes 48 = .ok (.aload_n 0, 1) := by decide +kernel
theorem dX7_comes_49 : decode cX7_comes 49 = .ok (.getfield 63, 3) := by decide +kernel
theorem dX7_comes_52 : decode cX7_comes 52 = .ok (.bipush 64, 2) := by decide +kernel
theorem dX7_comes_54 : decode cX7_comes 54 = .ok (.iload_n 1, 1) := by decide +kernel
theorem dX7_comes_55 : decode cX7_comes 55 = .ok (.imul, 1) := by decide +kernel
theorem dX7_comes_56 : decode cX7_comes 56 = .ok (.iload_n 3, 1) := by decide +kernel
theorem dX7_comes_57 : decode cX7_comes 57 = .ok (.iadd, 1) := by decide +kernel
theorem dX7_comes_58 : decode cX7_comes 58 = .ok (.iload_n 2, 1) := by decide +kernel
theorem dX7_comes_59 : decode cX7_comes 59 = .ok (.iastore, 1) := by decide +kernel
theorem dX7_comes_60 : decode cX7_comes 60 = .ok (.aload_n 0, 1) := by decide +kernel
theorem dX7_comes_61 : decode cX7_comes 61 = .ok (.getfield 60, 3) := by decide +kernel
theorem dX7_comes_64 : decode cX7_comes 64 = .ok (.iload_n 1, 1) := by decide +kernel
theorem dX7_comes_65 : decode cX7_comes 65 = .ok (.dup2, 1) := by decide +kernel
theorem dX7_comes_66 : decode cX7_comes 66 = .ok (.iaload, 1) := by decide +kernel
theorem dX7_comes_67 : decode cX7_comes 67 = .ok (.iconst 1, 1) := by decide +kernel
theorem dX7_comes_68 : decode cX7_comes 68 = .ok (.iadd, 1) := by decide +kernel
theorem dX7_comes_69 : decode cX7_comes 69 = .ok (.iastore, 1) := by decide +kernel
theorem dX7_comes_70 : decode cX7_comes 70 = .ok (.return_, 1) := by decide +kernel
theorem dX7_goes_0 : decode cX7_goes 0 = .ok (.iconst 0, 1) := by decide +kernel
theorem dX7_goes_1 : decode cX7_goes 1 = .ok (.istore_n 3, 1) := by decide +kernel
theorem dX7_goes_2 : decode cX7_goes 2 = .ok (.iload_n 3, 1) := by decide +kernel
theorem dX7_goes_3 : decode cX7_goes 3 = .ok (.aload_n 0, 1) := by decide +kernel
theorem dX7_goes_4 : decode cX7_goes 4 = .ok (.getfield 60, 3) := by decide +kernel
theorem dX7_goes_7 : decode cX7_goes 7 = .ok (.iload_n 1, 1) := by decide +kernel
theorem dX7_goes_8 : decode cX7_goes 8 = .ok (.iaload, 1) := by decide +kernel
theorem dX7_goes_9 : decode cX7_goes 9 = .ok (.if_icmp .ge 19, 3) := by decide +kernel
theorem dX7_goes_12 : decode cX7_goes 12 = .ok (.aload_n 0, 1) := by decide +kernel
theorem dX7_goes_13 : decode cX7_goes 13 = .ok (.iload_n 1, 1) := by decide +kernel
theorem dX7_goes_14 : decode cX7_goes 14 = .ok (.iload_n 3, 1) := by decide +kernel
theorem dX7_goes_15 : decode cX7_goes 15 = .ok (.invokevirtual 106, 3) := by decide +kernel
theorem dX7_goes_18 : decode cX7_goes 18 = .ok (.iload_n 2, 1) := by decide +kernel
theorem dX7_goes_19 : decode cX7_goes 19 = .ok (.if_icmp .eq 9, 3) := by decide +kernel
theorem dX7_goes_22 : decode cX7_goes 22 = .ok (.iinc 3 1, 3) := by decide +kernel
theorem dX7_goes_25 : decode cX7_goes 25 = .ok (.goto (-23), 3) := by decide +kernel
theorem dX7_goes_28 : decode cX7_goes 28 = .ok (.iload_n 3, 1) := by decide +kernel
theorem dX7_goes_29 : decode cX7_goes 29 = .ok (.aload_n 0, 1) := by decide +kernel
theorem dX7_goes_30 : decode cX7_goes 30 = .ok (.getfield 60, 3) := by decide +kernel
theorem dX7_goes_33 : decode cX7_goes 33 = .ok (.iload_n 1, 1) := by decide +kernel
theorem dX7_goes_34 : decode cX7_goes 34 = .ok (.iaload, 1) := by decide +kernel
theorem dX7_goes_35 : decode cX7_goes 35 = .ok (.if_icmp .ne 5, 3) := by decide +kernel
theorem dX7_goes_38 : decode cX7_goes 38 = .ok (.iconst 0, 1) := by decide +kernel
theorem dX7_goes_39 : decode cX7_goes 39 = .ok (.ireturn, 1) := by decide +kernel
theorem dX7_goes_40 : decode cX7_goes 40 = .ok (.aload_n 0, 1) := by decide +kernel
theorem dX7_goes_41 : decode cX7_goes 41 = .ok (.getfield 60, 3) := by decide +kernel
theorem dX7_goes_44 : decode cX7_goes 44 = .ok (.iload_n 1, 1) := by decide +kernel
theorem dX7_goes_45 : decode cX7_goes 45 = .ok (.dup2, 1) := by decide +kernel
theorem dX7_goes_46 : decode cX7_goes 46 = .ok (.iaload, 1) := by decide +kernel
theorem dX7_goes_47 : decode cX7_goes 47 = .ok (.iconst 1, 1) := by decide +kernel
theorem dX7_goes_48 : decode cX7_goes 48 = .ok (.isub, 1) := by decide +kernel
theorem dX7_goes_49 : decode cX7_goes 49 = .ok (.iastore, 1) := by decide +kernel
theorem dX7_goes_50 : decode cX7_goes 50 = .ok (.iload_n 3, 1) := by decide +kernel
theorem dX7_goes_51 : decode cX7_goes 51 = .ok (.istore 4, 2) := by decide +kernel
theorem dX7_goes_53 : decode cX7_goes 53 = .ok (.iload 4, 2) := by decide +kernel
theorem dX7_goes_55 : decode cX7_goes 55 = .ok (.aload_n 0, 1) := by decide +kernel
theorem dX7_goes_56 : decode cX7_goes 56 = .ok (.getfield 60, 3) := by decide +kernel
theorem dX7_goes_59 : decode cX7_goes 59 = .ok (.iload_n 1, 1) := by decide +kernel
theorem dX7_goes_60 : decode cX7_goes 60 = .ok (.iaload, 1) := by decide +kernel
theorem dX7_goes_61 : decode cX7_goes 61 = .ok (.if_icmp .ge 30, 3) := by decide +kernel
theorem dX7_goes_64 : decode cX7_goes 64 = .ok (.aload_n 0, 1) := by decide +kernel
theorem dX7_goes_65 : decode cX7_goes 65 = .ok (.getfield 63, 3) := by decide +kernel
theorem dX7_goes_68 : decode cX7_goes 68 = .ok (.bipush 64, 2) := by decide +kernel
theorem dX7_goes_70 : decode cX7_goes 70 = .ok (.iload_n 1, 1) := by decide +kernel
theorem dX7_goes_71 : decode cX7_goes 71 = .ok (.imul, 1) := by decide +kernel
theorem dX7_goes_72 : decode cX7_goes 72 = .ok (.iload 4, 2) := by decide +kernel
theorem dX7_goes_74 : decode cX7_goes 74 = .ok (.iadd, 1) := by decide +kernel
theorem dX7_goes_75 : decode cX7_goes 75 = .ok (.aload_n 0, 1) := by decide +kernel
theorem dX7_goes_76 : decode cX7_goes 76 = .ok (.iload_n 1, 1) := by decide +kernel
theorem dX7_goes_77 : decode cX7_goes 77 = .ok (.iload 4, 2) := by decide +kernel
theorem dX7_goes_79 : decode cX7_goes 79 = .ok (.iconst 1, 1) := by decide +kernel
theorem dX7_goes_80 : decode cX7_goes 80 = .ok (.iadd, 1) := by decide +kernel
theorem dX7_goes_81 : decode cX7_goes 81 = .ok (.invokevirtual 106, 3) := by decide +kernel
theorem dX7_goes_84 : decode cX7_goes 84 = .ok (.iastore, 1) := by decide +kernel
theorem dX7_goes_85 : decode cX7_goes 85 = .ok (.iinc 4 1, 3) := by decide +kernel
theorem dX7_goes_88 : decode cX7_goes 88 = .ok (.goto (-35), 3) := by decide +kernel
theorem dX7_goes_91 : decode cX7_goes 91 = .ok (.iconst 1, 1) := by decide +kernel
theorem dX7_goes_92 : decode cX7_goes 92 = .ok (.ireturn, 1) := by decide +kernel
theorem dX7_shape_0 : decode cX7_shape 0 = .ok (.aload_n 0, 1) := by decide +kernel
theorem dX7_shape_1 : decode cX7_shape 1 = .ok (.iconst 0, 1) := by decide +kernel
theorem dX7_shape_2 : decode cX7_shape 2 = .ok (.putfield 1, 3) := by decide +kernel
theorem dX7_shape_5 : decode cX7_shape 5 = .ok (.iload_n 1, 1) := by decide +kernel
theorem dX7_shape_6 : decode cX7_shape 6 = .ok (.i2l, 1) := by decide +kernel
theorem dX7_shape_7 : decode cX7_shape 7 = .ok (.ldc2_w 113, 3) := by decide +kernel
theorem dX7_shape_10 : decode cX7_shape 10 = .ok (.ldc2_w 115, 3) := by decide +kernel
theorem dX7_shape_13 : decode cX7_shape 13 = .ok (.invokestatic 21, 3) := by decide +kernel
theorem dX7_shape_16 : decode cX7_shape 16 = .ok (.ifCond .eq 9, 3) := by decide +kernel
theorem dX7_shape_19 : decode cX7_shape 19 = .ok (.iload_n 2, 1) := by decide +kernel
theorem dX7_shape_20 : decode cX7_shape 20 = .ok (.iconst 2, 1) := by decide +kernel
theorem dX7_shape_21 : decode cX7_shape 21 = .ok (.irem, 1) := by decide +kernel
theorem dX7_shape_22 : decode cX7_shape 22 = .ok (.ifCond .ne 5, 3) := by decide +kernel
theorem dX7_shape_25 : decode cX7_shape 25 = .ok (.iconst (-1), 1) := by decide +kernel
theorem dX7_shape_26 : decode cX7_shape 26 = .ok (.ireturn, 1) := by decide +kernel
theorem dX7_shape_27 : decode cX7_shape 27 = .ok (.aload_n 0, 1) := by decide +kernel
theorem dX7_shape_28 : decode cX7_shape 28 = .ok (.getfield 47, 3) := by decide +kernel
theorem dX7_shape_31 : decode cX7_shape 31 = .ok (.istore_n 3, 1) := by decide +kernel
theorem dX7_shape_32 : decode cX7_shape 32 = .ok (.aload_n 0, 1) := by decide +kernel
theorem dX7_shape_33 : decode cX7_shape 33 = .ok (.iload_n 1, 1) := by decide +kernel
theorem dX7_shape_34 : decode cX7_shape 34 = .ok (.putfield 47, 3) := by decide +kernel
theorem dX7_shape_37 : decode cX7_shape 37 = .ok (.aload_n 0, 1) := by decide +kernel
theorem dX7_shape_38 : decode cX7_shape 38 = .ok (.iload_n 2, 1) := by decide +kernel
theorem dX7_shape_39 : decode cX7_shape 39 = .ok (.putfield 51, 3) := by decide +kernel
theorem dX7_shape_42 : decode cX7_shape 42 = .ok (.iconst 0, 1) := by decide +kernel
theorem dX7_shape_43 : decode cX7_shape 43 = .ok (.istore 4, 2) := by decide +kernel
theorem dX7_shape_45 : decode cX7_shape 45 = .ok (.iload 4, 2) := by decide +kernel
theorem dX7_shape_47 : decode cX7_shape 47 = .ok (.iconst 2, 1) := by decide +kernel
theorem dX7_shape_48 : decode cX7_shape 48 = .ok (.if_icmp .ge 25, 3) := by decide +kernel
theorem dX7_shape_51 : decode cX7_shape 51 = .ok (.aload_n 0, 1) := by decide +kernel
theorem dX7_shape_52 : decode cX7_shape 52 = .ok (.getfield 57, 3) := by decide +kernel
theorem dX7_shape_55 : decode cX7_shape 55 = .ok (.iload 4, 2) := by decide +kernel
theorem dX7_shape_57 : decode cX7_shape 57 = .ok (.iconst 3, 1) := by decide +kernel
theorem dX7_shape_58 : decode cX7_shape 58 = .ok (.iastore, 1) := by decide +kernel
theorem dX7_shape_59 : decode cX7_shape 59 = .ok (.aload_n 0, 1) := by decide +kernel
theorem dX7_shape_60 : decode cX7_shape 60 = .ok (.getfield 60, 3) := by decide +kernel
theorem dX7_shape_63 : decode cX7_shape 63 = .ok (.iload 4, 2) := by decide +kernel
theorem dX7_shape_65 : decode cX7_shape 65 = .ok (.iconst 0, 1) := by decide +kernel
theorem dX7_shape_66 : decode cX7_shape 66 = .ok (.iastore, 1) := by decide +kernel
theorem dX7_shape_67 : decode cX7_shape 67 = .ok (.iinc 4 1, 3) := by decide +kernel
theorem dX7_shape_70 : decode cX7_shape 70 = .ok (.goto (-25), 3) := by decide +kernel
theorem dX7_shape_73 : decode cX7_shape 73 = .ok (.iload_n 3, 1) := by decide +kernel
theorem dX7_shape_74 : decode cX7_shape 74 = .ok (.ireturn, 1) := by decide +kernel
theorem dX7_load_0 : decode cX7_load 0 = .ok (.aload_n 0, 1) := by decide +kernel
theorem dX7_load_1 : decode cX7_load 1 = .ok (.iconst 0, 1) := by decide +kernel
theorem dX7_load_2 : decode cX7_load 2 = .ok (.putfield 1, 3) := by decide +kernel
theorem dX7_load_5 : decode cX7_load 5 = .ok (.iload_n 1, 1) := by decide +kernel
theorem dX7_load_6 : decode cX7_load 6 = .ok (.i2l, 1) := by decide +kernel
theorem dX7_load_7 : decode cX7_load 7 = .ok (.ldc2_w 117, 3) := by decide +kernel
theorem dX7_load_10 : decode cX7_load 10 = .ok (.ldc2_w 119, 3) := by decide +kernel
theorem dX7_load_13 : decode cX7_load 13 = .ok (.invokestatic 21, 3) := by decide +kernel
theorem dX7_load_16 : decode cX7_load 16 = .ok (.ifCond .ne 5, 3) := by decide +kernel
theorem dX7_load_19 : decode cX7_load 19 = .ok (.iconst (-1), 1) := by decide +kernel
theorem dX7_load_20 : decode cX7_load 20 = .ok (.ireturn, 1) := by decide +kernel
theorem dX7_load_21 : decode cX7_load 21 = .ok (.aload_n 0, 1) := by decide +kernel
theorem dX7_load_22 : decode cX7_load 22 = .ok (.getfield 54, 3) := by decide +kernel
theorem dX7_load_25 : decode cX7_load 25 = .ok (.iload_n 1, 1) := by decide +kernel
theorem dX7_load_26 : decode cX7_load 26 = .ok (.if_icmp .ne 6, 3) := by decide +kernel
theorem dX7_load_29 : decode cX7_load 29 = .ok (.bipush (-2), 2) := by decide +kernel
theorem dX7_load_31 : decode cX7_load 31 = .ok (.ireturn, 1) := by decide +kernel
theorem dX7_load_32 : decode cX7_load 32 = .ok (.aload_n 0, 1) := by decide +kernel
theorem dX7_load_33 : decode cX7_load 33 = .ok (.getfield 54, 3) := by decide +kernel
theorem dX7_load_36 : decode cX7_load 36 = .ok (.istore_n 2, 1) := by decide +kernel
theorem dX7_load_37 : decode cX7_load 37 = .ok (.aload_n 0, 1) := by decide +kernel
theorem dX7_load_38 : decode cX7_load 38 = .ok (.iload_n 1, 1) := by decide +kernel
theorem dX7_load_39 : decode cX7_load 39 = .ok (.putfield 54, 3) := by decide +kernel
theorem dX7_load_42 : decode cX7_load 42 = .ok (.iload_n 2, 1) := by decide +kernel
theorem dX7_load_43 : decode cX7_load 43 = .ok (.ireturn, 1) := by decide +kernel
theorem dX7_lies_0 : decode cX7_lies 0 = .ok (.aload_n 0, 1) := by decide +kernel
theorem dX7_lies_1 : decode cX7_lies 1 = .ok (.iload_n 1, 1) := by decide +kernel
theorem dX7_lies_2 : decode cX7_lies 2 = .ok (.invokevirtual 121, 3) := by decide +kernel
theorem dX7_lies_5 : decode cX7_lies 5 = .ok (.istore_n 2, 1) := by decide +kernel
theorem dX7_lies_6 : decode cX7_lies 6 = .ok (.iconst 0, 1) := by decide +kernel
theorem dX7_lies_7 : decode cX7_lies 7 = .ok (.istore_n 3, 1) := by decide +kernel
theorem dX7_lies_8 : decode cX7_lies 8 = .ok (.iload_n 3, 1) := by decide +kernel
theorem dX7_lies_9 : decode cX7_lies 9 = .ok (.iload_n 2, 1) := by decide +kernel
theorem dX7_lies_10 : decode cX7_lies 10 = .ok (.if_icmp .ge 23, 3) := by decide +kernel
theorem dX7_lies_13 : decode cX7_lies 13 = .ok (.aload_n 0, 1) := by decide +kernel
theorem dX7_lies_14 : decode cX7_lies 14 = .ok (.getfield 69, 3) := by decide +kernel
theorem dX7_lies_17 : decode cX7_lies 17 = .ok (.iload_n 3, 1) := by decide +kernel
theorem dX7_lies_18 : decode cX7_lies 18 = .ok (.iconst (-1), 1) := by decide +kernel
theorem dX7_lies_19 : decode cX7_lies 19 = .ok (.iastore, 1) := by decide +kernel
theorem dX7_lies_20 : decode cX7_lies 20 = .ok (.aload_n 0, 1) := by decide +kernel
theorem dX7_lies_21 : decode cX7_lies 21 = .ok (.getfield 72, 3) := by decide +kernel
theorem dX7_lies_24 : decode cX7_lies 24 = .ok (.iload_n 3, 1) := by decide +kernel
theorem dX7_lies_25 : decode cX7_lies 25 = .ok (.iconst 0, 1) := by decide +kernel
theorem dX7_lies_26 : decode cX7_lies 26 = .ok (.iastore, 1) := by decide +kernel
theorem dX7_lies_27 : decode cX7_lies 27 = .ok (.iinc 3 1, 3) := by decide +kernel
theorem dX7_lies_30 : decode cX7_lies 30 = .ok (.goto (-22), 3) := by decide +kernel
theorem dX7_lies_33 : decode cX7_lies 33 = .ok (.iconst 0, 1) := by decide +kernel
theorem dX7_lies_34 : decode cX7_lies 34 = .ok (.istore_n 3, 1) := by decide +kernel
theorem dX7_lies_35 : decode cX7_lies 35 = .ok (.iconst 0, 1) := by decide +kernel
theorem dX7_lies_36 : decode cX7_lies 36 = .ok (.istore 4, 2) := by decide +kernel
theorem dX7_lies_38 : decode cX7_lies 38 = .ok (.iload 4, 2) := by decide +kernel
theorem dX7_lies_40 : decode cX7_lies 40 = .ok (.iconst 2, 1) := by decide +kernel
theorem dX7_lies_41 : decode cX7_lies 41 = .ok (.if_icmp .ge 71, 3) := by decide +kernel
theorem dX7_lies_44 : decode cX7_lies 44 = .ok (.iconst 0, 1) := by decide +kernel
theorem dX7_lies_45 : decode cX7_lies 45 = .ok (.iload_n 3, 1) := by decide +kernel
theorem dX7_lies_46 : decode cX7_lies 46 = .ok (.iload_n 2, 1) := by decide +kernel
theorem dX7_lies_47 : decode cX7_lies 47 = .ok (.isub, 1) := by decide +kernel
theorem dX7_lies_48 : decode cX7_lies 48 = .ok (.invokestatic 124, 3) := by decide +kernel
theorem dX7_lies_51 : decode cX7_lies 51 = .ok (.istore_n 3, 1) := by decide +kernel
theorem dX7_lies_52 : decode cX7_lies 52 = .ok (.iconst 0, 1) := by decide +kernel
theorem dX7_lies_53 : decode cX7_lies 53 = .ok (.istore 5, 2) := by decide +kernel
theorem dX7_lies_55 : decode cX7_lies 55 = .ok (.iload 5, 2) := by decide +kernel
theorem dX7_lies_57 : decode cX7_lies 57 = .ok (.aload_n 0, 1) := by decide +kernel
theorem dX7_lies_58 : decode cX7_lies 58 = .ok (.getfield 60, 3) := by decide +kernel
theorem dX7_lies_61 : decode cX7_lies 61 = .ok (.iload_n 1, 1) := by decide +kernel
theorem dX7_lies_62 : decode cX7_lies 62 = .ok (.iaload, 1) := by decide +kernel
theorem dX7_lies_63 : decode cX7_lies 63 = .ok (.if_icmp .ge 43, 3) := by decide +kernel
theorem dX7_lies_66 : decode cX7_lies 66 = .ok (.aload_n 0, 1) := by decide +kernel
theorem dX7_lies_67 : decode cX7_lies 67 = .ok (.iload_n 1, 1) := by decide +kernel
theorem dX7_lies_68 : decode cX7_lies 68 = .ok (.aload_n 0, 1) := by decide +kernel
theorem dX7_lies_69 : decode cX7_lies 69 = .ok (.iload_n 1, 1) := by decide +kernel
theorem dX7_lies_70 : decode cX7_lies 70 = .ok (.iload 5, 2) := by decide +kernel
theorem dX7_lies_72 : decode cX7_lies 72 = .ok (.invokevirtual 106, 3) := by decide +kernel
theorem dX7_lies_75 : decode cX7_lies 75 = .ok (.invokevirtual 129, 3) := by decide +kernel
theorem dX7_lies_78 : decode cX7_lies 78 = .ok (.istore 6, 2) := by decide +kernel
theorem dX7_lies_80 : decode cX7_lies 80 = .ok (.iload_n 3, 1) := by decide +kernel
theorem dX7_lies_81 : decode cX7_lies 81 = .ok (.iload 6, 2) := by decide +kernel
theorem dX7_lies_83 : decode cX7_lies 83 = .ok (.invokestatic 124, 3) := by decide +kernel
theorem dX7_lies_86 : decode cX7_lies 86 = .ok (.istore_n 3, 1) := by decide +kernel
theorem dX7_lies_87 : decode cX7_lies 87 = .ok (.aload_n 0, 1) := by decide +kernel
theorem dX7_lies_88 : decode cX7_lies 88 = .ok (.getfield 66, 3) := by decide +kernel
theorem dX7_lies_91 : decode cX7_lies 91 = .ok (.iload 5, 2) := by decide +kernel
theorem dX7_lies_93 : decode cX7_lies 93 = .ok (.iload_n 3, 1) := by decide +kernel
theorem dX7_lies_94 : decode cX7_lies 94 = .ok (.iload_n 2, 1) := by decide +kernel
theorem dX7_lies_95 : decode cX7_lies 95 = .ok (.irem, 1) := by decide +kernel
theorem dX7_lies_96 : decode cX7_lies 96 = .ok (.iastore, 1) := by decide +kernel
theorem dX7_lies_97 : decode cX7_lies 97 = .ok (.iinc 3 1, 3) := by decide +kernel
theorem dX7_lies_100 : decode cX7_lies 100 = .ok (.iinc 5 1, 3) := by decide +kernel
theorem dX7_lies_103 : decode cX7_lies 103 = .ok (.goto (-48), 3) := by decide +kernel
theorem dX7_lies_106 : decode cX7_lies 106 = .ok (.iinc 4 1, 3) := by decide +kernel
theorem dX7_lies_109 : decode cX7_lies 109 = .ok (.goto (-71), 3) := by decide +kernel
theorem dX7_lies_112 : decode cX7_lies 112 = .ok (.iconst 0, 1) := by decide +kernel
theorem dX7_lies_113 : decode cX7_lies 113 = .ok (.istore 4, 2) := by decide +kernel
theorem dX7_lies_115 : decode cX7_lies 115 = .ok (.iload 4, 2) := by decide +kernel
theorem dX7_lies_117 : decode cX7_lies 117 = .ok (.aload_n 0, 1) := by decide +kernel
theorem dX7_lies_118 : decode cX7_lies 118 = .ok (.getfield 60, 3) := by decide +kernel
theorem dX7_lies_121 : decode cX7_lies 121 = .ok (.iload_n 1, 1) := by decide +kernel
theorem dX7_lies_122 : decode cX7_lies 122 = .ok (.iaload, 1) := by decide +kernel
theorem dX7_lies_123 : decode cX7_lies 123 = .ok (.if_icmp .ge 122, 3) := by decide +kernel
theorem dX7_lies_126 : decode cX7_lies 126 = .ok (.aload_n 0, 1) := by decide +kernel
theorem dX7_lies_127 : decode cX7_lies 127 = .ok (.iload_n 1, 1) := by decide +kernel
theorem dX7_lies_128 : decode cX7_lies 128 = .ok (.aload_n 0, 1) := by decide +kernel
theorem dX7_lies_129 : decode cX7_lies 129 = .ok (.iload_n 1, 1) := by decide +kernel
theorem dX7_lies_130 : decode cX7_lies 130 = .ok (.iload 4, 2) := by decide +kernel
theorem dX7_lies_132 : decode cX7_lies 132 = .ok (.invokevirtual 106, 3) := by decide +kernel
theorem dX7_lies_135 : decode cX7_lies 135 = .ok (.invokevirtual 129, 3) := by decide +kernel
theorem dX7_lies_138 : decode cX7_lies 138 = .ok (.istore 5, 2) := by decide +kernel
theorem dX7_lies_140 : decode cX7_lies 140 = .ok (.iload 4, 2) := by decide +kernel
theorem dX7_lies_142 : decode cX7_lies 142 = .ok (.ifCond .le 26, 3) := by decide +kernel
theorem dX7_lies_145 : decode cX7_lies 145 = .ok (.aload_n 0, 1) := by decide +kernel
theorem dX7_lies_146 : decode cX7_lies 146 = .ok (.iload_n 1, 1) := by decide +kernel
theorem dX7_lies_147 : decode cX7_lies 147 = .ok (.aload_n 0, 1) := by decide +kernel
theorem dX7_lies_148 : decode cX7_lies 148 = .ok (.iload_n 1, 1) := by decide +kernel
theorem dX7_lies_149 : decode cX7_lies 149 = .ok (.iload 4, 2) := by decide +kernel
theorem dX7_lies_151 : decode cX7_lies 151 = .ok (.iconst 1, 1) := by decide +kernel
theorem dX7_lies_152 : decode cX7_lies 152 = .ok (.isub, 1) := by decide +kernel
theorem dX7_lies_153 : decode cX7_lies 153 = .ok (.invokevirtual 106, 3) := by decide +kernel
theorem dX7_lies_156 : decode cX7_lies 156 = .ok (.invokevirtual 129, 3) := by decide +kernel
theorem dX7_lies_159 : decode cX7_lies 159 = .ok (.iload 5, 2) := by decide +kernel
theorem dX7_lies_161 : decode cX7_lies 161 = .ok (.if_icmp .ne 7, 3) := by decide +kernel
theorem dX7_lies_164 : decode cX7_lies 164 = .ok (.iconst 1, 1) := by decide +kernel
theorem dX7_lies_165 : decode cX7_lies 165 = .ok (.goto 4, 3) := by decide +kernel
theorem dX7_lies_168 : decode cX7_lies 168 = .ok (.iconst 0, 1) := by decide +kernel
theorem dX7_lies_169 : decode cX7_lies 169 = .ok (.istore 6, 2) := by decide +kernel
theorem dX7_lies_171 : decode cX7_lies 171 = .ok (.aload_n 0, 1) := by decide +kernel
theorem dX7_lies_172 : decode cX7_lies 172 = .ok (.getfield 69, 3) := by decide +kernel
theorem dX7_lies_175 : decode cX7_lies 175 = .ok (.aload_n 0, 1) := by decide +kernel
theorem dX7_lies_176 : decode cX7_lies 176 = .ok (.getfield 66, 3) := by decide +kernel
theorem dX7_lies_179 : decode cX7_lies 179 = .ok (.iload 4, 2) := by decide +kernel
theorem dX7_lies_181 : decode cX7_lies 181 = .ok (.iaload, 1) := by decide +kernel
theorem dX7_lies_182 : decode cX7_lies 182 = .ok (.iload 4, 2) := by decide +kernel
theorem dX7_lies_184 : decode cX7_lies 184 = .ok (.iastore, 1) := by decide +kernel
theorem dX7_lies_185 : decode cX7_lies 185 = .ok (.aload_n 0, 1) := by decide +kernel
theorem dX7_lies_186 : decode cX7_lies 186 = .ok (.getfield 72, 3) := by decide +kernel
theorem dX7_lies_189 : decode cX7_lies 189 = .ok (.iload 5, 2) := by decide +kernel
theorem dX7_lies_191 : decode cX7_lies 191 = .ok (.dup2, 1) := by decide +kernel
theorem dX7_lies_192 : decode cX7_lies 192 = .ok (.iaload, 1) := by decide +kernel
theorem dX7_lies_193 : decode cX7_lies 193 = .ok (.iconst 1, 1) := by decide +kernel
theorem dX7_lies_194 : decode cX7_lies 194 = .ok (.ior, 1) := by decide +kernel
theorem dX7_lies_195 : decode cX7_lies 195 = .ok (.iastore, 1) := by decide +kernel
theorem dX7_lies_196 : decode cX7_lies 196 = .ok (.aload_n 0, 1) := by decide +kernel
theorem dX7_lies_197 : decode cX7_lies 197 = .ok (.getfield 72, 3) := by decide +kernel
theorem dX7_lies_200 : decode cX7_lies 200 = .ok (.aload_n 0, 1) := by decide +kernel
theorem dX7_lies_201 : decode cX7_lies 201 = .ok (.getfield 66, 3) := by decide +kernel
theorem dX7_lies_204 : decode cX7_lies 204 = .ok (.iload 4, 2) := by decide +kernel
theorem dX7_lies_206 : decode cX7_lies 206 = .ok (.iaload, 1) := by decide +kernel
theorem dX7_lies_207 : decode cX7_lies 207 = .ok (.dup2, 1) := by decide +kernel
theorem dX7_lies_208 : decode cX7_lies 208 = .ok (.iaload, 1) := by decide +kernel
theorem dX7_lies_209 : decode cX7_lies 209 = .ok (.iload 6, 2) := by decide +kernel
theorem dX7_lies_211 : decode cX7_lies 211 = .ok (.ifCond .eq 7, 3) := by decide +kernel
theorem dX7_lies_214 : decode cX7_lies 214 = .ok (.iconst 2, 1) := by decide +kernel
theorem dX7_lies_215 : decode cX7_lies 215 = .ok (.goto 4, 3) := by decide +kernel
theorem dX7_lies_218 : decode cX7_lies 218 = .ok (.iconst 0, 1) := by decide +kernel
theorem dX7_lies_219 : decode cX7_lies 219 = .ok (.aload_n 0, 1) := by decide +kernel
theorem dX7_lies_220 : decode cX7_lies 220 = .ok (.getfield 66, 3) := by decide +kernel
theorem dX7_lies_223 : decode cX7_lies 223 = .ok (.iload 4, 2) := by decide +kernel
theorem dX7_lies_225 : decode cX7_lies 225 = .ok (.iaload, 1) := by decide +kernel
theorem dX7_lies_226 : decode cX7_lies 226 = .ok (.iload 5, 2) := by decide +kernel
theorem dX7_lies_228 : decode cX7_lies 228 = .ok (.if_icmp .ne 7, 3) := by decide +kernel
theorem dX7_lies_231 : decode cX7_lies 231 = .ok (.iconst 0, 1) := by decide +kernel
theorem dX7_lies_232 : decode cX7_lies 232 = .ok (.goto 4, 3) := by decide +kernel
theorem dX7_lies_235 : decode cX7_lies 235 = .ok (.iconst 4, 1) := by decide +kernel
theorem dX7_lies_236 : decode cX7_lies 236 = .ok (.ior, 1) := by decide +kernel
theorem dX7_lies_237 : decode cX7_lies 237 = .ok (.ior, 1) := by decide +kernel
theorem dX7_lies_238 : decode cX7_lies 238 = .ok (.iastore, 1) := by decide +kernel
theorem dX7_lies_239 : decode cX7_lies 239 = .ok (.iinc 4 1, 3) := by decide +kernel
theorem dX7_lies_242 : decode cX7_lies 242 = .ok (.goto (-127), 3) := by decide +kernel
theorem dX7_lies_245 : decode cX7_lies 245 = .ok (.return_, 1) := by decide +kernel
theorem dX7_lastSlot_0 : decode cX7_lastSlot 0 = .ok (.iconst (-1), 1) := by decide +kernel
theorem dX7_lastSlot_1 : decode cX7_lastSlot 1 = .ok (.istore_n 3, 1) := by decide +kernel
theorem dX7_lastSlot_2 : decode cX7_lastSlot 2 = .ok (.iconst 0, 1) := by decide +kernel
theorem dX7_lastSlot_3 : decode cX7_lastSlot 3 = .ok (.istore 4, 2) := by decide +kernel
theorem dX7_lastSlot_5 : decode cX7_lastSlot 5 = .ok (.iload 4, 2) := by decide +kernel
theorem dX7_lastSlot_7 : decode cX7_lastSlot 7 = .ok (.aload_n 0, 1) := by decide +kernel
theorem dX7_lastSlot_8 : decode cX7_lastSlot 8 = .ok (.getfield 60, 3) := by decide +kernel
theorem dX7_lastSlot_11 : decode cX7_lastSlot 11 = .ok (.iload_n 1, 1) := by decide +kernel
theorem dX7_lastSlot_12 : decode cX7_lastSlot 12 = .ok (.iaload, 1) := by decide +kernel
theorem dX7_lastSlot_13 : decode cX7_lastSlot 13 = .ok (.if_icmp .ge 32, 3) := by decide +kernel
theorem dX7_lastSlot_16 : decode cX7_lastSlot 16 = .ok (.aload_n 0, 1) := by decide +kernel
theorem dX7_lastSlot_17 : decode cX7_lastSlot 17 = .ok (.iload_n 1, 1) := by decide +kernel
theorem dX7_lastSlot_18 : decode cX7_lastSlot 18 = .ok (.iload 4, 2) := by decide +kernel
theorem dX7_lastSlot_20 : decode cX7_lastSlot 20 = .ok (.invokevirtual 106, 3) := by decide +kernel
theorem dX7_lastSlot_23 : decode cX7_lastSlot 23 = .ok (.iload_n 2, 1) := by decide +kernel
theorem dX7_lastSlot_24 : decode cX7_lastSlot 24 = .ok (.if_icmp .ne 13, 3) := by decide +kernel
theorem dX7_lastSlot_27 : decode cX7_lastSlot 27 = .ok (.aload_n 0, 1) := by decide +kernel
theorem dX7_lastSlot_28 : decode cX7_lastSlot 28 = .ok (.getfield 66, 3) := by decide +kernel
theorem dX7_lastSlot_31 : decode cX7_lastSlot 31 = .ok (.iload 4, 2) := by decide +kernel
theorem dX7_lastSlot_33 : decode cX7_lastSlot 33 = .ok (.iaload, 1) := by decide +kernel
theorem dX7_lastSlot_34 : decode cX7_lastSlot 34 = .ok (.goto 4, 3) := by decide +kernel
theorem dX7_lastSlot_37 : decode cX7_lastSlot 37 = .ok (.iload_n 3, 1) := by decide +kernel
theorem dX7_lastSlot_38 : decode cX7_lastSlot 38 = .ok (.istore_n 3, 1) := by decide +kernel
theorem dX7_lastSlot_39 : decode cX7_lastSlot 39 = .ok (.iinc 4 1, 3) := by decide +kernel
theorem dX7_lastSlot_42 : decode cX7_lastSlot 42 = .ok (.goto (-37), 3) := by decide +kernel
theorem dX7_lastSlot_45 : decode cX7_lastSlot 45 = .ok (.iload_n 3, 1) := by decide +kernel
theorem dX7_lastSlot_46 : decode cX7_lastSlot 46 = .ok (.ireturn, 1) := by decide +kernel
theorem dX7_canDouble_0 : decode cX7_canDouble 0 = .ok (.aload_n 0, 1) := by decide +kernel
theorem dX7_canDouble_1 : decode cX7_canDouble 1 = .ok (.getfield 57, 3) := by decide +kernel
theorem dX7_canDouble_4 : decode cX7_canDouble 4 = .ok (.iload_n 1, 1) := by decide +kernel
theorem dX7_canDouble_5 : decode cX7_canDouble 5 = .ok (.iaload, 1) := by decide +kernel
theorem dX7_canDouble_6 : decode cX7_canDouble 6 = .ok (.bipush 6, 2) := by decide +kernel
theorem dX7_canDouble_8 : decode cX7_canDouble 8 = .ok (.if_icmp .ge 22, 3) := by decide +kernel
theorem dX7_canDouble_11 : decode cX7_canDouble 11 = .ok (.aload_n 0, 1) := by decide +kernel
theorem dX7_canDouble_12 : decode cX7_canDouble 12 = .ok (.getfield 57, 3) := by decide +kernel
theorem dX7_canDouble_15 : decode cX7_canDouble 15 = .ok (.iload_n 1, 1) := by decide +kernel
theorem dX7_canDouble_16 : decode cX7_canDouble 16 = .ok (.iaload, 1) := by decide +kernel
theorem dX7_canDouble_17 : decode cX7_canDouble 17 = .ok (.aload_n 0, 1) := by decide +kernel
theorem dX7_canDouble_18 : decode cX7_canDouble 18 = .ok (.getfield 47, 3) := by decide +kernel
theorem dX7_canDouble_21 : decode cX7_canDouble 21 = .ok (.iconst 1, 1) := by decide +kernel
theorem dX7_canDouble_22 : decode cX7_canDouble 22 = .ok (.isub, 1) := by decide +kernel
theorem dX7_canDouble_23 : decode cX7_canDouble 23 = .ok (.if_icmp .ge 7, 3) := by decide +kernel
theorem dX7_canDouble_26 : decode cX7_canDouble 26 = .ok (.iconst 1, 1) := by decide +kernel
theorem dX7_canDouble_27 : decode cX7_canDouble 27 = .ok (.goto 4, 3) := by decide +kernel
theorem dX7_canDouble_30 : decode cX7_canDouble 30 = .ok (.iconst 0, 1) := by decide +kernel
theorem dX7_canDouble_31 : decode cX7_canDouble 31 = .ok (.ireturn, 1) := by decide +kernel
theorem dX7_wouldDouble_0 : decode cX7_wouldDouble 0 = .ok (.bipush 100, 2) := by decide +kernel
theorem dX7_wouldDouble_2 : decode cX7_wouldDouble 2 = .ok (.aload_n 0, 1) := by decide +kernel
theorem dX7_wouldDouble_3 : decode cX7_wouldDouble 3 = .ok (.getfield 60, 3) := by decide +kernel
theorem dX7_wouldDouble_6 : decode cX7_wouldDouble 6 = .ok (.iload_n 1, 1) := by decide +kernel
theorem dX7_wouldDouble_7 : decode cX7_wouldDouble 7 = .ok (.iaload, 1) := by decide +kernel
theorem dX7_wouldDouble_8 : decode cX7_wouldDouble 8 = .ok (.iconst 1, 1) := by decide +kernel
theorem dX7_wouldDouble_9 : decode cX7_wouldDouble 9 = .ok (.iadd, 1) := by decide +kernel
theorem dX7_wouldDouble_10 : decode cX7_wouldDouble 10 = .ok (.imul, 1) := by decide +kernel
theorem dX7_wouldDouble_11 : decode cX7_wouldDouble 11 = .ok (.aload_n 0, 1) := by decide +kernel
theorem dX7_wouldDouble_12 : decode cX7_wouldDouble 12 = .ok (.getfield 54, 3) := by decide +kernel
theorem dX7_wouldDouble_15 : decode cX7_wouldDouble 15 = .ok (.aload_n 0, 1) := by decide +kernel
theorem dX7_wouldDouble_16 : decode cX7_wouldDouble 16 = .ok (.iload_n 1, 1) := by decide +kernel
theorem dX7_wouldDouble_17 : decode cX7_wouldDouble 17 = .ok (.invokevirtual 121, 3) := by decide +kernel
theorem dX7_wouldDouble_20 : decode cX7_wouldDouble 20 = .ok (.imul, 1) := by decide +kernel
theorem dX7_wouldDouble_21 : decode cX7_wouldDouble 21 = .ok (.if_icmp .le 15, 3) := by decide +kernel
theorem dX7_wouldDouble_24 : decode cX7_wouldDouble 24 = .ok (.aload_n 0, 1) := by decide +kernel
theorem dX7_wouldDouble_25 : decode cX7_wouldDouble 25 = .ok (.iload_n 1, 1) := by decide +kernel
theorem dX7_wouldDouble_26 : decode cX7_wouldDouble 26 = .ok (.invokevirtual 132, 3) := by decide +kernel
theorem dX7_wouldDouble_29 : decode cX7_wouldDouble 29 = .ok (.ifCond .eq 7, 3) := by decide +kernel
theorem dX7_wouldDouble_32 : decode cX7_wouldDouble 32 = .ok (.iconst 1, 1) := by decide +kernel
theorem dX7_wouldDouble_33 : decode cX7_wouldDouble 33 = .ok (.goto 4, 3) := by decide +kernel
theorem dX7_wouldDouble_36 : decode cX7_wouldDouble 36 = .ok (.iconst 0, 1) := by decide +kernel
theorem dX7_wouldDouble_37 : decode cX7_wouldDouble 37 = .ok (.ireturn, 1) := by decide +kernel
theorem dX7_print_0 : decode cX7_print 0 = .ok (.aload_n 0, 1) := by decide +kernel
theorem dX7_print_1 : decode cX7_print 1 = .ok (.iconst 0, 1) := by decide +kernel
theorem dX7_print_2 : decode cX7_print 2 = .ok (.putfield 1, 3) := by decide +kernel
theorem dX7_print_5 : decode cX7_print 5 = .ok (.iload_n 1, 1) := by decide +kernel
theorem dX7_print_6 : decode cX7_print 6 = .ok (.invokestatic 136, 3) := by decide +kernel
theorem dX7_print_9 : decode cX7_print 9 = .ok (.ifCond .eq 10, 3) := by decide +kernel
theorem dX7_print_12 : decode cX7_print 12 = .ok (.iload_n 2, 1) := by decide +kernel
theorem dX7_print_13 : decode cX7_print 13 = .ok (.invokestatic 139, 3) := by decide +kernel
theorem dX7_print_16 : decode cX7_print 16 = .ok (.ifCond .ne 5, 3) := by decide +kernel
theorem dX7_print_19 : decode cX7_print 19 = .ok (.iconst (-1), 1) := by decide +kernel
theorem dX7_print_20 : decode cX7_print 20 = .ok (.ireturn, 1) := by decide +kernel
theorem dX7_print_21 : decode cX7_print 21 = .ok (.aload_n 0, 1) := by decide +kernel
theorem dX7_print_22 : decode cX7_print 22 = .ok (.iload_n 2, 1) := by decide +kernel
theorem dX7_print_23 : decode cX7_print 23 = .ok (.invokevirtual 142, 3) := by decide +kernel
theorem dX7_print_26 : decode cX7_print 26 = .ok (.istore_n 3, 1) := by decide +kernel
theorem dX7_print_27 : decode cX7_print 27 = .ok (.aload_n 0, 1) := by decide +kernel
theorem dX7_print_28 : decode cX7_print 28 = .ok (.iconst 0, 1) := by decide +kernel
theorem dX7_print_29 : decode cX7_print 29 = .ok (.putfield 11, 3) := by decide +kernel
theorem dX7_print_32 : decode cX7_print 32 = .ok (.aload_n 0, 1) := by decide +kernel
theorem dX7_print_33 : decode cX7_print 33 = .ok (.aload_n 0, 1) := by decide +kernel
theorem dX7_print_34 : decode cX7_print 34 = .ok (.iload_n 1, 1) := by decide +kernel
theorem dX7_print_35 : decode cX7_print 35 = .ok (.iload_n 3, 1) := by decide +kernel
theorem dX7_print_36 : decode cX7_print 36 = .ok (.invokevirtual 129, 3) := by decide +kernel
theorem dX7_print_39 : decode cX7_print 39 = .ok (.i2l, 1) := by decide +kernel
theorem dX7_print_40 : decode cX7_print 40 = .ok (.invokevirtual 145, 3) := by decide +kernel
theorem dX7_print_43 : decode cX7_print 43 = .ok (.aload_n 0, 1) := by decide +kernel
theorem dX7_print_44 : decode cX7_print 44 = .ok (.aload_n 0, 1) := by decide +kernel
theorem dX7_print_45 : decode cX7_print 45 = .ok (.iload_n 1, 1) := by decide +kernel
theorem dX7_print_46 : decode cX7_print 46 = .ok (.iload_n 3, 1) := by decide +kernel
theorem dX7_print_47 : decode cX7_print 47 = .ok (.invokevirtual 149, 3) := by decide +kernel
theorem dX7_print_50 : decode cX7_print 50 = .ok (.i2l, 1) := by decide +kernel
theorem dX7_print_51 : decode cX7_print 51 = .ok (.invokevirtual 145, 3) := by decide +kernel
theorem dX7_print_54 : decode cX7_print 54 = .ok (.iload_n 3, 1) := by decide +kernel
theorem dX7_print_55 : decode cX7_print 55 = .ok (.ireturn, 1) := by decide +kernel
theorem dX7_putsOne_0 : decode cX7_putsOne 0 = .ok (.aload_n 0, 1) := by decide +kernel
theorem dX7_putsOne_1 : decode cX7_putsOne 1 = .ok (.iload_n 1, 1) := by decide +kernel
theorem dX7_putsOne_2 : decode cX7_putsOne 2 = .ok (.invokevirtual 152, 3) := by decide +kernel
theorem dX7_putsOne_5 : decode cX7_putsOne 5 = .ok (.ifCond .eq 16, 3) := by decide +kernel
theorem dX7_putsOne_8 : decode cX7_putsOne 8 = .ok (.aload_n 0, 1) := by decide +kernel
theorem dX7_putsOne_9 : decode cX7_putsOne 9 = .ok (.getfield 57, 3) := by decide +kernel
theorem dX7_putsOne_12 : decode cX7_putsOne 12 = .ok (.iload_n 1, 1) := by decide +kernel
theorem dX7_putsOne_13 : decode cX7_putsOne 13 = .ok (.dup2, 1) := by decide +kernel
theorem dX7_putsOne_14 : decode cX7_putsOne 14 = .ok (.iaload, 1) := by decide +kernel
theorem dX7_putsOne_15 : decode cX7_putsOne 15 = .ok (.iconst 1, 1) := by decide +kernel
theorem dX7_putsOne_16 : decode cX7_putsOne 16 = .ok (.iadd, 1) := by decide +kernel
theorem dX7_putsOne_17 : decode cX7_putsOne 17 = .ok (.iastore, 1) := by decide +kernel
theorem dX7_putsOne_18 : decode cX7_putsOne 18 = .ok (.goto 22, 3) := by decide +kernel
theorem dX7_putsOne_21 : decode cX7_putsOne 21 = .ok (.aload_n 0, 1) := by decide +kernel
theorem dX7_putsOne_22 : decode cX7_putsOne 22 = .ok (.getfield 60, 3) := by decide +kernel
theorem dX7_putsOne_25 : decode cX7_putsOne 25 = .ok (.iload_n 1, 1) := by decide +kernel
theorem dX7_putsOne_26 : decode cX7_putsOne 26 = .ok (.iaload, 1) := by decide +kernel
theorem dX7_putsOne_27 : decode cX7_putsOne 27 = .ok (.aload_n 0, 1) := by decide +kernel
theorem dX7_putsOne_28 : decode cX7_putsOne 28 = .ok (.iload_n 1, 1) := by decide +kernel
theorem dX7_putsOne_29 : decode cX7_putsOne 29 = .ok (.invokevirtual 121, 3) := by decide +kernel
theorem dX7_putsOne_32 : decode cX7_putsOne 32 = .ok (.iconst 1, 1) := by decide +kernel
theorem dX7_putsOne_33 : decode cX7_putsOne 33 = .ok (.isub, 1) := by decide +kernel
theorem dX7_putsOne_34 : decode cX7_putsOne 34 = .ok (.if_icmp .ne 6, 3) := by decide +kernel
theorem dX7_putsOne_37 : decode cX7_putsOne 37 = .ok (.bipush (-5), 2) := by decide +kernel
theorem dX7_putsOne_39 : decode cX7_putsOne 39 = .ok (.ireturn, 1) := by decide +kernel
theorem dX7_putsOne_40 : decode cX7_putsOne 40 = .ok (.aload_n 0, 1) := by decide +kernel
theorem dX7_putsOne_41 : decode cX7_putsOne 41 = .ok (.iload_n 1, 1) := by decide +kernel
theorem dX7_putsOne_42 : decode cX7_putsOne 42 = .ok (.aload_n 0, 1) := by decide +kernel
theorem dX7_putsOne_43 : decode cX7_putsOne 43 = .ok (.iload_n 2, 1) := by decide +kernel
theorem dX7_putsOne_44 : decode cX7_putsOne 44 = .ok (.invokevirtual 142, 3) := by decide +kernel
theorem dX7_putsOne_47 : decode cX7_putsOne 47 = .ok (.invokevirtual 155, 3) := by decide +kernel
theorem dX7_putsOne_50 : decode cX7_putsOne 50 = .ok (.aload_n 0, 1) := by decide +kernel
theorem dX7_putsOne_51 : decode cX7_putsOne 51 = .ok (.iload_n 1, 1) := by decide +kernel
theorem dX7_putsOne_52 : decode cX7_putsOne 52 = .ok (.invokevirtual 121, 3) := by decide +kernel
theorem dX7_putsOne_55 : decode cX7_putsOne 55 = .ok (.ireturn, 1) := by decide +kernel
theorem dX7_puts_0 : decode cX7_puts 0 = .ok (.aload_n 0, 1) := by decide +kernel
theorem dX7_puts_1 : decode cX7_puts 1 = .ok (.iconst 0, 1) := by decide +kernel
theorem dX7_puts_2 : decode cX7_puts 2 = .ok (.putfield 1, 3) := by decide +kernel
theorem dX7_puts_5 : decode cX7_puts 5 = .ok (.iload_n 1, 1) := by decide +kernel
theorem dX7_puts_6 : decode cX7_puts 6 = .ok (.invokestatic 136, 3) := by decide +kernel
theorem dX7_puts_9 : decode cX7_puts 9 = .ok (.ifCond .eq 10, 3) := by decide +kernel
theorem dX7_puts_12 : decode cX7_puts 12 = .ok (.iload_n 2, 1) := by decide +kernel
theorem dX7_puts_13 : decode cX7_puts 13 = .ok (.invokestatic 139, 3) := by decide +kernel
theorem dX7_puts_16 : decode cX7_puts 16 = .ok (.ifCond .ne 5, 3) := by decide +kernel
theorem dX7_puts_19 : decode cX7_puts 19 = .ok (.iconst (-1), 1) := by decide +kernel
theorem dX7_puts_20 : decode cX7_puts 20 = .ok (.ireturn, 1) := by decide +kernel
theorem dX7_puts_21 : decode cX7_puts 21 = .ok (.aload_n 0, 1) := by decide +kernel
theorem dX7_puts_22 : decode cX7_puts 22 = .ok (.iload_n 1, 1) := by decide +kernel
theorem dX7_puts_23 : decode cX7_puts 23 = .ok (.iload_n 2, 1) := by decide +kernel
theorem dX7_puts_24 : decode cX7_puts 24 = .ok (.invokevirtual 159, 3) := by decide +kernel
theorem dX7_puts_27 : decode cX7_puts 27 = .ok (.istore_n 3, 1) := by decide +kernel
theorem dX7_puts_28 : decode cX7_puts 28 = .ok (.iload_n 3, 1) := by decide +kernel
theorem dX7_puts_29 : decode cX7_puts 29 = .ok (.ifCond .lt 39, 3) := by decide +kernel
theorem dX7_puts_32 : decode cX7_puts 32 = .ok (.aload_n 0, 1) := by decide +kernel
theorem dX7_puts_33 : decode cX7_puts 33 = .ok (.iload_n 1, 1) := by decide +kernel
theorem dX7_puts_34 : decode cX7_puts 34 = .ok (.invokevirtual 162, 3) := by decide +kernel
theorem dX7_puts_37 : decode cX7_puts 37 = .ok (.aload_n 0, 1) := by decide +kernel
theorem dX7_puts_38 : decode cX7_puts 38 = .ok (.iconst 0, 1) := by decide +kernel
theorem dX7_puts_39 : decode cX7_puts 39 = .ok (.putfield 11, 3) := by decide +kernel
theorem dX7_puts_42 : decode cX7_puts 42 = .ok (.aload_n 0, 1) := by decide +kernel
theorem dX7_puts_43 : decode cX7_puts 43 = .ok (.aload_n 0, 1) := by decide +kernel
theorem dX7_puts_44 : decode cX7_puts 44 = .ok (.iload_n 1, 1) := by decide +kernel
theorem dX7_puts_45 : decode cX7_puts 45 = .ok (.aload_n 0, 1) := by decide +kernel
theorem dX7_puts_46 : decode cX7_puts 46 = .ok (.iload_n 2, 1) := by decide +kernel
theorem dX7_puts_47 : decode cX7_puts 47 = .ok (.invokevirtual 142, 3) := by decide +kernel
theorem dX7_puts_50 : decode cX7_puts 50 = .ok (.invokevirtual 166, 3) := by decide +kernel
theorem dX7_puts_53 : decode cX7_puts 53 = .ok (.i2l, 1) := by decide +kernel
theorem dX7_puts_54 : decode cX7_puts 54 = .ok (.invokevirtual 145, 3) := by decide +kernel
theorem dX7_puts_57 : decode cX7_puts 57 = .ok (.aload_n 0, 1) := by decide +kernel
theorem dX7_puts_58 : decode cX7_puts 58 = .ok (.aload_n 0, 1) := by decide +kernel
theorem dX7_puts_59 : decode cX7_puts 59 = .ok (.getfield 60, 3) := by decide +kernel
theorem dX7_puts_62 : decode cX7_puts 62 = .ok (.iload_n 1, 1) := by decide +kernel
theorem dX7_puts_63 : decode cX7_puts 63 = .ok (.iaload, 1) := by decide +kernel
theorem dX7_puts_64 : decode cX7_puts 64 = .ok (.i2l, 1) := by decide +kernel
theorem dX7_puts_65 : decode cX7_puts 65 = .ok (.invokevirtual 145, 3) := by decide +kernel
theorem dX7_puts_68 : decode cX7_puts 68 = .ok (.iload_n 3, 1) := by decide +kernel
theorem dX7_puts_69 : decode cX7_puts 69 = .ok (.ireturn, 1) := by decide +kernel
theorem dX7_takes_0 : decode cX7_takes 0 = .ok (.aload_n 0, 1) := by decide +kernel
theorem dX7_takes_1 : decode cX7_takes 1 = .ok (.iconst 0, 1) := by decide +kernel
theorem dX7_takes_2 : decode cX7_takes 2 = .ok (.putfield 1, 3) := by decide +kernel
theorem dX7_takes_5 : decode cX7_takes 5 = .ok (.iload_n 1, 1) := by decide +kernel
theorem dX7_takes_6 : decode cX7_takes 6 = .ok (.invokestatic 136, 3) := by decide +kernel
theorem dX7_takes_9 : decode cX7_takes 9 = .ok (.ifCond .eq 10, 3) := by decide +kernel
theorem dX7_takes_12 : decode cX7_takes 12 = .ok (.iload_n 2, 1) := by decide +kernel
theorem dX7_takes_13 : decode cX7_takes 13 = .ok (.invokestatic 139, 3) := by decide +kernel
theorem dX7_takes_16 : decode cX7_takes 16 = .ok (.ifCond .ne 5, 3) := by decide +kernel
theorem dX7_takes_19 : decode cX7_takes 19 = .ok (.iconst (-1), 1) := by decide +kernel
theorem dX7_takes_20 : decode cX7_takes 20 = .ok (.ireturn, 1) := by decide +kernel
theorem dX7_takes_21 : decode cX7_takes 21 = .ok (.aload_n 0, 1) := by decide +kernel
theorem dX7_takes_22 : decode cX7_takes 22 = .ok (.iload_n 1, 1) := by decide +kernel
theorem dX7_takes_23 : decode cX7_takes 23 = .ok (.aload_n 0, 1) := by decide +kernel
theorem dX7_takes_24 : decode cX7_takes 24 = .ok (.iload_n 2, 1) := by decide +kernel
theorem dX7_takes_25 : decode cX7_takes 25 = .ok (.invokevirtual 142, 3) := by decide +kernel
theorem dX7_takes_28 : decode cX7_takes 28 = .ok (.invokevirtual 169, 3) := by decide +kernel
theorem dX7_takes_31 : decode cX7_takes 31 = .ok (.ifCond .ne 6, 3) := by decide +kernel
theorem dX7_takes_34 : decode cX7_takes 34 = .ok (.bipush (-2), 2) := by decide +kernel
theorem dX7_takes_36 : decode cX7_takes 36 = .ok (.ireturn, 1) := by decide +kernel
theorem dX7_takes_37 : decode cX7_takes 37 = .ok (.aload_n 0, 1) := by decide +kernel
theorem dX7_takes_38 : decode cX7_takes 38 = .ok (.iconst 0, 1) := by decide +kernel
theorem dX7_takes_39 : decode cX7_takes 39 = .ok (.putfield 11, 3) := by decide +kernel
theorem dX7_takes_42 : decode cX7_takes 42 = .ok (.aload_n 0, 1) := by decide +kernel
theorem dX7_takes_43 : decode cX7_takes 43 = .ok (.aload_n 0, 1) := by decide +kernel
theorem dX7_takes_44 : decode cX7_takes 44 = .ok (.getfield 60, 3) := by decide +kernel
theorem dX7_takes_47 : decode cX7_takes 47 = .ok (.iload_n 1, 1) := by decide +kernel
theorem dX7_takes_48 : decode cX7_takes 48 = .ok (.iaload, 1) := by decide +kernel
theorem dX7_takes_49 : decode cX7_takes 49 = .ok (.i2l, 1) := by decide +kernel
theorem dX7_takes_50 : decode cX7_takes 50 = .ok (.invokevirtual 145, 3) := by decide +kernel
theorem dX7_takes_53 : decode cX7_takes 53 = .ok (.aload_n 0, 1) := by decide +kernel
theorem dX7_takes_54 : decode cX7_takes 54 = .ok (.iload_n 1, 1) := by decide +kernel
theorem dX7_takes_55 : decode cX7_takes 55 = .ok (.aload_n 0, 1) := by decide +kernel
theorem dX7_takes_56 : decode cX7_takes 56 = .ok (.iload_n 2, 1) := by decide +kernel
theorem dX7_takes_57 : decode cX7_takes 57 = .ok (.invokevirtual 142, 3) := by decide +kernel
theorem dX7_takes_60 : decode cX7_takes 60 = .ok (.invokevirtual 173, 3) := by decide +kernel
theorem dX7_takes_63 : decode cX7_takes 63 = .ok (.ireturn, 1) := by decide +kernel
theorem dX7_looksFor_0 : decode cX7_looksFor 0 = .ok (.iconst 0, 1) := by decide +kernel
theorem dX7_looksFor_1 : decode cX7_looksFor 1 = .ok (.istore_n 3, 1) := by decide +kernel
theorem dX7_looksFor_2 : decode cX7_looksFor 2 = .ok (.iconst 0, 1) := by decide +kernel
theorem dX7_looksFor_3 : decode cX7_looksFor 3 = .ok (.istore 4, 2) := by decide +kernel
theorem dX7_looksFor_5 : decode cX7_looksFor 5 = .ok (.iload 4, 2) := by decide +kernel
theorem dX7_looksFor_7 : decode cX7_looksFor 7 = .ok (.aload_n 0, 1) := by decide +kernel
theorem dX7_looksFor_8 : decode cX7_looksFor 8 = .ok (.getfield 60, 3) := by decide +kernel
theorem dX7_looksFor_11 : decode cX7_looksFor 11 = .ok (.iload_n 1, 1) := by decide +kernel
theorem dX7_looksFor_12 : decode cX7_looksFor 12 = .ok (.iaload, 1) := by decide +kernel
theorem dX7_looksFor_13 : decode cX7_looksFor 13 = .ok (.if_icmp .ge 49, 3) := by decide +kernel
theorem dX7_looksFor_16 : decode cX7_looksFor 16 = .ok (.aload_n 0, 1) := by decide +kernel
theorem dX7_looksFor_17 : decode cX7_looksFor 17 = .ok (.iload_n 1, 1) := by decide +kernel
theorem dX7_looksFor_18 : decode cX7_looksFor 18 = .ok (.aload_n 0, 1) := by decide +kernel
theorem dX7_looksFor_19 : decode cX7_looksFor 19 = .ok (.iload_n 1, 1) := by decide +kernel
theorem dX7_looksFor_20 : decode cX7_looksFor 20 = .ok (.iload 4, 2) := by decide +kernel
theorem dX7_looksFor_22 : decode cX7_looksFor 22 = .ok (.invokevirtual 106, 3) := by decide +kernel
theorem dX7_looksFor_25 : decode cX7_looksFor 25 = .ok (.invokevirtual 129, 3) := by decide +kernel
theorem dX7_looksFor_28 : decode cX7_looksFor 28 = .ok (.aload_n 0, 1) := by decide +kernel
theorem dX7_looksFor_29 : decode cX7_looksFor 29 = .ok (.iload_n 1, 1) := by decide +kernel
theorem dX7_looksFor_30 : decode cX7_looksFor 30 = .ok (.iload_n 2, 1) := by decide +kernel
theorem dX7_looksFor_31 : decode cX7_looksFor 31 = .ok (.invokevirtual 129, 3) := by decide +kernel
theorem dX7_looksFor_34 : decode cX7_looksFor 34 = .ok (.if_icmp .eq 6, 3) := by decide +kernel
theorem dX7_looksFor_37 : decode cX7_looksFor 37 = .ok (.goto 19, 3) := by decide +kernel
theorem dX7_looksFor_40 : decode cX7_looksFor 40 = .ok (.iinc 3 1, 3) := by decide +kernel
theorem dX7_looksFor_43 : decode cX7_looksFor 43 = .ok (.aload_n 0, 1) := by decide +kernel
theorem dX7_looksFor_44 : decode cX7_looksFor 44 = .ok (.iload_n 1, 1) := by decide +kernel
theorem dX7_looksFor_45 : decode cX7_looksFor 45 = .ok (.iload 4, 2) := by decide +kernel
theorem dX7_looksFor_47 : decode cX7_looksFor 47 = .ok (.invokevirtual 106, 3) := by decide +kernel
theorem dX7_looksFor_50 : decode cX7_looksFor 50 = .ok (.iload_n 2, 1) := by decide +kernel
theorem dX7_looksFor_51 : decode cX7_looksFor 51 = .ok (.if_icmp .le 5, 3) := by decide +kernel
theorem dX7_looksFor_54 : decode cX7_looksFor 54 = .ok (.iload_n 3, 1) := by decide +kernel
theorem dX7_looksFor_55 : decode cX7_looksFor 55 = .ok (.ireturn, 1) := by decide +kernel
theorem dX7_looksFor_56 : decode cX7_looksFor 56 = .ok (.iinc 4 1, 3) := by decide +kernel
theorem dX7_looksFor_59 : decode cX7_looksFor 59 = .ok (.goto (-54), 3) := by decide +kernel
theorem dX7_looksFor_62 : decode cX7_looksFor 62 = .ok (.iload_n 3, 1) := by decide +kernel
theorem dX7_looksFor_63 : decode cX7_looksFor 63 = .ok (.ireturn, 1) := by decide +kernel
theorem dX7_has_0 : decode cX7_has 0 = .ok (.aload_n 0, 1) := by decide +kernel
theorem dX7_has_1 : decode cX7_has 1 = .ok (.iconst 0, 1) := by decide +kernel
theorem dX7_has_2 : decode cX7_has 2 = .ok (.putfield 1, 3) := by decide +kernel
theorem dX7_has_5 : decode cX7_has 5 = .ok (.iload_n 1, 1) := by decide +kernel
theorem dX7_has_6 : decode cX7_has 6 = .ok (.invokestatic 136, 3) := by decide +kernel
theorem dX7_has_9 : decode cX7_has 9 = .ok (.ifCond .eq 10, 3) := by decide +kernel
theorem dX7_has_12 : decode cX7_has 12 = .ok (.iload_n 2, 1) := by decide +kernel
theorem dX7_has_13 : decode cX7_has 13 = .ok (.invokestatic 139, 3) := by decide +kernel
theorem dX7_has_16 : decode cX7_has 16 = .ok (.ifCond .ne 5, 3) := by decide +kernel
theorem dX7_has_19 : decode cX7_has 19 = .ok (.iconst (-1), 1) := by decide +kernel
theorem dX7_has_20 : decode cX7_has 20 = .ok (.ireturn, 1) := by decide +kernel
theorem dX7_has_21 : decode cX7_has 21 = .ok (.aload_n 0, 1) := by decide +kernel
theorem dX7_has_22 : decode cX7_has 22 = .ok (.iconst 0, 1) := by decide +kernel
theorem dX7_has_23 : decode cX7_has 23 = .ok (.putfield 11, 3) := by decide +kernel
theorem dX7_has_26 : decode cX7_has 26 = .ok (.aload_n 0, 1) := by decide +kernel
theorem dX7_has_27 : decode cX7_has 27 = .ok (.aload_n 0, 1) := by decide +kernel
theorem dX7_has_28 : decode cX7_has 28 = .ok (.iload_n 1, 1) := by decide +kernel
theorem dX7_has_29 : decode cX7_has 29 = .ok (.aload_n 0, 1) := by decide +kernel
theorem dX7_has_30 : decode cX7_has 30 = .ok (.iload_n 2, 1) := by decide +kernel
theorem dX7_has_31 : decode cX7_has 31 = .ok (.invokevirtual 142, 3) := by decide +kernel
theorem dX7_has_34 : decode cX7_has 34 = .ok (.invokevirtual 176, 3) := by decide +kernel
theorem dX7_has_37 : decode cX7_has 37 = .ok (.i2l, 1) := by decide +kernel
theorem dX7_has_38 : decode cX7_has 38 = .ok (.invokevirtual 145, 3) := by decide +kernel
theorem dX7_has_41 : decode cX7_has 41 = .ok (.aload_n 0, 1) := by decide +kernel
theorem dX7_has_42 : decode cX7_has 42 = .ok (.iload_n 1, 1) := by decide +kernel
theorem dX7_has_43 : decode cX7_has 43 = .ok (.aload_n 0, 1) := by decide +kernel
theorem dX7_has_44 : decode cX7_has 44 = .ok (.iload_n 2, 1) := by decide +kernel
theorem dX7_has_45 : decode cX7_has 45 = .ok (.invokevirtual 142, 3) := by decide +kernel
theorem dX7_has_48 : decode cX7_has 48 = .ok (.invokevirtual 173, 3) := by decide +kernel
theorem dX7_has_51 : decode cX7_has 51 = .ok (.ireturn, 1) := by decide +kernel
theorem dX7_twin_0 : decode cX7_twin 0 = .ok (.aload_n 0, 1) := by decide +kernel
theorem dX7_twin_1 : decode cX7_twin 1 = .ok (.iconst 0, 1) := by decide +kernel
theorem dX7_twin_2 : decode cX7_twin 2 = .ok (.putfield 1, 3) := by decide +kernel
theorem dX7_twin_5 : decode cX7_twin 5 = .ok (.iload_n 1, 1) := by decide +kernel
theorem dX7_twin_6 : decode cX7_twin 6 = .ok (.invokestatic 139, 3) := by decide +kernel
theorem dX7_twin_9 : decode cX7_twin 9 = .ok (.ifCond .ne 5, 3) := by decide +kernel
theorem dX7_twin_12 : decode cX7_twin 12 = .ok (.iconst (-1), 1) := by decide +kernel
theorem dX7_twin_13 : decode cX7_twin 13 = .ok (.ireturn, 1) := by decide +kernel
theorem dX7_twin_14 : decode cX7_twin 14 = .ok (.iconst 0, 1) := by decide +kernel
theorem dX7_twin_15 : decode cX7_twin 15 = .ok (.istore_n 2, 1) := by decide +kernel
theorem dX7_twin_16 : decode cX7_twin 16 = .ok (.iload_n 2, 1) := by decide +kernel
theorem dX7_twin_17 : decode cX7_twin 17 = .ok (.sipush 10000, 3) := by decide +kernel
theorem dX7_twin_20 : decode cX7_twin 20 = .ok (.if_icmp .ge 29, 3) := by decide +kernel
theorem dX7_twin_23 : decode cX7_twin 23 = .ok (.iload_n 2, 1) := by decide +kernel
theorem dX7_twin_24 : decode cX7_twin 24 = .ok (.iload_n 1, 1) := by decide +kernel
theorem dX7_twin_25 : decode cX7_twin 25 = .ok (.if_icmp .eq 18, 3) := by decide +kernel
theorem dX7_twin_28 : decode cX7_twin 28 = .ok (.aload_n 0, 1) := by decide +kernel
theorem dX7_twin_29 : decode cX7_twin 29 = .ok (.iload_n 2, 1) := by decide +kernel
theorem dX7_twin_30 : decode cX7_twin 30 = .ok (.invokevirtual 142, 3) := by decide +kernel
theorem dX7_twin_33 : decode cX7_twin 33 = .ok (.aload_n 0, 1) := by decide +kernel
theorem dX7_twin_34 : decode cX7_twin 34 = .ok (.iload_n 1, 1) := by decide +kernel
theorem dX7_twin_35 : decode cX7_twin 35 = .ok (.invokevirtual 142, 3) := by decide +kernel
theorem dX7_twin_38 : decode cX7_twin 38 = .ok (.if_icmp .ne 5, 3) := by decide +kernel
theorem dX7_twin_41 : decode cX7_twin 41 = .ok (.iload_n 2, 1) := by decide +kernel
theorem dX7_twin_42 : decode cX7_twin 42 = .ok (.ireturn, 1) := by decide +kernel
theorem dX7_twin_43 : decode cX7_twin 43 = .ok (.iinc 2 1, 3) := by decide +kernel
theorem dX7_twin_46 : decode cX7_twin 46 = .ok (.goto (-30), 3) := by decide +kernel
theorem dX7_twin_49 : decode cX7_twin 49 = .ok (.bipush (-2), 2) := by decide +kernel
theorem dX7_twin_51 : decode cX7_twin 51 = .ok (.ireturn, 1) := by decide +kernel
theorem dX7_readsKey_0 : decode cX7_readsKey 0 = .ok (.aload_n 0, 1) := by decide +kernel
theorem dX7_readsKey_1 : decode cX7_readsKey 1 = .ok (.getfield 78, 3) := by decide +kernel
theorem dX7_readsKey_4 : decode cX7_readsKey 4 = .ok (.iload_n 1, 1) := by decide +kernel
theorem dX7_readsKey_5 : decode cX7_readsKey 5 = .ok (.aload_n 0, 1) := by decide +kernel
theorem dX7_readsKey_6 : decode cX7_readsKey 6 = .ok (.ldc 179, 2) := by decide +kernel
theorem dX7_readsKey_8 : decode cX7_readsKey 8 = .ok (.invokevirtual 181, 3) := by decide +kernel
theorem dX7_readsKey_11 : decode cX7_readsKey 11 = .ok (.ifCond .ne 7, 3) := by decide +kernel
theorem dX7_readsKey_14 : decode cX7_readsKey 14 = .ok (.iconst 1, 1) := by decide +kernel
theorem dX7_readsKey_15 : decode cX7_readsKey 15 = .ok (.goto 4, 3) := by decide +kernel
theorem dX7_readsKey_18 : decode cX7_readsKey 18 = .ok (.iconst 0, 1) := by decide +kernel
theorem dX7_readsKey_19 : decode cX7_readsKey 19 = .ok (.bastore, 1) := by decide +kernel
theorem dX7_readsKey_20 : decode cX7_readsKey 20 = .ok (.aload_n 0, 1) := by decide +kernel
theorem dX7_readsKey_21 : decode cX7_readsKey 21 = .ok (.ldc 185, 2) := by decide +kernel
theorem dX7_readsKey_23 : decode cX7_readsKey 23 = .ok (.invokevirtual 181, 3) := by decide +kernel
theorem dX7_readsKey_26 : decode cX7_readsKey 26 = .ok (.istore_n 2, 1) := by decide +kernel
theorem dX7_readsKey_27 : decode cX7_readsKey 27 = .ok (.iconst 1, 1) := by decide +kernel
theorem dX7_readsKey_28 : decode cX7_readsKey 28 = .ok (.istore_n 3, 1) := by decide +kernel
theorem dX7_readsKey_29 : decode cX7_readsKey 29 = .ok (.iload_n 2, 1) := by decide +kernel
theorem dX7_readsKey_30 : decode cX7_readsKey 30 = .ok (.ifCond .lt 59, 3) := by decide +kernel
theorem dX7_readsKey_33 : decode cX7_readsKey 33 = .ok (.iload_n 3, 1) := by decide +kernel
theorem dX7_readsKey_34 : decode cX7_readsKey 34 = .ok (.iconst 5, 1) := by decide +kernel
theorem dX7_readsKey_35 : decode cX7_readsKey 35 = .ok (.if_icmp .ge 54, 3) := by decide +kernel
theorem dX7_readsKey_38 : decode cX7_readsKey 38 = .ok (.aload_n 0, 1) := by decide +kernel
theorem dX7_readsKey_39 : decode cX7_readsKey 39 = .ok (.getfield 28, 3) := by decide +kernel
theorem dX7_readsKey_42 : decode cX7_readsKey 42 = .ok (.aload_n 0, 1) := by decide +kernel
theorem dX7_readsKey_43 : decode cX7_readsKey 43 = .ok (.getfield 25, 3) := by decide +kernel
theorem dX7_readsKey_46 : decode cX7_readsKey 46 = .ok (.if_icmp .ge 43, 3) := by decide +kernel
theorem dX7_readsKey_49 : decode cX7_readsKey 49 = .ok (.aload_n 0, 1) := by decide +kernel
theorem dX7_readsKey_50 : decode cX7_readsKey 50 = .ok (.getfield 17, 3) := by decide +kernel
theorem dX7_readsKey_53 : decode cX7_readsKey 53 = .ok (.aload_n 0, 1) := by decide +kernel
theorem dX7_readsKey_54 : decode cX7_readsKey 54 = .ok (.getfield 28, 3) := by decide +kernel
theorem dX7_readsKey_57 : decode cX7_readsKey 57 = .ok (.iaload, 1) := by decide +kernel
theorem dX7_readsKey_58 : decode cX7_readsKey 58 = .ok (.i2l, 1) := by decide +kernel
theorem dX7_readsKey_59 : decode cX7_readsKey 59 = .ok (.ldc2_w 187, 3) := by decide +kernel
theorem dX7_readsKey_62 : decode cX7_readsKey 62 = .ok (.ldc2_w 189, 3) := by decide +kernel
theorem dX7_readsKey_65 : decode cX7_readsKey 65 = .ok (.invokestatic 21, 3) := by decide +kernel
theorem dX7_readsKey_68 : decode cX7_readsKey 68 = .ok (.ifCond .eq 21, 3) := by decide +kernel
theorem dX7_readsKey_71 : decode cX7_readsKey 71 = .ok (.bipush 10, 2) := by decide +kernel
theorem dX7_readsKey_73 : decode cX7_readsKey 73 = .ok (.iload_n 2, 1) := by decide +kernel
theorem dX7_readsKey_74 : decode cX7_readsKey 74 = .ok (.imul, 1) := by decide +kernel
theorem dX7_readsKey_75 : decode cX7_readsKey 75 = .ok (.aload_n 0, 1) := by decide +kernel
theorem dX7_readsKey_76 : decode cX7_readsKey 76 = .ok (.ldc 185, 2) := by decide +kernel
theorem dX7_readsKey_78 : decode cX7_readsKey 78 = .ok (.invokevirtual 181, 3) := by decide +kernel
theorem dX7_readsKey_81 : decode cX7_readsKey 81 = .ok (.iadd, 1) := by decide +kernel
theorem dX7_readsKey_82 : decode cX7_readsKey 82 = .ok (.istore_n 2, 1) := by decide +kernel
theorem dX7_readsKey_83 : decode cX7_readsKey 83 = .ok (.iinc 3 1, 3) := by decide +kernel
theorem dX7_readsKey_86 : decode cX7_readsKey 86 = .ok (.goto (-57), 3) := by decide +kernel
theorem dX7_readsKey_89 : decode cX7_readsKey 89 = .ok (.aload_n 0, 1) := by decide +kernel
theorem dX7_readsKey_90 : decode cX7_readsKey 90 = .ok (.getfield 75, 3) := by decide +kernel
theorem dX7_readsKey_93 : decode cX7_readsKey 93 = .ok (.iload_n 1, 1) := by decide +kernel
theorem dX7_readsKey_94 : decode cX7_readsKey 94 = .ok (.iload_n 2, 1) := by decide +kernel
theorem dX7_readsKey_95 : decode cX7_readsKey 95 = .ok (.iastore, 1) := by decide +kernel
theorem dX7_readsKey_96 : decode cX7_readsKey 96 = .ok (.iload_n 2, 1) := by decide +kernel
theorem dX7_readsKey_97 : decode cX7_readsKey 97 = .ok (.ifCond .lt 7, 3) := by decide +kernel
theorem dX7_readsKey_100 : decode cX7_readsKey 100 = .ok (.iconst 1, 1) := by decide +kernel
theorem dX7_readsKey_101 : decode cX7_readsKey 101 = .ok (.goto 4, 3) := by decide +kernel
theorem dX7_readsKey_104 : decode cX7_readsKey 104 = .ok (.iconst 0, 1) := by decide +kernel
theorem dX7_readsKey_105 : decode cX7_readsKey 105 = .ok (.ireturn, 1) := by decide +kernel
theorem dX7_readsKeys_0 : decode cX7_readsKeys 0 = .ok (.iconst 0, 1) := by decide +kernel
theorem dX7_readsKeys_1 : decode cX7_readsKeys 1 = .ok (.istore_n 1, 1) := by decide +kernel
theorem dX7_readsKeys_2 : decode cX7_readsKeys 2 = .ok (.aload_n 0, 1) := by decide +kernel
theorem dX7_readsKeys_3 : decode cX7_readsKeys 3 = .ok (.getfield 25, 3) := by decide +kernel
theorem dX7_readsKeys_6 : decode cX7_readsKeys 6 = .ok (.ifCond .le 7, 3) := by decide +kernel
theorem dX7_readsKeys_9 : decode cX7_readsKeys 9 = .ok (.iconst 1, 1) := by decide +kernel
theorem dX7_readsKeys_10 : decode cX7_readsKeys 10 = .ok (.goto 4, 3) := by decide +kernel
theorem dX7_readsKeys_13 : decode cX7_readsKeys 13 = .ok (.iconst 0, 1) := by decide +kernel
theorem dX7_readsKeys_14 : decode cX7_readsKeys 14 = .ok (.istore_n 2, 1) := by decide +kernel
theorem dX7_readsKeys_15 : decode cX7_readsKeys 15 = .ok (.iload_n 2, 1) := by decide +kernel
theorem dX7_readsKeys_16 : decode cX7_readsKeys 16 = .ok (.ifCond .eq 34, 3) := by decide +kernel
theorem dX7_readsKeys_19 : decode cX7_readsKeys 19 = .ok (.aload_n 0, 1) := by decide +kernel
theorem dX7_readsKeys_20 : decode cX7_readsKeys 20 = .ok (.iload_n 1, 1) := by decide +kernel
theorem dX7_readsKeys_21 : decode cX7_readsKeys 21 = .ok (.invokevirtual 191, 3) := by decide +kernel
theorem dX7_readsKeys_24 : decode cX7_readsKeys 24 = .ok (.ifCond .ne 5, 3) := by decide +kernel
theorem dX7_readsKeys_27 : decode cX7_readsKeys 27 = .ok (.iconst (-1), 1) := by decide +kernel
theorem dX7_readsKeys_28 : decode cX7_readsKeys 28 = .ok (.ireturn, 1) := by decide +kernel
theorem dX7_readsKeys_29 : decode cX7_readsKeys 29 = .ok (.iinc 1 1, 3) := by decide +kernel
theorem dX7_readsKeys_32 : decode cX7_readsKeys 32 = .ok (.aload_n 0, 1) := by decide +kernel
theorem dX7_readsKeys_33 : decode cX7_readsKeys 33 = .ok (.ldc 194, 2) := by decide +kernel
theorem dX7_readsKeys_35 : decode cX7_readsKeys 35 = .ok (.invokevirtual 181, 3) := by decide +kernel
theorem dX7_readsKeys_38 : decode cX7_readsKeys 38 = .ok (.ifCond .ne 7, 3) := by decide +kernel
theorem dX7_readsKeys_41 : decode cX7_readsKeys 41 = .ok (.iconst 1, 1) := by decide +kernel
theorem dX7_readsKeys_42 : decode cX7_readsKeys 42 = .ok (.goto 4, 3) := by decide +kernel
theorem dX7_readsKeys_45 : decode cX7_readsKeys 45 = .ok (.iconst 0, 1) := by decide +kernel
theorem dX7_readsKeys_46 : decode cX7_readsKeys 46 = .ok (.istore_n 2, 1) := by decide +kernel
theorem dX7_readsKeys_47 : decode cX7_readsKeys 47 = .ok (.goto (-32), 3) := by decide +kernel
theorem dX7_readsKeys_50 : decode cX7_readsKeys 50 = .ok (.aload_n 0, 1) := by decide +kernel
theorem dX7_readsKeys_51 : decode cX7_readsKeys 51 = .ok (.getfield 28, 3) := by decide +kernel
theorem dX7_readsKeys_54 : decode cX7_readsKeys 54 = .ok (.aload_n 0, 1) := by decide +kernel
theorem dX7_readsKeys_55 : decode cX7_readsKeys 55 = .ok (.getfield 25, 3) := by decide +kernel
theorem dX7_readsKeys_58 : decode cX7_readsKeys 58 = .ok (.if_icmp .ge 7, 3) := by decide +kernel
theorem dX7_readsKeys_61 : decode cX7_readsKeys 61 = .ok (.iconst (-1), 1) := by decide +kernel
theorem dX7_readsKeys_62 : decode cX7_readsKeys 62 = .ok (.goto 4, 3) := by decide +kernel
theorem dX7_readsKeys_65 : decode cX7_readsKeys 65 = .ok (.iload_n 1, 1) := by decide +kernel
theorem dX7_readsKeys_66 : decode cX7_readsKeys 66 = .ok (.ireturn, 1) := by decide +kernel
theorem dX7_isRead_0 : decode cX7_isRead 0 = .ok (.iconst 0, 1) := by decide +kernel
theorem dX7_isRead_1 : decode cX7_isRead 1 = .ok (.istore_n 3, 1) := by decide +kernel
theorem dX7_isRead_2 : decode cX7_isRead 2 = .ok (.iload_n 3, 1) := by decide +kernel
theorem dX7_isRead_3 : decode cX7_isRead 3 = .ok (.iload_n 2, 1) := by decide +kernel
theorem dX7_isRead_4 : decode cX7_isRead 4 = .ok (.if_icmp .ge 21, 3) := by decide +kernel
theorem dX7_isRead_7 : decode cX7_isRead 7 = .ok (.aload_n 0, 1) := by decide +kernel
theorem dX7_isRead_8 : decode cX7_isRead 8 = .ok (.getfield 75, 3) := by decide +kernel
theorem dX7_isRead_11 : decode cX7_isRead 11 = .ok (.iload_n 3, 1) := by decide +kernel
theorem dX7_isRead_12 : decode cX7_isRead 12 = .ok (.iaload, 1) := by decide +kernel
theorem dX7_isRead_13 : decode cX7_isRead 13 = .ok (.iload_n 1, 1) := by decide +kernel
theorem dX7_isRead_14 : decode cX7_isRead 14 = .ok (.if_icmp .ne 5, 3) := by decide +kernel
theorem dX7_isRead_17 : decode cX7_isRead 17 = .ok (.iconst 1, 1) := by decide +kernel
theorem dX7_isRead_18 : decode cX7_isRead 18 = .ok (.ireturn, 1) := by decide +kernel
theorem dX7_isRead_19 : decode cX7_isRead 19 = .ok (.iinc 3 1, 3) := by decide +kernel
theorem dX7_isRead_22 : decode cX7_isRead 22 = .ok (.goto (-20), 3) := by decide +kernel
theorem dX7_isRead_25 : decode cX7_isRead 25 = .ok (.iconst 0, 1) := by decide +kernel
theorem dX7_isRead_26 : decode cX7_isRead 26 = .ok (.ireturn, 1) := by decide +kernel
theorem dX7_endsAtOut_0 : decode cX7_endsAtOut 0 = .ok (.iconst 0, 1) := by decide +kernel
theorem dX7_endsAtOut_1 : decode cX7_endsAtOut 1 = .ok (.istore_n 1, 1) := by decide +kernel
theorem dX7_endsAtOut_2 : decode cX7_endsAtOut 2 = .ok (.iload_n 1, 1) := by decide +kernel
theorem dX7_endsAtOut_3 : decode cX7_endsAtOut 3 = .ok (.aload_n 0, 1) := by decide +kernel
theorem dX7_endsAtOut_4 : decode cX7_endsAtOut 4 = .ok (.getfield 25, 3) := by decide +kernel
theorem dX7_endsAtOut_7 : decode cX7_endsAtOut 7 = .ok (.if_icmp .ge 20, 3) := by decide +kernel
theorem dX7_endsAtOut_10 : decode cX7_endsAtOut 10 = .ok (.aload_n 0, 1) := by decide +kernel
theorem dX7_endsAtOut_11 : decode cX7_endsAtOut 11 = .ok (.getfield 17, 3) := by decide +kernel
theorem dX7_endsAtOut_14 : decode cX7_endsAtOut 14 = .ok (.iload_n 1, 1) := by decide +kernel
theorem dX7_endsAtOut_15 : decode cX7_endsAtOut 15 = .ok (.iaload, 1) := by decide +kernel
theorem dX7_endsAtOut_16 : decode cX7_endsAtOut 16 = .ok (.bipush 126, 2) := by decide +kernel
theorem dX7_endsAtOut_18 : decode cX7_endsAtOut 18 = .ok (.if_icmp .eq 9, 3) := by decide +kernel
theorem dX7_endsAtOut_21 : decode cX7_endsAtOut 21 = .ok (.iinc 1 1, 3) := by decide +kernel
theorem dX7_endsAtOut_24 : decode cX7_endsAtOut 24 = .ok (.goto (-22), 3) := by decide +kernel
theorem dX7_endsAtOut_27 : decode cX7_endsAtOut 27 = .ok (.aload_n 0, 1) := by decide +kernel
theorem dX7_endsAtOut_28 : decode cX7_endsAtOut 28 = .ok (.iload_n 1, 1) := by decide +kernel
theorem dX7_endsAtOut_29 : decode cX7_endsAtOut 29 = .ok (.putfield 25, 3) := by decide +kernel
theorem dX7_endsAtOut_32 : decode cX7_endsAtOut 32 = .ok (.return_, 1) := by decide +kernel
theorem dX7_wrongs_0 : decode cX7_wrongs 0 = .ok (.aload_n 0, 1) := by decide +kernel
theorem dX7_wrongs_1 : decode cX7_wrongs 1 = .ok (.iconst 0, 1) := by decide +kernel
theorem dX7_wrongs_2 : decode cX7_wrongs 2 = .ok (.putfield 1, 3) := by decide +kernel
theorem dX7_wrongs_5 : decode cX7_wrongs 5 = .ok (.aload_n 0, 1) := by decide +kernel
theorem dX7_wrongs_6 : decode cX7_wrongs 6 = .ok (.invokevirtual 196, 3) := by decide +kernel
theorem dX7_wrongs_9 : decode cX7_wrongs 9 = .ok (.iload_n 1, 1) := by decide +kernel
theorem dX7_wrongs_10 : decode cX7_wrongs 10 = .ok (.invokestatic 136, 3) := by decide +kernel
theorem dX7_wrongs_13 : decode cX7_wrongs 13 = .ok (.ifCond .ne 5, 3) := by decide +kernel
theorem dX7_wrongs_16 : decode cX7_wrongs 16 = .ok (.iconst (-1), 1) := by decide +kernel
theorem dX7_wrongs_17 : decode cX7_wrongs 17 = .ok (.ireturn, 1) := by decide +kernel
theorem dX7_wrongs_18 : decode cX7_wrongs 18 = .ok (.aload_n 0, 1) := by decide +kernel
theorem dX7_wrongs_19 : decode cX7_wrongs 19 = .ok (.getfield 25, 3) := by decide +kernel
theorem dX7_wrongs_22 : decode cX7_wrongs 22 = .ok (.istore_n 2, 1) := by decide +kernel
theorem dX7_wrongs_23 : decode cX7_wrongs 23 = .ok (.aload_n 0, 1) := by decide +kernel
theorem dX7_wrongs_24 : decode cX7_wrongs 24 = .ok (.invokevirtual 199, 3) := by decide +kernel
theorem dX7_wrongs_27 : decode cX7_wrongs 27 = .ok (.aload_n 0, 1) := by decide +kernel
theorem dX7_wrongs_28 : decode cX7_wrongs 28 = .ok (.getfield 25, 3) := by decide +kernel
theorem dX7_wrongs_31 : decode cX7_wrongs 31 = .ok (.iload_n 2, 1) := by decide +kernel
theorem dX7_wrongs_32 : decode cX7_wrongs 32 = .ok (.if_icmp .ge 7, 3) := by decide +kernel
theorem dX7_wrongs_35 : decode cX7_wrongs 35 = .ok (.iconst 1, 1) := by decide +kernel
theorem dX7_wrongs_36 : decode cX7_wrongs 36 = .ok (.goto 4, 3) := by decide +kernel
theorem dX7_wrongs_39 : decode cX7_wrongs 39 = .ok (.iconst 0, 1) := by decide +kernel
theorem dX7_wrongs_40 : decode cX7_wrongs 40 = .ok (.istore_n 3, 1) := by decide +kernel
theorem dX7_wrongs_41 : decode cX7_wrongs 41 = .ok (.aload_n 0, 1) := by decide +kernel
theorem dX7_wrongs_42 : decode cX7_wrongs 42 = .ok (.invokevirtual 202, 3) := by decide +kernel
theorem dX7_wrongs_45 : decode cX7_wrongs 45 = .ok (.istore 4, 2) := by decide +kernel
theorem dX7_wrongs_47 : decode cX7_wrongs 47 = .ok (.iload 4, 2) := by decide +kernel
theorem dX7_wrongs_49 : decode cX7_wrongs 49 = .ok (.ifCond .lt 7, 3) := by decide +kernel
theorem dX7_wrongs_52 : decode cX7_wrongs 52 = .ok (.iload_n 3, 1) := by decide +kernel
theorem dX7_wrongs_53 : decode cX7_wrongs 53 = .ok (.ifCond .eq 10, 3) := by decide +kernel
theorem dX7_wrongs_56 : decode cX7_wrongs 56 = .ok (.iconst (-1), 1) := by decide +kernel
theorem dX7_wrongs_57 : decode cX7_wrongs 57 = .ok (.aload_n 0, 1) := by decide +kernel
theorem dX7_wrongs_58 : decode cX7_wrongs 58 = .ok (.getfield 28, 3) := by decide +kernel
theorem dX7_wrongs_61 : decode cX7_wrongs 61 = .ok (.isub, 1) := by decide +kernel
theorem dX7_wrongs_62 : decode cX7_wrongs 62 = .ok (.ireturn, 1) := by decide +kernel
theorem dX7_wrongs_63 : decode cX7_wrongs 63 = .ok (.iconst 0, 1) := by decide +kernel
theorem dX7_wrongs_64 : decode cX7_wrongs 64 = .ok (.istore 5, 2) := by decide +kernel
theorem dX7_wrongs_66 : decode cX7_wrongs 66 = .ok (.iconst (-1), 1) := by decide +kernel
theorem dX7_wrongs_67 : decode cX7_wrongs 67 = .ok (.istore 6, 2) := by decide +kernel
theorem dX7_wrongs_69 : decode cX7_wrongs 69 = .ok (.sipush 999, 3) := by decide +kernel
theorem dX7_wrongs_72 : decode cX7_wrongs 72 = .ok (.istore 7, 2) := by decide +kernel
theorem dX7_wrongs_74 : decode cX7_wrongs 74 = .ok (.iload 7, 2) := by decide +kernel
theorem dX7_wrongs_76 : decode cX7_wrongs 76 = .ok (.ifCond .lt 41, 3) := by decide +kernel
theorem dX7_wrongs_79 : decode cX7_wrongs 79 = .ok (.aload_n 0, 1) := by decide +kernel
theorem dX7_wrongs_80 : decode cX7_wrongs 80 = .ok (.iload_n 1, 1) := by decide +kernel
theorem dX7_wrongs_81 : decode cX7_wrongs 81 = .ok (.aload_n 0, 1) := by decide +kernel
theorem dX7_wrongs_82 : decode cX7_wrongs 82 = .ok (.iload 7, 2) := by decide +kernel
theorem dX7_wrongs_84 : decode cX7_wrongs 84 = .ok (.invokevirtual 142, 3) := by decide +kernel
theorem dX7_wrongs_87 : decode cX7_wrongs 87 = .ok (.invokevirtual 173, 3) := by decide +kernel
theorem dX7_wrongs_90 : decode cX7_wrongs 90 = .ok (.ifCond .le 21, 3) := by decide +kernel
theorem dX7_wrongs_93 : decode cX7_wrongs 93 = .ok (.aload_n 0, 1) := by decide +kernel
theorem dX7_wrongs_94 : decode cX7_wrongs 94 = .ok (.iload 7, 2) := by decide +kernel
theorem dX7_wrongs_96 : decode cX7_wrongs 96 = .ok (.iload 4, 2) := by decide +kernel
theorem dX7_wrongs_98 : decode cX7_wrongs 98 = .ok (.invokevirtual 205, 3) := by decide +kernel
theorem dX7_wrongs_101 : decode cX7_wrongs 101 = .ok (.ifCond .ne 10, 3) := by decide +kernel
theorem dX7_wrongs_104 : decode cX7_wrongs 104 = .ok (.iinc 5 1, 3) := by decide +kernel
theorem dX7_wrongs_107 : decode cX7_wrongs 107 = .ok (.iload 7, 2) := by decide +kernel
theorem dX7_wrongs_109 : decode cX7_wrongs 109 = .ok (.istore 6, 2) := by decide +kernel
theorem dX7_wrongs_111 : decode cX7_wrongs 111 = .ok (.iinc 7 (-1), 3) := by decide +kernel
theorem dX7_wrongs_114 : decode cX7_wrongs 114 = .ok (.goto (-40), 3) := by decide +kernel
theorem dX7_wrongs_117 : decode cX7_wrongs 117 = .ok (.iconst 0, 1) := by decide +kernel
theorem dX7_wrongs_118 : decode cX7_wrongs 118 = .ok (.istore 7, 2) := by decide +kernel
theorem dX7_wrongs_120 : decode cX7_wrongs 120 = .ok (.iconst 0, 1) := by decide +kernel
theorem dX7_wrongs_121 : decode cX7_wrongs 121 = .ok (.istore 8, 2) := by decide +kernel
theorem dX7_wrongs_123 : decode cX7_wrongs 123 = .ok (.iload 8, 2) := by decide +kernel
theorem dX7_wrongs_125 : decode cX7_wrongs 125 = .ok (.iload 4, 2) := by decide +kernel
theorem dX7_wrongs_127 : decode cX7_wrongs 127 = .ok (.if_icmp .ge 41, 3) := by decide +kernel
theorem dX7_wrongs_130 : decode cX7_wrongs 130 = .ok (.iload 7, 2) := by decide +kernel
theorem dX7_wrongs_132 : decode cX7_wrongs 132 = .ok (.aload_n 0, 1) := by decide +kernel
theorem dX7_wrongs_133 : decode cX7_wrongs 133 = .ok (.iload_n 1, 1) := by decide +kernel
theorem dX7_wrongs_134 : decode cX7_wrongs 134 = .ok (.aload_n 0, 1) := by decide +kernel
theorem dX7_wrongs_135 : decode cX7_wrongs 135 = .ok (.aload_n 0, 1) := by decide +kernel
theorem dX7_wrongs_136 : decode cX7_wrongs 136 = .ok (.getfield 75, 3) := by decide +kernel
theorem dX7_wrongs_139 : decode cX7_wrongs 139 = .ok (.iload 8, 2) := by decide +kernel
theorem dX7_wrongs_141 : decode cX7_wrongs 141 = .ok (.iaload, 1) := by decide +kernel
theorem dX7_wrongs_142 : decode cX7_wrongs 142 = .ok (.invokevirtual 142, 3) := by decide +kernel
theorem dX7_wrongs_145 : decode cX7_wrongs 145 = .ok (.invokevirtual 173, 3) := by decide +kernel
theorem dX7_wrongs_148 : decode cX7_wrongs 148 = .ok (.ifCond .ne 7, 3) := by decide +kernel
theorem dX7_wrongs_151 : decode cX7_wrongs 151 = .ok (.iconst 1, 1) := by decide +kernel
theorem dX7_wrongs_152 : decode cX7_wrongs 152 = .ok (.goto 4, 3) := by decide +kernel
theorem dX7_wrongs_155 : decode cX7_wrongs 155 = .ok (.iconst 0, 1) := by decide +kernel
theorem dX7_wrongs_156 : decode cX7_wrongs 156 = .ok (.invokestatic 109, 3) := by decide +kernel
theorem dX7_wrongs_159 : decode cX7_wrongs 159 = .ok (.iadd, 1) := by decide +kernel
theorem dX7_wrongs_160 : decode cX7_wrongs 160 = .ok (.istore 7, 2) := by decide +kernel
theorem dX7_wrongs_162 : decode cX7_wrongs 162 = .ok (.iinc 8 1, 3) := by decide +kernel
theorem dX7_wrongs_165 : decode cX7_wrongs 165 = .ok (.goto (-42), 3) := by decide +kernel
theorem dX7_wrongs_168 : decode cX7_wrongs 168 = .ok (.aload_n 0, 1) := by decide +kernel
theorem dX7_wrongs_169 : decode cX7_wrongs 169 = .ok (.iconst 0, 1) := by decide +kernel
theorem dX7_wrongs_170 : decode cX7_wrongs 170 = .ok (.putfield 11, 3) := by decide +kernel
theorem dX7_wrongs_173 : decode cX7_wrongs 173 = .ok (.aload_n 0, 1) := by decide +kernel
theorem dX7_wrongs_174 : decode cX7_wrongs 174 = .ok (.iload 6, 2) := by decide +kernel
theorem dX7_wrongs_176 : decode cX7_wrongs 176 = .ok (.i2l, 1) := by decide +kernel
theorem dX7_wrongs_177 : decode cX7_wrongs 177 = .ok (.invokevirtual 145, 3) := by decide +kernel
theorem dX7_wrongs_180 : decode cX7_wrongs 180 = .ok (.aload_n 0, 1) := by decide +kernel
theorem dX7_wrongs_181 : decode cX7_wrongs 181 = .ok (.iload 7, 2) := by decide +kernel
theorem dX7_wrongs_183 : decode cX7_wrongs 183 = .ok (.i2l, 1) := by decide +kernel
theorem dX7_wrongs_184 : decode cX7_wrongs 184 = .ok (.invokevirtual 145, 3) := by decide +kernel
theorem dX7_wrongs_187 : decode cX7_wrongs 187 = .ok (.iload 5, 2) := by decide +kernel
theorem dX7_wrongs_189 : decode cX7_wrongs 189 = .ok (.ireturn, 1) := by decide +kernel
theorem dX7_keys_0 : decode cX7_keys 0 = .ok (.aload_n 0, 1) := by decide +kernel
theorem dX7_keys_1 : decode cX7_keys 1 = .ok (.iconst 0, 1) := by decide +kernel
theorem dX7_keys_2 : decode cX7_keys 2 = .ok (.putfield 1, 3) := by decide +kernel
theorem dX7_keys_5 : decode cX7_keys 5 = .ok (.aload_n 0, 1) := by decide +kernel
theorem dX7_keys_6 : decode cX7_keys 6 = .ok (.invokevirtual 196, 3) := by decide +kernel
theorem dX7_keys_9 : decode cX7_keys 9 = .ok (.iload_n 1, 1) := by decide +kernel
theorem dX7_keys_10 : decode cX7_keys 10 = .ok (.invokestatic 136, 3) := by decide +kernel
theorem dX7_keys_13 : decode cX7_keys 13 = .ok (.ifCond .ne 5, 3) := by decide +kernel
theorem dX7_keys_16 : decode cX7_keys 16 = .ok (.iconst (-1), 1) := by decide +kernel
theorem dX7_keys_17 : decode cX7_keys 17 = .ok (.ireturn, 1) := by decide +kernel
theorem dX7_keys_18 : decode cX7_keys 18 = .ok (.aload_n 0, 1) := by decide +kernel
theorem dX7_keys_19 : decode cX7_keys 19 = .ok (.invokevirtual 202, 3) := by decide +kernel
theorem dX7_keys_22 : decode cX7_keys 22 = .ok (.istore_n 2, 1) := by decide +kernel
theorem dX7_keys_23 : decode cX7_keys 23 = .ok (.iload_n 2, 1) := by decide +kernel
theorem dX7_keys_24 : decode cX7_keys 24 = .ok (.ifCond .ge 10, 3) := by decide +kernel
theorem dX7_keys_27 : decode cX7_keys 27 = .ok (.iconst (-1), 1) := by decide +kernel
theorem dX7_keys_28 : decode cX7_keys 28 = .ok (.aload_n 0, 1) := by decide +kernel
theorem dX7_keys_29 : decode cX7_keys 29 = .ok (.getfield 28, 3) := by decide +kernel
theorem dX7_keys_32 : decode cX7_keys 32 = .ok (.isub, 1) := by decide +kernel
theorem dX7_keys_33 : decode cX7_keys 33 = .ok (.ireturn, 1) := by decide +kernel
theorem dX7_keys_34 : decode cX7_keys 34 = .ok (.iconst 0, 1) := by decide +kernel
theorem dX7_keys_35 : decode cX7_keys 35 = .ok (.istore_n 3, 1) := by decide +kernel
theorem dX7_keys_36 : decode cX7_keys 36 = .ok (.iconst 1, 1) := by decide +kernel
theorem dX7_keys_37 : decode cX7_keys 37 = .ok (.istore 4, 2) := by decide +kernel
theorem dX7_keys_39 : decode cX7_keys 39 = .ok (.iload_n 3, 1) := by decide +kernel
theorem dX7_keys_40 : decode cX7_keys 40 = .ok (.iload_n 2, 1) := by decide +kernel
theorem dX7_keys_41 : decode cX7_keys 41 = .ok (.if_icmp .ge 67, 3) := by decide +kernel
theorem dX7_keys_44 : decode cX7_keys 44 = .ok (.iload 4, 2) := by decide +kernel
theorem dX7_keys_46 : decode cX7_keys 46 = .ok (.ifCond .eq 62, 3) := by decide +kernel
theorem dX7_keys_49 : decode cX7_keys 49 = .ok (.aload_n 0, 1) := by decide +kernel
theorem dX7_keys_50 : decode cX7_keys 50 = .ok (.getfield 78, 3) := by decide +kernel
theorem dX7_keys_53 : decode cX7_keys 53 = .ok (.iload_n 3, 1) := by decide +kernel
theorem dX7_keys_54 : decode cX7_keys 54 = .ok (.baload, 1) := by decide +kernel
theorem dX7_keys_55 : decode cX7_keys 55 = .ok (.ifCond .eq 21, 3) := by decide +kernel
theorem dX7_keys_58 : decode cX7_keys 58 = .ok (.aload_n 0, 1) := by decide +kernel
theorem dX7_keys_59 : decode cX7_keys 59 = .ok (.iload_n 1, 1) := by decide +kernel
theorem dX7_keys_60 : decode cX7_keys 60 = .ok (.aload_n 0, 1) := by decide +kernel
theorem dX7_keys_61 : decode cX7_keys 61 = .ok (.aload_n 0, 1) := by decide +kernel
theorem dX7_keys_62 : decode cX7_keys 62 = .ok (.getfield 75, 3) := by decide +kernel
theorem dX7_keys_65 : decode cX7_keys 65 = .ok (.iload_n 3, 1) := by decide +kernel
theorem dX7_keys_66 : decode cX7_keys 66 = .ok (.iaload, 1) := by decide +kernel
theorem dX7_keys_67 : decode cX7_keys 67 = .ok (.invokevirtual 142, 3) := by decide +kernel
theorem dX7_keys_70 : decode cX7_keys 70 = .ok (.invokevirtual 169, 3) := by decide +kernel
theorem dX7_keys_73 : decode cX7_keys 73 = .ok (.goto 22, 3) := by decide +kernel
theorem dX7_keys_76 : decode cX7_keys 76 = .ok (.aload_n 0, 1) := by decide +kernel
theorem dX7_keys_77 : decode cX7_keys 77 = .ok (.iload_n 1, 1) := by decide +kernel
theorem dX7_keys_78 : decode cX7_keys 78 = .ok (.aload_n 0, 1) := by decide +kernel
theorem dX7_keys_79 : decode cX7_keys 79 = .ok (.getfield 75, 3) := by decide +kernel
theorem dX7_keys_82 : decode cX7_keys 82 = .ok (.iload_n 3, 1) := by decide +kernel
theorem dX7_keys_83 : decode cX7_keys 83 = .ok (.iaload, 1) := by decide +kernel
theorem dX7_keys_84 : decode cX7_keys 84 = .ok (.invokevirtual 159, 3) := by decide +kernel
theorem dX7_keys_87 : decode cX7_keys 87 = .ok (.ifCond .lt 7, 3) := by decide +kernel
theorem dX7_keys_90 : decode cX7_keys 90 = .ok (.iconst 1, 1) := by decide +kernel
theorem dX7_keys_91 : decode cX7_keys 91 = .ok (.goto 4, 3) := by decide +kernel
theorem dX7_keys_94 : decode cX7_keys 94 = .ok (.iconst 0, 1) := by decide +kernel
theorem dX7_keys_95 : decode cX7_keys 95 = .ok (.istore 4, 2) := by decide +kernel
theorem dX7_keys_97 : decode cX7_keys 97 = .ok (.iload_n 3, 1) := by decide +kernel
theorem dX7_keys_98 : decode cX7_keys 98 = .ok (.iload 4, 2) := by decide +kernel
theorem dX7_keys_100 : decode cX7_keys 100 = .ok (.invokestatic 109, 3) := by decide +kernel
theorem dX7_keys_103 : decode cX7_keys 103 = .ok (.iadd, 1) := by decide +kernel
theorem dX7_keys_104 : decode cX7_keys 104 = .ok (.istore_n 3, 1) := by decide +kernel
theorem dX7_keys_105 : decode cX7_keys 105 = .ok (.goto (-66), 3) := by decide +kernel
theorem dX7_keys_108 : decode cX7_keys 108 = .ok (.aload_n 0, 1) := by decide +kernel
theorem dX7_keys_109 : decode cX7_keys 109 = .ok (.iconst 0, 1) := by decide +kernel
theorem dX7_keys_110 : decode cX7_keys 110 = .ok (.putfield 11, 3) := by decide +kernel
theorem dX7_keys_113 : decode cX7_keys 113 = .ok (.aload_n 0, 1) := by decide +kernel
theorem dX7_keys_114 : decode cX7_keys 114 = .ok (.iload_n 3, 1) := by decide +kernel
theorem dX7_keys_115 : decode cX7_keys 115 = .ok (.iload_n 2, 1) := by decide +kernel
theorem dX7_keys_116 : decode cX7_keys 116 = .ok (.if_icmp .ge 7, 3) := by decide +kernel
theorem dX7_keys_119 : decode cX7_keys 119 = .ok (.iconst 1, 1) := by decide +kernel
theorem dX7_keys_120 : decode cX7_keys 120 = .ok (.goto 4, 3) := by decide +kernel
theorem dX7_keys_123 : decode cX7_keys 123 = .ok (.iconst 0, 1) := by decide +kernel
theorem dX7_keys_124 : decode cX7_keys 124 = .ok (.invokestatic 109, 3) := by decide +kernel
theorem dX7_keys_127 : decode cX7_keys 127 = .ok (.i2l, 1) := by decide +kernel
theorem dX7_keys_128 : decode cX7_keys 128 = .ok (.invokevirtual 145, 3) := by decide +kernel
theorem dX7_keys_131 : decode cX7_keys 131 = .ok (.aload_n 0, 1) := by decide +kernel
theorem dX7_keys_132 : decode cX7_keys 132 = .ok (.aload_n 0, 1) := by decide +kernel
theorem dX7_keys_133 : decode cX7_keys 133 = .ok (.getfield 60, 3) := by decide +kernel
theorem dX7_keys_136 : decode cX7_keys 136 = .ok (.iload_n 1, 1) := by decide +kernel
theorem dX7_keys_137 : decode cX7_keys 137 = .ok (.iaload, 1) := by decide +kernel
theorem dX7_keys_138 : decode cX7_keys 138 = .ok (.i2l, 1) := by decide +kernel
theorem dX7_keys_139 : decode cX7_keys 139 = .ok (.invokevirtual 145, 3) := by decide +kernel
theorem dX7_keys_142 : decode cX7_keys 142 = .ok (.iload_n 3, 1) := by decide +kernel
theorem dX7_keys_143 : decode cX7_keys 143 = .ok (.ireturn, 1) := by decide +kernel
theorem dX7_isSlot_0 : decode cX7_isSlot 0 = .ok (.iload_n 1, 1) := by decide +kernel
theorem dX7_isSlot_1 : decode cX7_isSlot 1 = .ok (.invokestatic 136, 3) := by decide +kernel
theorem dX7_isSlot_4 : decode cX7_isSlot 4 = .ok (.ifCond .eq 24, 3) := by decide +kernel
theorem dX7_isSlot_7 : decode cX7_isSlot 7 = .ok (.iload_n 2, 1) := by decide +kernel
theorem dX7_isSlot_8 : decode cX7_isSlot 8 = .ok (.i2l, 1) := by decide +kernel
theorem dX7_isSlot_9 : decode cX7_isSlot 9 = .ok (.lconst 0, 1) := by decide +kernel
theorem dX7_isSlot_10 : decode cX7_isSlot 10 = .ok (.aload_n 0, 1) := by decide +kernel
theorem dX7_isSlot_11 : decode cX7_isSlot 11 = .ok (.iload_n 1, 1) := by decide +kernel
theorem dX7_isSlot_12 : decode cX7_isSlot 12 = .ok (.invokevirtual 121, 3) := by decide +kernel
theorem dX7_isSlot_15 : decode cX7_isSlot 15 = .ok (.iconst 1, 1) := by decide +kernel
theorem dX7_isSlot_16 : decode cX7_isSlot 16 = .ok (.isub, 1) := by decide +kernel
theorem dX7_isSlot_17 : decode cX7_isSlot 17 = .ok (.i2l, 1) := by decide +kernel
theorem dX7_isSlot_18 : decode cX7_isSlot 18 = .ok (.invokestatic 21, 3) := by decide +kernel
theorem dX7_isSlot_21 : decode cX7_isSlot 21 = .ok (.ifCond .eq 7, 3) := by decide +kernel
theorem dX7_isSlot_24 : decode cX7_isSlot 24 = .ok (.iconst 1, 1) := by decide +kernel
theorem dX7_isSlot_25 : decode cX7_isSlot 25 = .ok (.goto 4, 3) := by decide +kernel
theorem dX7_isSlot_28 : decode cX7_isSlot 28 = .ok (.iconst 0, 1) := by decide +kernel
theorem dX7_isSlot_29 : decode cX7_isSlot 29 = .ok (.ireturn, 1) := by decide +kernel
theorem dX7_slot_0 : decode cX7_slot 0 = .ok (.aload_n 0, 1) := by decide +kernel
theorem dX7_slot_1 : decode cX7_slot 1 = .ok (.iconst 0, 1) := by decide +kernel
theorem dX7_slot_2 : decode cX7_slot 2 = .ok (.putfield 1, 3) := by decide +kernel
theorem dX7_slot_5 : decode cX7_slot 5 = .ok (.aload_n 0, 1) := by decide +kernel
theorem dX7_slot_6 : decode cX7_slot 6 = .ok (.iload_n 1, 1) := by decide +kernel
theorem dX7_slot_7 : decode cX7_slot 7 = .ok (.iload_n 2, 1) := by decide +kernel
theorem dX7_slot_8 : decode cX7_slot 8 = .ok (.invokevirtual 208, 3) := by decide +kernel
theorem dX7_slot_11 : decode cX7_slot 11 = .ok (.ifCond .ne 5, 3) := by decide +kernel
theorem dX7_slot_14 : decode cX7_slot 14 = .ok (.iconst (-1), 1) := by decide +kernel
theorem dX7_slot_15 : decode cX7_slot 15 = .ok (.ireturn, 1) := by decide +kernel
theorem dX7_slot_16 : decode cX7_slot 16 = .ok (.aload_n 0, 1) := by decide +kernel
theorem dX7_slot_17 : decode cX7_slot 17 = .ok (.iload_n 1, 1) := by decide +kernel
theorem dX7_slot_18 : decode cX7_slot 18 = .ok (.invokevirtual 162, 3) := by decide +kernel
theorem dX7_slot_21 : decode cX7_slot 21 = .ok (.aload_n 0, 1) := by decide +kernel
theorem dX7_slot_22 : decode cX7_slot 22 = .ok (.getfield 69, 3) := by decide +kernel
theorem dX7_slot_25 : decode cX7_slot 25 = .ok (.iload_n 2, 1) := by decide +kernel
theorem dX7_slot_26 : decode cX7_slot 26 = .ok (.iaload, 1) := by decide +kernel
theorem dX7_slot_27 : decode cX7_slot 27 = .ok (.ifCond .ge 6, 3) := by decide +kernel
theorem dX7_slot_30 : decode cX7_slot 30 = .ok (.bipush (-2), 2) := by decide +kernel
theorem dX7_slot_32 : decode cX7_slot 32 = .ok (.ireturn, 1) := by decide +kernel
theorem dX7_slot_33 : decode cX7_slot 33 = .ok (.aload_n 0, 1) := by decide +kernel
theorem dX7_slot_34 : decode cX7_slot 34 = .ok (.iload_n 1, 1) := by decide +kernel
theorem dX7_slot_35 : decode cX7_slot 35 = .ok (.aload_n 0, 1) := by decide +kernel
theorem dX7_slot_36 : decode cX7_slot 36 = .ok (.getfield 69, 3) := by decide +kernel
theorem dX7_slot_39 : decode cX7_slot 39 = .ok (.iload_n 2, 1) := by decide +kernel
theorem dX7_slot_40 : decode cX7_slot 40 = .ok (.iaload, 1) := by decide +kernel
theorem dX7_slot_41 : decode cX7_slot 41 = .ok (.invokevirtual 106, 3) := by decide +kernel
theorem dX7_slot_44 : decode cX7_slot 44 = .ok (.istore_n 3, 1) := by decide +kernel
theorem dX7_slot_45 : decode cX7_slot 45 = .ok (.aload_n 0, 1) := by decide +kernel
theorem dX7_slot_46 : decode cX7_slot 46 = .ok (.iconst 0, 1) := by decide +kernel
theorem dX7_slot_47 : decode cX7_slot 47 = .ok (.putfield 11, 3) := by decide +kernel
theorem dX7_slot_50 : decode cX7_slot 50 = .ok (.aload_n 0, 1) := by decide +kernel
theorem dX7_slot_51 : decode cX7_slot 51 = .ok (.aload_n 0, 1) := by decide +kernel
theorem dX7_slot_52 : decode cX7_slot 52 = .ok (.getfield 72, 3) := by decide +kernel
theorem dX7_slot_55 : decode cX7_slot 55 = .ok (.iload_n 2, 1) := by decide +kernel
theorem dX7_slot_56 : decode cX7_slot 56 = .ok (.iaload, 1) := by decide +kernel
theorem dX7_slot_57 : decode cX7_slot 57 = .ok (.iconst 1, 1) := by decide +kernel
theorem dX7_slot_58 : decode cX7_slot 58 = .ok (.iand, 1) := by decide +kernel
theorem dX7_slot_59 : decode cX7_slot 59 = .ok (.i2l, 1) := by decide +kernel
theorem dX7_slot_60 : decode cX7_slot 60 = .ok (.invokevirtual 145, 3) := by decide +kernel
theorem dX7_slot_63 : decode cX7_slot 63 = .ok (.aload_n 0, 1) := by decide +kernel
theorem dX7_slot_64 : decode cX7_slot 64 = .ok (.aload_n 0, 1) := by decide +kernel
theorem dX7_slot_65 : decode cX7_slot 65 = .ok (.getfield 72, 3) := by decide +kernel
theorem dX7_slot_68 : decode cX7_slot 68 = .ok (.iload_n 2, 1) := by decide +kernel
theorem dX7_slot_69 : decode cX7_slot 69 = .ok (.iaload, 1) := by decide +kernel
theorem dX7_slot_70 : decode cX7_slot 70 = .ok (.iconst 2, 1) := by decide +kernel
theorem dX7_slot_71 : decode cX7_slot 71 = .ok (.iand, 1) := by decide +kernel
theorem dX7_slot_72 : decode cX7_slot 72 = .ok (.iconst 2, 1) := by decide +kernel
theorem dX7_slot_73 : decode cX7_slot 73 = .ok (.idiv, 1) := by decide +kernel
theorem dX7_slot_74 : decode cX7_slot 74 = .ok (.i2l, 1) := by decide +kernel
theorem dX7_slot_75 : decode cX7_slot 75 = .ok (.invokevirtual 145, 3) := by decide +kernel
theorem dX7_slot_78 : decode cX7_slot 78 = .ok (.aload_n 0, 1) := by decide +kernel
theorem dX7_slot_79 : decode cX7_slot 79 = .ok (.aload_n 0, 1) := by decide +kernel
theorem dX7_slot_80 : decode cX7_slot 80 = .ok (.getfield 72, 3) := by decide +kernel
theorem dX7_slot_83 : decode cX7_slot 83 = .ok (.iload_n 2, 1) := by decide +kernel
theorem dX7_slot_84 : decode cX7_slot 84 = .ok (.iaload, 1) := by decide +kernel
theorem dX7_slot_85 : decode cX7_slot 85 = .ok (.iconst 4, 1) := by decide +kernel
theorem dX7_slot_86 : decode cX7_slot 86 = .ok (.iand, 1) := by decide +kernel
theorem dX7_slot_87 : decode cX7_slot 87 = .ok (.iconst 4, 1) := by decide +kernel
theorem dX7_slot_88 : decode cX7_slot 88 = .ok (.idiv, 1) := by decide +kernel
theorem dX7_slot_89 : decode cX7_slot 89 = .ok (.i2l, 1) := by decide +kernel
theorem dX7_slot_90 : decode cX7_slot 90 = .ok (.invokevirtual 145, 3) := by decide +kernel
theorem dX7_slot_93 : decode cX7_slot 93 = .ok (.aload_n 0, 1) := by decide +kernel
theorem dX7_slot_94 : decode cX7_slot 94 = .ok (.iload_n 3, 1) := by decide +kernel
theorem dX7_slot_95 : decode cX7_slot 95 = .ok (.i2l, 1) := by decide +kernel
theorem dX7_slot_96 : decode cX7_slot 96 = .ok (.invokevirtual 145, 3) := by decide +kernel
theorem dX7_slot_99 : decode cX7_slot 99 = .ok (.aload_n 0, 1) := by decide +kernel
theorem dX7_slot_100 : decode cX7_slot 100 = .ok (.iload_n 1, 1) := by decide +kernel
theorem dX7_slot_101 : decode cX7_slot 101 = .ok (.iload_n 3, 1) := by decide +kernel
theorem dX7_slot_102 : decode cX7_slot 102 = .ok (.invokevirtual 149, 3) := by decide +kernel
theorem dX7_slot_105 : decode cX7_slot 105 = .ok (.ireturn, 1) := by decide +kernel
theorem dX7_wide_0 : decode cX7_wide 0 = .ok (.aload_n 0, 1) := by decide +kernel
theorem dX7_wide_1 : decode cX7_wide 1 = .ok (.iload_n 1, 1) := by decide +kernel
theorem dX7_wide_2 : decode cX7_wide 2 = .ok (.invokevirtual 102, 3) := by decide +kernel
theorem dX7_wide_5 : decode cX7_wide 5 = .ok (.iconst 3, 1) := by decide +kernel
theorem dX7_wide_6 : decode cX7_wide 6 = .ok (.iadd, 1) := by decide +kernel
theorem dX7_wide_7 : decode cX7_wide 7 = .ok (.ireturn, 1) := by decide +kernel
theorem dX7_isWord_0 : decode cX7_isWord 0 = .ok (.iload_n 1, 1) := by decide +kernel
theorem dX7_isWord_1 : decode cX7_isWord 1 = .ok (.invokestatic 136, 3) := by decide +kernel
theorem dX7_isWord_4 : decode cX7_isWord 4 = .ok (.ifCond .eq 33, 3) := by decide +kernel
theorem dX7_isWord_7 : decode cX7_isWord 7 = .ok (.iload_n 2, 1) := by decide +kernel
theorem dX7_isWord_8 : decode cX7_isWord 8 = .ok (.i2l, 1) := by decide +kernel
theorem dX7_isWord_9 : decode cX7_isWord 9 = .ok (.lconst 0, 1) := by decide +kernel
theorem dX7_isWord_10 : decode cX7_isWord 10 = .ok (.aload_n 0, 1) := by decide +kernel
theorem dX7_isWord_11 : decode cX7_isWord 11 = .ok (.iload_n 1, 1) := by decide +kernel
theorem dX7_isWord_12 : decode cX7_isWord 12 = .ok (.invokevirtual 211, 3) := by decide +kernel
theorem dX7_isWord_15 : decode cX7_isWord 15 = .ok (.aload_n 0, 1) := by decide +kernel
theorem dX7_isWord_16 : decode cX7_isWord 16 = .ok (.iload_n 1, 1) := by decide +kernel
theorem dX7_isWord_17 : decode cX7_isWord 17 = .ok (.invokevirtual 121, 3) := by decide +kernel
theorem dX7_isWord_20 : decode cX7_isWord 20 = .ok (.imul, 1) := by decide +kernel
theorem dX7_isWord_21 : decode cX7_isWord 21 = .ok (.iconst 1, 1) := by decide +kernel
theorem dX7_isWord_22 : decode cX7_isWord 22 = .ok (.isub, 1) := by decide +kernel
theorem dX7_isWord_23 : decode cX7_isWord 23 = .ok (.bipush 64, 2) := by decide +kernel
theorem dX7_isWord_25 : decode cX7_isWord 25 = .ok (.idiv, 1) := by decide +kernel
theorem dX7_isWord_26 : decode cX7_isWord 26 = .ok (.i2l, 1) := by decide +kernel
theorem dX7_isWord_27 : decode cX7_isWord 27 = .ok (.invokestatic 21, 3) := by decide +kernel
theorem dX7_isWord_30 : decode cX7_isWord 30 = .ok (.ifCond .eq 7, 3) := by decide +kernel
theorem dX7_isWord_33 : decode cX7_isWord 33 = .ok (.iconst 1, 1) := by decide +kernel
theorem dX7_isWord_34 : decode cX7_isWord 34 = .ok (.goto 4, 3) := by decide +kernel
theorem dX7_isWord_37 : decode cX7_isWord 37 = .ok (.iconst 0, 1) := by decide +kernel
theorem dX7_isWord_38 : decode cX7_isWord 38 = .ok (.ireturn, 1) := by decide +kernel
theorem dX7_wordOf_0 : decode cX7_wordOf 0 = .ok (.aload_n 0, 1) := by decide +kernel
theorem dX7_wordOf_1 : decode cX7_wordOf 1 = .ok (.iload_n 1, 1) := by decide +kernel
theorem dX7_wordOf_2 : decode cX7_wordOf 2 = .ok (.invokevirtual 211, 3) := by decide +kernel
theorem dX7_wordOf_5 : decode cX7_wordOf 5 = .ok (.istore_n 3, 1) := by decide +kernel
theorem dX7_wordOf_6 : decode cX7_wordOf 6 = .ok (.lconst 0, 1) := by decide +kernel
theorem dX7_wordOf_7 : decode cX7_wordOf 7 = .ok (.lstore 4, 2) := by decide +kernel
theorem dX7_wordOf_9 : decode cX7_wordOf 9 = .ok (.iconst 0, 1) := by decide +kernel
theorem dX7_wordOf_10 : decode cX7_wordOf 10 = .ok (.istore 6, 2) := by decide +kernel
theorem dX7_wordOf_12 : decode cX7_wordOf 12 = .ok (.iload 6, 2) := by decide +kernel
theorem dX7_wordOf_14 : decode cX7_wordOf 14 = .ok (.bipush 64, 2) := by decide +kernel
theorem dX7_wordOf_16 : decode cX7_wordOf 16 = .ok (.if_icmp .ge 103, 3) := by decide +kernel
theorem dX7_wordOf_19 : decode cX7_wordOf 19 = .ok (.bipush 64, 2) := by decide +kernel
theorem dX7_wordOf_21 : decode cX7_wordOf 21 = .ok (.iload_n 2, 1) := by decide +kernel
theorem dX7_wordOf_22 : decode cX7_wordOf 22 = .ok (.imul, 1) := by decide +kernel
theorem dX7_wordOf_23 : decode cX7_wordOf 23 = .ok (.iload 6, 2) := by decide +kernel
theorem dX7_wordOf_25 : decode cX7_wordOf 25 = .ok (.iadd, 1) := by decide +kernel
theorem dX7_wordOf_26 : decode cX7_wordOf 26 = .ok (.iload_n 3, 1) := by decide +kernel
theorem dX7_wordOf_27 : decode cX7_wordOf 27 = .ok (.aload_n 0, 1) := by decide +kernel
theorem dX7_wordOf_28 : decode cX7_wordOf 28 = .ok (.iload_n 1, 1) := by decide +kernel
theorem dX7_wordOf_29 : decode cX7_wordOf 29 = .ok (.invokevirtual 121, 3) := by decide +kernel
theorem dX7_wordOf_32 : decode cX7_wordOf 32 = .ok (.imul, 1) := by decide +kernel
theorem dX7_wordOf_33 : decode cX7_wordOf 33 = .ok (.if_icmp .ge 86, 3) := by decide +kernel
theorem dX7_wordOf_36 : decode cX7_wordOf 36 = .ok (.bipush 64, 2) := by decide +kernel
theorem dX7_wordOf_38 : decode cX7_wordOf 38 = .ok (.iload_n 2, 1) := by decide +kernel
theorem dX7_wordOf_39 : decode cX7_wordOf 39 = .ok (.imul, 1) := by decide +kernel
theorem dX7_wordOf_40 : decode cX7_wordOf 40 = .ok (.iload 6, 2) := by decide +kernel
theorem dX7_wordOf_42 : decode cX7_wordOf 42 = .ok (.iadd, 1) := by decide +kernel
theorem dX7_wordOf_43 : decode cX7_wordOf 43 = .ok (.iload_n 3, 1) := by decide +kernel
theorem dX7_wordOf_44 : decode cX7_wordOf 44 = .ok (.idiv, 1) := by decide +kernel
theorem dX7_wordOf_45 : decode cX7_wordOf 45 = .ok (.istore 7, 2) := by decide +kernel
theorem dX7_wordOf_47 : decode cX7_wordOf 47 = .ok (.aload_n 0, 1) := by decide +kernel
theorem dX7_wordOf_48 : decode cX7_wordOf 48 = .ok (.getfield 72, 3) := by decide +kernel
theorem dX7_wordOf_51 : decode cX7_wordOf 51 = .ok (.iload 7, 2) := by decide +kernel
theorem dX7_wordOf_53 : decode cX7_wordOf 53 = .ok (.iaload, 1) := by decide +kernel
theorem dX7_wordOf_54 : decode cX7_wordOf 54 = .ok (.aload_n 0, 1) := by decide +kernel
theorem dX7_wordOf_55 : decode cX7_wordOf 55 = .ok (.getfield 69, 3) := by decide +kernel
theorem dX7_wordOf_58 : decode cX7_wordOf 58 = .ok (.iload 7, 2) := by decide +kernel
theorem dX7_wordOf_60 : decode cX7_wordOf 60 = .ok (.iaload, 1) := by decide +kernel
theorem dX7_wordOf_61 : decode cX7_wordOf 61 = .ok (.ifCond .ge 7, 3) := by decide +kernel
theorem dX7_wordOf_64 : decode cX7_wordOf 64 = .ok (.iconst 0, 1) := by decide +kernel
theorem dX7_wordOf_65 : decode cX7_wordOf 65 = .ok (.goto 22, 3) := by decide +kernel
theorem dX7_wordOf_68 : decode cX7_wordOf 68 = .ok (.aload_n 0, 1) := by decide +kernel
theorem dX7_wordOf_69 : decode cX7_wordOf 69 = .ok (.iload_n 1, 1) := by decide +kernel
theorem dX7_wordOf_70 : decode cX7_wordOf 70 = .ok (.aload_n 0, 1) := by decide +kernel
theorem dX7_wordOf_71 : decode cX7_wordOf 71 = .ok (.iload_n 1, 1) := by decide +kernel
theorem dX7_wordOf_72 : decode cX7_wordOf 72 = .ok (.aload_n 0, 1) := by decide +kernel
theorem dX7_wordOf_73 : decode cX7_wordOf 73 = .ok (.getfield 69, 3) := by decide +kernel
theorem dX7_wordOf_76 : decode cX7_wordOf 76 = .ok (.iload 7, 2) := by decide +kernel
theorem dX7_wordOf_78 : decode cX7_wordOf 78 = .ok (.iaload, 1) := by decide +kernel
theorem dX7_wordOf_79 : decode cX7_wordOf 79 = .ok (.invokevirtual 106, 3) := by decide +kernel
theorem dX7_wordOf_82 : decode cX7_wordOf 82 = .ok (.invokevirtual 149, 3) := by decide +kernel
theorem dX7_wordOf_85 : decode cX7_wordOf 85 = .ok (.iconst 3, 1) := by decide +kernel
theorem dX7_wordOf_86 : decode cX7_wordOf 86 = .ok (.ishl, 1) := by decide +kernel
theorem dX7_wordOf_87 : decode cX7_wordOf 87 = .ok (.ior, 1) := by decide +kernel
theorem dX7_wordOf_88 : decode cX7_wordOf 88 = .ok (.istore 8, 2) := by decide +kernel
theorem dX7_wordOf_90 : decode cX7_wordOf 90 = .ok (.lload 4, 2) := by decide +kernel
theorem dX7_wordOf_92 : decode cX7_wordOf 92 = .ok (.iload 8, 2) := by decide +kernel
theorem dX7_wordOf_94 : decode cX7_wordOf 94 = .ok (.bipush 64, 2) := by decide +kernel
theorem dX7_wordOf_96 : decode cX7_wordOf 96 = .ok (.iload_n 2, 1) := by decide +kernel
theorem dX7_wordOf_97 : decode cX7_wordOf 97 = .ok (.imul, 1) := by decide +kernel
theorem dX7_wordOf_98 : decode cX7_wordOf 98 = .ok (.iload 6, 2) := by decide +kernel
theorem dX7_wordOf_100 : decode cX7_wordOf 100 = .ok (.iadd, 1) := by decide +kernel
theorem dX7_wordOf_101 : decode cX7_wordOf 101 = .ok (.iload_n 3, 1) := by decide +kernel
theorem dX7_wordOf_102 : decode cX7_wordOf 102 = .ok (.irem, 1) := by decide +kernel
theorem dX7_wordOf_103 : decode cX7_wordOf 103 = .ok (.ishr, 1) := by decide +kernel
theorem dX7_wordOf_104 : decode cX7_wordOf 104 = .ok (.iconst 1, 1) := by decide +kernel
theorem dX7_wordOf_105 : decode cX7_wordOf 105 = .ok (.iand, 1) := by decide +kernel
theorem dX7_wordOf_106 : decode cX7_wordOf 106 = .ok (.i2l, 1) := by decide +kernel
theorem dX7_wordOf_107 : decode cX7_wordOf 107 = .ok (.iload 6, 2) := by decide +kernel
theorem dX7_wordOf_109 : decode cX7_wordOf 109 = .ok (.lshl, 1) := by decide +kernel
theorem dX7_wordOf_110 : decode cX7_wordOf 110 = .ok (.lor, 1) := by decide +kernel
theorem dX7_wordOf_111 : decode cX7_wordOf 111 = .ok (.lstore 4, 2) := by decide +kernel
theorem dX7_wordOf_113 : decode cX7_wordOf 113 = .ok (.iinc 6 1, 3) := by decide +kernel
theorem dX7_wordOf_116 : decode cX7_wordOf 116 = .ok (.goto (-104), 3) := by decide +kernel
theorem dX7_wordOf_119 : decode cX7_wordOf 119 = .ok (.lload 4, 2) := by decide +kernel
theorem dX7_wordOf_121 : decode cX7_wordOf 121 = .ok (.lreturn, 1) := by decide +kernel
theorem dX7_word_0 : decode cX7_word 0 = .ok (.aload_n 0, 1) := by decide +kernel
theorem dX7_word_1 : decode cX7_word 1 = .ok (.aload_n 0, 1) := by decide +kernel
theorem dX7_word_2 : decode cX7_word 2 = .ok (.iload_n 1, 1) := by decide +kernel
theorem dX7_word_3 : decode cX7_word 3 = .ok (.iload_n 2, 1) := by decide +kernel
theorem dX7_word_4 : decode cX7_word 4 = .ok (.invokevirtual 214, 3) := by decide +kernel
theorem dX7_word_7 : decode cX7_word 7 = .ok (.ifCond .ne 7, 3) := by decide +kernel
theorem dX7_word_10 : decode cX7_word 10 = .ok (.iconst 1, 1) := by decide +kernel
theorem dX7_word_11 : decode cX7_word 11 = .ok (.goto 4, 3) := by decide +kernel
theorem dX7_word_14 : decode cX7_word 14 = .ok (.iconst 0, 1) := by decide +kernel
theorem dX7_word_15 : decode cX7_word 15 = .ok (.invokestatic 109, 3) := by decide +kernel
theorem dX7_word_18 : decode cX7_word 18 = .ok (.putfield 1, 3) := by decide +kernel
theorem dX7_word_21 : decode cX7_word 21 = .ok (.aload_n 0, 1) := by decide +kernel
theorem dX7_word_22 : decode cX7_word 22 = .ok (.getfield 1, 3) := by decide +kernel
theorem dX7_word_25 : decode cX7_word 25 = .ok (.iconst 1, 1) := by decide +kernel
theorem dX7_word_26 : decode cX7_word 26 = .ok (.if_icmp .ne 5, 3) := by decide +kernel
theorem dX7_word_29 : decode cX7_word 29 = .ok (.lconst 0, 1) := by decide +kernel
theorem dX7_word_30 : decode cX7_word 30 = .ok (.lreturn, 1) := by decide +kernel
theorem dX7_word_31 : decode cX7_word 31 = .ok (.aload_n 0, 1) := by decide +kernel
theorem dX7_word_32 : decode cX7_word 32 = .ok (.iload_n 1, 1) := by decide +kernel
theorem dX7_word_33 : decode cX7_word 33 = .ok (.invokevirtual 162, 3) := by decide +kernel
theorem dX7_word_36 : decode cX7_word 36 = .ok (.aload_n 0, 1) := by decide +kernel
theorem dX7_word_37 : decode cX7_word 37 = .ok (.iload_n 1, 1) := by decide +kernel
theorem dX7_word_38 : decode cX7_word 38 = .ok (.iload_n 2, 1) := by decide +kernel
theorem dX7_word_39 : decode cX7_word 39 = .ok (.invokevirtual 217, 3) := by decide +kernel
theorem dX7_word_42 : decode cX7_word 42 = .ok (.lreturn, 1) := by decide +kernel
theorem dX7_readsWords_0 : decode cX7_readsWords 0 = .ok (.aload_n 0, 1) := by decide +kernel
theorem dX7_readsWords_1 : decode cX7_readsWords 1 = .ok (.iload_n 1, 1) := by decide +kernel
theorem dX7_readsWords_2 : decode cX7_readsWords 2 = .ok (.invokevirtual 211, 3) := by decide +kernel
theorem dX7_readsWords_5 : decode cX7_readsWords 5 = .ok (.istore_n 2, 1) := by decide +kernel
theorem dX7_readsWords_6 : decode cX7_readsWords 6 = .ok (.iload_n 2, 1) := by decide +kernel
theorem dX7_readsWords_7 : decode cX7_readsWords 7 = .ok (.aload_n 0, 1) := by decide +kernel
theorem dX7_readsWords_8 : decode cX7_readsWords 8 = .ok (.iload_n 1, 1) := by decide +kernel
theorem dX7_readsWords_9 : decode cX7_readsWords 9 = .ok (.invokevirtual 121, 3) := by decide +kernel
theorem dX7_readsWords_12 : decode cX7_readsWords 12 = .ok (.imul, 1) := by decide +kernel
theorem dX7_readsWords_13 : decode cX7_readsWords 13 = .ok (.istore_n 3, 1) := by decide +kernel
theorem dX7_readsWords_14 : decode cX7_readsWords 14 = .ok (.aload_n 0, 1) := by decide +kernel
theorem dX7_readsWords_15 : decode cX7_readsWords 15 = .ok (.aload_n 0, 1) := by decide +kernel
theorem dX7_readsWords_16 : decode cX7_readsWords 16 = .ok (.getfield 57, 3) := by decide +kernel
theorem dX7_readsWords_19 : decode cX7_readsWords 19 = .ok (.iload_n 1, 1) := by decide +kernel
theorem dX7_readsWords_20 : decode cX7_readsWords 20 = .ok (.iaload, 1) := by decide +kernel
theorem dX7_readsWords_21 : decode cX7_readsWords 21 = .ok (.putfield 221, 3) := by decide +kernel
theorem dX7_readsWords_24 : decode cX7_readsWords 24 = .ok (.iconst 0, 1) := by decide +kernel
theorem dX7_readsWords_25 : decode cX7_readsWords 25 = .ok (.istore 4, 2) := by decide +kernel
theorem dX7_readsWords_27 : decode cX7_readsWords 27 = .ok (.iload 4, 2) := by decide +kernel
theorem dX7_readsWords_29 : decode cX7_readsWords 29 = .ok (.aload_n 0, 1) := by decide +kernel
theorem dX7_readsWords_30 : decode cX7_readsWords 30 = .ok (.iload_n 1, 1) := by decide +kernel
theorem dX7_readsWords_31 : decode cX7_readsWords 31 = .ok (.invokevirtual 121, 3) := by decide +kernel
theorem dX7_readsWords_34 : decode cX7_readsWords 34 = .ok (.if_icmp .ge 25, 3) := by decide +kernel
theorem dX7_readsWords_37 : decode cX7_readsWords 37 = .ok (.aload_n 0, 1) := by decide +kernel
theorem dX7_readsWords_38 : decode cX7_readsWords 38 = .ok (.getfield 85, 3) := by decide +kernel
theorem dX7_readsWords_41 : decode cX7_readsWords 41 = .ok (.iload 4, 2) := by decide +kernel
theorem dX7_readsWords_43 : decode cX7_readsWords 43 = .ok (.iconst 0, 1) := by decide +kernel
theorem dX7_readsWords_44 : decode cX7_readsWords 44 = .ok (.iastore, 1) := by decide +kernel
theorem dX7_readsWords_45 : decode cX7_readsWords 45 = .ok (.aload_n 0, 1) := by decide +kernel
theorem dX7_readsWords_46 : decode cX7_readsWords 46 = .ok (.getfield 88, 3) := by decide +kernel
theorem dX7_readsWords_49 : decode cX7_readsWords 49 = .ok (.iload 4, 2) := by decide +kernel
theorem dX7_readsWords_51 : decode cX7_readsWords 51 = .ok (.iconst 0, 1) := by decide +kernel
theorem dX7_readsWords_52 : decode cX7_readsWords 52 = .ok (.iastore, 1) := by decide +kernel
theorem dX7_readsWords_53 : decode cX7_readsWords 53 = .ok (.iinc 4 1, 3) := by decide +kernel
theorem dX7_readsWords_56 : decode cX7_readsWords 56 = .ok (.goto (-29), 3) := by decide +kernel
theorem dX7_readsWords_59 : decode cX7_readsWords 59 = .ok (.iconst 0, 1) := by decide +kernel
theorem dX7_readsWords_60 : decode cX7_readsWords 60 = .ok (.istore 4, 2) := by decide +kernel
theorem dX7_readsWords_62 : decode cX7_readsWords 62 = .ok (.iload 4, 2) := by decide +kernel
theorem dX7_readsWords_64 : decode cX7_readsWords 64 = .ok (.iload_n 3, 1) := by decide +kernel
theorem dX7_readsWords_65 : decode cX7_readsWords 65 = .ok (.iconst 1, 1) := by decide +kernel
theorem dX7_readsWords_66 : decode cX7_readsWords 66 = .ok (.isub, 1) := by decide +kernel
theorem dX7_readsWords_67 : decode cX7_readsWords 67 = .ok (.bipush 64, 2) := by decide +kernel
theorem dX7_readsWords_69 : decode cX7_readsWords 69 = .ok (.idiv, 1) := by decide +kernel
theorem dX7_readsWords_70 : decode cX7_readsWords 70 = .ok (.bipush 64, 2) := by decide +kernel
theorem dX7_readsWords_72 : decode cX7_readsWords 72 = .ok (.imul, 1) := by decide +kernel
theorem dX7_readsWords_73 : decode cX7_readsWords 73 = .ok (.bipush 63, 2) := by decide +kernel
theorem dX7_readsWords_75 : decode cX7_readsWords 75 = .ok (.iadd, 1) := by decide +kernel
theorem dX7_readsWords_76 : decode cX7_readsWords 76 = .ok (.if_icmp .gt 115, 3) := by decide +kernel
theorem dX7_readsWords_79 : decode cX7_readsWords 79 = .ok (.aload_n 0, 1) := by decide +kernel
theorem dX7_readsWords_80 : decode cX7_readsWords 80 = .ok (.getfield 82, 3) := by decide +kernel
theorem dX7_readsWords_83 : decode cX7_readsWords 83 = .ok (.iload 4, 2) := by decide +kernel
theorem dX7_readsWords_85 : decode cX7_readsWords 85 = .ok (.bipush 64, 2) := by decide +kernel
theorem dX7_readsWords_87 : decode cX7_readsWords 87 = .ok (.idiv, 1) := by decide +kernel
theorem dX7_readsWords_88 : decode cX7_readsWords 88 = .ok (.laload, 1) := by decide +kernel
theorem dX7_readsWords_89 : decode cX7_readsWords 89 = .ok (.iload 4, 2) := by decide +kernel
theorem dX7_readsWords_91 : decode cX7_readsWords 91 = .ok (.bipush 64, 2) := by decide +kernel
theorem dX7_readsWords_93 : decode cX7_readsWords 93 = .ok (.irem, 1) := by decide +kernel
theorem dX7_readsWords_94 : decode cX7_readsWords 94 = .ok (.lshr, 1) := by decide +kernel
theorem dX7_readsWords_95 : decode cX7_readsWords 95 = .ok (.lconst 1, 1) := by decide +kernel
theorem dX7_readsWords_96 : decode cX7_readsWords 96 = .ok (.land, 1) := by decide +kernel
theorem dX7_readsWords_97 : decode cX7_readsWords 97 = .ok (.l2i, 1) := by decide +kernel
theorem dX7_readsWords_98 : decode cX7_readsWords 98 = .ok (.istore 5, 2) := by decide +kernel
theorem dX7_readsWords_100 : decode cX7_readsWords 100 = .ok (.iload 4, 2) := by decide +kernel
theorem dX7_readsWords_102 : decode cX7_readsWords 102 = .ok (.iload_n 3, 1) := by decide +kernel
theorem dX7_readsWords_103 : decode cX7_readsWords 103 = .ok (.if_icmp .lt 11, 3) := by decide +kernel
theorem dX7_readsWords_106 : decode cX7_readsWords 106 = .ok (.iload 5, 2) := by decide +kernel
theorem dX7_readsWords_108 : decode cX7_readsWords 108 = .ok (.iconst 1, 1) := by decide +kernel
theorem dX7_readsWords_109 : decode cX7_readsWords 109 = .ok (.if_icmp .ne 5, 3) := by decide +kernel
theorem dX7_readsWords_112 : decode cX7_readsWords 112 = .ok (.iconst 0, 1) := by decide +kernel
theorem dX7_readsWords_113 : decode cX7_readsWords 113 = .ok (.ireturn, 1) := by decide +kernel
theorem dX7_readsWords_114 : decode cX7_readsWords 114 = .ok (.iload 4, 2) := by decide +kernel
theorem dX7_readsWords_116 : decode cX7_readsWords 116 = .ok (.iload_n 3, 1) := by decide +kernel
theorem dX7_readsWords_117 : decode cX7_readsWords 117 = .ok (.if_icmp .lt 6, 3) := by decide +kernel
theorem dX7_readsWords_120 : decode cX7_readsWords 120 = .ok (.goto 65, 3) := by decide +kernel
theorem dX7_readsWords_123 : decode cX7_readsWords 123 = .ok (.iload 4, 2) := by decide +kernel
theorem dX7_readsWords_125 : decode cX7_readsWords 125 = .ok (.iload_n 2, 1) := by decide +kernel
theorem dX7_readsWords_126 : decode cX7_readsWords 126 = .ok (.irem, 1) := by decide +kernel
theorem dX7_readsWords_127 : decode cX7_readsWords 127 = .ok (.istore 6, 2) := by decide +kernel
theorem dX7_readsWords_129 : decode cX7_readsWords 129 = .ok (.aload_n 0, 1) := by decide +kernel
theorem dX7_readsWords_130 : decode cX7_readsWords 130 = .ok (.getfield 85, 3) := by decide +kernel
theorem dX7_readsWords_133 : decode cX7_readsWords 133 = .ok (.iload 4, 2) := by decide +kernel
theorem dX7_readsWords_135 : decode cX7_readsWords 135 = .ok (.iload_n 2, 1) := by decide +kernel
theorem dX7_readsWords_136 : decode cX7_readsWords 136 = .ok (.idiv, 1) := by decide +kernel
theorem dX7_readsWords_137 : decode cX7_readsWords 137 = .ok (.dup2, 1) := by decide +kernel
theorem dX7_readsWords_138 : decode cX7_readsWords 138 = .ok (.iaload, 1) := by decide +kernel
theorem dX7_readsWords_139 : decode cX7_readsWords 139 = .ok (.iload 6, 2) := by decide +kernel
theorem dX7_readsWords_141 : decode cX7_readsWords 141 = .ok (.iconst 3, 1) := by decide +kernel
theorem dX7_readsWords_142 : decode cX7_readsWords 142 = .ok (.if_icmp .ge 11, 3) := by decide +kernel
theorem dX7_readsWords_145 : decode cX7_readsWords 145 = .ok (.iload 5, 2) := by decide +kernel
theorem dX7_readsWords_147 : decode cX7_readsWords 147 = .ok (.iload 6, 2) := by decide +kernel
theorem dX7_readsWords_149 : decode cX7_readsWords 149 = .ok (.ishl, 1) := by decide +kernel
theorem dX7_readsWords_150 : decode cX7_readsWords 150 = .ok (.goto 4, 3) := by decide +kernel
theorem dX7_readsWords_153 : decode cX7_readsWords 153 = .ok (.iconst 0, 1) := by decide +kernel
theorem dX7_readsWords_154 : decode cX7_readsWords 154 = .ok (.ior, 1) := by decide +kernel
theorem dX7_readsWords_155 : decode cX7_readsWords 155 = .ok (.iastore, 1) := by decide +kernel
theorem dX7_readsWords_156 : decode cX7_readsWords 156 = .ok (.aload_n 0, 1) := by decide +kernel
theorem dX7_readsWords_157 : decode cX7_readsWords 157 = .ok (.getfield 88, 3) := by decide +kernel
theorem dX7_readsWords_160 : decode cX7_readsWords 160 = .ok (.iload 4, 2) := by decide +kernel
theorem dX7_readsWords_162 : decode cX7_readsWords 162 = .ok (.iload_n 2, 1) := by decide +kernel
theorem dX7_readsWords_163 : decode cX7_readsWords 163 = .ok (.idiv, 1) := by decide +kernel
theorem dX7_readsWords_164 : decode cX7_readsWords 164 = .ok (.dup2, 1) := by decide +kernel
theorem dX7_readsWords_165 : decode cX7_readsWords 165 = .ok (.iaload, 1) := by decide +kernel
theorem dX7_readsWords_166 : decode cX7_readsWords 166 = .ok (.iload 6, 2) := by decide +kernel
theorem dX7_readsWords_168 : decode cX7_readsWords 168 = .ok (.iconst 3, 1) := by decide +kernel
theorem dX7_readsWords_169 : decode cX7_readsWords 169 = .ok (.if_icmp .ge 7, 3) := by decide +kernel
theorem dX7_readsWords_172 : decode cX7_readsWords 172 = .ok (.iconst 0, 1) := by decide +kernel
theorem dX7_readsWords_173 : decode cX7_readsWords 173 = .ok (.goto 10, 3) := by decide +kernel
theorem dX7_readsWords_176 : decode cX7_readsWords 176 = .ok (.iload 5, 2) := by decide +kernel
theorem dX7_readsWords_178 : decode cX7_readsWords 178 = .ok (.iload 6, 2) := by decide +kernel
theorem dX7_readsWords_180 : decode cX7_readsWords 180 = .ok (.iconst 3, 1) := by decide +kernel
theorem dX7_readsWords_181 : decode cX7_readsWords 181 = .ok (.isub, 1) := by decide +kernel
theorem dX7_readsWords_182 : decode cX7_readsWords 182 = .ok (.ishl, 1) := by decide +kernel
theorem dX7_readsWords_183 : decode cX7_readsWords 183 = .ok (.ior, 1) := by decide +kernel
theorem dX7_readsWords_184 : decode cX7_readsWords 184 = .ok (.iastore, 1) := by decide +kernel
theorem dX7_readsWords_185 : decode cX7_readsWords 185 = .ok (.iinc 4 1, 3) := by decide +kernel
theorem dX7_readsWords_188 : decode cX7_readsWords 188 = .ok (.goto (-126), 3) := by decide +kernel
theorem dX7_readsWords_191 : decode cX7_readsWords 191 = .ok (.iconst 1, 1) := by decide +kernel
theorem dX7_readsWords_192 : decode cX7_readsWords 192 = .ok (.ireturn, 1) := by decide +kernel
theorem dX7_sets_0 : decode cX7_sets 0 = .ok (.aload_n 0, 1) := by decide +kernel
theorem dX7_sets_1 : decode cX7_sets 1 = .ok (.iconst 0, 1) := by decide +kernel
theorem dX7_sets_2 : decode cX7_sets 2 = .ok (.putfield 1, 3) := by decide +kernel
theorem dX7_sets_5 : decode cX7_sets 5 = .ok (.aload_n 0, 1) := by decide +kernel
theorem dX7_sets_6 : decode cX7_sets 6 = .ok (.iload_n 1, 1) := by decide +kernel
theorem dX7_sets_7 : decode cX7_sets 7 = .ok (.iload_n 2, 1) := by decide +kernel
theorem dX7_sets_8 : decode cX7_sets 8 = .ok (.invokevirtual 214, 3) := by decide +kernel
theorem dX7_sets_11 : decode cX7_sets 11 = .ok (.ifCond .ne 5, 3) := by decide +kernel
theorem dX7_sets_14 : decode cX7_sets 14 = .ok (.iconst (-1), 1) := by decide +kernel
theorem dX7_sets_15 : decode cX7_sets 15 = .ok (.ireturn, 1) := by decide +kernel
theorem dX7_sets_16 : decode cX7_sets 16 = .ok (.aload_n 0, 1) := by decide +kernel
theorem dX7_sets_17 : decode cX7_sets 17 = .ok (.iload_n 1, 1) := by decide +kernel
theorem dX7_sets_18 : decode cX7_sets 18 = .ok (.invokevirtual 162, 3) := by decide +kernel
theorem dX7_sets_21 : decode cX7_sets 21 = .ok (.iload_n 3, 1) := by decide +kernel
theorem dX7_sets_22 : decode cX7_sets 22 = .ok (.i2l, 1) := by decide +kernel
theorem dX7_sets_23 : decode cX7_sets 23 = .ok (.bipush 32, 2) := by decide +kernel
theorem dX7_sets_25 : decode cX7_sets 25 = .ok (.lshl, 1) := by decide +kernel
theorem dX7_sets_26 : decode cX7_sets 26 = .ok (.iload 4, 2) := by decide +kernel
theorem dX7_sets_28 : decode cX7_sets 28 = .ok (.i2l, 1) := by decide +kernel
theorem dX7_sets_29 : decode cX7_sets 29 = .ok (.ldc2_w 224, 3) := by decide +kernel
theorem dX7_sets_32 : decode cX7_sets 32 = .ok (.land, 1) := by decide +kernel
theorem dX7_sets_33 : decode cX7_sets 33 = .ok (.lor, 1) := by decide +kernel
theorem dX7_sets_34 : decode cX7_sets 34 = .ok (.lstore 5, 2) := by decide +kernel
theorem dX7_sets_36 : decode cX7_sets 36 = .ok (.aload_n 0, 1) := by decide +kernel
theorem dX7_sets_37 : decode cX7_sets 37 = .ok (.iload_n 1, 1) := by decide +kernel
theorem dX7_sets_38 : decode cX7_sets 38 = .ok (.iload_n 2, 1) := by decide +kernel
theorem dX7_sets_39 : decode cX7_sets 39 = .ok (.invokevirtual 217, 3) := by decide +kernel
theorem dX7_sets_42 : decode cX7_sets 42 = .ok (.lload 5, 2) := by decide +kernel
theorem dX7_sets_44 : decode cX7_sets 44 = .ok (.lcmp, 1) := by decide +kernel
theorem dX7_sets_45 : decode cX7_sets 45 = .ok (.ifCond .ne 6, 3) := by decide +kernel
theorem dX7_sets_48 : decode cX7_sets 48 = .ok (.bipush (-2), 2) := by decide +kernel
theorem dX7_sets_50 : decode cX7_sets 50 = .ok (.ireturn, 1) := by decide +kernel
theorem dX7_sets_51 : decode cX7_sets 51 = .ok (.iconst 0, 1) := by decide +kernel
theorem dX7_sets_52 : decode cX7_sets 52 = .ok (.istore 7, 2) := by decide +kernel
theorem dX7_sets_54 : decode cX7_sets 54 = .ok (.aload_n 0, 1) := by decide +kernel
theorem dX7_sets_55 : decode cX7_sets 55 = .ok (.iload_n 1, 1) := by decide +kernel
theorem dX7_sets_56 : decode cX7_sets 56 = .ok (.iload 7, 2) := by decide +kernel
theorem dX7_sets_58 : decode cX7_sets 58 = .ok (.invokevirtual 214, 3) := by decide +kernel
theorem dX7_sets_61 : decode cX7_sets 61 = .ok (.ifCond .eq 34, 3) := by decide +kernel
theorem dX7_sets_64 : decode cX7_sets 64 = .ok (.aload_n 0, 1) := by decide +kernel
theorem dX7_sets_65 : decode cX7_sets 65 = .ok (.getfield 82, 3) := by decide +kernel
theorem dX7_sets_68 : decode cX7_sets 68 = .ok (.iload 7, 2) := by decide +kernel
theorem dX7_sets_70 : decode cX7_sets 70 = .ok (.iload 7, 2) := by decide +kernel
theorem dX7_sets_72 : decode cX7_sets 72 = .ok (.iload_n 2, 1) := by decide +kernel
theorem dX7_sets_73 : decode cX7_sets 73 = .ok (.if_icmp .ne 8, 3) := by decide +kernel
theorem dX7_sets_76 : decode cX7_sets 76 = .ok (.lload 5, 2) := by decide +kernel
theorem dX7_sets_78 : decode cX7_sets 78 = .ok (.goto 10, 3) := by decide +kernel
theorem dX7_sets_81 : decode cX7_sets 81 = .ok (.aload_n 0, 1) := by decide +kernel
theorem dX7_sets_82 : decode cX7_sets 82 = .ok (.iload_n 1, 1) := by decide +kernel
theorem dX7_sets_83 : decode cX7_sets 83 = .ok (.iload 7, 2) := by decide +kernel
theorem dX7_sets_85 : decode cX7_sets 85 = .ok (.invokevirtual 217, 3) := by decide +kernel
theorem dX7_sets_88 : decode cX7_sets 88 = .ok (.lastore, 1) := by decide +kernel
theorem dX7_sets_89 : decode cX7_sets 89 = .ok (.iinc 7 1, 3) := by decide +kernel
theorem dX7_sets_92 : decode cX7_sets 92 = .ok (.goto (-38), 3) := by decide +kernel
theorem dX7_sets_95 : decode cX7_sets 95 = .ok (.aload_n 0, 1) := by decide +kernel
theorem dX7_sets_96 : decode cX7_sets 96 = .ok (.iload_n 1, 1) := by decide +kernel
theorem dX7_sets_97 : decode cX7_sets 97 = .ok (.invokevirtual 226, 3) := by decide +kernel
theorem dX7_sets_100 : decode cX7_sets 100 = .ok (.ifCond .eq 11, 3) := by decide +kernel
theorem dX7_sets_103 : decode cX7_sets 103 = .ok (.aload_n 0, 1) := by decide +kernel
theorem dX7_sets_104 : decode cX7_sets 104 = .ok (.iload_n 1, 1) := by decide +kernel
theorem dX7_sets_105 : decode cX7_sets 105 = .ok (.invokevirtual 229, 3) := by decide +kernel
theorem dX7_sets_108 : decode cX7_sets 108 = .ok (.goto 6, 3) := by decide +kernel
theorem dX7_sets_111 : decode cX7_sets 111 = .ok (.sipush (-300), 3) := by decide +kernel
theorem dX7_sets_114 : decode cX7_sets 114 = .ok (.ireturn, 1) := by decide +kernel
theorem dX7_readsSlot_0 : decode cX7_readsSlot 0 = .ok (.aload_n 0, 1) := by decide +kernel
theorem dX7_readsSlot_1 : decode cX7_readsSlot 1 = .ok (.getfield 85, 3) := by decide +kernel
theorem dX7_readsSlot_4 : decode cX7_readsSlot 4 = .ok (.iload_n 1, 1) := by decide +kernel
theorem dX7_readsSlot_5 : decode cX7_readsSlot 5 = .ok (.aload_n 0, 1) := by decide +kernel
theorem dX7_readsSlot_6 : decode cX7_readsSlot 6 = .ok (.ldc 232, 2) := by decide +kernel
theorem dX7_readsSlot_8 : decode cX7_readsSlot 8 = .ok (.invokevirtual 181, 3) := by decide +kernel
theorem dX7_readsSlot_11 : decode cX7_readsSlot 11 = .ok (.iastore, 1) := by decide +kernel
theorem dX7_readsSlot_12 : decode cX7_readsSlot 12 = .ok (.aload_n 0, 1) := by decide +kernel
theorem dX7_readsSlot_13 : decode cX7_readsSlot 13 = .ok (.getfield 85, 3) := by decide +kernel
theorem dX7_readsSlot_16 : decode cX7_readsSlot 16 = .ok (.iload_n 1, 1) := by decide +kernel
theorem dX7_readsSlot_17 : decode cX7_readsSlot 17 = .ok (.iaload, 1) := by decide +kernel
theorem dX7_readsSlot_18 : decode cX7_readsSlot 18 = .ok (.ifCond .ge 7, 3) := by decide +kernel
theorem dX7_readsSlot_21 : decode cX7_readsSlot 21 = .ok (.iconst (-1), 1) := by decide +kernel
theorem dX7_readsSlot_22 : decode cX7_readsSlot 22 = .ok (.goto 4, 3) := by decide +kernel
theorem dX7_readsSlot_25 : decode cX7_readsSlot 25 = .ok (.iconst 0, 1) := by decide +kernel
theorem dX7_readsSlot_26 : decode cX7_readsSlot 26 = .ok (.istore_n 2, 1) := by decide +kernel
theorem dX7_readsSlot_27 : decode cX7_readsSlot 27 = .ok (.iconst 0, 1) := by decide +kernel
theorem dX7_readsSlot_28 : decode cX7_readsSlot 28 = .ok (.istore_n 3, 1) := by decide +kernel
theorem dX7_readsSlot_29 : decode cX7_readsSlot 29 = .ok (.iload_n 3, 1) := by decide +kernel
theorem dX7_readsSlot_30 : decode cX7_readsSlot 30 = .ok (.iconst 3, 1) := by decide +kernel
theorem dX7_readsSlot_31 : decode cX7_readsSlot 31 = .ok (.if_icmp .ge 38, 3) := by decide +kernel
theorem dX7_readsSlot_34 : decode cX7_readsSlot 34 = .ok (.iload_n 2, 1) := by decide +kernel
theorem dX7_readsSlot_35 : decode cX7_readsSlot 35 = .ok (.ifCond .lt 34, 3) := by decide +kernel
theorem dX7_readsSlot_38 : decode cX7_readsSlot 38 = .ok (.aload_n 0, 1) := by decide +kernel
theorem dX7_readsSlot_39 : decode cX7_readsSlot 39 = .ok (.ldc 234, 2) := by decide +kernel
theorem dX7_readsSlot_41 : decode cX7_readsSlot 41 = .ok (.invokevirtual 181, 3) := by decide +kernel
theorem dX7_readsSlot_44 : decode cX7_readsSlot 44 = .ok (.istore 4, 2) := by decide +kernel
theorem dX7_readsSlot_46 : decode cX7_readsSlot 46 = .ok (.iload 4, 2) := by decide +kernel
theorem dX7_readsSlot_48 : decode cX7_readsSlot 48 = .ok (.ifCond .ge 7, 3) := by decide +kernel
theorem dX7_readsSlot_51 : decode cX7_readsSlot 51 = .ok (.iconst (-1), 1) := by decide +kernel
theorem dX7_readsSlot_52 : decode cX7_readsSlot 52 = .ok (.goto 10, 3) := by decide +kernel
theorem dX7_readsSlot_55 : decode cX7_readsSlot 55 = .ok (.bipush 16, 2) := by decide +kernel
theorem dX7_readsSlot_57 : decode cX7_readsSlot 57 = .ok (.iload_n 2, 1) := by decide +kernel
theorem dX7_readsSlot_58 : decode cX7_readsSlot 58 = .ok (.imul, 1) := by decide +kernel
theorem dX7_readsSlot_59 : decode cX7_readsSlot 59 = .ok (.iload 4, 2) := by decide +kernel
theorem dX7_readsSlot_61 : decode cX7_readsSlot 61 = .ok (.iadd, 1) := by decide +kernel
theorem dX7_readsSlot_62 : decode cX7_readsSlot 62 = .ok (.istore_n 2, 1) := by decide +kernel
theorem dX7_readsSlot_63 : decode cX7_readsSlot 63 = .ok (.iinc 3 1, 3) := by decide +kernel
theorem dX7_readsSlot_66 : decode cX7_readsSlot 66 = .ok (.goto (-37), 3) := by decide +kernel
theorem dX7_readsSlot_69 : decode cX7_readsSlot 69 = .ok (.iload_n 2, 1) := by decide +kernel
theorem dX7_readsSlot_70 : decode cX7_readsSlot 70 = .ok (.iconst 1, 1) := by decide +kernel
theorem dX7_readsSlot_71 : decode cX7_readsSlot 71 = .ok (.aload_n 0, 1) := by decide +kernel
theorem dX7_readsSlot_72 : decode cX7_readsSlot 72 = .ok (.getfield 47, 3) := by decide +kernel
theorem dX7_readsSlot_75 : decode cX7_readsSlot 75 = .ok (.aload_n 0, 1) := by decide +kernel
theorem dX7_readsSlot_76 : decode cX7_readsSlot 76 = .ok (.getfield 221, 3) := by decide +kernel
theorem dX7_readsSlot_79 : decode cX7_readsSlot 79 = .ok (.isub, 1) := by decide +kernel
theorem dX7_readsSlot_80 : decode cX7_readsSlot 80 = .ok (.ishl, 1) := by decide +kernel
theorem dX7_readsSlot_81 : decode cX7_readsSlot 81 = .ok (.if_icmp .lt 15, 3) := by decide +kernel
theorem dX7_readsSlot_84 : decode cX7_readsSlot 84 = .ok (.aload_n 0, 1) := by decide +kernel
theorem dX7_readsSlot_85 : decode cX7_readsSlot 85 = .ok (.dup, 1) := by decide +kernel
theorem dX7_readsSlot_86 : decode cX7_readsSlot 86 = .ok (.getfield 28, 3) := by decide +kernel
theorem dX7_readsSlot_89 : decode cX7_readsSlot 89 = .ok (.iconst 1, 1) := by decide +kernel
theorem dX7_readsSlot_90 : decode cX7_readsSlot 90 = .ok (.isub, 1) := by decide +kernel
theorem dX7_readsSlot_91 : decode cX7_readsSlot 91 = .ok (.putfield 28, 3) := by decide +kernel
theorem dX7_readsSlot_94 : decode cX7_readsSlot 94 = .ok (.iconst 0, 1) := by decide +kernel
theorem dX7_readsSlot_95 : decode cX7_readsSlot 95 = .ok (.ireturn, 1) := by decide +kernel
theorem dX7_readsSlot_96 : decode cX7_readsSlot 96 = .ok (.aload_n 0, 1) := by decide +kernel
theorem dX7_readsSlot_97 : decode cX7_readsSlot 97 = .ok (.getfield 88, 3) := by decide +kernel
theorem dX7_readsSlot_100 : decode cX7_readsSlot 100 = .ok (.iload_n 1, 1) := by decide +kernel
theorem dX7_readsSlot_101 : decode cX7_readsSlot 101 = .ok (.iload_n 2, 1) := by decide +kernel
theorem dX7_readsSlot_102 : decode cX7_readsSlot 102 = .ok (.iastore, 1) := by decide +kernel
theorem dX7_readsSlot_103 : decode cX7_readsSlot 103 = .ok (.iload_n 2, 1) := by decide +kernel
theorem dX7_readsSlot_104 : decode cX7_readsSlot 104 = .ok (.ifCond .lt 7, 3) := by decide +kernel
theorem dX7_readsSlot_107 : decode cX7_readsSlot 107 = .ok (.iconst 1, 1) := by decide +kernel
theorem dX7_readsSlot_108 : decode cX7_readsSlot 108 = .ok (.goto 4, 3) := by decide +kernel
theorem dX7_readsSlot_111 : decode cX7_readsSlot 111 = .ok (.iconst 0, 1) := by decide +kernel
theorem dX7_readsSlot_112 : decode cX7_readsSlot 112 = .ok (.ireturn, 1) := by decide +kernel
theorem dX7_readsFile_0 : decode cX7_readsFile 0 = .ok (.aload_n 0, 1) := by decide +kernel
theorem dX7_readsFile_1 : decode cX7_readsFile 1 = .ok (.aload_n 0, 1) := by decide +kernel
theorem dX7_readsFile_2 : decode cX7_readsFile 2 = .ok (.ldc 236, 2) := by decide +kernel
theorem dX7_readsFile_4 : decode cX7_readsFile 4 = .ok (.invokevirtual 181, 3) := by decide +kernel
theorem dX7_readsFile_7 : decode cX7_readsFile 7 = .ok (.iconst 3, 1) := by decide +kernel
theorem dX7_readsFile_8 : decode cX7_readsFile 8 = .ok (.iadd, 1) := by decide +kernel
theorem dX7_readsFile_9 : decode cX7_readsFile 9 = .ok (.putfield 221, 3) := by decide +kernel
theorem dX7_readsFile_12 : decode cX7_readsFile 12 = .ok (.aload_n 0, 1) := by decide +kernel
theorem dX7_readsFile_13 : decode cX7_readsFile 13 = .ok (.getfield 221, 3) := by decide +kernel
theorem dX7_readsFile_16 : decode cX7_readsFile 16 = .ok (.iconst 3, 1) := by decide +kernel
theorem dX7_readsFile_17 : decode cX7_readsFile 17 = .ok (.if_icmp .ge 5, 3) := by decide +kernel
theorem dX7_readsFile_20 : decode cX7_readsFile 20 = .ok (.iconst 0, 1) := by decide +kernel
theorem dX7_readsFile_21 : decode cX7_readsFile 21 = .ok (.ireturn, 1) := by decide +kernel
theorem dX7_readsFile_22 : decode cX7_readsFile 22 = .ok (.iconst 0, 1) := by decide +kernel
theorem dX7_readsFile_23 : decode cX7_readsFile 23 = .ok (.istore_n 1, 1) := by decide +kernel
theorem dX7_readsFile_24 : decode cX7_readsFile 24 = .ok (.iload_n 1, 1) := by decide +kernel
theorem dX7_readsFile_25 : decode cX7_readsFile 25 = .ok (.iconst 1, 1) := by decide +kernel
theorem dX7_readsFile_26 : decode cX7_readsFile 26 = .ok (.aload_n 0, 1) := by decide +kernel
theorem dX7_readsFile_27 : decode cX7_readsFile 27 = .ok (.getfield 221, 3) := by decide +kernel
theorem dX7_readsFile_30 : decode cX7_readsFile 30 = .ok (.ishl, 1) := by decide +kernel
theorem dX7_readsFile_31 : decode cX7_readsFile 31 = .ok (.if_icmp .ge 19, 3) := by decide +kernel
theorem dX7_readsFile_34 : decode cX7_readsFile 34 = .ok (.aload_n 0, 1) := by decide +kernel
theorem dX7_readsFile_35 : decode cX7_readsFile 35 = .ok (.iload_n 1, 1) := by decide +kernel
theorem dX7_readsFile_36 : decode cX7_readsFile 36 = .ok (.invokevirtual 238, 3) := by decide +kernel
theorem dX7_readsFile_39 : decode cX7_readsFile 39 = .ok (.ifCond .ne 5, 3) := by decide +kernel
theorem dX7_readsFile_42 : decode cX7_readsFile 42 = .ok (.iconst 0, 1) := by decide +kernel
theorem dX7_readsFile_43 : decode cX7_readsFile 43 = .ok (.ireturn, 1) := by decide +kernel
theorem dX7_readsFile_44 : decode cX7_readsFile 44 = .ok (.iinc 1 1, 3) := by decide +kernel
theorem dX7_readsFile_47 : decode cX7_readsFile 47 = .ok (.goto (-23), 3) := by decide +kernel
theorem dX7_readsFile_50 : decode cX7_readsFile 50 = .ok (.aload_n 0, 1) := by decide +kernel
theorem dX7_readsFile_51 : decode cX7_readsFile 51 = .ok (.getfield 28, 3) := by decide +kernel
theorem dX7_readsFile_54 : decode cX7_readsFile 54 = .ok (.aload_n 0, 1) := by decide +kernel
theorem dX7_readsFile_55 : decode cX7_readsFile 55 = .ok (.getfield 25, 3) := by decide +kernel
theorem dX7_readsFile_58 : decode cX7_readsFile 58 = .ok (.if_icmp .ne 7, 3) := by decide +kernel
theorem dX7_readsFile_61 : decode cX7_readsFile 61 = .ok (.iconst 1, 1) := by decide +kernel
theorem dX7_readsFile_62 : decode cX7_readsFile 62 = .ok (.goto 4, 3) := by decide +kernel
theorem dX7_readsFile_65 : decode cX7_readsFile 65 = .ok (.iconst 0, 1) := by decide +kernel
theorem dX7_readsFile_66 : decode cX7_readsFile 66 = .ok (.ireturn, 1) := by decide +kernel
theorem dX7_saves_0 : decode cX7_saves 0 = .ok (.aload_n 0, 1) := by decide +kernel
theorem dX7_saves_1 : decode cX7_saves 1 = .ok (.aload_n 0, 1) := by decide +kernel
theorem dX7_saves_2 : decode cX7_saves 2 = .ok (.getfield 60, 3) := by decide +kernel
theorem dX7_saves_5 : decode cX7_saves 5 = .ok (.iload_n 1, 1) := by decide +kernel
theorem dX7_saves_6 : decode cX7_saves 6 = .ok (.iaload, 1) := by decide +kernel
theorem dX7_saves_7 : decode cX7_saves 7 = .ok (.putfield 241, 3) := by decide +kernel
theorem dX7_saves_10 : decode cX7_saves 10 = .ok (.aload_n 0, 1) := by decide +kernel
theorem dX7_saves_11 : decode cX7_saves 11 = .ok (.aload_n 0, 1) := by decide +kernel
theorem dX7_saves_12 : decode cX7_saves 12 = .ok (.getfield 57, 3) := by decide +kernel
theorem dX7_saves_15 : decode cX7_saves 15 = .ok (.iload_n 1, 1) := by decide +kernel
theorem dX7_saves_16 : decode cX7_saves 16 = .ok (.iaload, 1) := by decide +kernel
theorem dX7_saves_17 : decode cX7_saves 17 = .ok (.putfield 244, 3) := by decide +kernel
theorem dX7_saves_20 : decode cX7_saves 20 = .ok (.iconst 0, 1) := by decide +kernel
theorem dX7_saves_21 : decode cX7_saves 21 = .ok (.istore_n 2, 1) := by decide +kernel
theorem dX7_saves_22 : decode cX7_saves 22 = .ok (.iload_n 2, 1) := by decide +kernel
theorem dX7_saves_23 : decode cX7_saves 23 = .ok (.aload_n 0, 1) := by decide +kernel
theorem dX7_saves_24 : decode cX7_saves 24 = .ok (.getfield 241, 3) := by decide +kernel
theorem dX7_saves_27 : decode cX7_saves 27 = .ok (.if_icmp .ge 21, 3) := by decide +kernel
theorem dX7_saves_30 : decode cX7_saves 30 = .ok (.aload_n 0, 1) := by decide +kernel
theorem dX7_saves_31 : decode cX7_saves 31 = .ok (.getfield 91, 3) := by decide +kernel
theorem dX7_saves_34 : decode cX7_saves 34 = .ok (.iload_n 2, 1) := by decide +kernel
theorem dX7_saves_35 : decode cX7_saves 35 = .ok (.aload_n 0, 1) := by decide +kernel
theorem dX7_saves_36 : decode cX7_saves 36 = .ok (.iload_n 1, 1) := by decide +kernel
theorem dX7_saves_37 : decode cX7_saves 37 = .ok (.iload_n 2, 1) := by decide +kernel
theorem dX7_saves_38 : decode cX7_saves 38 = .ok (.invokevirtual 106, 3) := by decide +kernel
theorem dX7_saves_41 : decode cX7_saves 41 = .ok (.iastore, 1) := by decide +kernel
theorem dX7_saves_42 : decode cX7_saves 42 = .ok (.iinc 2 1, 3) := by decide +kernel
theorem dX7_saves_45 : decode cX7_saves 45 = .ok (.goto (-23), 3) := by decide +kernel
theorem dX7_saves_48 : decode cX7_saves 48 = .ok (.return_, 1) := by decide +kernel
theorem dX7_comesBack_0 : decode cX7_comesBack 0 = .ok (.aload_n 0, 1) := by decide +kernel
theorem dX7_comesBack_1 : decode cX7_comesBack 1 = .ok (.getfield 60, 3) := by decide +kernel
theorem dX7_comesBack_4 : decode cX7_comesBack 4 = .ok (.iload_n 1, 1) := by decide +kernel
theorem dX7_comesBack_5 : decode cX7_comesBack 5 = .ok (.aload_n 0, 1) := by decide +kernel
theorem dX7_comesBack_6 : decode cX7_comesBack 6 = .ok (.getfield 241, 3) := by decide +kernel
theorem dX7_comesBack_9 : decode cX7_comesBack 9 = .ok (.iastore, 1) := by decide +kernel
theorem dX7_comesBack_10 : decode cX7_comesBack 10 = .ok (.aload_n 0, 1) := by decide +kernel
theorem dX7_comesBack_11 : decode cX7_comesBack 11 = .ok (.getfield 57, 3) := by decide +kernel
theorem dX7_comesBack_14 : decode cX7_comesBack 14 = .ok (.iload_n 1, 1) := by decide +kernel
theorem dX7_comesBack_15 : decode cX7_comesBack 15 = .ok (.aload_n 0, 1) := by decide +kernel
theorem dX7_comesBack_16 : decode cX7_comesBack 16 = .ok (.getfield 244, 3) := by decide +kernel
theorem dX7_comesBack_19 : decode cX7_comesBack 19 = .ok (.iastore, 1) := by decide +kernel
theorem dX7_comesBack_20 : decode cX7_comesBack 20 = .ok (.iconst 0, 1) := by decide +kernel
theorem dX7_comesBack_21 : decode cX7_comesBack 21 = .ok (.istore_n 2, 1) := by decide +kernel
theorem dX7_comesBack_22 : decode cX7_comesBack 22 = .ok (.iload_n 2, 1) := by decide +kernel
theorem dX7_comesBack_23 : decode cX7_comesBack 23 = .ok (.aload_n 0, 1) := by decide +kernel
theorem dX7_comesBack_24 : decode cX7_comesBack 24 = .ok (.getfield 241, 3) := by decide +kernel
theorem dX7_comesBack_27 : decode cX7_comesBack 27 = .ok (.if_icmp .ge 26, 3) := by decide +kernel
theorem dX7_comesBack_30 : decode cX7_comesBack 30 = .ok (.aload_n 0, 1) := by decide +kernel
theorem dX7_comesBack_31 : decode cX7_comesBack 31 = .ok (.getfield 63, 3) := by decide +kernel
theorem dX7_comesBack_34 : decode cX7_comesBack 34 = .ok (.bipush 64, 2) := by decide +kernel
theorem dX7_comesBack_36 : decode cX7_comesBack 36 = .ok (.iload_n 1, 1) := by decide +kernel
theorem dX7_comesBack_37 : decode cX7_comesBack 37 = .ok (.imul, 1) := by decide +kernel
theorem dX7_comesBack_38 : decode cX7_comesBack 38 = .ok (.iload_n 2, 1) := by decide +kernel
theorem dX7_comesBack_39 : decode cX7_comesBack 39 = .ok (.iadd, 1) := by decide +kernel
theorem dX7_comesBack_40 : decode cX7_comesBack 40 = .ok (.aload_n 0, 1) := by decide +kernel
theorem dX7_comesBack_41 : decode cX7_comesBack 41 = .ok (.getfield 91, 3) := by decide +kernel
theorem dX7_comesBack_44 : decode cX7_comesBack 44 = .ok (.iload_n 2, 1) := by decide +kernel
theorem dX7_comesBack_45 : decode cX7_comesBack 45 = .ok (.iaload, 1) := by decide +kernel
theorem dX7_comesBack_46 : decode cX7_comesBack 46 = .ok (.iastore, 1) := by decide +kernel
theorem dX7_comesBack_47 : decode cX7_comesBack 47 = .ok (.iinc 2 1, 3) := by decide +kernel
theorem dX7_comesBack_50 : decode cX7_comesBack 50 = .ok (.goto (-28), 3) := by decide +kernel
theorem dX7_comesBack_53 : decode cX7_comesBack 53 = .ok (.return_, 1) := by decide +kernel
theorem dX7_takesCluster_0 : decode cX7_takesCluster 0 = .ok (.iconst 1, 1) := by decide +kernel
theorem dX7_takesCluster_1 : decode cX7_takesCluster 1 = .ok (.aload_n 0, 1) := by decide +kernel
theorem dX7_takesCluster_2 : decode cX7_takesCluster 2 = .ok (.getfield 221, 3) := by decide +kernel
theorem dX7_takesCluster_5 : decode cX7_takesCluster 5 = .ok (.ishl, 1) := by decide +kernel
theorem dX7_takesCluster_6 : decode cX7_takesCluster 6 = .ok (.istore_n 3, 1) := by decide +kernel
theorem dX7_takesCluster_7 : decode cX7_takesCluster 7 = .ok (.iconst 0, 1) := by decide +kernel
theorem dX7_takesCluster_8 : decode cX7_takesCluster 8 = .ok (.istore 4, 2) := by decide +kernel
theorem dX7_takesCluster_10 : decode cX7_takesCluster 10 = .ok (.iconst 0, 1) := by decide +kernel
theorem dX7_takesCluster_11 : decode cX7_takesCluster 11 = .ok (.istore 5, 2) := by decide +kernel
theorem dX7_takesCluster_13 : decode cX7_takesCluster 13 = .ok (.iconst (-1), 1) := by decide +kernel
theorem dX7_takesCluster_14 : decode cX7_takesCluster 14 = .ok (.istore 6, 2) := by decide +kernel
theorem dX7_takesCluster_16 : decode cX7_takesCluster 16 = .ok (.iconst 0, 1) := by decide +kernel
theorem dX7_takesCluster_17 : decode cX7_takesCluster 17 = .ok (.istore 7, 2) := by decide +kernel
theorem dX7_takesCluster_19 : decode cX7_takesCluster 19 = .ok (.iload 7, 2) := by decide +kernel
theorem dX7_takesCluster_21 : decode cX7_takesCluster 21 = .ok (.iload_n 3, 1) := by decide +kernel
theorem dX7_takesCluster_22 : decode cX7_takesCluster 22 = .ok (.if_icmp .ge 137, 3) := by decide +kernel
theorem dX7_takesCluster_25 : decode cX7_takesCluster 25 = .ok (.iload_n 2, 1) := by decide +kernel
theorem dX7_takesCluster_26 : decode cX7_takesCluster 26 = .ok (.iload 7, 2) := by decide +kernel
theorem dX7_takesCluster_28 : decode cX7_takesCluster 28 = .ok (.iadd, 1) := by decide +kernel
theorem dX7_takesCluster_29 : decode cX7_takesCluster 29 = .ok (.iload_n 3, 1) := by decide +kernel
theorem dX7_takesCluster_30 : decode cX7_takesCluster 30 = .ok (.irem, 1) := by decide +kernel
theorem dX7_takesCluster_31 : decode cX7_takesCluster 31 = .ok (.istore 8, 2) := by decide +kernel
theorem dX7_takesCluster_33 : decode cX7_takesCluster 33 = .ok (.iload 7, 2) := by decide +kernel
theorem dX7_takesCluster_35 : decode cX7_takesCluster 35 = .ok (.ifCond .le 17, 3) := by decide +kernel
theorem dX7_takesCluster_38 : decode cX7_takesCluster 38 = .ok (.aload_n 0, 1) := by decide +kernel
theorem dX7_takesCluster_39 : decode cX7_takesCluster 39 = .ok (.getfield 85, 3) := by decide +kernel
theorem dX7_takesCluster_42 : decode cX7_takesCluster 42 = .ok (.iload 8, 2) := by decide +kernel
theorem dX7_takesCluster_44 : decode cX7_takesCluster 44 = .ok (.iaload, 1) := by decide +kernel
theorem dX7_takesCluster_45 : decode cX7_takesCluster 45 = .ok (.iconst 4, 1) := by decide +kernel
theorem dX7_takesCluster_46 : decode cX7_takesCluster 46 = .ok (.iand, 1) := by decide +kernel
theorem dX7_takesCluster_47 : decode cX7_takesCluster 47 = .ok (.ifCond .ne 5, 3) := by decide +kernel
theorem dX7_takesCluster_50 : decode cX7_takesCluster 50 = .ok (.iconst 1, 1) := by decide +kernel
theorem dX7_takesCluster_51 : decode cX7_takesCluster 51 = .ok (.ireturn, 1) := by decide +kernel
theorem dX7_takesCluster_52 : decode cX7_takesCluster 52 = .ok (.aload_n 0, 1) := by decide +kernel
theorem dX7_takesCluster_53 : decode cX7_takesCluster 53 = .ok (.getfield 85, 3) := by decide +kernel
theorem dX7_takesCluster_56 : decode cX7_takesCluster 56 = .ok (.iload 8, 2) := by decide +kernel
theorem dX7_takesCluster_58 : decode cX7_takesCluster 58 = .ok (.iaload, 1) := by decide +kernel
theorem dX7_takesCluster_59 : decode cX7_takesCluster 59 = .ok (.iconst 1, 1) := by decide +kernel
theorem dX7_takesCluster_60 : decode cX7_takesCluster 60 = .ok (.iand, 1) := by decide +kernel
theorem dX7_takesCluster_61 : decode cX7_takesCluster 61 = .ok (.ifCond .eq 15, 3) := by decide +kernel
theorem dX7_takesCluster_64 : decode cX7_takesCluster 64 = .ok (.aload_n 0, 1) := by decide +kernel
theorem dX7_takesCluster_65 : decode cX7_takesCluster 65 = .ok (.getfield 94, 3) := by decide +kernel
theorem dX7_takesCluster_68 : decode cX7_takesCluster 68 = .ok (.iload 5, 2) := by decide +kernel
theorem dX7_takesCluster_70 : decode cX7_takesCluster 70 = .ok (.iload 8, 2) := by decide +kernel
theorem dX7_takesCluster_72 : decode cX7_takesCluster 72 = .ok (.iastore, 1) := by decide +kernel
theorem dX7_takesCluster_73 : decode cX7_takesCluster 73 = .ok (.iinc 5 1, 3) := by decide +kernel
theorem dX7_takesCluster_76 : decode cX7_takesCluster 76 = .ok (.aload_n 0, 1) := by decide +kernel
theorem dX7_takesCluster_77 : decode cX7_takesCluster 77 = .ok (.getfield 85, 3) := by decide +kernel
theorem dX7_takesCluster_80 : decode cX7_takesCluster 80 = .ok (.iload 8, 2) := by decide +kernel
theorem dX7_takesCluster_82 : decode cX7_takesCluster 82 = .ok (.iaload, 1) := by decide +kernel
theorem dX7_takesCluster_83 : decode cX7_takesCluster 83 = .ok (.iconst 2, 1) := by decide +kernel
theorem dX7_takesCluster_84 : decode cX7_takesCluster 84 = .ok (.iand, 1) := by decide +kernel
theorem dX7_takesCluster_85 : decode cX7_takesCluster 85 = .ok (.ifCond .ne 24, 3) := by decide +kernel
theorem dX7_takesCluster_88 : decode cX7_takesCluster 88 = .ok (.iload 4, 2) := by decide +kernel
theorem dX7_takesCluster_90 : decode cX7_takesCluster 90 = .ok (.iload 5, 2) := by decide +kernel
theorem dX7_takesCluster_92 : decode cX7_takesCluster 92 = .ok (.if_icmp .ne 5, 3) := by decide +kernel
theorem dX7_takesCluster_95 : decode cX7_takesCluster 95 = .ok (.iconst 0, 1) := by decide +kernel
theorem dX7_takesCluster_96 : decode cX7_takesCluster 96 = .ok (.ireturn, 1) := by decide +kernel
theorem dX7_takesCluster_97 : decode cX7_takesCluster 97 = .ok (.aload_n 0, 1) := by decide +kernel
theorem dX7_takesCluster_98 : decode cX7_takesCluster 98 = .ok (.getfield 94, 3) := by decide +kernel
theorem dX7_takesCluster_101 : decode cX7_takesCluster 101 = .ok (.iload 4, 2) := by decide +kernel
theorem dX7_takesCluster_103 : decode cX7_takesCluster 103 = .ok (.iaload, 1) := by decide +kernel
theorem dX7_takesCluster_104 : decode cX7_takesCluster 104 = .ok (.istore 6, 2) := by decide +kernel
theorem dX7_takesCluster_106 : decode cX7_takesCluster 106 = .ok (.iinc 4 1, 3) := by decide +kernel
theorem dX7_takesCluster_109 : decode cX7_takesCluster 109 = .ok (.iload 6, 2) := by decide +kernel
theorem dX7_takesCluster_111 : decode cX7_takesCluster 111 = .ok (.ifCond .lt 15, 3) := by decide +kernel
theorem dX7_takesCluster_114 : decode cX7_takesCluster 114 = .ok (.aload_n 0, 1) := by decide +kernel
theorem dX7_takesCluster_115 : decode cX7_takesCluster 115 = .ok (.getfield 60, 3) := by decide +kernel
theorem dX7_takesCluster_118 : decode cX7_takesCluster 118 = .ok (.iload_n 1, 1) := by decide +kernel
theorem dX7_takesCluster_119 : decode cX7_takesCluster 119 = .ok (.iaload, 1) := by decide +kernel
theorem dX7_takesCluster_120 : decode cX7_takesCluster 120 = .ok (.iload_n 3, 1) := by decide +kernel
theorem dX7_takesCluster_121 : decode cX7_takesCluster 121 = .ok (.iconst 1, 1) := by decide +kernel
theorem dX7_takesCluster_122 : decode cX7_takesCluster 122 = .ok (.isub, 1) := by decide +kernel
theorem dX7_takesCluster_123 : decode cX7_takesCluster 123 = .ok (.if_icmp .ne 5, 3) := by decide +kernel
theorem dX7_takesCluster_126 : decode cX7_takesCluster 126 = .ok (.iconst 0, 1) := by decide +kernel
theorem dX7_takesCluster_127 : decode cX7_takesCluster 127 = .ok (.ireturn, 1) := by decide +kernel
theorem dX7_takesCluster_128 : decode cX7_takesCluster 128 = .ok (.aload_n 0, 1) := by decide +kernel
theorem dX7_takesCluster_129 : decode cX7_takesCluster 129 = .ok (.iload_n 1, 1) := by decide +kernel
theorem dX7_takesCluster_130 : decode cX7_takesCluster 130 = .ok (.iload 6, 2) := by decide +kernel
theorem dX7_takesCluster_132 : decode cX7_takesCluster 132 = .ok (.aload_n 0, 1) := by decide +kernel
theorem dX7_takesCluster_133 : decode cX7_takesCluster 133 = .ok (.getfield 47, 3) := by decide +kernel
theorem dX7_takesCluster_136 : decode cX7_takesCluster 136 = .ok (.aload_n 0, 1) := by decide +kernel
theorem dX7_takesCluster_137 : decode cX7_takesCluster 137 = .ok (.getfield 221, 3) := by decide +kernel
theorem dX7_takesCluster_140 : decode cX7_takesCluster 140 = .ok (.isub, 1) := by decide +kernel
theorem dX7_takesCluster_141 : decode cX7_takesCluster 141 = .ok (.ishl, 1) := by decide +kernel
theorem dX7_takesCluster_142 : decode cX7_takesCluster 142 = .ok (.aload_n 0, 1) := by decide +kernel
theorem dX7_takesCluster_143 : decode cX7_takesCluster 143 = .ok (.getfield 88, 3) := by decide +kernel
theorem dX7_takesCluster_146 : decode cX7_takesCluster 146 = .ok (.iload 8, 2) := by decide +kernel
theorem dX7_takesCluster_148 : decode cX7_takesCluster 148 = .ok (.iaload, 1) := by decide +kernel
theorem dX7_takesCluster_149 : decode cX7_takesCluster 149 = .ok (.ior, 1) := by decide +kernel
theorem dX7_takesCluster_150 : decode cX7_takesCluster 150 = .ok (.invokevirtual 155, 3) := by decide +kernel
theorem dX7_takesCluster_153 : decode cX7_takesCluster 153 = .ok (.iinc 7 1, 3) := by decide +kernel
theorem dX7_takesCluster_156 : decode cX7_takesCluster 156 = .ok (.goto (-137), 3) := by decide +kernel
theorem dX7_takesCluster_159 : decode cX7_takesCluster 159 = .ok (.iconst 1, 1) := by decide +kernel
theorem dX7_takesCluster_160 : decode cX7_takesCluster 160 = .ok (.ireturn, 1) := by decide +kernel
theorem dX7_isAsTold_0 : decode cX7_isAsTold 0 = .ok (.aload_n 0, 1) := by decide +kernel
theorem dX7_isAsTold_1 : decode cX7_isAsTold 1 = .ok (.iload_n 1, 1) := by decide +kernel
theorem dX7_isAsTold_2 : decode cX7_isAsTold 2 = .ok (.invokevirtual 162, 3) := by decide +kernel
theorem dX7_isAsTold_5 : decode cX7_isAsTold 5 = .ok (.iconst 0, 1) := by decide +kernel
theorem dX7_isAsTold_6 : decode cX7_isAsTold 6 = .ok (.istore_n 2, 1) := by decide +kernel
theorem dX7_isAsTold_7 : decode cX7_isAsTold 7 = .ok (.iload_n 2, 1) := by decide +kernel
theorem dX7_isAsTold_8 : decode cX7_isAsTold 8 = .ok (.aload_n 0, 1) := by decide +kernel
theorem dX7_isAsTold_9 : decode cX7_isAsTold 9 = .ok (.iload_n 1, 1) := by decide +kernel
theorem dX7_isAsTold_10 : decode cX7_isAsTold 10 = .ok (.invokevirtual 121, 3) := by decide +kernel
theorem dX7_isAsTold_13 : decode cX7_isAsTold 13 = .ok (.if_icmp .ge 66, 3) := by decide +kernel
theorem dX7_isAsTold_16 : decode cX7_isAsTold 16 = .ok (.aload_n 0, 1) := by decide +kernel
theorem dX7_isAsTold_17 : decode cX7_isAsTold 17 = .ok (.getfield 69, 3) := by decide +kernel
theorem dX7_isAsTold_20 : decode cX7_isAsTold 20 = .ok (.iload_n 2, 1) := by decide +kernel
theorem dX7_isAsTold_21 : decode cX7_isAsTold 21 = .ok (.iaload, 1) := by decide +kernel
theorem dX7_isAsTold_22 : decode cX7_isAsTold 22 = .ok (.ifCond .ge 7, 3) := by decide +kernel
theorem dX7_isAsTold_25 : decode cX7_isAsTold 25 = .ok (.iconst 0, 1) := by decide +kernel
theorem dX7_isAsTold_26 : decode cX7_isAsTold 26 = .ok (.goto 19, 3) := by decide +kernel
theorem dX7_isAsTold_29 : decode cX7_isAsTold 29 = .ok (.aload_n 0, 1) := by decide +kernel
theorem dX7_isAsTold_30 : decode cX7_isAsTold 30 = .ok (.iload_n 1, 1) := by decide +kernel
theorem dX7_isAsTold_31 : decode cX7_isAsTold 31 = .ok (.aload_n 0, 1) := by decide +kernel
theorem dX7_isAsTold_32 : decode cX7_isAsTold 32 = .ok (.iload_n 1, 1) := by decide +kernel
theorem dX7_isAsTold_33 : decode cX7_isAsTold 33 = .ok (.aload_n 0, 1) := by decide +kernel
theorem dX7_isAsTold_34 : decode cX7_isAsTold 34 = .ok (.getfield 69, 3) := by decide +kernel
theorem dX7_isAsTold_37 : decode cX7_isAsTold 37 = .ok (.iload_n 2, 1) := by decide +kernel
theorem dX7_isAsTold_38 : decode cX7_isAsTold 38 = .ok (.iaload, 1) := by decide +kernel
theorem dX7_isAsTold_39 : decode cX7_isAsTold 39 = .ok (.invokevirtual 106, 3) := by decide +kernel
theorem dX7_isAsTold_42 : decode cX7_isAsTold 42 = .ok (.invokevirtual 149, 3) := by decide +kernel
theorem dX7_isAsTold_45 : decode cX7_isAsTold 45 = .ok (.istore_n 3, 1) := by decide +kernel
theorem dX7_isAsTold_46 : decode cX7_isAsTold 46 = .ok (.aload_n 0, 1) := by decide +kernel
theorem dX7_isAsTold_47 : decode cX7_isAsTold 47 = .ok (.getfield 72, 3) := by decide +kernel
theorem dX7_isAsTold_50 : decode cX7_isAsTold 50 = .ok (.iload_n 2, 1) := by decide +kernel
theorem dX7_isAsTold_51 : decode cX7_isAsTold 51 = .ok (.iaload, 1) := by decide +kernel
theorem dX7_isAsTold_52 : decode cX7_isAsTold 52 = .ok (.aload_n 0, 1) := by decide +kernel
theorem dX7_isAsTold_53 : decode cX7_isAsTold 53 = .ok (.getfield 85, 3) := by decide +kernel
theorem dX7_isAsTold_56 : decode cX7_isAsTold 56 = .ok (.iload_n 2, 1) := by decide +kernel
theorem dX7_isAsTold_57 : decode cX7_isAsTold 57 = .ok (.iaload, 1) := by decide +kernel
theorem dX7_isAsTold_58 : decode cX7_isAsTold 58 = .ok (.if_icmp .ne 13, 3) := by decide +kernel
theorem dX7_isAsTold_61 : decode cX7_isAsTold 61 = .ok (.iload_n 3, 1) := by decide +kernel
theorem dX7_isAsTold_62 : decode cX7_isAsTold 62 = .ok (.aload_n 0, 1) := by decide +kernel
theorem dX7_isAsTold_63 : decode cX7_isAsTold 63 = .ok (.getfield 88, 3) := by decide +kernel
theorem dX7_isAsTold_66 : decode cX7_isAsTold 66 = .ok (.iload_n 2, 1) := by decide +kernel
theorem dX7_isAsTold_67 : decode cX7_isAsTold 67 = .ok (.iaload, 1) := by decide +kernel
theorem dX7_isAsTold_68 : decode cX7_isAsTold 68 = .ok (.if_icmp .eq 5, 3) := by decide +kernel
theorem dX7_isAsTold_71 : decode cX7_isAsTold 71 = .ok (.iconst 0, 1) := by decide +kernel
theorem dX7_isAsTold_72 : decode cX7_isAsTold 72 = .ok (.ireturn, 1) := by decide +kernel
theorem dX7_isAsTold_73 : decode cX7_isAsTold 73 = .ok (.iinc 2 1, 3) := by decide +kernel
theorem dX7_isAsTold_76 : decode cX7_isAsTold 76 = .ok (.goto (-69), 3) := by decide +kernel
theorem dX7_isAsTold_79 : decode cX7_isAsTold 79 = .ok (.iconst 1, 1) := by decide +kernel
theorem dX7_isAsTold_80 : decode cX7_isAsTold 80 = .ok (.ireturn, 1) := by decide +kernel
theorem dX7_takesTold_0 : decode cX7_takesTold 0 = .ok (.aload_n 0, 1) := by decide +kernel
theorem dX7_takesTold_1 : decode cX7_takesTold 1 = .ok (.iload_n 1, 1) := by decide +kernel
theorem dX7_takesTold_2 : decode cX7_takesTold 2 = .ok (.invokevirtual 247, 3) := by decide +kernel
theorem dX7_takesTold_5 : decode cX7_takesTold 5 = .ok (.aload_n 0, 1) := by decide +kernel
theorem dX7_takesTold_6 : decode cX7_takesTold 6 = .ok (.getfield 60, 3) := by decide +kernel
theorem dX7_takesTold_9 : decode cX7_takesTold 9 = .ok (.iload_n 1, 1) := by decide +kernel
theorem dX7_takesTold_10 : decode cX7_takesTold 10 = .ok (.iconst 0, 1) := by decide +kernel
theorem dX7_takesTold_11 : decode cX7_takesTold 11 = .ok (.iastore, 1) := by decide +kernel
theorem dX7_takesTold_12 : decode cX7_takesTold 12 = .ok (.aload_n 0, 1) := by decide +kernel
theorem dX7_takesTold_13 : decode cX7_takesTold 13 = .ok (.getfield 57, 3) := by decide +kernel
theorem dX7_takesTold_16 : decode cX7_takesTold 16 = .ok (.iload_n 1, 1) := by decide +kernel
theorem dX7_takesTold_17 : decode cX7_takesTold 17 = .ok (.aload_n 0, 1) := by decide +kernel
theorem dX7_takesTold_18 : decode cX7_takesTold 18 = .ok (.getfield 221, 3) := by decide +kernel
theorem dX7_takesTold_21 : decode cX7_takesTold 21 = .ok (.iastore, 1) := by decide +kernel
theorem dX7_takesTold_22 : decode cX7_takesTold 22 = .ok (.iconst 1, 1) := by decide +kernel
theorem dX7_takesTold_23 : decode cX7_takesTold 23 = .ok (.istore_n 2, 1) := by decide +kernel
theorem dX7_takesTold_24 : decode cX7_takesTold 24 = .ok (.iconst 0, 1) := by decide +kernel
theorem dX7_takesTold_25 : decode cX7_takesTold 25 = .ok (.istore_n 3, 1) := by decide +kernel
theorem dX7_takesTold_26 : decode cX7_takesTold 26 = .ok (.iload_n 3, 1) := by decide +kernel
theorem dX7_takesTold_27 : decode cX7_takesTold 27 = .ok (.aload_n 0, 1) := by decide +kernel
theorem dX7_takesTold_28 : decode cX7_takesTold 28 = .ok (.iload_n 1, 1) := by decide +kernel
theorem dX7_takesTold_29 : decode cX7_takesTold 29 = .ok (.invokevirtual 121, 3) := by decide +kernel
theorem dX7_takesTold_32 : decode cX7_takesTold 32 = .ok (.if_icmp .ge 60, 3) := by decide +kernel
theorem dX7_takesTold_35 : decode cX7_takesTold 35 = .ok (.iload_n 2, 1) := by decide +kernel
theorem dX7_takesTold_36 : decode cX7_takesTold 36 = .ok (.ifCond .eq 56, 3) := by decide +kernel
theorem dX7_takesTold_39 : decode cX7_takesTold 39 = .ok (.aload_n 0, 1) := by decide +kernel
theorem dX7_takesTold_40 : decode cX7_takesTold 40 = .ok (.getfield 85, 3) := by decide +kernel
theorem dX7_takesTold_43 : decode cX7_takesTold 43 = .ok (.iload_n 3, 1) := by decide +kernel
theorem dX7_takesTold_44 : decode cX7_takesTold 44 = .ok (.iaload, 1) := by decide +kernel
theorem dX7_takesTold_45 : decode cX7_takesTold 45 = .ok (.ifCond .eq 18, 3) := by decide +kernel
theorem dX7_takesTold_48 : decode cX7_takesTold 48 = .ok (.aload_n 0, 1) := by decide +kernel
theorem dX7_takesTold_49 : decode cX7_takesTold 49 = .ok (.getfield 85, 3) := by decide +kernel
theorem dX7_takesTold_52 : decode cX7_takesTold 52 = .ok (.iload_n 3, 1) := by decide +kernel
theorem dX7_takesTold_53 : decode cX7_takesTold 53 = .ok (.iaload, 1) := by decide +kernel
theorem dX7_takesTold_54 : decode cX7_takesTold 54 = .ok (.iconst 4, 1) := by decide +kernel
theorem dX7_takesTold_55 : decode cX7_takesTold 55 = .ok (.iand, 1) := by decide +kernel
theorem dX7_takesTold_56 : decode cX7_takesTold 56 = .ok (.ifCond .ne 7, 3) := by decide +kernel
theorem dX7_takesTold_59 : decode cX7_takesTold 59 = .ok (.iconst 1, 1) := by decide +kernel
theorem dX7_takesTold_60 : decode cX7_takesTold 60 = .ok (.goto 4, 3) := by decide +kernel
theorem dX7_takesTold_63 : decode cX7_takesTold 63 = .ok (.iconst 0, 1) := by decide +kernel
theorem dX7_takesTold_64 : decode cX7_takesTold 64 = .ok (.istore 4, 2) := by decide +kernel
theorem dX7_takesTold_66 : decode cX7_takesTold 66 = .ok (.iload 4, 2) := by decide +kernel
theorem dX7_takesTold_68 : decode cX7_takesTold 68 = .ok (.ifCond .eq 12, 3) := by decide +kernel
theorem dX7_takesTold_71 : decode cX7_takesTold 71 = .ok (.aload_n 0, 1) := by decide +kernel
theorem dX7_takesTold_72 : decode cX7_takesTold 72 = .ok (.iload_n 1, 1) := by decide +kernel
theorem dX7_takesTold_73 : decode cX7_takesTold 73 = .ok (.iload_n 3, 1) := by decide +kernel
theorem dX7_takesTold_74 : decode cX7_takesTold 74 = .ok (.invokevirtual 250, 3) := by decide +kernel
theorem dX7_takesTold_77 : decode cX7_takesTold 77 = .ok (.ifCond .eq 7, 3) := by decide +kernel
theorem dX7_takesTold_80 : decode cX7_takesTold 80 = .ok (.iconst 1, 1) := by decide +kernel
theorem dX7_takesTold_81 : decode cX7_takesTold 81 = .ok (.goto 4, 3) := by decide +kernel
theorem dX7_takesTold_84 : decode cX7_takesTold 84 = .ok (.iconst 0, 1) := by decide +kernel
theorem dX7_takesTold_85 : decode cX7_takesTold 85 = .ok (.istore_n 2, 1) := by decide +kernel
theorem dX7_takesTold_86 : decode cX7_takesTold 86 = .ok (.iinc 3 1, 3) := by decide +kernel
theorem dX7_takesTold_89 : decode cX7_takesTold 89 = .ok (.goto (-63), 3) := by decide +kernel
theorem dX7_takesTold_92 : decode cX7_takesTold 92 = .ok (.iload_n 2, 1) := by decide +kernel
theorem dX7_takesTold_93 : decode cX7_takesTold 93 = .ok (.ifCond .eq 11, 3) := by decide +kernel
theorem dX7_takesTold_96 : decode cX7_takesTold 96 = .ok (.aload_n 0, 1) := by decide +kernel
theorem dX7_takesTold_97 : decode cX7_takesTold 97 = .ok (.iload_n 1, 1) := by decide +kernel
theorem dX7_takesTold_98 : decode cX7_takesTold 98 = .ok (.invokevirtual 253, 3) := by decide +kernel
theorem dX7_takesTold_101 : decode cX7_takesTold 101 = .ok (.ifCond .ne 12, 3) := by decide +kernel
theorem dX7_takesTold_104 : decode cX7_takesTold 104 = .ok (.aload_n 0, 1) := by decide +kernel
theorem dX7_takesTold_105 : decode cX7_takesTold 105 = .ok (.iload_n 1, 1) := by decide +kernel
theorem dX7_takesTold_106 : decode cX7_takesTold 106 = .ok (.invokevirtual 256, 3) := by decide +kernel
theorem dX7_takesTold_109 : decode cX7_takesTold 109 = .ok (.sipush (-300), 3) := by decide +kernel
theorem dX7_takesTold_112 : decode cX7_takesTold 112 = .ok (.ireturn, 1) := by decide +kernel
theorem dX7_takesTold_113 : decode cX7_takesTold 113 = .ok (.aload_n 0, 1) := by decide +kernel
theorem dX7_takesTold_114 : decode cX7_takesTold 114 = .ok (.getfield 60, 3) := by decide +kernel
theorem dX7_takesTold_117 : decode cX7_takesTold 117 = .ok (.iload_n 1, 1) := by decide +kernel
theorem dX7_takesTold_118 : decode cX7_takesTold 118 = .ok (.iaload, 1) := by decide +kernel
theorem dX7_takesTold_119 : decode cX7_takesTold 119 = .ok (.ireturn, 1) := by decide +kernel
theorem dX7_lays_0 : decode cX7_lays 0 = .ok (.aload_n 0, 1) := by decide +kernel
theorem dX7_lays_1 : decode cX7_lays 1 = .ok (.iconst 0, 1) := by decide +kernel
theorem dX7_lays_2 : decode cX7_lays 2 = .ok (.putfield 1, 3) := by decide +kernel
theorem dX7_lays_5 : decode cX7_lays 5 = .ok (.aload_n 0, 1) := by decide +kernel
theorem dX7_lays_6 : decode cX7_lays 6 = .ok (.invokevirtual 196, 3) := by decide +kernel
theorem dX7_lays_9 : decode cX7_lays 9 = .ok (.iload_n 1, 1) := by decide +kernel
theorem dX7_lays_10 : decode cX7_lays 10 = .ok (.invokestatic 136, 3) := by decide +kernel
theorem dX7_lays_13 : decode cX7_lays 13 = .ok (.ifCond .ne 5, 3) := by decide +kernel
theorem dX7_lays_16 : decode cX7_lays 16 = .ok (.iconst (-1), 1) := by decide +kernel
theorem dX7_lays_17 : decode cX7_lays 17 = .ok (.ireturn, 1) := by decide +kernel
theorem dX7_lays_18 : decode cX7_lays 18 = .ok (.aload_n 0, 1) := by decide +kernel
theorem dX7_lays_19 : decode cX7_lays 19 = .ok (.invokevirtual 259, 3) := by decide +kernel
theorem dX7_lays_22 : decode cX7_lays 22 = .ok (.ifCond .ne 10, 3) := by decide +kernel
theorem dX7_lays_25 : decode cX7_lays 25 = .ok (.iconst (-1), 1) := by decide +kernel
theorem dX7_lays_26 : decode cX7_lays 26 = .ok (.aload_n 0, 1) := by decide +kernel
theorem dX7_lays_27 : decode cX7_lays 27 = .ok (.getfield 28, 3) := by decide +kernel
theorem dX7_lays_30 : decode cX7_lays 30 = .ok (.isub, 1) := by decide +kernel
theorem dX7_lays_31 : decode cX7_lays 31 = .ok (.ireturn, 1) := by decide +kernel
theorem dX7_lays_32 : decode cX7_lays 32 = .ok (.aload_n 0, 1) := by decide +kernel
theorem dX7_lays_33 : decode cX7_lays 33 = .ok (.iload_n 1, 1) := by decide +kernel
theorem dX7_lays_34 : decode cX7_lays 34 = .ok (.invokevirtual 229, 3) := by decide +kernel
theorem dX7_lays_37 : decode cX7_lays 37 = .ok (.ireturn, 1) := by decide +kernel
theorem dX7_run_0 : decode cX7_run 0 = .ok (.aload_n 0, 1) := by decide +kernel
theorem dX7_run_1 : decode cX7_run 1 = .ok (.iconst 0, 1) := by decide +kernel
theorem dX7_run_2 : decode cX7_run 2 = .ok (.putfield 1, 3) := by decide +kernel
theorem dX7_run_5 : decode cX7_run 5 = .ok (.aload_n 0, 1) := by decide +kernel
theorem dX7_run_6 : decode cX7_run 6 = .ok (.iload_n 1, 1) := by decide +kernel
theorem dX7_run_7 : decode cX7_run 7 = .ok (.iload_n 2, 1) := by decide +kernel
theorem dX7_run_8 : decode cX7_run 8 = .ok (.invokevirtual 208, 3) := by decide +kernel
theorem dX7_run_11 : decode cX7_run 11 = .ok (.ifCond .ne 5, 3) := by decide +kernel
theorem dX7_run_14 : decode cX7_run 14 = .ok (.iconst (-1), 1) := by decide +kernel
theorem dX7_run_15 : decode cX7_run 15 = .ok (.ireturn, 1) := by decide +kernel
theorem dX7_run_16 : decode cX7_run 16 = .ok (.aload_n 0, 1) := by decide +kernel
theorem dX7_run_17 : decode cX7_run 17 = .ok (.iload_n 1, 1) := by decide +kernel
theorem dX7_run_18 : decode cX7_run 18 = .ok (.invokevirtual 162, 3) := by decide +kernel
theorem dX7_run_21 : decode cX7_run 21 = .ok (.aload_n 0, 1) := by decide +kernel
theorem dX7_run_22 : decode cX7_run 22 = .ok (.getfield 72, 3) := by decide +kernel
theorem dX7_run_25 : decode cX7_run 25 = .ok (.iload_n 2, 1) := by decide +kernel
theorem dX7_run_26 : decode cX7_run 26 = .ok (.iaload, 1) := by decide +kernel
theorem dX7_run_27 : decode cX7_run 27 = .ok (.iconst 1, 1) := by decide +kernel
theorem dX7_run_28 : decode cX7_run 28 = .ok (.iand, 1) := by decide +kernel
theorem dX7_run_29 : decode cX7_run 29 = .ok (.ifCond .ne 6, 3) := by decide +kernel
theorem dX7_run_32 : decode cX7_run 32 = .ok (.bipush (-2), 2) := by decide +kernel
theorem dX7_run_34 : decode cX7_run 34 = .ok (.ireturn, 1) := by decide +kernel
theorem dX7_run_35 : decode cX7_run 35 = .ok (.aload_n 0, 1) := by decide +kernel
theorem dX7_run_36 : decode cX7_run 36 = .ok (.iconst 0, 1) := by decide +kernel
theorem dX7_run_37 : decode cX7_run 37 = .ok (.putfield 11, 3) := by decide +kernel
theorem dX7_run_40 : decode cX7_run 40 = .ok (.iconst 0, 1) := by decide +kernel
theorem dX7_run_41 : decode cX7_run 41 = .ok (.istore_n 3, 1) := by decide +kernel
theorem dX7_run_42 : decode cX7_run 42 = .ok (.iconst 0, 1) := by decide +kernel
theorem dX7_run_43 : decode cX7_run 43 = .ok (.istore 4, 2) := by decide +kernel
theorem dX7_run_45 : decode cX7_run 45 = .ok (.iload 4, 2) := by decide +kernel
theorem dX7_run_47 : decode cX7_run 47 = .ok (.aload_n 0, 1) := by decide +kernel
theorem dX7_run_48 : decode cX7_run 48 = .ok (.getfield 60, 3) := by decide +kernel
theorem dX7_run_51 : decode cX7_run 51 = .ok (.iload_n 1, 1) := by decide +kernel
theorem dX7_run_52 : decode cX7_run 52 = .ok (.iaload, 1) := by decide +kernel
theorem dX7_run_53 : decode cX7_run 53 = .ok (.if_icmp .ge 64, 3) := by decide +kernel
theorem dX7_run_56 : decode cX7_run 56 = .ok (.aload_n 0, 1) := by decide +kernel
theorem dX7_run_57 : decode cX7_run 57 = .ok (.iload_n 1, 1) := by decide +kernel
theorem dX7_run_58 : decode cX7_run 58 = .ok (.aload_n 0, 1) := by decide +kernel
theorem dX7_run_59 : decode cX7_run 59 = .ok (.iload_n 1, 1) := by decide +kernel
theorem dX7_run_60 : decode cX7_run 60 = .ok (.iload 4, 2) := by decide +kernel
theorem dX7_run_62 : decode cX7_run 62 = .ok (.invokevirtual 106, 3) := by decide +kernel
theorem dX7_run_65 : decode cX7_run 65 = .ok (.invokevirtual 129, 3) := by decide +kernel
theorem dX7_run_68 : decode cX7_run 68 = .ok (.iload_n 2, 1) := by decide +kernel
theorem dX7_run_69 : decode cX7_run 69 = .ok (.if_icmp .eq 6, 3) := by decide +kernel
theorem dX7_run_72 : decode cX7_run 72 = .ok (.goto 39, 3) := by decide +kernel
theorem dX7_run_75 : decode cX7_run 75 = .ok (.iload_n 3, 1) := by decide +kernel
theorem dX7_run_76 : decode cX7_run 76 = .ok (.ifCond .ne 15, 3) := by decide +kernel
theorem dX7_run_79 : decode cX7_run 79 = .ok (.aload_n 0, 1) := by decide +kernel
theorem dX7_run_80 : decode cX7_run 80 = .ok (.aload_n 0, 1) := by decide +kernel
theorem dX7_run_81 : decode cX7_run 81 = .ok (.getfield 66, 3) := by decide +kernel
theorem dX7_run_84 : decode cX7_run 84 = .ok (.iload 4, 2) := by decide +kernel
theorem dX7_run_86 : decode cX7_run 86 = .ok (.iaload, 1) := by decide +kernel
theorem dX7_run_87 : decode cX7_run 87 = .ok (.i2l, 1) := by decide +kernel
theorem dX7_run_88 : decode cX7_run 88 = .ok (.invokevirtual 145, 3) := by decide +kernel
theorem dX7_run_91 : decode cX7_run 91 = .ok (.aload_n 0, 1) := by decide +kernel
theorem dX7_run_92 : decode cX7_run 92 = .ok (.aload_n 0, 1) := by decide +kernel
theorem dX7_run_93 : decode cX7_run 93 = .ok (.iload_n 1, 1) := by decide +kernel
theorem dX7_run_94 : decode cX7_run 94 = .ok (.aload_n 0, 1) := by decide +kernel
theorem dX7_run_95 : decode cX7_run 95 = .ok (.iload_n 1, 1) := by decide +kernel
theorem dX7_run_96 : decode cX7_run 96 = .ok (.iload 4, 2) := by decide +kernel
theorem dX7_run_98 : decode cX7_run 98 = .ok (.invokevirtual 106, 3) := by decide +kernel
theorem dX7_run_101 : decode cX7_run 101 = .ok (.invokevirtual 149, 3) := by decide +kernel
theorem dX7_run_104 : decode cX7_run 104 = .ok (.i2l, 1) := by decide +kernel
theorem dX7_run_105 : decode cX7_run 105 = .ok (.invokevirtual 145, 3) := by decide +kernel
theorem dX7_run_108 : decode cX7_run 108 = .ok (.iinc 3 1, 3) := by decide +kernel
theorem dX7_run_111 : decode cX7_run 111 = .ok (.iinc 4 1, 3) := by decide +kernel
theorem dX7_run_114 : decode cX7_run 114 = .ok (.goto (-69), 3) := by decide +kernel
theorem dX7_run_117 : decode cX7_run 117 = .ok (.iload_n 3, 1) := by decide +kernel
theorem dX7_run_118 : decode cX7_run 118 = .ok (.ireturn, 1) := by decide +kernel
theorem dX7_begins_0 : decode cX7_begins 0 = .ok (.aload_n 0, 1) := by decide +kernel
theorem dX7_begins_1 : decode cX7_begins 1 = .ok (.getfield 69, 3) := by decide +kernel
theorem dX7_begins_4 : decode cX7_begins 4 = .ok (.iload_n 1, 1) := by decide +kernel
theorem dX7_begins_5 : decode cX7_begins 5 = .ok (.iaload, 1) := by decide +kernel
theorem dX7_begins_6 : decode cX7_begins 6 = .ok (.ifCond .lt 18, 3) := by decide +kernel
theorem dX7_begins_9 : decode cX7_begins 9 = .ok (.aload_n 0, 1) := by decide +kernel
theorem dX7_begins_10 : decode cX7_begins 10 = .ok (.getfield 72, 3) := by decide +kernel
theorem dX7_begins_13 : decode cX7_begins 13 = .ok (.iload_n 1, 1) := by decide +kernel
theorem dX7_begins_14 : decode cX7_begins 14 = .ok (.iaload, 1) := by decide +kernel
theorem dX7_begins_15 : decode cX7_begins 15 = .ok (.iconst 4, 1) := by decide +kernel
theorem dX7_begins_16 : decode cX7_begins 16 = .ok (.iand, 1) := by decide +kernel
theorem dX7_begins_17 : decode cX7_begins 17 = .ok (.ifCond .ne 7, 3) := by decide +kernel
theorem dX7_begins_20 : decode cX7_begins 20 = .ok (.iconst 1, 1) := by decide +kernel
theorem dX7_begins_21 : decode cX7_begins 21 = .ok (.goto 4, 3) := by decide +kernel
theorem dX7_begins_24 : decode cX7_begins 24 = .ok (.iconst 0, 1) := by decide +kernel
theorem dX7_begins_25 : decode cX7_begins 25 = .ok (.ireturn, 1) := by decide +kernel
theorem dX7_clusterFrom_0 : decode cX7_clusterFrom 0 = .ok (.aload_n 0, 1) := by decide +kernel
theorem dX7_clusterFrom_1 : decode cX7_clusterFrom 1 = .ok (.iload_n 1, 1) := by decide +kernel
theorem dX7_clusterFrom_2 : decode cX7_clusterFrom 2 = .ok (.invokevirtual 121, 3) := by decide +kernel
theorem dX7_clusterFrom_5 : decode cX7_clusterFrom 5 = .ok (.istore_n 3, 1) := by decide +kernel
theorem dX7_clusterFrom_6 : decode cX7_clusterFrom 6 = .ok (.iconst 1, 1) := by decide +kernel
theorem dX7_clusterFrom_7 : decode cX7_clusterFrom 7 = .ok (.istore 4, 2) := by decide +kernel
theorem dX7_clusterFrom_9 : decode cX7_clusterFrom 9 = .ok (.iload 4, 2) := by decide +kernel
theorem dX7_clusterFrom_11 : decode cX7_clusterFrom 11 = .ok (.iload_n 3, 1) := by decide +kernel
theorem dX7_clusterFrom_12 : decode cX7_clusterFrom 12 = .ok (.if_icmp .ge 39, 3) := by decide +kernel
theorem dX7_clusterFrom_15 : decode cX7_clusterFrom 15 = .ok (.aload_n 0, 1) := by decide +kernel
theorem dX7_clusterFrom_16 : decode cX7_clusterFrom 16 = .ok (.getfield 69, 3) := by decide +kernel
theorem dX7_clusterFrom_19 : decode cX7_clusterFrom 19 = .ok (.iload_n 2, 1) := by decide +kernel
theorem dX7_clusterFrom_20 : decode cX7_clusterFrom 20 = .ok (.iload 4, 2) := by decide +kernel
theorem dX7_clusterFrom_22 : decode cX7_clusterFrom 22 = .ok (.iadd, 1) := by decide +kernel
theorem dX7_clusterFrom_23 : decode cX7_clusterFrom 23 = .ok (.iload_n 3, 1) := by decide +kernel
theorem dX7_clusterFrom_24 : decode cX7_clusterFrom 24 = .ok (.irem, 1) := by decide +kernel
theorem dX7_clusterFrom_25 : decode cX7_clusterFrom 25 = .ok (.iaload, 1) := by decide +kernel
theorem dX7_clusterFrom_26 : decode cX7_clusterFrom 26 = .ok (.ifCond .lt 25, 3) := by decide +kernel
theorem dX7_clusterFrom_29 : decode cX7_clusterFrom 29 = .ok (.aload_n 0, 1) := by decide +kernel
theorem dX7_clusterFrom_30 : decode cX7_clusterFrom 30 = .ok (.getfield 72, 3) := by decide +kernel
theorem dX7_clusterFrom_33 : decode cX7_clusterFrom 33 = .ok (.iload_n 2, 1) := by decide +kernel
theorem dX7_clusterFrom_34 : decode cX7_clusterFrom 34 = .ok (.iload 4, 2) := by decide +kernel
theorem dX7_clusterFrom_36 : decode cX7_clusterFrom 36 = .ok (.iadd, 1) := by decide +kernel
theorem dX7_clusterFrom_37 : decode cX7_clusterFrom 37 = .ok (.iload_n 3, 1) := by decide +kernel
theorem dX7_clusterFrom_38 : decode cX7_clusterFrom 38 = .ok (.irem, 1) := by decide +kernel
theorem dX7_clusterFrom_39 : decode cX7_clusterFrom 39 = .ok (.iaload, 1) := by decide +kernel
theorem dX7_clusterFrom_40 : decode cX7_clusterFrom 40 = .ok (.iconst 4, 1) := by decide +kernel
theorem dX7_clusterFrom_41 : decode cX7_clusterFrom 41 = .ok (.iand, 1) := by decide +kernel
theorem dX7_clusterFrom_42 : decode cX7_clusterFrom 42 = .ok (.ifCond .eq 9, 3) := by decide +kernel
theorem dX7_clusterFrom_45 : decode cX7_clusterFrom 45 = .ok (.iinc 4 1, 3) := by decide +kernel
theorem dX7_clusterFrom_48 : decode cX7_clusterFrom 48 = .ok (.goto (-39), 3) := by decide +kernel
theorem dX7_clusterFrom_51 : decode cX7_clusterFrom 51 = .ok (.iload 4, 2) := by decide +kernel
theorem dX7_clusterFrom_53 : decode cX7_clusterFrom 53 = .ok (.ireturn, 1) := by decide +kernel
theorem dX7_cluster_0 : decode cX7_cluster 0 = .ok (.aload_n 0, 1) := by decide +kernel
theorem dX7_cluster_1 : decode cX7_cluster 1 = .ok (.iconst 0, 1) := by decide +kernel
theorem dX7_cluster_2 : decode cX7_cluster 2 = .ok (.putfield 1, 3) := by decide +kernel
theorem dX7_cluster_5 : decode cX7_cluster 5 = .ok (.aload_n 0, 1) := by decide +kernel
theorem dX7_cluster_6 : decode cX7_cluster 6 = .ok (.iload_n 1, 1) := by decide +kernel
theorem dX7_cluster_7 : decode cX7_cluster 7 = .ok (.iload_n 2, 1) := by decide +kernel
theorem dX7_cluster_8 : decode cX7_cluster 8 = .ok (.invokevirtual 208, 3) := by decide +kernel
theorem dX7_cluster_11 : decode cX7_cluster 11 = .ok (.ifCond .ne 5, 3) := by decide +kernel
theorem dX7_cluster_14 : decode cX7_cluster 14 = .ok (.iconst (-1), 1) := by decide +kernel
theorem dX7_cluster_15 : decode cX7_cluster 15 = .ok (.ireturn, 1) := by decide +kernel
theorem dX7_cluster_16 : decode cX7_cluster 16 = .ok (.aload_n 0, 1) := by decide +kernel
theorem dX7_cluster_17 : decode cX7_cluster 17 = .ok (.iload_n 1, 1) := by decide +kernel
theorem dX7_cluster_18 : decode cX7_cluster 18 = .ok (.invokevirtual 162, 3) := by decide +kernel
theorem dX7_cluster_21 : decode cX7_cluster 21 = .ok (.aload_n 0, 1) := by decide +kernel
theorem dX7_cluster_22 : decode cX7_cluster 22 = .ok (.getfield 69, 3) := by decide +kernel
theorem dX7_cluster_25 : decode cX7_cluster 25 = .ok (.iload_n 2, 1) := by decide +kernel
theorem dX7_cluster_26 : decode cX7_cluster 26 = .ok (.iaload, 1) := by decide +kernel
theorem dX7_cluster_27 : decode cX7_cluster 27 = .ok (.ifCond .ge 6, 3) := by decide +kernel
theorem dX7_cluster_30 : decode cX7_cluster 30 = .ok (.bipush (-2), 2) := by decide +kernel
theorem dX7_cluster_32 : decode cX7_cluster 32 = .ok (.ireturn, 1) := by decide +kernel
theorem dX7_cluster_33 : decode cX7_cluster 33 = .ok (.aload_n 0, 1) := by decide +kernel
theorem dX7_cluster_34 : decode cX7_cluster 34 = .ok (.iload_n 1, 1) := by decide +kernel
theorem dX7_cluster_35 : decode cX7_cluster 35 = .ok (.invokevirtual 121, 3) := by decide +kernel
theorem dX7_cluster_38 : decode cX7_cluster 38 = .ok (.istore_n 3, 1) := by decide +kernel
theorem dX7_cluster_39 : decode cX7_cluster 39 = .ok (.aload_n 0, 1) := by decide +kernel
theorem dX7_cluster_40 : decode cX7_cluster 40 = .ok (.iload_n 1, 1) := by decide +kernel
theorem dX7_cluster_41 : decode cX7_cluster 41 = .ok (.iload_n 2, 1) := by decide +kernel
theorem dX7_cluster_42 : decode cX7_cluster 42 = .ok (.invokevirtual 263, 3) := by decide +kernel
theorem dX7_cluster_45 : decode cX7_cluster 45 = .ok (.istore 4, 2) := by decide +kernel
theorem dX7_cluster_47 : decode cX7_cluster 47 = .ok (.aload_n 0, 1) := by decide +kernel
theorem dX7_cluster_48 : decode cX7_cluster 48 = .ok (.iload_n 1, 1) := by decide +kernel
theorem dX7_cluster_49 : decode cX7_cluster 49 = .ok (.iload 4, 2) := by decide +kernel
theorem dX7_cluster_51 : decode cX7_cluster 51 = .ok (.invokevirtual 266, 3) := by decide +kernel
theorem dX7_cluster_54 : decode cX7_cluster 54 = .ok (.istore 5, 2) := by decide +kernel
theorem dX7_cluster_56 : decode cX7_cluster 56 = .ok (.iconst 0, 1) := by decide +kernel
theorem dX7_cluster_57 : decode cX7_cluster 57 = .ok (.istore 6, 2) := by decide +kernel
theorem dX7_cluster_59 : decode cX7_cluster 59 = .ok (.iconst 0, 1) := by decide +kernel
theorem dX7_cluster_60 : decode cX7_cluster 60 = .ok (.istore 7, 2) := by decide +kernel
theorem dX7_cluster_62 : decode cX7_cluster 62 = .ok (.iload 7, 2) := by decide +kernel
theorem dX7_cluster_64 : decode cX7_cluster 64 = .ok (.iload 5, 2) := by decide +kernel
theorem dX7_cluster_66 : decode cX7_cluster 66 = .ok (.if_icmp .ge 39, 3) := by decide +kernel
theorem dX7_cluster_69 : decode cX7_cluster 69 = .ok (.iload 6, 2) := by decide +kernel
theorem dX7_cluster_71 : decode cX7_cluster 71 = .ok (.aload_n 0, 1) := by decide +kernel
theorem dX7_cluster_72 : decode cX7_cluster 72 = .ok (.getfield 72, 3) := by decide +kernel
theorem dX7_cluster_75 : decode cX7_cluster 75 = .ok (.iload 4, 2) := by decide +kernel
theorem dX7_cluster_77 : decode cX7_cluster 77 = .ok (.iload 7, 2) := by decide +kernel
theorem dX7_cluster_79 : decode cX7_cluster 79 = .ok (.iadd, 1) := by decide +kernel
theorem dX7_cluster_80 : decode cX7_cluster 80 = .ok (.iload_n 3, 1) := by decide +kernel
theorem dX7_cluster_81 : decode cX7_cluster 81 = .ok (.irem, 1) := by decide +kernel
theorem dX7_cluster_82 : decode cX7_cluster 82 = .ok (.iaload, 1) := by decide +kernel
theorem dX7_cluster_83 : decode cX7_cluster 83 = .ok (.iconst 2, 1) := by decide +kernel
theorem dX7_cluster_84 : decode cX7_cluster 84 = .ok (.iand, 1) := by decide +kernel
theorem dX7_cluster_85 : decode cX7_cluster 85 = .ok (.ifCond .ne 7, 3) := by decide +kernel
theorem dX7_cluster_88 : decode cX7_cluster 88 = .ok (.iconst 1, 1) := by decide +kernel
theorem dX7_cluster_89 : decode cX7_cluster 89 = .ok (.goto 4, 3) := by decide +kernel
theorem dX7_cluster_92 : decode cX7_cluster 92 = .ok (.iconst 0, 1) := by decide +kernel
theorem dX7_cluster_93 : decode cX7_cluster 93 = .ok (.invokestatic 109, 3) := by decide +kernel
theorem dX7_cluster_96 : decode cX7_cluster 96 = .ok (.iadd, 1) := by decide +kernel
theorem dX7_cluster_97 : decode cX7_cluster 97 = .ok (.istore 6, 2) := by decide +kernel
theorem dX7_cluster_99 : decode cX7_cluster 99 = .ok (.iinc 7 1, 3) := by decide +kernel
theorem dX7_cluster_102 : decode cX7_cluster 102 = .ok (.goto (-40), 3) := by decide +kernel
theorem dX7_cluster_105 : decode cX7_cluster 105 = .ok (.aload_n 0, 1) := by decide +kernel
theorem dX7_cluster_106 : decode cX7_cluster 106 = .ok (.iconst 0, 1) := by decide +kernel
theorem dX7_cluster_107 : decode cX7_cluster 107 = .ok (.putfield 11, 3) := by decide +kernel
theorem dX7_cluster_110 : decode cX7_cluster 110 = .ok (.aload_n 0, 1) := by decide +kernel
theorem dX7_cluster_111 : decode cX7_cluster 111 = .ok (.iload 4, 2) := by decide +kernel
theorem dX7_cluster_113 : decode cX7_cluster 113 = .ok (.i2l, 1) := by decide +kernel
theorem dX7_cluster_114 : decode cX7_cluster 114 = .ok (.invokevirtual 145, 3) := by decide +kernel
theorem dX7_cluster_117 : decode cX7_cluster 117 = .ok (.aload_n 0, 1) := by decide +kernel
theorem dX7_cluster_118 : decode cX7_cluster 118 = .ok (.iload 6, 2) := by decide +kernel
theorem dX7_cluster_120 : decode cX7_cluster 120 = .ok (.i2l, 1) := by decide +kernel
theorem dX7_cluster_121 : decode cX7_cluster 121 = .ok (.invokevirtual 145, 3) := by decide +kernel
theorem dX7_cluster_124 : decode cX7_cluster 124 = .ok (.iload 5, 2) := by decide +kernel
theorem dX7_cluster_126 : decode cX7_cluster 126 = .ok (.ireturn, 1) := by decide +kernel
theorem dX7_clusters_0 : decode cX7_clusters 0 = .ok (.aload_n 0, 1) := by decide +kernel
theorem dX7_clusters_1 : decode cX7_clusters 1 = .ok (.iconst 0, 1) := by decide +kernel
theorem dX7_clusters_2 : decode cX7_clusters 2 = .ok (.putfield 1, 3) := by decide +kernel
theorem dX7_clusters_5 : decode cX7_clusters 5 = .ok (.iload_n 1, 1) := by decide +kernel
theorem dX7_clusters_6 : decode cX7_clusters 6 = .ok (.invokestatic 136, 3) := by decide +kernel
theorem dX7_clusters_9 : decode cX7_clusters 9 = .ok (.ifCond .ne 5, 3) := by decide +kernel
theorem dX7_clusters_12 : decode cX7_clusters 12 = .ok (.iconst (-1), 1) := by decide +kernel
theorem dX7_clusters_13 : decode cX7_clusters 13 = .ok (.ireturn, 1) := by decide +kernel
theorem dX7_clusters_14 : decode cX7_clusters 14 = .ok (.aload_n 0, 1) := by decide +kernel
theorem dX7_clusters_15 : decode cX7_clusters 15 = .ok (.iload_n 1, 1) := by decide +kernel
theorem dX7_clusters_16 : decode cX7_clusters 16 = .ok (.invokevirtual 162, 3) := by decide +kernel
theorem dX7_clusters_19 : decode cX7_clusters 19 = .ok (.iconst 0, 1) := by decide +kernel
theorem dX7_clusters_20 : decode cX7_clusters 20 = .ok (.istore_n 2, 1) := by decide +kernel
theorem dX7_clusters_21 : decode cX7_clusters 21 = .ok (.iconst 0, 1) := by decide +kernel
theorem dX7_clusters_22 : decode cX7_clusters 22 = .ok (.istore_n 3, 1) := by decide +kernel
theorem dX7_clusters_23 : decode cX7_clusters 23 = .ok (.iconst (-1), 1) := by decide +kernel
theorem dX7_clusters_24 : decode cX7_clusters 24 = .ok (.istore 4, 2) := by decide +kernel
theorem dX7_clusters_26 : decode cX7_clusters 26 = .ok (.iconst 0, 1) := by decide +kernel
theorem dX7_clusters_27 : decode cX7_clusters 27 = .ok (.istore 5, 2) := by decide +kernel
theorem dX7_clusters_29 : decode cX7_clusters 29 = .ok (.iload 5, 2) := by decide +kernel
theorem dX7_clusters_31 : decode cX7_clusters 31 = .ok (.aload_n 0, 1) := by decide +kernel
theorem dX7_clusters_32 : decode cX7_clusters 32 = .ok (.iload_n 1, 1) := by decide +kernel
theorem dX7_clusters_33 : decode cX7_clusters 33 = .ok (.invokevirtual 121, 3) := by decide +kernel
theorem dX7_clusters_36 : decode cX7_clusters 36 = .ok (.if_icmp .ge 55, 3) := by decide +kernel
theorem dX7_clusters_39 : decode cX7_clusters 39 = .ok (.aload_n 0, 1) := by decide +kernel
theorem dX7_clusters_40 : decode cX7_clusters 40 = .ok (.iload 5, 2) := by decide +kernel
theorem dX7_clusters_42 : decode cX7_clusters 42 = .ok (.invokevirtual 269, 3) := by decide +kernel
theorem dX7_clusters_45 : decode cX7_clusters 45 = .ok (.ifCond .ne 6, 3) := by decide +kernel
theorem dX7_clusters_48 : decode cX7_clusters 48 = .ok (.goto 37, 3) := by decide +kernel
theorem dX7_clusters_51 : decode cX7_clusters 51 = .ok (.iinc 2 1, 3) := by decide +kernel
theorem dX7_clusters_54 : decode cX7_clusters 54 = .ok (.aload_n 0, 1) := by decide +kernel
theorem dX7_clusters_55 : decode cX7_clusters 55 = .ok (.iload_n 1, 1) := by decide +kernel
theorem dX7_clusters_56 : decode cX7_clusters 56 = .ok (.iload 5, 2) := by decide +kernel
theorem dX7_clusters_58 : decode cX7_clusters 58 = .ok (.invokevirtual 266, 3) := by decide +kernel
theorem dX7_clusters_61 : decode cX7_clusters 61 = .ok (.istore 6, 2) := by decide +kernel
theorem dX7_clusters_63 : decode cX7_clusters 63 = .ok (.iload 6, 2) := by decide +kernel
theorem dX7_clusters_65 : decode cX7_clusters 65 = .ok (.iload_n 3, 1) := by decide +kernel
theorem dX7_clusters_66 : decode cX7_clusters 66 = .ok (.if_icmp .le 8, 3) := by decide +kernel
theorem dX7_clusters_69 : decode cX7_clusters 69 = .ok (.iload 5, 2) := by decide +kernel
theorem dX7_clusters_71 : decode cX7_clusters 71 = .ok (.goto 5, 3) := by decide +kernel
theorem dX7_clusters_74 : decode cX7_clusters 74 = .ok (.iload 4, 2) := by decide +kernel
theorem dX7_clusters_76 : decode cX7_clusters 76 = .ok (.istore 4, 2) := by decide +kernel
theorem dX7_clusters_78 : decode cX7_clusters 78 = .ok (.iload_n 3, 1) := by decide +kernel
theorem dX7_clusters_79 : decode cX7_clusters 79 = .ok (.iload 6, 2) := by decide +kernel
theorem dX7_clusters_81 : decode cX7_clusters 81 = .ok (.invokestatic 124, 3) := by decide +kernel
theorem dX7_clusters_84 : decode cX7_clusters 84 = .ok (.istore_n 3, 1) := by decide +kernel
theorem dX7_clusters_85 : decode cX7_clusters 85 = .ok (.iinc 5 1, 3) := by decide +kernel
theorem dX7_clusters_88 : decode cX7_clusters 88 = .ok (.goto (-59), 3) := by decide +kernel
theorem dX7_clusters_91 : decode cX7_clusters 91 = .ok (.aload_n 0, 1) := by decide +kernel
theorem dX7_clusters_92 : decode cX7_clusters 92 = .ok (.iconst 0, 1) := by decide +kernel
theorem dX7_clusters_93 : decode cX7_clusters 93 = .ok (.putfield 11, 3) := by decide +kernel
theorem dX7_clusters_96 : decode cX7_clusters 96 = .ok (.aload_n 0, 1) := by decide +kernel
theorem dX7_clusters_97 : decode cX7_clusters 97 = .ok (.iload_n 3, 1) := by decide +kernel
theorem dX7_clusters_98 : decode cX7_clusters 98 = .ok (.i2l, 1) := by decide +kernel
theorem dX7_clusters_99 : decode cX7_clusters 99 = .ok (.invokevirtual 145, 3) := by decide +kernel
theorem dX7_clusters_102 : decode cX7_clusters 102 = .ok (.aload_n 0, 1) := by decide +kernel
theorem dX7_clusters_103 : decode cX7_clusters 103 = .ok (.iload 4, 2) := by decide +kernel
theorem dX7_clusters_105 : decode cX7_clusters 105 = .ok (.i2l, 1) := by decide +kernel
theorem dX7_clusters_106 : decode cX7_clusters 106 = .ok (.invokevirtual 145, 3) := by decide +kernel
theorem dX7_clusters_109 : decode cX7_clusters 109 = .ok (.iload_n 2, 1) := by decide +kernel
theorem dX7_clusters_110 : decode cX7_clusters 110 = .ok (.ireturn, 1) := by decide +kernel
theorem dX7_would_0 : decode cX7_would 0 = .ok (.aload_n 0, 1) := by decide +kernel
theorem dX7_would_1 : decode cX7_would 1 = .ok (.iconst 0, 1) := by decide +kernel
theorem dX7_would_2 : decode cX7_would 2 = .ok (.putfield 1, 3) := by decide +kernel
theorem dX7_would_5 : decode cX7_would 5 = .ok (.iload_n 1, 1) := by decide +kernel
theorem dX7_would_6 : decode cX7_would 6 = .ok (.invokestatic 136, 3) := by decide +kernel
theorem dX7_would_9 : decode cX7_would 9 = .ok (.ifCond .eq 10, 3) := by decide +kernel
theorem dX7_would_12 : decode cX7_would 12 = .ok (.iload_n 2, 1) := by decide +kernel
theorem dX7_would_13 : decode cX7_would 13 = .ok (.invokestatic 139, 3) := by decide +kernel
theorem dX7_would_16 : decode cX7_would 16 = .ok (.ifCond .ne 5, 3) := by decide +kernel
theorem dX7_would_19 : decode cX7_would 19 = .ok (.iconst (-1), 1) := by decide +kernel
theorem dX7_would_20 : decode cX7_would 20 = .ok (.ireturn, 1) := by decide +kernel
theorem dX7_would_21 : decode cX7_would 21 = .ok (.aload_n 0, 1) := by decide +kernel
theorem dX7_would_22 : decode cX7_would 22 = .ok (.iload_n 1, 1) := by decide +kernel
theorem dX7_would_23 : decode cX7_would 23 = .ok (.invokevirtual 152, 3) := by decide +kernel
theorem dX7_would_26 : decode cX7_would 26 = .ok (.ifCond .eq 6, 3) := by decide +kernel
theorem dX7_would_29 : decode cX7_would 29 = .ok (.bipush (-3), 2) := by decide +kernel
theorem dX7_would_31 : decode cX7_would 31 = .ok (.ireturn, 1) := by decide +kernel
theorem dX7_would_32 : decode cX7_would 32 = .ok (.aload_n 0, 1) := by decide +kernel
theorem dX7_would_33 : decode cX7_would 33 = .ok (.getfield 60, 3) := by decide +kernel
theorem dX7_would_36 : decode cX7_would 36 = .ok (.iload_n 1, 1) := by decide +kernel
theorem dX7_would_37 : decode cX7_would 37 = .ok (.iaload, 1) := by decide +kernel
theorem dX7_would_38 : decode cX7_would 38 = .ok (.aload_n 0, 1) := by decide +kernel
theorem dX7_would_39 : decode cX7_would 39 = .ok (.iload_n 1, 1) := by decide +kernel
theorem dX7_would_40 : decode cX7_would 40 = .ok (.invokevirtual 121, 3) := by decide +kernel
theorem dX7_would_43 : decode cX7_would 43 = .ok (.iconst 1, 1) := by decide +kernel
theorem dX7_would_44 : decode cX7_would 44 = .ok (.isub, 1) := by decide +kernel
theorem dX7_would_45 : decode cX7_would 45 = .ok (.if_icmp .ne 6, 3) := by decide +kernel
theorem dX7_would_48 : decode cX7_would 48 = .ok (.bipush (-5), 2) := by decide +kernel
theorem dX7_would_50 : decode cX7_would 50 = .ok (.ireturn, 1) := by decide +kernel
theorem dX7_would_51 : decode cX7_would 51 = .ok (.aload_n 0, 1) := by decide +kernel
theorem dX7_would_52 : decode cX7_would 52 = .ok (.iload_n 2, 1) := by decide +kernel
theorem dX7_would_53 : decode cX7_would 53 = .ok (.invokevirtual 142, 3) := by decide +kernel
theorem dX7_would_56 : decode cX7_would 56 = .ok (.istore_n 3, 1) := by decide +kernel
theorem dX7_would_57 : decode cX7_would 57 = .ok (.aload_n 0, 1) := by decide +kernel
theorem dX7_would_58 : decode cX7_would 58 = .ok (.iload_n 1, 1) := by decide +kernel
theorem dX7_would_59 : decode cX7_would 59 = .ok (.invokevirtual 162, 3) := by decide +kernel
theorem dX7_would_62 : decode cX7_would 62 = .ok (.aload_n 0, 1) := by decide +kernel
theorem dX7_would_63 : decode cX7_would 63 = .ok (.getfield 60, 3) := by decide +kernel
theorem dX7_would_66 : decode cX7_would 66 = .ok (.iload_n 1, 1) := by decide +kernel
theorem dX7_would_67 : decode cX7_would 67 = .ok (.iaload, 1) := by decide +kernel
theorem dX7_would_68 : decode cX7_would 68 = .ok (.istore 4, 2) := by decide +kernel
theorem dX7_would_70 : decode cX7_would 70 = .ok (.iconst 0, 1) := by decide +kernel
theorem dX7_would_71 : decode cX7_would 71 = .ok (.istore 5, 2) := by decide +kernel
theorem dX7_would_73 : decode cX7_would 73 = .ok (.iload 5, 2) := by decide +kernel
theorem dX7_would_75 : decode cX7_would 75 = .ok (.iload 4, 2) := by decide +kernel
theorem dX7_would_77 : decode cX7_would 77 = .ok (.if_icmp .ge 23, 3) := by decide +kernel
theorem dX7_would_80 : decode cX7_would 80 = .ok (.aload_n 0, 1) := by decide +kernel
theorem dX7_would_81 : decode cX7_would 81 = .ok (.getfield 97, 3) := by decide +kernel
theorem dX7_would_84 : decode cX7_would 84 = .ok (.iload 5, 2) := by decide +kernel
theorem dX7_would_86 : decode cX7_would 86 = .ok (.aload_n 0, 1) := by decide +kernel
theorem dX7_would_87 : decode cX7_would 87 = .ok (.getfield 66, 3) := by decide +kernel
theorem dX7_would_90 : decode cX7_would 90 = .ok (.iload 5, 2) := by decide +kernel
theorem dX7_would_92 : decode cX7_would 92 = .ok (.iaload, 1) := by decide +kernel
theorem dX7_would_93 : decode cX7_would 93 = .ok (.iastore, 1) := by decide +kernel
theorem dX7_would_94 : decode cX7_would 94 = .ok (.iinc 5 1, 3) := by decide +kernel
theorem dX7_would_97 : decode cX7_would 97 = .ok (.goto (-24), 3) := by decide +kernel
theorem dX7_would_100 : decode cX7_would 100 = .ok (.iconst 0, 1) := by decide +kernel
theorem dX7_would_101 : decode cX7_would 101 = .ok (.istore 5, 2) := by decide +kernel
theorem dX7_would_103 : decode cX7_would 103 = .ok (.iload 5, 2) := by decide +kernel
theorem dX7_would_105 : decode cX7_would 105 = .ok (.iload 4, 2) := by decide +kernel
theorem dX7_would_107 : decode cX7_would 107 = .ok (.if_icmp .ge 20, 3) := by decide +kernel
theorem dX7_would_110 : decode cX7_would 110 = .ok (.aload_n 0, 1) := by decide +kernel
theorem dX7_would_111 : decode cX7_would 111 = .ok (.iload_n 1, 1) := by decide +kernel
theorem dX7_would_112 : decode cX7_would 112 = .ok (.iload 5, 2) := by decide +kernel
theorem dX7_would_114 : decode cX7_would 114 = .ok (.invokevirtual 106, 3) := by decide +kernel
theorem dX7_would_117 : decode cX7_would 117 = .ok (.iload_n 3, 1) := by decide +kernel
theorem dX7_would_118 : decode cX7_would 118 = .ok (.if_icmp .gt 9, 3) := by decide +kernel
theorem dX7_would_121 : decode cX7_would 121 = .ok (.iinc 5 1, 3) := by decide +kernel
theorem dX7_would_124 : decode cX7_would 124 = .ok (.goto (-21), 3) := by decide +kernel
theorem dX7_would_127 : decode cX7_would 127 = .ok (.aload_n 0, 1) := by decide +kernel
theorem dX7_would_128 : decode cX7_would 128 = .ok (.iload_n 1, 1) := by decide +kernel
theorem dX7_would_129 : decode cX7_would 129 = .ok (.iload_n 3, 1) := by decide +kernel
theorem dX7_would_130 : decode cX7_would 130 = .ok (.invokevirtual 155, 3) := by decide +kernel
theorem dX7_would_133 : decode cX7_would 133 = .ok (.aload_n 0, 1) := by decide +kernel
theorem dX7_would_134 : decode cX7_would 134 = .ok (.iload_n 1, 1) := by decide +kernel
theorem dX7_would_135 : decode cX7_would 135 = .ok (.invokevirtual 162, 3) := by decide +kernel
theorem dX7_would_138 : decode cX7_would 138 = .ok (.aload_n 0, 1) := by decide +kernel
theorem dX7_would_139 : decode cX7_would 139 = .ok (.getfield 66, 3) := by decide +kernel
theorem dX7_would_142 : decode cX7_would 142 = .ok (.iload 5, 2) := by decide +kernel
theorem dX7_would_144 : decode cX7_would 144 = .ok (.iaload, 1) := by decide +kernel
theorem dX7_would_145 : decode cX7_would 145 = .ok (.istore 6, 2) := by decide +kernel
theorem dX7_would_147 : decode cX7_would 147 = .ok (.iconst 0, 1) := by decide +kernel
theorem dX7_would_148 : decode cX7_would 148 = .ok (.istore 7, 2) := by decide +kernel
theorem dX7_would_150 : decode cX7_would 150 = .ok (.iconst 0, 1) := by decide +kernel
theorem dX7_would_151 : decode cX7_would 151 = .ok (.istore 8, 2) := by decide +kernel
theorem dX7_would_153 : decode cX7_would 153 = .ok (.iload 8, 2) := by decide +kernel
theorem dX7_would_155 : decode cX7_would 155 = .ok (.iload 4, 2) := by decide +kernel
theorem dX7_would_157 : decode cX7_would 157 = .ok (.if_icmp .ge 53, 3) := by decide +kernel
theorem dX7_would_160 : decode cX7_would 160 = .ok (.iload 7, 2) := by decide +kernel
theorem dX7_would_162 : decode cX7_would 162 = .ok (.aload_n 0, 1) := by decide +kernel
theorem dX7_would_163 : decode cX7_would 163 = .ok (.getfield 97, 3) := by decide +kernel
theorem dX7_would_166 : decode cX7_would 166 = .ok (.iload 8, 2) := by decide +kernel
theorem dX7_would_168 : decode cX7_would 168 = .ok (.iaload, 1) := by decide +kernel
theorem dX7_would_169 : decode cX7_would 169 = .ok (.aload_n 0, 1) := by decide +kernel
theorem dX7_would_170 : decode cX7_would 170 = .ok (.getfield 66, 3) := by decide +kernel
theorem dX7_would_173 : decode cX7_would 173 = .ok (.iload 8, 2) := by decide +kernel
theorem dX7_would_175 : decode cX7_would 175 = .ok (.iload 5, 2) := by decide +kernel
theorem dX7_would_177 : decode cX7_would 177 = .ok (.if_icmp .ge 8, 3) := by decide +kernel
theorem dX7_would_180 : decode cX7_would 180 = .ok (.iload 8, 2) := by decide +kernel
theorem dX7_would_182 : decode cX7_would 182 = .ok (.goto 7, 3) := by decide +kernel
theorem dX7_would_185 : decode cX7_would 185 = .ok (.iload 8, 2) := by decide +kernel
theorem dX7_would_187 : decode cX7_would 187 = .ok (.iconst 1, 1) := by decide +kernel
theorem dX7_would_188 : decode cX7_would 188 = .ok (.iadd, 1) := by decide +kernel
theorem dX7_would_189 : decode cX7_would 189 = .ok (.iaload, 1) := by decide +kernel
theorem dX7_would_190 : decode cX7_would 190 = .ok (.if_icmp .eq 7, 3) := by decide +kernel
theorem dX7_would_193 : decode cX7_would 193 = .ok (.iconst 1, 1) := by decide +kernel
theorem dX7_would_194 : decode cX7_would 194 = .ok (.goto 4, 3) := by decide +kernel
theorem dX7_would_197 : decode cX7_would 197 = .ok (.iconst 0, 1) := by decide +kernel
theorem dX7_would_198 : decode cX7_would 198 = .ok (.invokestatic 109, 3) := by decide +kernel
theorem dX7_would_201 : decode cX7_would 201 = .ok (.iadd, 1) := by decide +kernel
theorem dX7_would_202 : decode cX7_would 202 = .ok (.istore 7, 2) := by decide +kernel
theorem dX7_would_204 : decode cX7_would 204 = .ok (.iinc 8 1, 3) := by decide +kernel
theorem dX7_would_207 : decode cX7_would 207 = .ok (.goto (-54), 3) := by decide +kernel
theorem dX7_would_210 : decode cX7_would 210 = .ok (.aload_n 0, 1) := by decide +kernel
theorem dX7_would_211 : decode cX7_would 211 = .ok (.iload_n 1, 1) := by decide +kernel
theorem dX7_would_212 : decode cX7_would 212 = .ok (.iload_n 3, 1) := by decide +kernel
theorem dX7_would_213 : decode cX7_would 213 = .ok (.invokevirtual 169, 3) := by decide +kernel
theorem dX7_would_216 : decode cX7_would 216 = .ok (.istore 8, 2) := by decide +kernel
theorem dX7_would_218 : decode cX7_would 218 = .ok (.aload_n 0, 1) := by decide +kernel
theorem dX7_would_219 : decode cX7_would 219 = .ok (.iconst 0, 1) := by decide +kernel
theorem dX7_would_220 : decode cX7_would 220 = .ok (.putfield 11, 3) := by decide +kernel
theorem dX7_would_223 : decode cX7_would 223 = .ok (.aload_n 0, 1) := by decide +kernel
theorem dX7_would_224 : decode cX7_would 224 = .ok (.iload 6, 2) := by decide +kernel
theorem dX7_would_226 : decode cX7_would 226 = .ok (.i2l, 1) := by decide +kernel
theorem dX7_would_227 : decode cX7_would 227 = .ok (.invokevirtual 145, 3) := by decide +kernel
theorem dX7_would_230 : decode cX7_would 230 = .ok (.iload 7, 2) := by decide +kernel
theorem dX7_would_232 : decode cX7_would 232 = .ok (.ireturn, 1) := by decide +kernel
theorem dX7_unlike_0 : decode cX7_unlike 0 = .ok (.iconst 0, 1) := by decide +kernel
theorem dX7_unlike_1 : decode cX7_unlike 1 = .ok (.istore_n 2, 1) := by decide +kernel
theorem dX7_unlike_2 : decode cX7_unlike 2 = .ok (.iconst 0, 1) := by decide +kernel
theorem dX7_unlike_3 : decode cX7_unlike 3 = .ok (.istore_n 3, 1) := by decide +kernel
theorem dX7_unlike_4 : decode cX7_unlike 4 = .ok (.iload_n 3, 1) := by decide +kernel
theorem dX7_unlike_5 : decode cX7_unlike 5 = .ok (.aload_n 0, 1) := by decide +kernel
theorem dX7_unlike_6 : decode cX7_unlike 6 = .ok (.getfield 60, 3) := by decide +kernel
theorem dX7_unlike_9 : decode cX7_unlike 9 = .ok (.iload_n 1, 1) := by decide +kernel
theorem dX7_unlike_10 : decode cX7_unlike 10 = .ok (.iaload, 1) := by decide +kernel
theorem dX7_unlike_11 : decode cX7_unlike 11 = .ok (.if_icmp .ge 41, 3) := by decide +kernel
theorem dX7_unlike_14 : decode cX7_unlike 14 = .ok (.iload_n 2, 1) := by decide +kernel
theorem dX7_unlike_15 : decode cX7_unlike 15 = .ok (.iload_n 3, 1) := by decide +kernel
theorem dX7_unlike_16 : decode cX7_unlike 16 = .ok (.ifCond .eq 20, 3) := by decide +kernel
theorem dX7_unlike_19 : decode cX7_unlike 19 = .ok (.aload_n 0, 1) := by decide +kernel
theorem dX7_unlike_20 : decode cX7_unlike 20 = .ok (.iload_n 1, 1) := by decide +kernel
theorem dX7_unlike_21 : decode cX7_unlike 21 = .ok (.iload_n 3, 1) := by decide +kernel
theorem dX7_unlike_22 : decode cX7_unlike 22 = .ok (.iconst 1, 1) := by decide +kernel
theorem dX7_unlike_23 : decode cX7_unlike 23 = .ok (.isub, 1) := by decide +kernel
theorem dX7_unlike_24 : decode cX7_unlike 24 = .ok (.invokevirtual 106, 3) := by decide +kernel
theorem dX7_unlike_27 : decode cX7_unlike 27 = .ok (.aload_n 0, 1) := by decide +kernel
theorem dX7_unlike_28 : decode cX7_unlike 28 = .ok (.iload_n 1, 1) := by decide +kernel
theorem dX7_unlike_29 : decode cX7_unlike 29 = .ok (.iload_n 3, 1) := by decide +kernel
theorem dX7_unlike_30 : decode cX7_unlike 30 = .ok (.invokevirtual 106, 3) := by decide +kernel
theorem dX7_unlike_33 : decode cX7_unlike 33 = .ok (.if_icmp .eq 7, 3) := by decide +kernel
theorem dX7_unlike_36 : decode cX7_unlike 36 = .ok (.iconst 1, 1) := by decide +kernel
theorem dX7_unlike_37 : decode cX7_unlike 37 = .ok (.goto 4, 3) := by decide +kernel
theorem dX7_unlike_40 : decode cX7_unlike 40 = .ok (.iconst 0, 1) := by decide +kernel
theorem dX7_unlike_41 : decode cX7_unlike 41 = .ok (.invokestatic 109, 3) := by decide +kernel
theorem dX7_unlike_44 : decode cX7_unlike 44 = .ok (.iadd, 1) := by decide +kernel
theorem dX7_unlike_45 : decode cX7_unlike 45 = .ok (.istore_n 2, 1) := by decide +kernel
theorem dX7_unlike_46 : decode cX7_unlike 46 = .ok (.iinc 3 1, 3) := by decide +kernel
theorem dX7_unlike_49 : decode cX7_unlike 49 = .ok (.goto (-45), 3) := by decide +kernel
theorem dX7_unlike_52 : decode cX7_unlike 52 = .ok (.iload_n 2, 1) := by decide +kernel
theorem dX7_unlike_53 : decode cX7_unlike 53 = .ok (.ireturn, 1) := by decide +kernel
theorem dX7_looks_0 : decode cX7_looks 0 = .ok (.aload_n 0, 1) := by decide +kernel
theorem dX7_looks_1 : decode cX7_looks 1 = .ok (.iconst 0, 1) := by decide +kernel
theorem dX7_looks_2 : decode cX7_looks 2 = .ok (.putfield 1, 3) := by decide +kernel
theorem dX7_looks_5 : decode cX7_looks 5 = .ok (.iload_n 1, 1) := by decide +kernel
theorem dX7_looks_6 : decode cX7_looks 6 = .ok (.invokestatic 136, 3) := by decide +kernel
theorem dX7_looks_9 : decode cX7_looks 9 = .ok (.ifCond .ne 5, 3) := by decide +kernel
theorem dX7_looks_12 : decode cX7_looks 12 = .ok (.iconst (-1), 1) := by decide +kernel
theorem dX7_looks_13 : decode cX7_looks 13 = .ok (.ireturn, 1) := by decide +kernel
theorem dX7_looks_14 : decode cX7_looks 14 = .ok (.iconst 0, 1) := by decide +kernel
theorem dX7_looks_15 : decode cX7_looks 15 = .ok (.istore_n 2, 1) := by decide +kernel
theorem dX7_looks_16 : decode cX7_looks 16 = .ok (.iconst (-1), 1) := by decide +kernel
theorem dX7_looks_17 : decode cX7_looks 17 = .ok (.istore_n 3, 1) := by decide +kernel
theorem dX7_looks_18 : decode cX7_looks 18 = .ok (.iconst 0, 1) := by decide +kernel
theorem dX7_looks_19 : decode cX7_looks 19 = .ok (.istore 4, 2) := by decide +kernel
theorem dX7_looks_21 : decode cX7_looks 21 = .ok (.iload 4, 2) := by decide +kernel
theorem dX7_looks_23 : decode cX7_looks 23 = .ok (.aload_n 0, 1) := by decide +kernel
theorem dX7_looks_24 : decode cX7_looks 24 = .ok (.getfield 60, 3) := by decide +kernel
theorem dX7_looks_27 : decode cX7_looks 27 = .ok (.iload_n 1, 1) := by decide +kernel
theorem dX7_looks_28 : decode cX7_looks 28 = .ok (.iaload, 1) := by decide +kernel
theorem dX7_looks_29 : decode cX7_looks 29 = .ok (.if_icmp .ge 48, 3) := by decide +kernel
theorem dX7_looks_32 : decode cX7_looks 32 = .ok (.aload_n 0, 1) := by decide +kernel
theorem dX7_looks_33 : decode cX7_looks 33 = .ok (.iload_n 1, 1) := by decide +kernel
theorem dX7_looks_34 : decode cX7_looks 34 = .ok (.aload_n 0, 1) := by decide +kernel
theorem dX7_looks_35 : decode cX7_looks 35 = .ok (.iload_n 1, 1) := by decide +kernel
theorem dX7_looks_36 : decode cX7_looks 36 = .ok (.iload 4, 2) := by decide +kernel
theorem dX7_looks_38 : decode cX7_looks 38 = .ok (.invokevirtual 106, 3) := by decide +kernel
theorem dX7_looks_41 : decode cX7_looks 41 = .ok (.invokevirtual 176, 3) := by decide +kernel
theorem dX7_looks_44 : decode cX7_looks 44 = .ok (.istore 5, 2) := by decide +kernel
theorem dX7_looks_46 : decode cX7_looks 46 = .ok (.iload 5, 2) := by decide +kernel
theorem dX7_looks_48 : decode cX7_looks 48 = .ok (.iload_n 2, 1) := by decide +kernel
theorem dX7_looks_49 : decode cX7_looks 49 = .ok (.if_icmp .le 13, 3) := by decide +kernel
theorem dX7_looks_52 : decode cX7_looks 52 = .ok (.aload_n 0, 1) := by decide +kernel
theorem dX7_looks_53 : decode cX7_looks 53 = .ok (.iload_n 1, 1) := by decide +kernel
theorem dX7_looks_54 : decode cX7_looks 54 = .ok (.iload 4, 2) := by decide +kernel
theorem dX7_looks_56 : decode cX7_looks 56 = .ok (.invokevirtual 106, 3) := by decide +kernel
theorem dX7_looks_59 : decode cX7_looks 59 = .ok (.goto 4, 3) := by decide +kernel
theorem dX7_looks_62 : decode cX7_looks 62 = .ok (.iload_n 3, 1) := by decide +kernel
theorem dX7_looks_63 : decode cX7_looks 63 = .ok (.istore_n 3, 1) := by decide +kernel
theorem dX7_looks_64 : decode cX7_looks 64 = .ok (.iload_n 2, 1) := by decide +kernel
theorem dX7_looks_65 : decode cX7_looks 65 = .ok (.iload 5, 2) := by decide +kernel
theorem dX7_looks_67 : decode cX7_looks 67 = .ok (.invokestatic 124, 3) := by decide +kernel
theorem dX7_looks_70 : decode cX7_looks 70 = .ok (.istore_n 2, 1) := by decide +kernel
theorem dX7_looks_71 : decode cX7_looks 71 = .ok (.iinc 4 1, 3) := by decide +kernel
theorem dX7_looks_74 : decode cX7_looks 74 = .ok (.goto (-53), 3) := by decide +kernel
theorem dX7_looks_77 : decode cX7_looks 77 = .ok (.aload_n 0, 1) := by decide +kernel
theorem dX7_looks_78 : decode cX7_looks 78 = .ok (.iconst 0, 1) := by decide +kernel
theorem dX7_looks_79 : decode cX7_looks 79 = .ok (.putfield 11, 3) := by decide +kernel
theorem dX7_looks_82 : decode cX7_looks 82 = .ok (.aload_n 0, 1) := by decide +kernel
theorem dX7_looks_83 : decode cX7_looks 83 = .ok (.iload_n 2, 1) := by decide +kernel
theorem dX7_looks_84 : decode cX7_looks 84 = .ok (.i2l, 1) := by decide +kernel
theorem dX7_looks_85 : decode cX7_looks 85 = .ok (.invokevirtual 145, 3) := by decide +kernel
theorem dX7_looks_88 : decode cX7_looks 88 = .ok (.aload_n 0, 1) := by decide +kernel
theorem dX7_looks_89 : decode cX7_looks 89 = .ok (.iload_n 3, 1) := by decide +kernel
theorem dX7_looks_90 : decode cX7_looks 90 = .ok (.i2l, 1) := by decide +kernel
theorem dX7_looks_91 : decode cX7_looks 91 = .ok (.invokevirtual 145, 3) := by decide +kernel
theorem dX7_looks_94 : decode cX7_looks 94 = .ok (.aload_n 0, 1) := by decide +kernel
theorem dX7_looks_95 : decode cX7_looks 95 = .ok (.aload_n 0, 1) := by decide +kernel
theorem dX7_looks_96 : decode cX7_looks 96 = .ok (.iload_n 1, 1) := by decide +kernel
theorem dX7_looks_97 : decode cX7_looks 97 = .ok (.invokevirtual 272, 3) := by decide +kernel
theorem dX7_looks_100 : decode cX7_looks 100 = .ok (.i2l, 1) := by decide +kernel
theorem dX7_looks_101 : decode cX7_looks 101 = .ok (.invokevirtual 145, 3) := by decide +kernel
theorem dX7_looks_104 : decode cX7_looks 104 = .ok (.aload_n 0, 1) := by decide +kernel
theorem dX7_looks_105 : decode cX7_looks 105 = .ok (.iload_n 1, 1) := by decide +kernel
theorem dX7_looks_106 : decode cX7_looks 106 = .ok (.invokevirtual 275, 3) := by decide +kernel
theorem dX7_looks_109 : decode cX7_looks 109 = .ok (.ireturn, 1) := by decide +kernel
theorem dX7_looksAll_0 : decode cX7_looksAll 0 = .ok (.iconst 0, 1) := by decide +kernel
theorem dX7_looksAll_1 : decode cX7_looksAll 1 = .ok (.istore_n 2, 1) := by decide +kernel
theorem dX7_looksAll_2 : decode cX7_looksAll 2 = .ok (.iconst 0, 1) := by decide +kernel
theorem dX7_looksAll_3 : decode cX7_looksAll 3 = .ok (.istore_n 3, 1) := by decide +kernel
theorem dX7_looksAll_4 : decode cX7_looksAll 4 = .ok (.iload_n 3, 1) := by decide +kernel
theorem dX7_looksAll_5 : decode cX7_looksAll 5 = .ok (.aload_n 0, 1) := by decide +kernel
theorem dX7_looksAll_6 : decode cX7_looksAll 6 = .ok (.getfield 60, 3) := by decide +kernel
theorem dX7_looksAll_9 : decode cX7_looksAll 9 = .ok (.iload_n 1, 1) := by decide +kernel
theorem dX7_looksAll_10 : decode cX7_looksAll 10 = .ok (.iaload, 1) := by decide +kernel
theorem dX7_looksAll_11 : decode cX7_looksAll 11 = .ok (.if_icmp .ge 23, 3) := by decide +kernel
theorem dX7_looksAll_14 : decode cX7_looksAll 14 = .ok (.iload_n 2, 1) := by decide +kernel
theorem dX7_looksAll_15 : decode cX7_looksAll 15 = .ok (.aload_n 0, 1) := by decide +kernel
theorem dX7_looksAll_16 : decode cX7_looksAll 16 = .ok (.iload_n 1, 1) := by decide +kernel
theorem dX7_looksAll_17 : decode cX7_looksAll 17 = .ok (.aload_n 0, 1) := by decide +kernel
theorem dX7_looksAll_18 : decode cX7_looksAll 18 = .ok (.iload_n 1, 1) := by decide +kernel
theorem dX7_looksAll_19 : decode cX7_looksAll 19 = .ok (.iload_n 3, 1) := by decide +kernel
theorem dX7_looksAll_20 : decode cX7_looksAll 20 = .ok (.invokevirtual 106, 3) := by decide +kernel
theorem dX7_looksAll_23 : decode cX7_looksAll 23 = .ok (.invokevirtual 176, 3) := by decide +kernel
theorem dX7_looksAll_26 : decode cX7_looksAll 26 = .ok (.iadd, 1) := by decide +kernel
theorem dX7_looksAll_27 : decode cX7_looksAll 27 = .ok (.istore_n 2, 1) := by decide +kernel
theorem dX7_looksAll_28 : decode cX7_looksAll 28 = .ok (.iinc 3 1, 3) := by decide +kernel
theorem dX7_looksAll_31 : decode cX7_looksAll 31 = .ok (.goto (-27), 3) := by decide +kernel
theorem dX7_looksAll_34 : decode cX7_looksAll 34 = .ok (.iload_n 2, 1) := by decide +kernel
theorem dX7_looksAll_35 : decode cX7_looksAll 35 = .ok (.ireturn, 1) := by decide +kernel
theorem dX7_best_0 : decode cX7_best 0 = .ok (.aload_n 0, 1) := by decide +kernel
theorem dX7_best_1 : decode cX7_best 1 = .ok (.iconst 0, 1) := by decide +kernel
theorem dX7_best_2 : decode cX7_best 2 = .ok (.putfield 1, 3) := by decide +kernel
theorem dX7_best_5 : decode cX7_best 5 = .ok (.iload_n 1, 1) := by decide +kernel
theorem dX7_best_6 : decode cX7_best 6 = .ok (.invokestatic 136, 3) := by decide +kernel
theorem dX7_best_9 : decode cX7_best 9 = .ok (.ifCond .ne 5, 3) := by decide +kernel
theorem dX7_best_12 : decode cX7_best 12 = .ok (.iconst (-1), 1) := by decide +kernel
theorem dX7_best_13 : decode cX7_best 13 = .ok (.ireturn, 1) := by decide +kernel
theorem dX7_best_14 : decode cX7_best 14 = .ok (.aload_n 0, 1) := by decide +kernel
theorem dX7_best_15 : decode cX7_best 15 = .ok (.getfield 57, 3) := by decide +kernel
theorem dX7_best_18 : decode cX7_best 18 = .ok (.iload_n 1, 1) := by decide +kernel
theorem dX7_best_19 : decode cX7_best 19 = .ok (.iaload, 1) := by decide +kernel
theorem dX7_best_20 : decode cX7_best 20 = .ok (.istore_n 2, 1) := by decide +kernel
theorem dX7_best_21 : decode cX7_best 21 = .ok (.iconst (-1), 1) := by decide +kernel
theorem dX7_best_22 : decode cX7_best 22 = .ok (.istore_n 3, 1) := by decide +kernel
theorem dX7_best_23 : decode cX7_best 23 = .ok (.iconst 0, 1) := by decide +kernel
theorem dX7_best_24 : decode cX7_best 24 = .ok (.istore 4, 2) := by decide +kernel
theorem dX7_best_26 : decode cX7_best 26 = .ok (.aload_n 0, 1) := by decide +kernel
theorem dX7_best_27 : decode cX7_best 27 = .ok (.iconst 0, 1) := by decide +kernel
theorem dX7_best_28 : decode cX7_best 28 = .ok (.putfield 11, 3) := by decide +kernel
theorem dX7_best_31 : decode cX7_best 31 = .ok (.iconst 3, 1) := by decide +kernel
theorem dX7_best_32 : decode cX7_best 32 = .ok (.istore 5, 2) := by decide +kernel
theorem dX7_best_34 : decode cX7_best 34 = .ok (.iload 5, 2) := by decide +kernel
theorem dX7_best_36 : decode cX7_best 36 = .ok (.bipush 6, 2) := by decide +kernel
theorem dX7_best_38 : decode cX7_best 38 = .ok (.if_icmp .gt 92, 3) := by decide +kernel
theorem dX7_best_41 : decode cX7_best 41 = .ok (.iload 5, 2) := by decide +kernel
theorem dX7_best_43 : decode cX7_best 43 = .ok (.aload_n 0, 1) := by decide +kernel
theorem dX7_best_44 : decode cX7_best 44 = .ok (.getfield 47, 3) := by decide +kernel
theorem dX7_best_47 : decode cX7_best 47 = .ok (.if_icmp .ge 20, 3) := by decide +kernel
theorem dX7_best_50 : decode cX7_best 50 = .ok (.aload_n 0, 1) := by decide +kernel
theorem dX7_best_51 : decode cX7_best 51 = .ok (.getfield 60, 3) := by decide +kernel
theorem dX7_best_54 : decode cX7_best 54 = .ok (.iload_n 1, 1) := by decide +kernel
theorem dX7_best_55 : decode cX7_best 55 = .ok (.iaload, 1) := by decide +kernel
theorem dX7_best_56 : decode cX7_best 56 = .ok (.iconst 1, 1) := by decide +kernel
theorem dX7_best_57 : decode cX7_best 57 = .ok (.iload 5, 2) := by decide +kernel
theorem dX7_best_59 : decode cX7_best 59 = .ok (.ishl, 1) := by decide +kernel
theorem dX7_best_60 : decode cX7_best 60 = .ok (.if_icmp .ge 7, 3) := by decide +kernel
theorem dX7_best_63 : decode cX7_best 63 = .ok (.iconst 1, 1) := by decide +kernel
theorem dX7_best_64 : decode cX7_best 64 = .ok (.goto 4, 3) := by decide +kernel
theorem dX7_best_67 : decode cX7_best 67 = .ok (.iconst 0, 1) := by decide +kernel
theorem dX7_best_68 : decode cX7_best 68 = .ok (.istore 6, 2) := by decide +kernel
theorem dX7_best_70 : decode cX7_best 70 = .ok (.aload_n 0, 1) := by decide +kernel
theorem dX7_best_71 : decode cX7_best 71 = .ok (.getfield 57, 3) := by decide +kernel
theorem dX7_best_74 : decode cX7_best 74 = .ok (.iload_n 1, 1) := by decide +kernel
theorem dX7_best_75 : decode cX7_best 75 = .ok (.iload 5, 2) := by decide +kernel
theorem dX7_best_77 : decode cX7_best 77 = .ok (.iastore, 1) := by decide +kernel
theorem dX7_best_78 : decode cX7_best 78 = .ok (.iload 6, 2) := by decide +kernel
theorem dX7_best_80 : decode cX7_best 80 = .ok (.ifCond .eq 11, 3) := by decide +kernel
theorem dX7_best_83 : decode cX7_best 83 = .ok (.aload_n 0, 1) := by decide +kernel
theorem dX7_best_84 : decode cX7_best 84 = .ok (.iload_n 1, 1) := by decide +kernel
theorem dX7_best_85 : decode cX7_best 85 = .ok (.invokevirtual 275, 3) := by decide +kernel
theorem dX7_best_88 : decode cX7_best 88 = .ok (.goto 4, 3) := by decide +kernel
theorem dX7_best_91 : decode cX7_best 91 = .ok (.iconst (-1), 1) := by decide +kernel
theorem dX7_best_92 : decode cX7_best 92 = .ok (.istore 7, 2) := by decide +kernel
theorem dX7_best_94 : decode cX7_best 94 = .ok (.aload_n 0, 1) := by decide +kernel
theorem dX7_best_95 : decode cX7_best 95 = .ok (.iload 7, 2) := by decide +kernel
theorem dX7_best_97 : decode cX7_best 97 = .ok (.i2l, 1) := by decide +kernel
theorem dX7_best_98 : decode cX7_best 98 = .ok (.invokevirtual 145, 3) := by decide +kernel
theorem dX7_best_101 : decode cX7_best 101 = .ok (.iload 6, 2) := by decide +kernel
theorem dX7_best_103 : decode cX7_best 103 = .ok (.ifCond .eq 21, 3) := by decide +kernel
theorem dX7_best_106 : decode cX7_best 106 = .ok (.iload_n 3, 1) := by decide +kernel
theorem dX7_best_107 : decode cX7_best 107 = .ok (.ifCond .lt 10, 3) := by decide +kernel
theorem dX7_best_110 : decode cX7_best 110 = .ok (.iload 7, 2) := by decide +kernel
theorem dX7_best_112 : decode cX7_best 112 = .ok (.iload 4, 2) := by decide +kernel
theorem dX7_best_114 : decode cX7_best 114 = .ok (.if_icmp .ge 10, 3) := by decide +kernel
theorem dX7_best_117 : decode cX7_best 117 = .ok (.iload 5, 2) := by decide +kernel
theorem dX7_best_119 : decode cX7_best 119 = .ok (.istore_n 3, 1) := by decide +kernel
theorem dX7_best_120 : decode cX7_best 120 = .ok (.iload 7, 2) := by decide +kernel
theorem dX7_best_122 : decode cX7_best 122 = .ok (.istore 4, 2) := by decide +kernel
theorem dX7_best_124 : decode cX7_best 124 = .ok (.iinc 5 1, 3) := by decide +kernel
theorem dX7_best_127 : decode cX7_best 127 = .ok (.goto (-93), 3) := by decide +kernel
theorem dX7_best_130 : decode cX7_best 130 = .ok (.aload_n 0, 1) := by decide +kernel
theorem dX7_best_131 : decode cX7_best 131 = .ok (.getfield 57, 3) := by decide +kernel
theorem dX7_best_134 : decode cX7_best 134 = .ok (.iload_n 1, 1) := by decide +kernel
theorem dX7_best_135 : decode cX7_best 135 = .ok (.iload_n 2, 1) := by decide +kernel
theorem dX7_best_136 : decode cX7_best 136 = .ok (.iastore, 1) := by decide +kernel
theorem dX7_best_137 : decode cX7_best 137 = .ok (.iload_n 3, 1) := by decide +kernel
theorem dX7_best_138 : decode cX7_best 138 = .ok (.ireturn, 1) := by decide +kernel
theorem dX7_firstOf_0 : decode cX7_firstOf 0 = .ok (.aload_n 0, 1) := by decide +kernel
theorem dX7_firstOf_1 : decode cX7_firstOf 1 = .ok (.iload_n 1, 1) := by decide +kernel
theorem dX7_firstOf_2 : decode cX7_firstOf 2 = .ok (.invokevirtual 121, 3) := by decide +kernel
theorem dX7_firstOf_5 : decode cX7_firstOf 5 = .ok (.istore_n 3, 1) := by decide +kernel
theorem dX7_firstOf_6 : decode cX7_firstOf 6 = .ok (.iload_n 2, 1) := by decide +kernel
theorem dX7_firstOf_7 : decode cX7_firstOf 7 = .ok (.istore 4, 2) := by decide +kernel
theorem dX7_firstOf_9 : decode cX7_firstOf 9 = .ok (.aload_n 0, 1) := by decide +kernel
theorem dX7_firstOf_10 : decode cX7_firstOf 10 = .ok (.iload 4, 2) := by decide +kernel
theorem dX7_firstOf_12 : decode cX7_firstOf 12 = .ok (.invokevirtual 269, 3) := by decide +kernel
theorem dX7_firstOf_15 : decode cX7_firstOf 15 = .ok (.ifCond .ne 16, 3) := by decide +kernel
theorem dX7_firstOf_18 : decode cX7_firstOf 18 = .ok (.iload 4, 2) := by decide +kernel
theorem dX7_firstOf_20 : decode cX7_firstOf 20 = .ok (.iload_n 3, 1) := by decide +kernel
theorem dX7_firstOf_21 : decode cX7_firstOf 21 = .ok (.iadd, 1) := by decide +kernel
theorem dX7_firstOf_22 : decode cX7_firstOf 22 = .ok (.iconst 1, 1) := by decide +kernel
theorem dX7_firstOf_23 : decode cX7_firstOf 23 = .ok (.isub, 1) := by decide +kernel
theorem dX7_firstOf_24 : decode cX7_firstOf 24 = .ok (.iload_n 3, 1) := by decide +kernel
theorem dX7_firstOf_25 : decode cX7_firstOf 25 = .ok (.irem, 1) := by decide +kernel
theorem dX7_firstOf_26 : decode cX7_firstOf 26 = .ok (.istore 4, 2) := by decide +kernel
theorem dX7_firstOf_28 : decode cX7_firstOf 28 = .ok (.goto (-19), 3) := by decide +kernel
theorem dX7_firstOf_31 : decode cX7_firstOf 31 = .ok (.iload 4, 2) := by decide +kernel
theorem dX7_firstOf_33 : decode cX7_firstOf 33 = .ok (.ireturn, 1) := by decide +kernel
theorem dX7_span_0 : decode cX7_span 0 = .ok (.aload_n 0, 1) := by decide +kernel
theorem dX7_span_1 : decode cX7_span 1 = .ok (.iconst 0, 1) := by decide +kernel
theorem dX7_span_2 : decode cX7_span 2 = .ok (.putfield 1, 3) := by decide +kernel
theorem dX7_span_5 : decode cX7_span 5 = .ok (.iload_n 1, 1) := by decide +kernel
theorem dX7_span_6 : decode cX7_span 6 = .ok (.invokestatic 136, 3) := by decide +kernel
theorem dX7_span_9 : decode cX7_span 9 = .ok (.ifCond .eq 22, 3) := by decide +kernel
theorem dX7_span_12 : decode cX7_span 12 = .ok (.iload_n 2, 1) := by decide +kernel
theorem dX7_span_13 : decode cX7_span 13 = .ok (.ifCond .lt 18, 3) := by decide +kernel
theorem dX7_span_16 : decode cX7_span 16 = .ok (.iload_n 3, 1) := by decide +kernel
theorem dX7_span_17 : decode cX7_span 17 = .ok (.iload_n 2, 1) := by decide +kernel
theorem dX7_span_18 : decode cX7_span 18 = .ok (.if_icmp .lt 13, 3) := by decide +kernel
theorem dX7_span_21 : decode cX7_span 21 = .ok (.iload_n 3, 1) := by decide +kernel
theorem dX7_span_22 : decode cX7_span 22 = .ok (.iconst 1, 1) := by decide +kernel
theorem dX7_span_23 : decode cX7_span 23 = .ok (.aload_n 0, 1) := by decide +kernel
theorem dX7_span_24 : decode cX7_span 24 = .ok (.getfield 47, 3) := by decide +kernel
theorem dX7_span_27 : decode cX7_span 27 = .ok (.ishl, 1) := by decide +kernel
theorem dX7_span_28 : decode cX7_span 28 = .ok (.if_icmp .lt 5, 3) := by decide +kernel
theorem dX7_span_31 : decode cX7_span 31 = .ok (.iconst (-1), 1) := by decide +kernel
theorem dX7_span_32 : decode cX7_span 32 = .ok (.ireturn, 1) := by decide +kernel
theorem dX7_span_33 : decode cX7_span 33 = .ok (.aload_n 0, 1) := by decide +kernel
theorem dX7_span_34 : decode cX7_span 34 = .ok (.iload_n 1, 1) := by decide +kernel
theorem dX7_span_35 : decode cX7_span 35 = .ok (.invokevirtual 162, 3) := by decide +kernel
theorem dX7_span_38 : decode cX7_span 38 = .ok (.iconst 0, 1) := by decide +kernel
theorem dX7_span_39 : decode cX7_span 39 = .ok (.istore 4, 2) := by decide +kernel
theorem dX7_span_41 : decode cX7_span 41 = .ok (.iload 4, 2) := by decide +kernel
theorem dX7_span_43 : decode cX7_span 43 = .ok (.aload_n 0, 1) := by decide +kernel
theorem dX7_span_44 : decode cX7_span 44 = .ok (.iload_n 1, 1) := by decide +kernel
theorem dX7_span_45 : decode cX7_span 45 = .ok (.invokevirtual 121, 3) := by decide +kernel
theorem dX7_span_48 : decode cX7_span 48 = .ok (.if_icmp .ge 17, 3) := by decide +kernel
theorem dX7_span_51 : decode cX7_span 51 = .ok (.aload_n 0, 1) := by decide +kernel
theorem dX7_span_52 : decode cX7_span 52 = .ok (.getfield 97, 3) := by decide +kernel
theorem dX7_span_55 : decode cX7_span 55 = .ok (.iload 4, 2) := by decide +kernel
theorem dX7_span_57 : decode cX7_span 57 = .ok (.iconst 0, 1) := by decide +kernel
theorem dX7_span_58 : decode cX7_span 58 = .ok (.iastore, 1) := by decide +kernel
theorem dX7_span_59 : decode cX7_span 59 = .ok (.iinc 4 1, 3) := by decide +kernel
theorem dX7_span_62 : decode cX7_span 62 = .ok (.goto (-21), 3) := by decide +kernel
theorem dX7_span_65 : decode cX7_span 65 = .ok (.iconst 0, 1) := by decide +kernel
theorem dX7_span_66 : decode cX7_span 66 = .ok (.istore 4, 2) := by decide +kernel
theorem dX7_span_68 : decode cX7_span 68 = .ok (.iconst 0, 1) := by decide +kernel
theorem dX7_span_69 : decode cX7_span 69 = .ok (.istore 5, 2) := by decide +kernel
theorem dX7_span_71 : decode cX7_span 71 = .ok (.iconst 0, 1) := by decide +kernel
theorem dX7_span_72 : decode cX7_span 72 = .ok (.istore 6, 2) := by decide +kernel
theorem dX7_span_74 : decode cX7_span 74 = .ok (.iconst 0, 1) := by decide +kernel
theorem dX7_span_75 : decode cX7_span 75 = .ok (.istore 7, 2) := by decide +kernel
theorem dX7_span_77 : decode cX7_span 77 = .ok (.iload 7, 2) := by decide +kernel
theorem dX7_span_79 : decode cX7_span 79 = .ok (.aload_n 0, 1) := by decide +kernel
theorem dX7_span_80 : decode cX7_span 80 = .ok (.getfield 60, 3) := by decide +kernel
theorem dX7_span_83 : decode cX7_span 83 = .ok (.iload_n 1, 1) := by decide +kernel
theorem dX7_span_84 : decode cX7_span 84 = .ok (.iaload, 1) := by decide +kernel
theorem dX7_span_85 : decode cX7_span 85 = .ok (.if_icmp .ge 104, 3) := by decide +kernel
theorem dX7_span_88 : decode cX7_span 88 = .ok (.aload_n 0, 1) := by decide +kernel
theorem dX7_span_89 : decode cX7_span 89 = .ok (.iload_n 1, 1) := by decide +kernel
theorem dX7_span_90 : decode cX7_span 90 = .ok (.iload 7, 2) := by decide +kernel
theorem dX7_span_92 : decode cX7_span 92 = .ok (.invokevirtual 106, 3) := by decide +kernel
theorem dX7_span_95 : decode cX7_span 95 = .ok (.i2l, 1) := by decide +kernel
theorem dX7_span_96 : decode cX7_span 96 = .ok (.iload_n 2, 1) := by decide +kernel
theorem dX7_span_97 : decode cX7_span 97 = .ok (.i2l, 1) := by decide +kernel
theorem dX7_span_98 : decode cX7_span 98 = .ok (.iload_n 3, 1) := by decide +kernel
theorem dX7_span_99 : decode cX7_span 99 = .ok (.i2l, 1) := by decide +kernel
theorem dX7_span_100 : decode cX7_span 100 = .ok (.invokestatic 21, 3) := by decide +kernel
theorem dX7_span_103 : decode cX7_span 103 = .ok (.ifCond .ne 6, 3) := by decide +kernel
theorem dX7_span_106 : decode cX7_span 106 = .ok (.goto 77, 3) := by decide +kernel
theorem dX7_span_109 : decode cX7_span 109 = .ok (.iinc 4 1, 3) := by decide +kernel
theorem dX7_span_112 : decode cX7_span 112 = .ok (.aload_n 0, 1) := by decide +kernel
theorem dX7_span_113 : decode cX7_span 113 = .ok (.iload_n 1, 1) := by decide +kernel
theorem dX7_span_114 : decode cX7_span 114 = .ok (.aload_n 0, 1) := by decide +kernel
theorem dX7_span_115 : decode cX7_span 115 = .ok (.getfield 66, 3) := by decide +kernel
theorem dX7_span_118 : decode cX7_span 118 = .ok (.iload 7, 2) := by decide +kernel
theorem dX7_span_120 : decode cX7_span 120 = .ok (.iaload, 1) := by decide +kernel
theorem dX7_span_121 : decode cX7_span 121 = .ok (.invokevirtual 263, 3) := by decide +kernel
theorem dX7_span_124 : decode cX7_span 124 = .ok (.istore 8, 2) := by decide +kernel
theorem dX7_span_126 : decode cX7_span 126 = .ok (.iload 5, 2) := by decide +kernel
theorem dX7_span_128 : decode cX7_span 128 = .ok (.aload_n 0, 1) := by decide +kernel
theorem dX7_span_129 : decode cX7_span 129 = .ok (.getfield 97, 3) := by decide +kernel
theorem dX7_span_132 : decode cX7_span 132 = .ok (.iload 8, 2) := by decide +kernel
theorem dX7_span_134 : decode cX7_span 134 = .ok (.iaload, 1) := by decide +kernel
theorem dX7_span_135 : decode cX7_span 135 = .ok (.ifCond .ne 7, 3) := by decide +kernel
theorem dX7_span_138 : decode cX7_span 138 = .ok (.iconst 1, 1) := by decide +kernel
theorem dX7_span_139 : decode cX7_span 139 = .ok (.goto 4, 3) := by decide +kernel
theorem dX7_span_142 : decode cX7_span 142 = .ok (.iconst 0, 1) := by decide +kernel
theorem dX7_span_143 : decode cX7_span 143 = .ok (.invokestatic 109, 3) := by decide +kernel
theorem dX7_span_146 : decode cX7_span 146 = .ok (.iadd, 1) := by decide +kernel
theorem dX7_span_147 : decode cX7_span 147 = .ok (.istore 5, 2) := by decide +kernel
theorem dX7_span_149 : decode cX7_span 149 = .ok (.iload 6, 2) := by decide +kernel
theorem dX7_span_151 : decode cX7_span 151 = .ok (.aload_n 0, 1) := by decide +kernel
theorem dX7_span_152 : decode cX7_span 152 = .ok (.getfield 97, 3) := by decide +kernel
theorem dX7_span_155 : decode cX7_span 155 = .ok (.iload 8, 2) := by decide +kernel
theorem dX7_span_157 : decode cX7_span 157 = .ok (.iaload, 1) := by decide +kernel
theorem dX7_span_158 : decode cX7_span 158 = .ok (.ifCond .ne 13, 3) := by decide +kernel
theorem dX7_span_161 : decode cX7_span 161 = .ok (.aload_n 0, 1) := by decide +kernel
theorem dX7_span_162 : decode cX7_span 162 = .ok (.iload_n 1, 1) := by decide +kernel
theorem dX7_span_163 : decode cX7_span 163 = .ok (.iload 8, 2) := by decide +kernel
theorem dX7_span_165 : decode cX7_span 165 = .ok (.invokevirtual 266, 3) := by decide +kernel
theorem dX7_span_168 : decode cX7_span 168 = .ok (.goto 4, 3) := by decide +kernel
theorem dX7_span_171 : decode cX7_span 171 = .ok (.iconst 0, 1) := by decide +kernel
theorem dX7_span_172 : decode cX7_span 172 = .ok (.iadd, 1) := by decide +kernel
theorem dX7_span_173 : decode cX7_span 173 = .ok (.istore 6, 2) := by decide +kernel
theorem dX7_span_175 : decode cX7_span 175 = .ok (.aload_n 0, 1) := by decide +kernel
theorem dX7_span_176 : decode cX7_span 176 = .ok (.getfield 97, 3) := by decide +kernel
theorem dX7_span_179 : decode cX7_span 179 = .ok (.iload 8, 2) := by decide +kernel
theorem dX7_span_181 : decode cX7_span 181 = .ok (.iconst 1, 1) := by decide +kernel
theorem dX7_span_182 : decode cX7_span 182 = .ok (.iastore, 1) := by decide +kernel
theorem dX7_span_183 : decode cX7_span 183 = .ok (.iinc 7 1, 3) := by decide +kernel
theorem dX7_span_186 : decode cX7_span 186 = .ok (.goto (-109), 3) := by decide +kernel
theorem dX7_span_189 : decode cX7_span 189 = .ok (.aload_n 0, 1) := by decide +kernel
theorem dX7_span_190 : decode cX7_span 190 = .ok (.iconst 0, 1) := by decide +kernel
theorem dX7_span_191 : decode cX7_span 191 = .ok (.putfield 11, 3) := by decide +kernel
theorem dX7_span_194 : decode cX7_span 194 = .ok (.aload_n 0, 1) := by decide +kernel
theorem dX7_span_195 : decode cX7_span 195 = .ok (.iload 5, 2) := by decide +kernel
theorem dX7_span_197 : decode cX7_span 197 = .ok (.i2l, 1) := by decide +kernel
theorem dX7_span_198 : decode cX7_span 198 = .ok (.invokevirtual 145, 3) := by decide +kernel
theorem dX7_span_201 : decode cX7_span 201 = .ok (.aload_n 0, 1) := by decide +kernel
theorem dX7_span_202 : decode cX7_span 202 = .ok (.iload 6, 2) := by decide +kernel
theorem dX7_span_204 : decode cX7_span 204 = .ok (.i2l, 1) := by decide +kernel
theorem dX7_span_205 : decode cX7_span 205 = .ok (.invokevirtual 145, 3) := by decide +kernel
theorem dX7_span_208 : decode cX7_span 208 = .ok (.iload 4, 2) := by decide +kernel
theorem dX7_span_210 : decode cX7_span 210 = .ok (.ireturn, 1) := by decide +kernel
theorem dX7_after_0 : decode cX7_after 0 = .ok (.aload_n 0, 1) := by decide +kernel
theorem dX7_after_1 : decode cX7_after 1 = .ok (.iconst 0, 1) := by decide +kernel
theorem dX7_after_2 : decode cX7_after 2 = .ok (.putfield 1, 3) := by decide +kernel
theorem dX7_after_5 : decode cX7_after 5 = .ok (.iload_n 1, 1) := by decide +kernel
theorem dX7_after_6 : decode cX7_after 6 = .ok (.invokestatic 136, 3) := by decide +kernel
theorem dX7_after_9 : decode cX7_after 9 = .ok (.ifCond .eq 7, 3) := by decide +kernel
theorem dX7_after_12 : decode cX7_after 12 = .ok (.iload_n 2, 1) := by decide +kernel
theorem dX7_after_13 : decode cX7_after 13 = .ok (.ifCond .ge 5, 3) := by decide +kernel
theorem dX7_after_16 : decode cX7_after 16 = .ok (.iconst (-1), 1) := by decide +kernel
theorem dX7_after_17 : decode cX7_after 17 = .ok (.ireturn, 1) := by decide +kernel
theorem dX7_after_18 : decode cX7_after 18 = .ok (.iconst 0, 1) := by decide +kernel
theorem dX7_after_19 : decode cX7_after 19 = .ok (.istore_n 3, 1) := by decide +kernel
theorem dX7_after_20 : decode cX7_after 20 = .ok (.iload_n 3, 1) := by decide +kernel
theorem dX7_after_21 : decode cX7_after 21 = .ok (.aload_n 0, 1) := by decide +kernel
theorem dX7_after_22 : decode cX7_after 22 = .ok (.getfield 60, 3) := by decide +kernel
theorem dX7_after_25 : decode cX7_after 25 = .ok (.iload_n 1, 1) := by decide +kernel
theorem dX7_after_26 : decode cX7_after 26 = .ok (.iaload, 1) := by decide +kernel
theorem dX7_after_27 : decode cX7_after 27 = .ok (.if_icmp .ge 19, 3) := by decide +kernel
theorem dX7_after_30 : decode cX7_after 30 = .ok (.aload_n 0, 1) := by decide +kernel
theorem dX7_after_31 : decode cX7_after 31 = .ok (.iload_n 1, 1) := by decide +kernel
theorem dX7_after_32 : decode cX7_after 32 = .ok (.iload_n 3, 1) := by decide +kernel
theorem dX7_after_33 : decode cX7_after 33 = .ok (.invokevirtual 106, 3) := by decide +kernel
theorem dX7_after_36 : decode cX7_after 36 = .ok (.iload_n 2, 1) := by decide +kernel
theorem dX7_after_37 : decode cX7_after 37 = .ok (.if_icmp .ge 9, 3) := by decide +kernel
theorem dX7_after_40 : decode cX7_after 40 = .ok (.iinc 3 1, 3) := by decide +kernel
theorem dX7_after_43 : decode cX7_after 43 = .ok (.goto (-23), 3) := by decide +kernel
theorem dX7_after_46 : decode cX7_after 46 = .ok (.iload_n 3, 1) := by decide +kernel
theorem dX7_after_47 : decode cX7_after 47 = .ok (.aload_n 0, 1) := by decide +kernel
theorem dX7_after_48 : decode cX7_after 48 = .ok (.getfield 60, 3) := by decide +kernel
theorem dX7_after_51 : decode cX7_after 51 = .ok (.iload_n 1, 1) := by decide +kernel
theorem dX7_after_52 : decode cX7_after 52 = .ok (.iaload, 1) := by decide +kernel
theorem dX7_after_53 : decode cX7_after 53 = .ok (.if_icmp .ne 6, 3) := by decide +kernel
theorem dX7_after_56 : decode cX7_after 56 = .ok (.bipush (-2), 2) := by decide +kernel
theorem dX7_after_58 : decode cX7_after 58 = .ok (.ireturn, 1) := by decide +kernel
theorem dX7_after_59 : decode cX7_after 59 = .ok (.aload_n 0, 1) := by decide +kernel
theorem dX7_after_60 : decode cX7_after 60 = .ok (.iload_n 1, 1) := by decide +kernel
theorem dX7_after_61 : decode cX7_after 61 = .ok (.invokevirtual 162, 3) := by decide +kernel
theorem dX7_after_64 : decode cX7_after 64 = .ok (.aload_n 0, 1) := by decide +kernel
theorem dX7_after_65 : decode cX7_after 65 = .ok (.iconst 0, 1) := by decide +kernel
theorem dX7_after_66 : decode cX7_after 66 = .ok (.putfield 11, 3) := by decide +kernel
theorem dX7_after_69 : decode cX7_after 69 = .ok (.aload_n 0, 1) := by decide +kernel
theorem dX7_after_70 : decode cX7_after 70 = .ok (.aload_n 0, 1) := by decide +kernel
theorem dX7_after_71 : decode cX7_after 71 = .ok (.iload_n 1, 1) := by decide +kernel
theorem dX7_after_72 : decode cX7_after 72 = .ok (.aload_n 0, 1) := by decide +kernel
theorem dX7_after_73 : decode cX7_after 73 = .ok (.iload_n 1, 1) := by decide +kernel
theorem dX7_after_74 : decode cX7_after 74 = .ok (.iload_n 3, 1) := by decide +kernel
theorem dX7_after_75 : decode cX7_after 75 = .ok (.invokevirtual 106, 3) := by decide +kernel
theorem dX7_after_78 : decode cX7_after 78 = .ok (.invokevirtual 173, 3) := by decide +kernel
theorem dX7_after_81 : decode cX7_after 81 = .ok (.i2l, 1) := by decide +kernel
theorem dX7_after_82 : decode cX7_after 82 = .ok (.invokevirtual 145, 3) := by decide +kernel
theorem dX7_after_85 : decode cX7_after 85 = .ok (.aload_n 0, 1) := by decide +kernel
theorem dX7_after_86 : decode cX7_after 86 = .ok (.aload_n 0, 1) := by decide +kernel
theorem dX7_after_87 : decode cX7_after 87 = .ok (.getfield 66, 3) := by decide +kernel
theorem dX7_after_90 : decode cX7_after 90 = .ok (.iload_n 3, 1) := by decide +kernel
theorem dX7_after_91 : decode cX7_after 91 = .ok (.iaload, 1) := by decide +kernel
theorem dX7_after_92 : decode cX7_after 92 = .ok (.i2l, 1) := by decide +kernel
theorem dX7_after_93 : decode cX7_after 93 = .ok (.invokevirtual 145, 3) := by decide +kernel
theorem dX7_after_96 : decode cX7_after 96 = .ok (.aload_n 0, 1) := by decide +kernel
theorem dX7_after_97 : decode cX7_after 97 = .ok (.iload_n 1, 1) := by decide +kernel
theorem dX7_after_98 : decode cX7_after 98 = .ok (.iload_n 3, 1) := by decide +kernel
theorem dX7_after_99 : decode cX7_after 99 = .ok (.invokevirtual 106, 3) := by decide +kernel
theorem dX7_after_102 : decode cX7_after 102 = .ok (.ireturn, 1) := by decide +kernel
theorem dX7_gaps_0 : decode cX7_gaps 0 = .ok (.aload_n 0, 1) := by decide +kernel
theorem dX7_gaps_1 : decode cX7_gaps 1 = .ok (.iconst 0, 1) := by decide +kernel
theorem dX7_gaps_2 : decode cX7_gaps 2 = .ok (.putfield 1, 3) := by decide +kernel
theorem dX7_gaps_5 : decode cX7_gaps 5 = .ok (.iload_n 1, 1) := by decide +kernel
theorem dX7_gaps_6 : decode cX7_gaps 6 = .ok (.invokestatic 136, 3) := by decide +kernel
theorem dX7_gaps_9 : decode cX7_gaps 9 = .ok (.ifCond .ne 5, 3) := by decide +kernel
theorem dX7_gaps_12 : decode cX7_gaps 12 = .ok (.iconst (-1), 1) := by decide +kernel
theorem dX7_gaps_13 : decode cX7_gaps 13 = .ok (.ireturn, 1) := by decide +kernel
theorem dX7_gaps_14 : decode cX7_gaps 14 = .ok (.aload_n 0, 1) := by decide +kernel
theorem dX7_gaps_15 : decode cX7_gaps 15 = .ok (.iload_n 1, 1) := by decide +kernel
theorem dX7_gaps_16 : decode cX7_gaps 16 = .ok (.invokevirtual 162, 3) := by decide +kernel
theorem dX7_gaps_19 : decode cX7_gaps 19 = .ok (.aload_n 0, 1) := by decide +kernel
theorem dX7_gaps_20 : decode cX7_gaps 20 = .ok (.iload_n 1, 1) := by decide +kernel
theorem dX7_gaps_21 : decode cX7_gaps 21 = .ok (.invokevirtual 121, 3) := by decide +kernel
theorem dX7_gaps_24 : decode cX7_gaps 24 = .ok (.istore_n 2, 1) := by decide +kernel
theorem dX7_gaps_25 : decode cX7_gaps 25 = .ok (.iconst 0, 1) := by decide +kernel
theorem dX7_gaps_26 : decode cX7_gaps 26 = .ok (.istore_n 3, 1) := by decide +kernel
theorem dX7_gaps_27 : decode cX7_gaps 27 = .ok (.iconst (-1), 1) := by decide +kernel
theorem dX7_gaps_28 : decode cX7_gaps 28 = .ok (.istore 4, 2) := by decide +kernel
theorem dX7_gaps_30 : decode cX7_gaps 30 = .ok (.iconst 0, 1) := by decide +kernel
theorem dX7_gaps_31 : decode cX7_gaps 31 = .ok (.istore 5, 2) := by decide +kernel
theorem dX7_gaps_33 : decode cX7_gaps 33 = .ok (.iload 5, 2) := by decide +kernel
theorem dX7_gaps_35 : decode cX7_gaps 35 = .ok (.iload_n 2, 1) := by decide +kernel
theorem dX7_gaps_36 : decode cX7_gaps 36 = .ok (.if_icmp .ge 107, 3) := by decide +kernel
theorem dX7_gaps_39 : decode cX7_gaps 39 = .ok (.iconst 0, 1) := by decide +kernel
theorem dX7_gaps_40 : decode cX7_gaps 40 = .ok (.istore 6, 2) := by decide +kernel
theorem dX7_gaps_42 : decode cX7_gaps 42 = .ok (.iload 6, 2) := by decide +kernel
theorem dX7_gaps_44 : decode cX7_gaps 44 = .ok (.iload_n 2, 1) := by decide +kernel
theorem dX7_gaps_45 : decode cX7_gaps 45 = .ok (.if_icmp .ge 24, 3) := by decide +kernel
theorem dX7_gaps_48 : decode cX7_gaps 48 = .ok (.aload_n 0, 1) := by decide +kernel
theorem dX7_gaps_49 : decode cX7_gaps 49 = .ok (.getfield 69, 3) := by decide +kernel
theorem dX7_gaps_52 : decode cX7_gaps 52 = .ok (.iload 5, 2) := by decide +kernel
theorem dX7_gaps_54 : decode cX7_gaps 54 = .ok (.iload 6, 2) := by decide +kernel
theorem dX7_gaps_56 : decode cX7_gaps 56 = .ok (.iadd, 1) := by decide +kernel
theorem dX7_gaps_57 : decode cX7_gaps 57 = .ok (.iload_n 2, 1) := by decide +kernel
theorem dX7_gaps_58 : decode cX7_gaps 58 = .ok (.irem, 1) := by decide +kernel
theorem dX7_gaps_59 : decode cX7_gaps 59 = .ok (.iaload, 1) := by decide +kernel
theorem dX7_gaps_60 : decode cX7_gaps 60 = .ok (.ifCond .ge 9, 3) := by decide +kernel
theorem dX7_gaps_63 : decode cX7_gaps 63 = .ok (.iinc 6 1, 3) := by decide +kernel
theorem dX7_gaps_66 : decode cX7_gaps 66 = .ok (.goto (-24), 3) := by decide +kernel
theorem dX7_gaps_69 : decode cX7_gaps 69 = .ok (.aload_n 0, 1) := by decide +kernel
theorem dX7_gaps_70 : decode cX7_gaps 70 = .ok (.getfield 60, 3) := by decide +kernel
theorem dX7_gaps_73 : decode cX7_gaps 73 = .ok (.iload_n 1, 1) := by decide +kernel
theorem dX7_gaps_74 : decode cX7_gaps 74 = .ok (.iaload, 1) := by decide +kernel
theorem dX7_gaps_75 : decode cX7_gaps 75 = .ok (.ifCond .eq 19, 3) := by decide +kernel
theorem dX7_gaps_78 : decode cX7_gaps 78 = .ok (.aload_n 0, 1) := by decide +kernel
theorem dX7_gaps_79 : decode cX7_gaps 79 = .ok (.getfield 69, 3) := by decide +kernel
theorem dX7_gaps_82 : decode cX7_gaps 82 = .ok (.iload 5, 2) := by decide +kernel
theorem dX7_gaps_84 : decode cX7_gaps 84 = .ok (.iload_n 2, 1) := by decide +kernel
theorem dX7_gaps_85 : decode cX7_gaps 85 = .ok (.iadd, 1) := by decide +kernel
theorem dX7_gaps_86 : decode cX7_gaps 86 = .ok (.iconst 1, 1) := by decide +kernel
theorem dX7_gaps_87 : decode cX7_gaps 87 = .ok (.isub, 1) := by decide +kernel
theorem dX7_gaps_88 : decode cX7_gaps 88 = .ok (.iload_n 2, 1) := by decide +kernel
theorem dX7_gaps_89 : decode cX7_gaps 89 = .ok (.irem, 1) := by decide +kernel
theorem dX7_gaps_90 : decode cX7_gaps 90 = .ok (.iaload, 1) := by decide +kernel
theorem dX7_gaps_91 : decode cX7_gaps 91 = .ok (.ifCond .lt 7, 3) := by decide +kernel
theorem dX7_gaps_94 : decode cX7_gaps 94 = .ok (.iconst 1, 1) := by decide +kernel
theorem dX7_gaps_95 : decode cX7_gaps 95 = .ok (.goto 4, 3) := by decide +kernel
theorem dX7_gaps_98 : decode cX7_gaps 98 = .ok (.iconst 0, 1) := by decide +kernel
theorem dX7_gaps_99 : decode cX7_gaps 99 = .ok (.istore 7, 2) := by decide +kernel
theorem dX7_gaps_101 : decode cX7_gaps 101 = .ok (.iload 7, 2) := by decide +kernel
theorem dX7_gaps_103 : decode cX7_gaps 103 = .ok (.ifCond .eq 14, 3) := by decide +kernel
theorem dX7_gaps_106 : decode cX7_gaps 106 = .ok (.iload 6, 2) := by decide +kernel
theorem dX7_gaps_108 : decode cX7_gaps 108 = .ok (.iload_n 3, 1) := by decide +kernel
theorem dX7_gaps_109 : decode cX7_gaps 109 = .ok (.if_icmp .le 8, 3) := by decide +kernel
theorem dX7_gaps_112 : decode cX7_gaps 112 = .ok (.iload 5, 2) := by decide +kernel
theorem dX7_gaps_114 : decode cX7_gaps 114 = .ok (.goto 5, 3) := by decide +kernel
theorem dX7_gaps_117 : decode cX7_gaps 117 = .ok (.iload 4, 2) := by decide +kernel
theorem dX7_gaps_119 : decode cX7_gaps 119 = .ok (.istore 4, 2) := by decide +kernel
theorem dX7_gaps_121 : decode cX7_gaps 121 = .ok (.iload_n 3, 1) := by decide +kernel
theorem dX7_gaps_122 : decode cX7_gaps 122 = .ok (.iload 7, 2) := by decide +kernel
theorem dX7_gaps_124 : decode cX7_gaps 124 = .ok (.ifCond .eq 8, 3) := by decide +kernel
theorem dX7_gaps_127 : decode cX7_gaps 127 = .ok (.iload 6, 2) := by decide +kernel
theorem dX7_gaps_129 : decode cX7_gaps 129 = .ok (.goto 4, 3) := by decide +kernel
theorem dX7_gaps_132 : decode cX7_gaps 132 = .ok (.iconst 0, 1) := by decide +kernel
theorem dX7_gaps_133 : decode cX7_gaps 133 = .ok (.invokestatic 124, 3) := by decide +kernel
theorem dX7_gaps_136 : decode cX7_gaps 136 = .ok (.istore_n 3, 1) := by decide +kernel
theorem dX7_gaps_137 : decode cX7_gaps 137 = .ok (.iinc 5 1, 3) := by decide +kernel
theorem dX7_gaps_140 : decode cX7_gaps 140 = .ok (.goto (-107), 3) := by decide +kernel
theorem dX7_gaps_143 : decode cX7_gaps 143 = .ok (.aload_n 0, 1) := by decide +kernel
theorem dX7_gaps_144 : decode cX7_gaps 144 = .ok (.iconst 0, 1) := by decide +kernel
theorem dX7_gaps_145 : decode cX7_gaps 145 = .ok (.putfield 11, 3) := by decide +kernel
theorem dX7_gaps_148 : decode cX7_gaps 148 = .ok (.aload_n 0, 1) := by decide +kernel
theorem dX7_gaps_149 : decode cX7_gaps 149 = .ok (.iload_n 3, 1) := by decide +kernel
theorem dX7_gaps_150 : decode cX7_gaps 150 = .ok (.i2l, 1) := by decide +kernel
theorem dX7_gaps_151 : decode cX7_gaps 151 = .ok (.invokevirtual 145, 3) := by decide +kernel
theorem dX7_gaps_154 : decode cX7_gaps 154 = .ok (.aload_n 0, 1) := by decide +kernel
theorem dX7_gaps_155 : decode cX7_gaps 155 = .ok (.iload 4, 2) := by decide +kernel
theorem dX7_gaps_157 : decode cX7_gaps 157 = .ok (.i2l, 1) := by decide +kernel
theorem dX7_gaps_158 : decode cX7_gaps 158 = .ok (.invokevirtual 145, 3) := by decide +kernel
theorem dX7_gaps_161 : decode cX7_gaps 161 = .ok (.iload_n 2, 1) := by decide +kernel
theorem dX7_gaps_162 : decode cX7_gaps 162 = .ok (.aload_n 0, 1) := by decide +kernel
theorem dX7_gaps_163 : decode cX7_gaps 163 = .ok (.getfield 60, 3) := by decide +kernel
theorem dX7_gaps_166 : decode cX7_gaps 166 = .ok (.iload_n 1, 1) := by decide +kernel
theorem dX7_gaps_167 : decode cX7_gaps 167 = .ok (.iaload, 1) := by decide +kernel
theorem dX7_gaps_168 : decode cX7_gaps 168 = .ok (.isub, 1) := by decide +kernel
theorem dX7_gaps_169 : decode cX7_gaps 169 = .ok (.ireturn, 1) := by decide +kernel
theorem dX7_nth_0 : decode cX7_nth 0 = .ok (.aload_n 0, 1) := by decide +kernel
theorem dX7_nth_1 : decode cX7_nth 1 = .ok (.iconst 0, 1) := by decide +kernel
theorem dX7_nth_2 : decode cX7_nth 2 = .ok (.putfield 1, 3) := by decide +kernel
theorem dX7_nth_5 : decode cX7_nth 5 = .ok (.iload_n 1, 1) := by decide +kernel
theorem dX7_nth_6 : decode cX7_nth 6 = .ok (.invokestatic 136, 3) := by decide +kernel
theorem dX7_nth_9 : decode cX7_nth 9 = .ok (.ifCond .eq 21, 3) := by decide +kernel
theorem dX7_nth_12 : decode cX7_nth 12 = .ok (.iload_n 2, 1) := by decide +kernel
theorem dX7_nth_13 : decode cX7_nth 13 = .ok (.i2l, 1) := by decide +kernel
theorem dX7_nth_14 : decode cX7_nth 14 = .ok (.lconst 0, 1) := by decide +kernel
theorem dX7_nth_15 : decode cX7_nth 15 = .ok (.aload_n 0, 1) := by decide +kernel
theorem dX7_nth_16 : decode cX7_nth 16 = .ok (.getfield 60, 3) := by decide +kernel
theorem dX7_nth_19 : decode cX7_nth 19 = .ok (.iload_n 1, 1) := by decide +kernel
theorem dX7_nth_20 : decode cX7_nth 20 = .ok (.iaload, 1) := by decide +kernel
theorem dX7_nth_21 : decode cX7_nth 21 = .ok (.iconst 1, 1) := by decide +kernel
theorem dX7_nth_22 : decode cX7_nth 22 = .ok (.isub, 1) := by decide +kernel
theorem dX7_nth_23 : decode cX7_nth 23 = .ok (.i2l, 1) := by decide +kernel
theorem dX7_nth_24 : decode cX7_nth 24 = .ok (.invokestatic 21, 3) := by decide +kernel
theorem dX7_nth_27 : decode cX7_nth 27 = .ok (.ifCond .ne 5, 3) := by decide +kernel
theorem dX7_nth_30 : decode cX7_nth 30 = .ok (.iconst (-1), 1) := by decide +kernel
theorem dX7_nth_31 : decode cX7_nth 31 = .ok (.ireturn, 1) := by decide +kernel
theorem dX7_nth_32 : decode cX7_nth 32 = .ok (.aload_n 0, 1) := by decide +kernel
theorem dX7_nth_33 : decode cX7_nth 33 = .ok (.iload_n 1, 1) := by decide +kernel
theorem dX7_nth_34 : decode cX7_nth 34 = .ok (.invokevirtual 162, 3) := by decide +kernel
theorem dX7_nth_37 : decode cX7_nth 37 = .ok (.aload_n 0, 1) := by decide +kernel
theorem dX7_nth_38 : decode cX7_nth 38 = .ok (.iconst 0, 1) := by decide +kernel
theorem dX7_nth_39 : decode cX7_nth 39 = .ok (.putfield 11, 3) := by decide +kernel
theorem dX7_nth_42 : decode cX7_nth 42 = .ok (.aload_n 0, 1) := by decide +kernel
theorem dX7_nth_43 : decode cX7_nth 43 = .ok (.aload_n 0, 1) := by decide +kernel
theorem dX7_nth_44 : decode cX7_nth 44 = .ok (.getfield 66, 3) := by decide +kernel
theorem dX7_nth_47 : decode cX7_nth 47 = .ok (.iload_n 2, 1) := by decide +kernel
theorem dX7_nth_48 : decode cX7_nth 48 = .ok (.iaload, 1) := by decide +kernel
theorem dX7_nth_49 : decode cX7_nth 49 = .ok (.i2l, 1) := by decide +kernel
theorem dX7_nth_50 : decode cX7_nth 50 = .ok (.invokevirtual 145, 3) := by decide +kernel
theorem dX7_nth_53 : decode cX7_nth 53 = .ok (.aload_n 0, 1) := by decide +kernel
theorem dX7_nth_54 : decode cX7_nth 54 = .ok (.iload_n 1, 1) := by decide +kernel
theorem dX7_nth_55 : decode cX7_nth 55 = .ok (.iload_n 2, 1) := by decide +kernel
theorem dX7_nth_56 : decode cX7_nth 56 = .ok (.invokevirtual 106, 3) := by decide +kernel
theorem dX7_nth_59 : decode cX7_nth 59 = .ok (.ireturn, 1) := by decide +kernel
theorem dX7_doubles_0 : decode cX7_doubles 0 = .ok (.aload_n 0, 1) := by decide +kernel
theorem dX7_doubles_1 : decode cX7_doubles 1 = .ok (.iconst 0, 1) := by decide +kernel
theorem dX7_doubles_2 : decode cX7_doubles 2 = .ok (.putfield 1, 3) := by decide +kernel
theorem dX7_doubles_5 : decode cX7_doubles 5 = .ok (.iload_n 1, 1) := by decide +kernel
theorem dX7_doubles_6 : decode cX7_doubles 6 = .ok (.invokestatic 136, 3) := by decide +kernel
theorem dX7_doubles_9 : decode cX7_doubles 9 = .ok (.ifCond .ne 5, 3) := by decide +kernel
theorem dX7_doubles_12 : decode cX7_doubles 12 = .ok (.iconst (-1), 1) := by decide +kernel
theorem dX7_doubles_13 : decode cX7_doubles 13 = .ok (.ireturn, 1) := by decide +kernel
theorem dX7_doubles_14 : decode cX7_doubles 14 = .ok (.aload_n 0, 1) := by decide +kernel
theorem dX7_doubles_15 : decode cX7_doubles 15 = .ok (.iload_n 1, 1) := by decide +kernel
theorem dX7_doubles_16 : decode cX7_doubles 16 = .ok (.invokevirtual 132, 3) := by decide +kernel
theorem dX7_doubles_19 : decode cX7_doubles 19 = .ok (.ifCond .ne 6, 3) := by decide +kernel
theorem dX7_doubles_22 : decode cX7_doubles 22 = .ok (.bipush (-2), 2) := by decide +kernel
theorem dX7_doubles_24 : decode cX7_doubles 24 = .ok (.ireturn, 1) := by decide +kernel
theorem dX7_doubles_25 : decode cX7_doubles 25 = .ok (.aload_n 0, 1) := by decide +kernel
theorem dX7_doubles_26 : decode cX7_doubles 26 = .ok (.getfield 57, 3) := by decide +kernel
theorem dX7_doubles_29 : decode cX7_doubles 29 = .ok (.iload_n 1, 1) := by decide +kernel
theorem dX7_doubles_30 : decode cX7_doubles 30 = .ok (.dup2, 1) := by decide +kernel
theorem dX7_doubles_31 : decode cX7_doubles 31 = .ok (.iaload, 1) := by decide +kernel
theorem dX7_doubles_32 : decode cX7_doubles 32 = .ok (.iconst 1, 1) := by decide +kernel
theorem dX7_doubles_33 : decode cX7_doubles 33 = .ok (.iadd, 1) := by decide +kernel
theorem dX7_doubles_34 : decode cX7_doubles 34 = .ok (.iastore, 1) := by decide +kernel
theorem dX7_doubles_35 : decode cX7_doubles 35 = .ok (.aload_n 0, 1) := by decide +kernel
theorem dX7_doubles_36 : decode cX7_doubles 36 = .ok (.iload_n 1, 1) := by decide +kernel
theorem dX7_doubles_37 : decode cX7_doubles 37 = .ok (.invokevirtual 121, 3) := by decide +kernel
theorem dX7_doubles_40 : decode cX7_doubles 40 = .ok (.ireturn, 1) := by decide +kernel
theorem dX7_halves_0 : decode cX7_halves 0 = .ok (.aload_n 0, 1) := by decide +kernel
theorem dX7_halves_1 : decode cX7_halves 1 = .ok (.iconst 0, 1) := by decide +kernel
theorem dX7_halves_2 : decode cX7_halves 2 = .ok (.putfield 1, 3) := by decide +kernel
theorem dX7_halves_5 : decode cX7_halves 5 = .ok (.iload_n 1, 1) := by decide +kernel
theorem dX7_halves_6 : decode cX7_halves 6 = .ok (.invokestatic 136, 3) := by decide +kernel
theorem dX7_halves_9 : decode cX7_halves 9 = .ok (.ifCond .ne 5, 3) := by decide +kernel
theorem dX7_halves_12 : decode cX7_halves 12 = .ok (.iconst (-1), 1) := by decide +kernel
theorem dX7_halves_13 : decode cX7_halves 13 = .ok (.ireturn, 1) := by decide +kernel
theorem dX7_halves_14 : decode cX7_halves 14 = .ok (.aload_n 0, 1) := by decide +kernel
theorem dX7_halves_15 : decode cX7_halves 15 = .ok (.getfield 57, 3) := by decide +kernel
theorem dX7_halves_18 : decode cX7_halves 18 = .ok (.iload_n 1, 1) := by decide +kernel
theorem dX7_halves_19 : decode cX7_halves 19 = .ok (.iaload, 1) := by decide +kernel
theorem dX7_halves_20 : decode cX7_halves 20 = .ok (.iconst 3, 1) := by decide +kernel
theorem dX7_halves_21 : decode cX7_halves 21 = .ok (.if_icmp .ne 6, 3) := by decide +kernel
theorem dX7_halves_24 : decode cX7_halves 24 = .ok (.bipush (-2), 2) := by decide +kernel
theorem dX7_halves_26 : decode cX7_halves 26 = .ok (.ireturn, 1) := by decide +kernel
theorem dX7_halves_27 : decode cX7_halves 27 = .ok (.aload_n 0, 1) := by decide +kernel
theorem dX7_halves_28 : decode cX7_halves 28 = .ok (.getfield 60, 3) := by decide +kernel
theorem dX7_halves_31 : decode cX7_halves 31 = .ok (.iload_n 1, 1) := by decide +kernel
theorem dX7_halves_32 : decode cX7_halves 32 = .ok (.iaload, 1) := by decide +kernel
theorem dX7_halves_33 : decode cX7_halves 33 = .ok (.aload_n 0, 1) := by decide +kernel
theorem dX7_halves_34 : decode cX7_halves 34 = .ok (.iload_n 1, 1) := by decide +kernel
theorem dX7_halves_35 : decode cX7_halves 35 = .ok (.invokevirtual 121, 3) := by decide +kernel
theorem dX7_halves_38 : decode cX7_halves 38 = .ok (.iconst 2, 1) := by decide +kernel
theorem dX7_halves_39 : decode cX7_halves 39 = .ok (.idiv, 1) := by decide +kernel
theorem dX7_halves_40 : decode cX7_halves 40 = .ok (.iconst 1, 1) := by decide +kernel
theorem dX7_halves_41 : decode cX7_halves 41 = .ok (.isub, 1) := by decide +kernel
theorem dX7_halves_42 : decode cX7_halves 42 = .ok (.if_icmp .le 6, 3) := by decide +kernel
theorem dX7_halves_45 : decode cX7_halves 45 = .ok (.bipush (-5), 2) := by decide +kernel
theorem dX7_halves_47 : decode cX7_halves 47 = .ok (.ireturn, 1) := by decide +kernel
theorem dX7_halves_48 : decode cX7_halves 48 = .ok (.aload_n 0, 1) := by decide +kernel
theorem dX7_halves_49 : decode cX7_halves 49 = .ok (.getfield 57, 3) := by decide +kernel
theorem dX7_halves_52 : decode cX7_halves 52 = .ok (.iload_n 1, 1) := by decide +kernel
theorem dX7_halves_53 : decode cX7_halves 53 = .ok (.dup2, 1) := by decide +kernel
theorem dX7_halves_54 : decode cX7_halves 54 = .ok (.iaload, 1) := by decide +kernel
theorem dX7_halves_55 : decode cX7_halves 55 = .ok (.iconst 1, 1) := by decide +kernel
theorem dX7_halves_56 : decode cX7_halves 56 = .ok (.isub, 1) := by decide +kernel
theorem dX7_halves_57 : decode cX7_halves 57 = .ok (.iastore, 1) := by decide +kernel
theorem dX7_halves_58 : decode cX7_halves 58 = .ok (.aload_n 0, 1) := by decide +kernel
theorem dX7_halves_59 : decode cX7_halves 59 = .ok (.iload_n 1, 1) := by decide +kernel
theorem dX7_halves_60 : decode cX7_halves 60 = .ok (.invokevirtual 121, 3) := by decide +kernel
theorem dX7_halves_63 : decode cX7_halves 63 = .ok (.ireturn, 1) := by decide +kernel
theorem dX7_qOfBoth_0 : decode cX7_qOfBoth 0 = .ok (.aload_n 0, 1) := by decide +kernel
theorem dX7_qOfBoth_1 : decode cX7_qOfBoth 1 = .ok (.getfield 60, 3) := by decide +kernel
theorem dX7_qOfBoth_4 : decode cX7_qOfBoth 4 = .ok (.iconst 0, 1) := by decide +kernel
theorem dX7_qOfBoth_5 : decode cX7_qOfBoth 5 = .ok (.iaload, 1) := by decide +kernel
theorem dX7_qOfBoth_6 : decode cX7_qOfBoth 6 = .ok (.aload_n 0, 1) := by decide +kernel
theorem dX7_qOfBoth_7 : decode cX7_qOfBoth 7 = .ok (.getfield 60, 3) := by decide +kernel
theorem dX7_qOfBoth_10 : decode cX7_qOfBoth 10 = .ok (.iconst 1, 1) := by decide +kernel
theorem dX7_qOfBoth_11 : decode cX7_qOfBoth 11 = .ok (.iaload, 1) := by decide +kernel
theorem dX7_qOfBoth_12 : decode cX7_qOfBoth 12 = .ok (.iadd, 1) := by decide +kernel
theorem dX7_qOfBoth_13 : decode cX7_qOfBoth 13 = .ok (.istore_n 2, 1) := by decide +kernel
theorem dX7_qOfBoth_14 : decode cX7_qOfBoth 14 = .ok (.bipush 6, 2) := by decide +kernel
theorem dX7_qOfBoth_16 : decode cX7_qOfBoth 16 = .ok (.aload_n 0, 1) := by decide +kernel
theorem dX7_qOfBoth_17 : decode cX7_qOfBoth 17 = .ok (.getfield 47, 3) := by decide +kernel
theorem dX7_qOfBoth_20 : decode cX7_qOfBoth 20 = .ok (.iconst 1, 1) := by decide +kernel
theorem dX7_qOfBoth_21 : decode cX7_qOfBoth 21 = .ok (.isub, 1) := by decide +kernel
theorem dX7_qOfBoth_22 : decode cX7_qOfBoth 22 = .ok (.invokestatic 278, 3) := by decide +kernel
theorem dX7_qOfBoth_25 : decode cX7_qOfBoth 25 = .ok (.istore_n 3, 1) := by decide +kernel
theorem dX7_qOfBoth_26 : decode cX7_qOfBoth 26 = .ok (.iload_n 2, 1) := by decide +kernel
theorem dX7_qOfBoth_27 : decode cX7_qOfBoth 27 = .ok (.iconst 1, 1) := by decide +kernel
theorem dX7_qOfBoth_28 : decode cX7_qOfBoth 28 = .ok (.iload_n 3, 1) := by decide +kernel
theorem dX7_qOfBoth_29 : decode cX7_qOfBoth 29 = .ok (.ishl, 1) := by decide +kernel
theorem dX7_qOfBoth_30 : decode cX7_qOfBoth 30 = .ok (.iconst 1, 1) := by decide +kernel
theorem dX7_qOfBoth_31 : decode cX7_qOfBoth 31 = .ok (.isub, 1) := by decide +kernel
theorem dX7_qOfBoth_32 : decode cX7_qOfBoth 32 = .ok (.if_icmp .le 5, 3) := by decide +kernel
theorem dX7_qOfBoth_35 : decode cX7_qOfBoth 35 = .ok (.iconst (-1), 1) := by decide +kernel
theorem dX7_qOfBoth_36 : decode cX7_qOfBoth 36 = .ok (.ireturn, 1) := by decide +kernel
theorem dX7_qOfBoth_37 : decode cX7_qOfBoth 37 = .ok (.aload_n 0, 1) := by decide +kernel
theorem dX7_qOfBoth_38 : decode cX7_qOfBoth 38 = .ok (.getfield 57, 3) := by decide +kernel
theorem dX7_qOfBoth_41 : decode cX7_qOfBoth 41 = .ok (.iload_n 1, 1) := by decide +kernel
theorem dX7_qOfBoth_42 : decode cX7_qOfBoth 42 = .ok (.iaload, 1) := by decide +kernel
theorem dX7_qOfBoth_43 : decode cX7_qOfBoth 43 = .ok (.istore 4, 2) := by decide +kernel
theorem dX7_qOfBoth_45 : decode cX7_qOfBoth 45 = .ok (.iload 4, 2) := by decide +kernel
theorem dX7_qOfBoth_47 : decode cX7_qOfBoth 47 = .ok (.iload_n 3, 1) := by decide +kernel
theorem dX7_qOfBoth_48 : decode cX7_qOfBoth 48 = .ok (.if_icmp .ge 23, 3) := by decide +kernel
theorem dX7_qOfBoth_51 : decode cX7_qOfBoth 51 = .ok (.bipush 100, 2) := by decide +kernel
theorem dX7_qOfBoth_53 : decode cX7_qOfBoth 53 = .ok (.iload_n 2, 1) := by decide +kernel
theorem dX7_qOfBoth_54 : decode cX7_qOfBoth 54 = .ok (.imul, 1) := by decide +kernel
theorem dX7_qOfBoth_55 : decode cX7_qOfBoth 55 = .ok (.aload_n 0, 1) := by decide +kernel
theorem dX7_qOfBoth_56 : decode cX7_qOfBoth 56 = .ok (.getfield 54, 3) := by decide +kernel
theorem dX7_qOfBoth_59 : decode cX7_qOfBoth 59 = .ok (.iload 4, 2) := by decide +kernel
theorem dX7_qOfBoth_61 : decode cX7_qOfBoth 61 = .ok (.ishl, 1) := by decide +kernel
theorem dX7_qOfBoth_62 : decode cX7_qOfBoth 62 = .ok (.if_icmp .le 9, 3) := by decide +kernel
theorem dX7_qOfBoth_65 : decode cX7_qOfBoth 65 = .ok (.iinc 4 1, 3) := by decide +kernel
theorem dX7_qOfBoth_68 : decode cX7_qOfBoth 68 = .ok (.goto (-23), 3) := by decide +kernel
theorem dX7_qOfBoth_71 : decode cX7_qOfBoth 71 = .ok (.iload 4, 2) := by decide +kernel
theorem dX7_qOfBoth_73 : decode cX7_qOfBoth 73 = .ok (.ireturn, 1) := by decide +kernel
theorem dX7_mergesInto_0 : decode cX7_mergesInto 0 = .ok (.aload_n 0, 1) := by decide +kernel
theorem dX7_mergesInto_1 : decode cX7_mergesInto 1 = .ok (.getfield 57, 3) := by decide +kernel
theorem dX7_mergesInto_4 : decode cX7_mergesInto 4 = .ok (.iload_n 1, 1) := by decide +kernel
theorem dX7_mergesInto_5 : decode cX7_mergesInto 5 = .ok (.aload_n 0, 1) := by decide +kernel
theorem dX7_mergesInto_6 : decode cX7_mergesInto 6 = .ok (.iload_n 1, 1) := by decide +kernel
theorem dX7_mergesInto_7 : decode cX7_mergesInto 7 = .ok (.invokevirtual 281, 3) := by decide +kernel
theorem dX7_mergesInto_10 : decode cX7_mergesInto 10 = .ok (.iastore, 1) := by decide +kernel
theorem dX7_mergesInto_11 : decode cX7_mergesInto 11 = .ok (.iconst 0, 1) := by decide +kernel
theorem dX7_mergesInto_12 : decode cX7_mergesInto 12 = .ok (.istore_n 3, 1) := by decide +kernel
theorem dX7_mergesInto_13 : decode cX7_mergesInto 13 = .ok (.iload_n 3, 1) := by decide +kernel
theorem dX7_mergesInto_14 : decode cX7_mergesInto 14 = .ok (.aload_n 0, 1) := by decide +kernel
theorem dX7_mergesInto_15 : decode cX7_mergesInto 15 = .ok (.getfield 60, 3) := by decide +kernel
theorem dX7_mergesInto_18 : decode cX7_mergesInto 18 = .ok (.iload_n 2, 1) := by decide +kernel
theorem dX7_mergesInto_19 : decode cX7_mergesInto 19 = .ok (.iaload, 1) := by decide +kernel
theorem dX7_mergesInto_20 : decode cX7_mergesInto 20 = .ok (.if_icmp .ge 20, 3) := by decide +kernel
theorem dX7_mergesInto_23 : decode cX7_mergesInto 23 = .ok (.aload_n 0, 1) := by decide +kernel
theorem dX7_mergesInto_24 : decode cX7_mergesInto 24 = .ok (.iload_n 1, 1) := by decide +kernel
theorem dX7_mergesInto_25 : decode cX7_mergesInto 25 = .ok (.aload_n 0, 1) := by decide +kernel
theorem dX7_mergesInto_26 : decode cX7_mergesInto 26 = .ok (.iload_n 2, 1) := by decide +kernel
theorem dX7_mergesInto_27 : decode cX7_mergesInto 27 = .ok (.iload_n 3, 1) := by decide +kernel
theorem dX7_mergesInto_28 : decode cX7_mergesInto 28 = .ok (.invokevirtual 106, 3) := by decide +kernel
theorem dX7_mergesInto_31 : decode cX7_mergesInto 31 = .ok (.invokevirtual 155, 3) := by decide +kernel
theorem dX7_mergesInto_34 : decode cX7_mergesInto 34 = .ok (.iinc 3 1, 3) := by decide +kernel
theorem dX7_mergesInto_37 : decode cX7_mergesInto 37 = .ok (.goto (-24), 3) := by decide +kernel
theorem dX7_mergesInto_40 : decode cX7_mergesInto 40 = .ok (.aload_n 0, 1) := by decide +kernel
theorem dX7_mergesInto_41 : decode cX7_mergesInto 41 = .ok (.getfield 60, 3) := by decide +kernel
theorem dX7_mergesInto_44 : decode cX7_mergesInto 44 = .ok (.iload_n 2, 1) := by decide +kernel
theorem dX7_mergesInto_45 : decode cX7_mergesInto 45 = .ok (.iconst 0, 1) := by decide +kernel
theorem dX7_mergesInto_46 : decode cX7_mergesInto 46 = .ok (.iastore, 1) := by decide +kernel
theorem dX7_mergesInto_47 : decode cX7_mergesInto 47 = .ok (.return_, 1) := by decide +kernel
theorem dX7_merges_0 : decode cX7_merges 0 = .ok (.aload_n 0, 1) := by decide +kernel
theorem dX7_merges_1 : decode cX7_merges 1 = .ok (.iconst 0, 1) := by decide +kernel
theorem dX7_merges_2 : decode cX7_merges 2 = .ok (.putfield 1, 3) := by decide +kernel
theorem dX7_merges_5 : decode cX7_merges 5 = .ok (.aload_n 0, 1) := by decide +kernel
theorem dX7_merges_6 : decode cX7_merges 6 = .ok (.getfield 60, 3) := by decide +kernel
theorem dX7_merges_9 : decode cX7_merges 9 = .ok (.iconst 1, 1) := by decide +kernel
theorem dX7_merges_10 : decode cX7_merges 10 = .ok (.iaload, 1) := by decide +kernel
theorem dX7_merges_11 : decode cX7_merges 11 = .ok (.ifCond .ne 6, 3) := by decide +kernel
theorem dX7_merges_14 : decode cX7_merges 14 = .ok (.bipush (-2), 2) := by decide +kernel
theorem dX7_merges_16 : decode cX7_merges 16 = .ok (.ireturn, 1) := by decide +kernel
theorem dX7_merges_17 : decode cX7_merges 17 = .ok (.aload_n 0, 1) := by decide +kernel
theorem dX7_merges_18 : decode cX7_merges 18 = .ok (.iconst 0, 1) := by decide +kernel
theorem dX7_merges_19 : decode cX7_merges 19 = .ok (.invokevirtual 281, 3) := by decide +kernel
theorem dX7_merges_22 : decode cX7_merges 22 = .ok (.ifCond .ge 6, 3) := by decide +kernel
theorem dX7_merges_25 : decode cX7_merges 25 = .ok (.bipush (-5), 2) := by decide +kernel
theorem dX7_merges_27 : decode cX7_merges 27 = .ok (.ireturn, 1) := by decide +kernel
theorem dX7_merges_28 : decode cX7_merges 28 = .ok (.aload_n 0, 1) := by decide +kernel
theorem dX7_merges_29 : decode cX7_merges 29 = .ok (.getfield 60, 3) := by decide +kernel
theorem dX7_merges_32 : decode cX7_merges 32 = .ok (.iconst 1, 1) := by decide +kernel
theorem dX7_merges_33 : decode cX7_merges 33 = .ok (.iaload, 1) := by decide +kernel
theorem dX7_merges_34 : decode cX7_merges 34 = .ok (.istore_n 1, 1) := by decide +kernel
theorem dX7_merges_35 : decode cX7_merges 35 = .ok (.aload_n 0, 1) := by decide +kernel
theorem dX7_merges_36 : decode cX7_merges 36 = .ok (.iconst 0, 1) := by decide +kernel
theorem dX7_merges_37 : decode cX7_merges 37 = .ok (.iconst 1, 1) := by decide +kernel
theorem dX7_merges_38 : decode cX7_merges 38 = .ok (.invokevirtual 284, 3) := by decide +kernel
theorem dX7_merges_41 : decode cX7_merges 41 = .ok (.aload_n 0, 1) := by decide +kernel
theorem dX7_merges_42 : decode cX7_merges 42 = .ok (.iconst 0, 1) := by decide +kernel
theorem dX7_merges_43 : decode cX7_merges 43 = .ok (.putfield 11, 3) := by decide +kernel
theorem dX7_merges_46 : decode cX7_merges 46 = .ok (.aload_n 0, 1) := by decide +kernel
theorem dX7_merges_47 : decode cX7_merges 47 = .ok (.aload_n 0, 1) := by decide +kernel
theorem dX7_merges_48 : decode cX7_merges 48 = .ok (.iconst 0, 1) := by decide +kernel
theorem dX7_merges_49 : decode cX7_merges 49 = .ok (.invokevirtual 121, 3) := by decide +kernel
theorem dX7_merges_52 : decode cX7_merges 52 = .ok (.i2l, 1) := by decide +kernel
theorem dX7_merges_53 : decode cX7_merges 53 = .ok (.invokevirtual 145, 3) := by decide +kernel
theorem dX7_merges_56 : decode cX7_merges 56 = .ok (.aload_n 0, 1) := by decide +kernel
theorem dX7_merges_57 : decode cX7_merges 57 = .ok (.aload_n 0, 1) := by decide +kernel
theorem dX7_merges_58 : decode cX7_merges 58 = .ok (.getfield 60, 3) := by decide +kernel
theorem dX7_merges_61 : decode cX7_merges 61 = .ok (.iconst 0, 1) := by decide +kernel
theorem dX7_merges_62 : decode cX7_merges 62 = .ok (.iaload, 1) := by decide +kernel
theorem dX7_merges_63 : decode cX7_merges 63 = .ok (.i2l, 1) := by decide +kernel
theorem dX7_merges_64 : decode cX7_merges 64 = .ok (.invokevirtual 145, 3) := by decide +kernel
theorem dX7_merges_67 : decode cX7_merges 67 = .ok (.iload_n 1, 1) := by decide +kernel
theorem dX7_merges_68 : decode cX7_merges 68 = .ok (.ireturn, 1) := by decide +kernel
theorem dX7_spills_0 : decode cX7_spills 0 = .ok (.aload_n 0, 1) := by decide +kernel
theorem dX7_spills_1 : decode cX7_spills 1 = .ok (.iconst 0, 1) := by decide +kernel
theorem dX7_spills_2 : decode cX7_spills 2 = .ok (.putfield 1, 3) := by decide +kernel
theorem dX7_spills_5 : decode cX7_spills 5 = .ok (.iload_n 1, 1) := by decide +kernel
theorem dX7_spills_6 : decode cX7_spills 6 = .ok (.invokestatic 139, 3) := by decide +kernel
theorem dX7_spills_9 : decode cX7_spills 9 = .ok (.ifCond .ne 5, 3) := by decide +kernel
theorem dX7_spills_12 : decode cX7_spills 12 = .ok (.iconst (-1), 1) := by decide +kernel
theorem dX7_spills_13 : decode cX7_spills 13 = .ok (.ireturn, 1) := by decide +kernel
theorem dX7_spills_14 : decode cX7_spills 14 = .ok (.aload_n 0, 1) := by decide +kernel
theorem dX7_spills_15 : decode cX7_spills 15 = .ok (.iconst 0, 1) := by decide +kernel
theorem dX7_spills_16 : decode cX7_spills 16 = .ok (.invokevirtual 152, 3) := by decide +kernel
theorem dX7_spills_19 : decode cX7_spills 19 = .ok (.ifCond .ne 19, 3) := by decide +kernel
theorem dX7_spills_22 : decode cX7_spills 22 = .ok (.aload_n 0, 1) := by decide +kernel
theorem dX7_spills_23 : decode cX7_spills 23 = .ok (.getfield 60, 3) := by decide +kernel
theorem dX7_spills_26 : decode cX7_spills 26 = .ok (.iconst 0, 1) := by decide +kernel
theorem dX7_spills_27 : decode cX7_spills 27 = .ok (.iaload, 1) := by decide +kernel
theorem dX7_spills_28 : decode cX7_spills 28 = .ok (.aload_n 0, 1) := by decide +kernel
theorem dX7_spills_29 : decode cX7_spills 29 = .ok (.iconst 0, 1) := by decide +kernel
theorem dX7_spills_30 : decode cX7_spills 30 = .ok (.invokevirtual 121, 3) := by decide +kernel
theorem dX7_spills_33 : decode cX7_spills 33 = .ok (.iconst 1, 1) := by decide +kernel
theorem dX7_spills_34 : decode cX7_spills 34 = .ok (.isub, 1) := by decide +kernel
theorem dX7_spills_35 : decode cX7_spills 35 = .ok (.if_icmp .ne 7, 3) := by decide +kernel
theorem dX7_spills_38 : decode cX7_spills 38 = .ok (.iconst 1, 1) := by decide +kernel
theorem dX7_spills_39 : decode cX7_spills 39 = .ok (.goto 4, 3) := by decide +kernel
theorem dX7_spills_42 : decode cX7_spills 42 = .ok (.iconst 0, 1) := by decide +kernel
theorem dX7_spills_43 : decode cX7_spills 43 = .ok (.istore_n 2, 1) := by decide +kernel
theorem dX7_spills_44 : decode cX7_spills 44 = .ok (.iload_n 2, 1) := by decide +kernel
theorem dX7_spills_45 : decode cX7_spills 45 = .ok (.ifCond .eq 14, 3) := by decide +kernel
theorem dX7_spills_48 : decode cX7_spills 48 = .ok (.aload_n 0, 1) := by decide +kernel
theorem dX7_spills_49 : decode cX7_spills 49 = .ok (.iconst 1, 1) := by decide +kernel
theorem dX7_spills_50 : decode cX7_spills 50 = .ok (.invokevirtual 281, 3) := by decide +kernel
theorem dX7_spills_53 : decode cX7_spills 53 = .ok (.ifCond .ge 6, 3) := by decide +kernel
theorem dX7_spills_56 : decode cX7_spills 56 = .ok (.bipush (-5), 2) := by decide +kernel
theorem dX7_spills_58 : decode cX7_spills 58 = .ok (.ireturn, 1) := by decide +kernel
theorem dX7_spills_59 : decode cX7_spills 59 = .ok (.iload_n 2, 1) := by decide +kernel
theorem dX7_spills_60 : decode cX7_spills 60 = .ok (.ifCond .eq 9, 3) := by decide +kernel
theorem dX7_spills_63 : decode cX7_spills 63 = .ok (.aload_n 0, 1) := by decide +kernel
theorem dX7_spills_64 : decode cX7_spills 64 = .ok (.iconst 1, 1) := by decide +kernel
theorem dX7_spills_65 : decode cX7_spills 65 = .ok (.iconst 0, 1) := by decide +kernel
theorem dX7_spills_66 : decode cX7_spills 66 = .ok (.invokevirtual 284, 3) := by decide +kernel
theorem dX7_spills_69 : decode cX7_spills 69 = .ok (.aload_n 0, 1) := by decide +kernel
theorem dX7_spills_70 : decode cX7_spills 70 = .ok (.iconst 0, 1) := by decide +kernel
theorem dX7_spills_71 : decode cX7_spills 71 = .ok (.aload_n 0, 1) := by decide +kernel
theorem dX7_spills_72 : decode cX7_spills 72 = .ok (.iload_n 1, 1) := by decide +kernel
theorem dX7_spills_73 : decode cX7_spills 73 = .ok (.invokevirtual 142, 3) := by decide +kernel
theorem dX7_spills_76 : decode cX7_spills 76 = .ok (.invokevirtual 155, 3) := by decide +kernel
theorem dX7_spills_79 : decode cX7_spills 79 = .ok (.aload_n 0, 1) := by decide +kernel
theorem dX7_spills_80 : decode cX7_spills 80 = .ok (.iconst 0, 1) := by decide +kernel
theorem dX7_spills_81 : decode cX7_spills 81 = .ok (.putfield 11, 3) := by decide +kernel
theorem dX7_spills_84 : decode cX7_spills 84 = .ok (.aload_n 0, 1) := by decide +kernel
theorem dX7_spills_85 : decode cX7_spills 85 = .ok (.aload_n 0, 1) := by decide +kernel
theorem dX7_spills_86 : decode cX7_spills 86 = .ok (.getfield 60, 3) := by decide +kernel
theorem dX7_spills_89 : decode cX7_spills 89 = .ok (.iconst 0, 1) := by decide +kernel
theorem dX7_spills_90 : decode cX7_spills 90 = .ok (.iaload, 1) := by decide +kernel
theorem dX7_spills_91 : decode cX7_spills 91 = .ok (.i2l, 1) := by decide +kernel
theorem dX7_spills_92 : decode cX7_spills 92 = .ok (.invokevirtual 145, 3) := by decide +kernel
theorem dX7_spills_95 : decode cX7_spills 95 = .ok (.aload_n 0, 1) := by decide +kernel
theorem dX7_spills_96 : decode cX7_spills 96 = .ok (.aload_n 0, 1) := by decide +kernel
theorem dX7_spills_97 : decode cX7_spills 97 = .ok (.getfield 60, 3) := by decide +kernel
theorem dX7_spills_100 : decode cX7_spills 100 = .ok (.iconst 1, 1) := by decide +kernel
theorem dX7_spills_101 : decode cX7_spills 101 = .ok (.iaload, 1) := by decide +kernel
theorem dX7_spills_102 : decode cX7_spills 102 = .ok (.i2l, 1) := by decide +kernel
theorem dX7_spills_103 : decode cX7_spills 103 = .ok (.invokevirtual 145, 3) := by decide +kernel
theorem dX7_spills_106 : decode cX7_spills 106 = .ok (.iload_n 2, 1) := by decide +kernel
theorem dX7_spills_107 : decode cX7_spills 107 = .ok (.invokestatic 109, 3) := by decide +kernel
theorem dX7_spills_110 : decode cX7_spills 110 = .ok (.ireturn, 1) := by decide +kernel
theorem dX7_both_0 : decode cX7_both 0 = .ok (.aload_n 0, 1) := by decide +kernel
theorem dX7_both_1 : decode cX7_both 1 = .ok (.iconst 0, 1) := by decide +kernel
theorem dX7_both_2 : decode cX7_both 2 = .ok (.putfield 1, 3) := by decide +kernel
theorem dX7_both_5 : decode cX7_both 5 = .ok (.iload_n 1, 1) := by decide +kernel
theorem dX7_both_6 : decode cX7_both 6 = .ok (.invokestatic 139, 3) := by decide +kernel
theorem dX7_both_9 : decode cX7_both 9 = .ok (.ifCond .ne 5, 3) := by decide +kernel
theorem dX7_both_12 : decode cX7_both 12 = .ok (.iconst (-1), 1) := by decide +kernel
theorem dX7_both_13 : decode cX7_both 13 = .ok (.ireturn, 1) := by decide +kernel
theorem dX7_both_14 : decode cX7_both 14 = .ok (.aload_n 0, 1) := by decide +kernel
theorem dX7_both_15 : decode cX7_both 15 = .ok (.iload_n 1, 1) := by decide +kernel
theorem dX7_both_16 : decode cX7_both 16 = .ok (.invokevirtual 142, 3) := by decide +kernel
theorem dX7_both_19 : decode cX7_both 19 = .ok (.istore_n 2, 1) := by decide +kernel
theorem dX7_both_20 : decode cX7_both 20 = .ok (.aload_n 0, 1) := by decide +kernel
theorem dX7_both_21 : decode cX7_both 21 = .ok (.iconst 0, 1) := by decide +kernel
theorem dX7_both_22 : decode cX7_both 22 = .ok (.putfield 11, 3) := by decide +kernel
theorem dX7_both_25 : decode cX7_both 25 = .ok (.aload_n 0, 1) := by decide +kernel
theorem dX7_both_26 : decode cX7_both 26 = .ok (.aload_n 0, 1) := by decide +kernel
theorem dX7_both_27 : decode cX7_both 27 = .ok (.iconst 0, 1) := by decide +kernel
theorem dX7_both_28 : decode cX7_both 28 = .ok (.iload_n 2, 1) := by decide +kernel
theorem dX7_both_29 : decode cX7_both 29 = .ok (.invokevirtual 176, 3) := by decide +kernel
theorem dX7_both_32 : decode cX7_both 32 = .ok (.i2l, 1) := by decide +kernel
theorem dX7_both_33 : decode cX7_both 33 = .ok (.invokevirtual 145, 3) := by decide +kernel
theorem dX7_both_36 : decode cX7_both 36 = .ok (.aload_n 0, 1) := by decide +kernel
theorem dX7_both_37 : decode cX7_both 37 = .ok (.aload_n 0, 1) := by decide +kernel
theorem dX7_both_38 : decode cX7_both 38 = .ok (.iconst 0, 1) := by decide +kernel
theorem dX7_both_39 : decode cX7_both 39 = .ok (.iload_n 2, 1) := by decide +kernel
theorem dX7_both_40 : decode cX7_both 40 = .ok (.invokevirtual 173, 3) := by decide +kernel
theorem dX7_both_43 : decode cX7_both 43 = .ok (.ifCond .le 7, 3) := by decide +kernel
theorem dX7_both_46 : decode cX7_both 46 = .ok (.lconst 0, 1) := by decide +kernel
theorem dX7_both_47 : decode cX7_both 47 = .ok (.goto 10, 3) := by decide +kernel
theorem dX7_both_50 : decode cX7_both 50 = .ok (.aload_n 0, 1) := by decide +kernel
theorem dX7_both_51 : decode cX7_both 51 = .ok (.iconst 1, 1) := by decide +kernel
theorem dX7_both_52 : decode cX7_both 52 = .ok (.iload_n 2, 1) := by decide +kernel
theorem dX7_both_53 : decode cX7_both 53 = .ok (.invokevirtual 176, 3) := by decide +kernel
theorem dX7_both_56 : decode cX7_both 56 = .ok (.i2l, 1) := by decide +kernel
theorem dX7_both_57 : decode cX7_both 57 = .ok (.invokevirtual 145, 3) := by decide +kernel
theorem dX7_both_60 : decode cX7_both 60 = .ok (.aload_n 0, 1) := by decide +kernel
theorem dX7_both_61 : decode cX7_both 61 = .ok (.iconst 0, 1) := by decide +kernel
theorem dX7_both_62 : decode cX7_both 62 = .ok (.iload_n 2, 1) := by decide +kernel
theorem dX7_both_63 : decode cX7_both 63 = .ok (.invokevirtual 173, 3) := by decide +kernel
theorem dX7_both_66 : decode cX7_both 66 = .ok (.aload_n 0, 1) := by decide +kernel
theorem dX7_both_67 : decode cX7_both 67 = .ok (.iconst 1, 1) := by decide +kernel
theorem dX7_both_68 : decode cX7_both 68 = .ok (.iload_n 2, 1) := by decide +kernel
theorem dX7_both_69 : decode cX7_both 69 = .ok (.invokevirtual 173, 3) := by decide +kernel
theorem dX7_both_72 : decode cX7_both 72 = .ok (.iadd, 1) := by decide +kernel
theorem dX7_both_73 : decode cX7_both 73 = .ok (.ireturn, 1) := by decide +kernel
theorem dX7_keptOf_0 : decode cX7_keptOf 0 = .ok (.aload_n 0, 1) := by decide +kernel
theorem dX7_keptOf_1 : decode cX7_keptOf 1 = .ok (.iconst 0, 1) := by decide +kernel
theorem dX7_keptOf_2 : decode cX7_keptOf 2 = .ok (.iload_n 1, 1) := by decide +kernel
theorem dX7_keptOf_3 : decode cX7_keptOf 3 = .ok (.invokevirtual 173, 3) := by decide +kernel
theorem dX7_keptOf_6 : decode cX7_keptOf 6 = .ok (.istore_n 3, 1) := by decide +kernel
theorem dX7_keptOf_7 : decode cX7_keptOf 7 = .ok (.aload_n 0, 1) := by decide +kernel
theorem dX7_keptOf_8 : decode cX7_keptOf 8 = .ok (.iconst 1, 1) := by decide +kernel
theorem dX7_keptOf_9 : decode cX7_keptOf 9 = .ok (.iload_n 1, 1) := by decide +kernel
theorem dX7_keptOf_10 : decode cX7_keptOf 10 = .ok (.invokevirtual 173, 3) := by decide +kernel
theorem dX7_keptOf_13 : decode cX7_keptOf 13 = .ok (.istore 4, 2) := by decide +kernel
theorem dX7_keptOf_15 : decode cX7_keptOf 15 = .ok (.iload_n 2, 1) := by decide +kernel
theorem dX7_keptOf_16 : decode cX7_keptOf 16 = .ok (.ifCond .eq 12, 3) := by decide +kernel
theorem dX7_keptOf_19 : decode cX7_keptOf 19 = .ok (.iload_n 3, 1) := by decide +kernel
theorem dX7_keptOf_20 : decode cX7_keptOf 20 = .ok (.iload 4, 2) := by decide +kernel
theorem dX7_keptOf_22 : decode cX7_keptOf 22 = .ok (.invokestatic 278, 3) := by decide +kernel
theorem dX7_keptOf_25 : decode cX7_keptOf 25 = .ok (.goto 11, 3) := by decide +kernel
theorem dX7_keptOf_28 : decode cX7_keptOf 28 = .ok (.iconst 0, 1) := by decide +kernel
theorem dX7_keptOf_29 : decode cX7_keptOf 29 = .ok (.iload_n 3, 1) := by decide +kernel
theorem dX7_keptOf_30 : decode cX7_keptOf 30 = .ok (.iload 4, 2) := by decide +kernel
theorem dX7_keptOf_32 : decode cX7_keptOf 32 = .ok (.isub, 1) := by decide +kernel
theorem dX7_keptOf_33 : decode cX7_keptOf 33 = .ok (.invokestatic 124, 3) := by decide +kernel
theorem dX7_keptOf_36 : decode cX7_keptOf 36 = .ok (.ireturn, 1) := by decide +kernel
theorem dX7_keeps_0 : decode cX7_keeps 0 = .ok (.aload_n 0, 1) := by decide +kernel
theorem dX7_keeps_1 : decode cX7_keeps 1 = .ok (.iconst 0, 1) := by decide +kernel
theorem dX7_keeps_2 : decode cX7_keeps 2 = .ok (.putfield 1, 3) := by decide +kernel
theorem dX7_keeps_5 : decode cX7_keeps 5 = .ok (.aload_n 0, 1) := by decide +kernel
theorem dX7_keeps_6 : decode cX7_keeps 6 = .ok (.iconst 0, 1) := by decide +kernel
theorem dX7_keeps_7 : decode cX7_keeps 7 = .ok (.invokevirtual 247, 3) := by decide +kernel
theorem dX7_keeps_10 : decode cX7_keeps 10 = .ok (.iconst 0, 1) := by decide +kernel
theorem dX7_keeps_11 : decode cX7_keeps 11 = .ok (.istore_n 2, 1) := by decide +kernel
theorem dX7_keeps_12 : decode cX7_keeps 12 = .ok (.iconst 0, 1) := by decide +kernel
theorem dX7_keeps_13 : decode cX7_keeps 13 = .ok (.istore_n 3, 1) := by decide +kernel
theorem dX7_keeps_14 : decode cX7_keeps 14 = .ok (.iload_n 3, 1) := by decide +kernel
theorem dX7_keeps_15 : decode cX7_keeps 15 = .ok (.aload_n 0, 1) := by decide +kernel
theorem dX7_keeps_16 : decode cX7_keeps 16 = .ok (.getfield 241, 3) := by decide +kernel
theorem dX7_keeps_19 : decode cX7_keeps 19 = .ok (.if_icmp .ge 115, 3) := by decide +kernel
theorem dX7_keeps_22 : decode cX7_keeps 22 = .ok (.iload_n 3, 1) := by decide +kernel
theorem dX7_keeps_23 : decode cX7_keeps 23 = .ok (.ifCond .eq 20, 3) := by decide +kernel
theorem dX7_keeps_26 : decode cX7_keeps 26 = .ok (.aload_n 0, 1) := by decide +kernel
theorem dX7_keeps_27 : decode cX7_keeps 27 = .ok (.getfield 91, 3) := by decide +kernel
theorem dX7_keeps_30 : decode cX7_keeps 30 = .ok (.iload_n 3, 1) := by decide +kernel
theorem dX7_keeps_31 : decode cX7_keeps 31 = .ok (.iconst 1, 1) := by decide +kernel
theorem dX7_keeps_32 : decode cX7_keeps 32 = .ok (.isub, 1) := by decide +kernel
theorem dX7_keeps_33 : decode cX7_keeps 33 = .ok (.iaload, 1) := by decide +kernel
theorem dX7_keeps_34 : decode cX7_keeps 34 = .ok (.aload_n 0, 1) := by decide +kernel
theorem dX7_keeps_35 : decode cX7_keeps 35 = .ok (.getfield 91, 3) := by decide +kernel
theorem dX7_keeps_38 : decode cX7_keeps 38 = .ok (.iload_n 3, 1) := by decide +kernel
theorem dX7_keeps_39 : decode cX7_keeps 39 = .ok (.iaload, 1) := by decide +kernel
theorem dX7_keeps_40 : decode cX7_keeps 40 = .ok (.if_icmp .eq 7, 3) := by decide +kernel
theorem dX7_keeps_43 : decode cX7_keeps 43 = .ok (.iconst 1, 1) := by decide +kernel
theorem dX7_keeps_44 : decode cX7_keeps 44 = .ok (.goto 4, 3) := by decide +kernel
theorem dX7_keeps_47 : decode cX7_keeps 47 = .ok (.iconst 0, 1) := by decide +kernel
theorem dX7_keeps_48 : decode cX7_keeps 48 = .ok (.istore 4, 2) := by decide +kernel
theorem dX7_keeps_50 : decode cX7_keeps 50 = .ok (.iload 4, 2) := by decide +kernel
theorem dX7_keeps_52 : decode cX7_keeps 52 = .ok (.ifCond .eq 17, 3) := by decide +kernel
theorem dX7_keeps_55 : decode cX7_keeps 55 = .ok (.aload_n 0, 1) := by decide +kernel
theorem dX7_keeps_56 : decode cX7_keeps 56 = .ok (.aload_n 0, 1) := by decide +kernel
theorem dX7_keeps_57 : decode cX7_keeps 57 = .ok (.getfield 91, 3) := by decide +kernel
theorem dX7_keeps_60 : decode cX7_keeps 60 = .ok (.iload_n 3, 1) := by decide +kernel
theorem dX7_keeps_61 : decode cX7_keeps 61 = .ok (.iaload, 1) := by decide +kernel
theorem dX7_keeps_62 : decode cX7_keeps 62 = .ok (.iload_n 1, 1) := by decide +kernel
theorem dX7_keeps_63 : decode cX7_keeps 63 = .ok (.invokevirtual 287, 3) := by decide +kernel
theorem dX7_keeps_66 : decode cX7_keeps 66 = .ok (.goto 4, 3) := by decide +kernel
theorem dX7_keeps_69 : decode cX7_keeps 69 = .ok (.iconst 0, 1) := by decide +kernel
theorem dX7_keeps_70 : decode cX7_keeps 70 = .ok (.istore 5, 2) := by decide +kernel
theorem dX7_keeps_72 : decode cX7_keeps 72 = .ok (.iload 4, 2) := by decide +kernel
theorem dX7_keeps_74 : decode cX7_keeps 74 = .ok (.ifCond .eq 17, 3) := by decide +kernel
theorem dX7_keeps_77 : decode cX7_keeps 77 = .ok (.aload_n 0, 1) := by decide +kernel
theorem dX7_keeps_78 : decode cX7_keeps 78 = .ok (.iconst 0, 1) := by decide +kernel
theorem dX7_keeps_79 : decode cX7_keeps 79 = .ok (.aload_n 0, 1) := by decide +kernel
theorem dX7_keeps_80 : decode cX7_keeps 80 = .ok (.getfield 91, 3) := by decide +kernel
theorem dX7_keeps_83 : decode cX7_keeps 83 = .ok (.iload_n 3, 1) := by decide +kernel
theorem dX7_keeps_84 : decode cX7_keeps 84 = .ok (.iaload, 1) := by decide +kernel
theorem dX7_keeps_85 : decode cX7_keeps 85 = .ok (.invokevirtual 173, 3) := by decide +kernel
theorem dX7_keeps_88 : decode cX7_keeps 88 = .ok (.goto 4, 3) := by decide +kernel
theorem dX7_keeps_91 : decode cX7_keeps 91 = .ok (.iconst 0, 1) := by decide +kernel
theorem dX7_keeps_92 : decode cX7_keeps 92 = .ok (.istore 6, 2) := by decide +kernel
theorem dX7_keeps_94 : decode cX7_keeps 94 = .ok (.iload 5, 2) := by decide +kernel
theorem dX7_keeps_96 : decode cX7_keeps 96 = .ok (.istore 7, 2) := by decide +kernel
theorem dX7_keeps_98 : decode cX7_keeps 98 = .ok (.iload 7, 2) := by decide +kernel
theorem dX7_keeps_100 : decode cX7_keeps 100 = .ok (.iload 6, 2) := by decide +kernel
theorem dX7_keeps_102 : decode cX7_keeps 102 = .ok (.if_icmp .ge 26, 3) := by decide +kernel
theorem dX7_keeps_105 : decode cX7_keeps 105 = .ok (.iload_n 2, 1) := by decide +kernel
theorem dX7_keeps_106 : decode cX7_keeps 106 = .ok (.aload_n 0, 1) := by decide +kernel
theorem dX7_keeps_107 : decode cX7_keeps 107 = .ok (.iconst 0, 1) := by decide +kernel
theorem dX7_keeps_108 : decode cX7_keeps 108 = .ok (.aload_n 0, 1) := by decide +kernel
theorem dX7_keeps_109 : decode cX7_keeps 109 = .ok (.getfield 91, 3) := by decide +kernel
theorem dX7_keeps_112 : decode cX7_keeps 112 = .ok (.iload_n 3, 1) := by decide +kernel
theorem dX7_keeps_113 : decode cX7_keeps 113 = .ok (.iaload, 1) := by decide +kernel
theorem dX7_keeps_114 : decode cX7_keeps 114 = .ok (.invokevirtual 169, 3) := by decide +kernel
theorem dX7_keeps_117 : decode cX7_keeps 117 = .ok (.invokestatic 109, 3) := by decide +kernel
theorem dX7_keeps_120 : decode cX7_keeps 120 = .ok (.iadd, 1) := by decide +kernel
theorem dX7_keeps_121 : decode cX7_keeps 121 = .ok (.istore_n 2, 1) := by decide +kernel
theorem dX7_keeps_122 : decode cX7_keeps 122 = .ok (.iinc 7 1, 3) := by decide +kernel
theorem dX7_keeps_125 : decode cX7_keeps 125 = .ok (.goto (-27), 3) := by decide +kernel
theorem dX7_keeps_128 : decode cX7_keeps 128 = .ok (.iinc 3 1, 3) := by decide +kernel
theorem dX7_keeps_131 : decode cX7_keeps 131 = .ok (.goto (-117), 3) := by decide +kernel
theorem dX7_keeps_134 : decode cX7_keeps 134 = .ok (.iload_n 2, 1) := by decide +kernel
theorem dX7_keeps_135 : decode cX7_keeps 135 = .ok (.ifCond .ne 6, 3) := by decide +kernel
theorem dX7_keeps_138 : decode cX7_keeps 138 = .ok (.bipush (-2), 2) := by decide +kernel
theorem dX7_keeps_140 : decode cX7_keeps 140 = .ok (.ireturn, 1) := by decide +kernel
theorem dX7_keeps_141 : decode cX7_keeps 141 = .ok (.iload_n 2, 1) := by decide +kernel
theorem dX7_keeps_142 : decode cX7_keeps 142 = .ok (.ireturn, 1) := by decide +kernel
theorem dX7_parts_0 : decode cX7_parts 0 = .ok (.aload_n 0, 1) := by decide +kernel
theorem dX7_parts_1 : decode cX7_parts 1 = .ok (.iconst 0, 1) := by decide +kernel
theorem dX7_parts_2 : decode cX7_parts 2 = .ok (.putfield 1, 3) := by decide +kernel
theorem dX7_parts_5 : decode cX7_parts 5 = .ok (.iload_n 1, 1) := by decide +kernel
theorem dX7_parts_6 : decode cX7_parts 6 = .ok (.i2l, 1) := by decide +kernel
theorem dX7_parts_7 : decode cX7_parts 7 = .ok (.lconst 0, 1) := by decide +kernel
theorem dX7_parts_8 : decode cX7_parts 8 = .ok (.iconst 1, 1) := by decide +kernel
theorem dX7_parts_9 : decode cX7_parts 9 = .ok (.aload_n 0, 1) := by decide +kernel
theorem dX7_parts_10 : decode cX7_parts 10 = .ok (.getfield 47, 3) := by decide +kernel
theorem dX7_parts_13 : decode cX7_parts 13 = .ok (.ishl, 1) := by decide +kernel
theorem dX7_parts_14 : decode cX7_parts 14 = .ok (.iconst 1, 1) := by decide +kernel
theorem dX7_parts_15 : decode cX7_parts 15 = .ok (.isub, 1) := by decide +kernel
theorem dX7_parts_16 : decode cX7_parts 16 = .ok (.i2l, 1) := by decide +kernel
theorem dX7_parts_17 : decode cX7_parts 17 = .ok (.invokestatic 21, 3) := by decide +kernel
theorem dX7_parts_20 : decode cX7_parts 20 = .ok (.ifCond .ne 5, 3) := by decide +kernel
theorem dX7_parts_23 : decode cX7_parts 23 = .ok (.iconst (-1), 1) := by decide +kernel
theorem dX7_parts_24 : decode cX7_parts 24 = .ok (.ireturn, 1) := by decide +kernel
theorem dX7_parts_25 : decode cX7_parts 25 = .ok (.iconst 0, 1) := by decide +kernel
theorem dX7_parts_26 : decode cX7_parts 26 = .ok (.istore_n 2, 1) := by decide +kernel
theorem dX7_parts_27 : decode cX7_parts 27 = .ok (.iload_n 2, 1) := by decide +kernel
theorem dX7_parts_28 : decode cX7_parts 28 = .ok (.aload_n 0, 1) := by decide +kernel
theorem dX7_parts_29 : decode cX7_parts 29 = .ok (.getfield 60, 3) := by decide +kernel
theorem dX7_parts_32 : decode cX7_parts 32 = .ok (.iconst 0, 1) := by decide +kernel
theorem dX7_parts_33 : decode cX7_parts 33 = .ok (.iaload, 1) := by decide +kernel
theorem dX7_parts_34 : decode cX7_parts 34 = .ok (.if_icmp .ge 19, 3) := by decide +kernel
theorem dX7_parts_37 : decode cX7_parts 37 = .ok (.aload_n 0, 1) := by decide +kernel
theorem dX7_parts_38 : decode cX7_parts 38 = .ok (.iconst 0, 1) := by decide +kernel
theorem dX7_parts_39 : decode cX7_parts 39 = .ok (.iload_n 2, 1) := by decide +kernel
theorem dX7_parts_40 : decode cX7_parts 40 = .ok (.invokevirtual 106, 3) := by decide +kernel
theorem dX7_parts_43 : decode cX7_parts 43 = .ok (.iload_n 1, 1) := by decide +kernel
theorem dX7_parts_44 : decode cX7_parts 44 = .ok (.if_icmp .ge 9, 3) := by decide +kernel
theorem dX7_parts_47 : decode cX7_parts 47 = .ok (.iinc 2 1, 3) := by decide +kernel
theorem dX7_parts_50 : decode cX7_parts 50 = .ok (.goto (-23), 3) := by decide +kernel
theorem dX7_parts_53 : decode cX7_parts 53 = .ok (.aload_n 0, 1) := by decide +kernel
theorem dX7_parts_54 : decode cX7_parts 54 = .ok (.getfield 60, 3) := by decide +kernel
theorem dX7_parts_57 : decode cX7_parts 57 = .ok (.iconst 0, 1) := by decide +kernel
theorem dX7_parts_58 : decode cX7_parts 58 = .ok (.iaload, 1) := by decide +kernel
theorem dX7_parts_59 : decode cX7_parts 59 = .ok (.iload_n 2, 1) := by decide +kernel
theorem dX7_parts_60 : decode cX7_parts 60 = .ok (.isub, 1) := by decide +kernel
theorem dX7_parts_61 : decode cX7_parts 61 = .ok (.istore_n 3, 1) := by decide +kernel
theorem dX7_parts_62 : decode cX7_parts 62 = .ok (.iload_n 3, 1) := by decide +kernel
theorem dX7_parts_63 : decode cX7_parts 63 = .ok (.ifCond .ne 6, 3) := by decide +kernel
theorem dX7_parts_66 : decode cX7_parts 66 = .ok (.bipush (-2), 2) := by decide +kernel
theorem dX7_parts_68 : decode cX7_parts 68 = .ok (.ireturn, 1) := by decide +kernel
theorem dX7_parts_69 : decode cX7_parts 69 = .ok (.aload_n 0, 1) := by decide +kernel
theorem dX7_parts_70 : decode cX7_parts 70 = .ok (.getfield 60, 3) := by decide +kernel
theorem dX7_parts_73 : decode cX7_parts 73 = .ok (.iconst 1, 1) := by decide +kernel
theorem dX7_parts_74 : decode cX7_parts 74 = .ok (.iaload, 1) := by decide +kernel
theorem dX7_parts_75 : decode cX7_parts 75 = .ok (.ifCond .le 6, 3) := by decide +kernel
theorem dX7_parts_78 : decode cX7_parts 78 = .ok (.bipush (-3), 2) := by decide +kernel
theorem dX7_parts_80 : decode cX7_parts 80 = .ok (.ireturn, 1) := by decide +kernel
theorem dX7_parts_81 : decode cX7_parts 81 = .ok (.aload_n 0, 1) := by decide +kernel
theorem dX7_parts_82 : decode cX7_parts 82 = .ok (.getfield 57, 3) := by decide +kernel
theorem dX7_parts_85 : decode cX7_parts 85 = .ok (.iconst 1, 1) := by decide +kernel
theorem dX7_parts_86 : decode cX7_parts 86 = .ok (.aload_n 0, 1) := by decide +kernel
theorem dX7_parts_87 : decode cX7_parts 87 = .ok (.getfield 57, 3) := by decide +kernel
theorem dX7_parts_90 : decode cX7_parts 90 = .ok (.iconst 0, 1) := by decide +kernel
theorem dX7_parts_91 : decode cX7_parts 91 = .ok (.iaload, 1) := by decide +kernel
theorem dX7_parts_92 : decode cX7_parts 92 = .ok (.iastore, 1) := by decide +kernel
theorem dX7_parts_93 : decode cX7_parts 93 = .ok (.iload_n 2, 1) := by decide +kernel
theorem dX7_parts_94 : decode cX7_parts 94 = .ok (.istore 4, 2) := by decide +kernel
theorem dX7_parts_96 : decode cX7_parts 96 = .ok (.iload 4, 2) := by decide +kernel
theorem dX7_parts_98 : decode cX7_parts 98 = .ok (.aload_n 0, 1) := by decide +kernel
theorem dX7_parts_99 : decode cX7_parts 99 = .ok (.getfield 60, 3) := by decide +kernel
theorem dX7_parts_102 : decode cX7_parts 102 = .ok (.iconst 0, 1) := by decide +kernel
theorem dX7_parts_103 : decode cX7_parts 103 = .ok (.iaload, 1) := by decide +kernel
theorem dX7_parts_104 : decode cX7_parts 104 = .ok (.if_icmp .ge 21, 3) := by decide +kernel
theorem dX7_parts_107 : decode cX7_parts 107 = .ok (.aload_n 0, 1) := by decide +kernel
theorem dX7_parts_108 : decode cX7_parts 108 = .ok (.iconst 1, 1) := by decide +kernel
theorem dX7_parts_109 : decode cX7_parts 109 = .ok (.aload_n 0, 1) := by decide +kernel
theorem dX7_parts_110 : decode cX7_parts 110 = .ok (.iconst 0, 1) := by decide +kernel
theorem dX7_parts_111 : decode cX7_parts 111 = .ok (.iload 4, 2) := by decide +kernel
theorem dX7_parts_113 : decode cX7_parts 113 = .ok (.invokevirtual 106, 3) := by decide +kernel
theorem dX7_parts_116 : decode cX7_parts 116 = .ok (.invokevirtual 155, 3) := by decide +kernel
theorem dX7_parts_119 : decode cX7_parts 119 = .ok (.iinc 4 1, 3) := by decide +kernel
theorem dX7_parts_122 : decode cX7_parts 122 = .ok (.goto (-26), 3) := by decide +kernel
theorem dX7_parts_125 : decode cX7_parts 125 = .ok (.aload_n 0, 1) := by decide +kernel
theorem dX7_parts_126 : decode cX7_parts 126 = .ok (.getfield 60, 3) := by decide +kernel
theorem dX7_parts_129 : decode cX7_parts 129 = .ok (.iconst 0, 1) := by decide +kernel
theorem dX7_parts_130 : decode cX7_parts 130 = .ok (.iload_n 2, 1) := by decide +kernel
theorem dX7_parts_131 : decode cX7_parts 131 = .ok (.iastore, 1) := by decide +kernel
theorem dX7_parts_132 : decode cX7_parts 132 = .ok (.iload_n 3, 1) := by decide +kernel
theorem dX7_parts_133 : decode cX7_parts 133 = .ok (.ireturn, 1) := by decide +kernel
theorem dX7_clears_0 : decode cX7_clears 0 = .ok (.aload_n 0, 1) := by decide +kernel
theorem dX7_clears_1 : decode cX7_clears 1 = .ok (.iconst 0, 1) := by decide +kernel
theorem dX7_clears_2 : decode cX7_clears 2 = .ok (.putfield 1, 3) := by decide +kernel
theorem dX7_clears_5 : decode cX7_clears 5 = .ok (.iload_n 1, 1) := by decide +kernel
theorem dX7_clears_6 : decode cX7_clears 6 = .ok (.invokestatic 136, 3) := by decide +kernel
theorem dX7_clears_9 : decode cX7_clears 9 = .ok (.ifCond .ne 5, 3) := by decide +kernel
theorem dX7_clears_12 : decode cX7_clears 12 = .ok (.iconst (-1), 1) := by decide +kernel
theorem dX7_clears_13 : decode cX7_clears 13 = .ok (.ireturn, 1) := by decide +kernel
theorem dX7_clears_14 : decode cX7_clears 14 = .ok (.aload_n 0, 1) := by decide +kernel
theorem dX7_clears_15 : decode cX7_clears 15 = .ok (.getfield 60, 3) := by decide +kernel
theorem dX7_clears_18 : decode cX7_clears 18 = .ok (.iload_n 1, 1) := by decide +kernel
theorem dX7_clears_19 : decode cX7_clears 19 = .ok (.iaload, 1) := by decide +kernel
theorem dX7_clears_20 : decode cX7_clears 20 = .ok (.istore_n 2, 1) := by decide +kernel
theorem dX7_clears_21 : decode cX7_clears 21 = .ok (.aload_n 0, 1) := by decide +kernel
theorem dX7_clears_22 : decode cX7_clears 22 = .ok (.getfield 60, 3) := by decide +kernel
theorem dX7_clears_25 : decode cX7_clears 25 = .ok (.iload_n 1, 1) := by decide +kernel
theorem dX7_clears_26 : decode cX7_clears 26 = .ok (.iconst 0, 1) := by decide +kernel
theorem dX7_clears_27 : decode cX7_clears 27 = .ok (.iastore, 1) := by decide +kernel
theorem dX7_clears_28 : decode cX7_clears 28 = .ok (.aload_n 0, 1) := by decide +kernel
theorem dX7_clears_29 : decode cX7_clears 29 = .ok (.getfield 57, 3) := by decide +kernel
theorem dX7_clears_32 : decode cX7_clears 32 = .ok (.iload_n 1, 1) := by decide +kernel
theorem dX7_clears_33 : decode cX7_clears 33 = .ok (.iconst 3, 1) := by decide +kernel
theorem dX7_clears_34 : decode cX7_clears 34 = .ok (.iastore, 1) := by decide +kernel
theorem dX7_clears_35 : decode cX7_clears 35 = .ok (.iload_n 2, 1) := by decide +kernel
theorem dX7_clears_36 : decode cX7_clears 36 = .ok (.ireturn, 1) := by decide +kernel
theorem dX7_common_0 : decode cX7_common 0 = .ok (.aload_n 0, 1) := by decide +kernel
theorem dX7_common_1 : decode cX7_common 1 = .ok (.iconst 0, 1) := by decide +kernel
theorem dX7_common_2 : decode cX7_common 2 = .ok (.putfield 1, 3) := by decide +kernel
theorem dX7_common_5 : decode cX7_common 5 = .ok (.iconst 0, 1) := by decide +kernel
theorem dX7_common_6 : decode cX7_common 6 = .ok (.istore_n 1, 1) := by decide +kernel
theorem dX7_common_7 : decode cX7_common 7 = .ok (.iconst 0, 1) := by decide +kernel
theorem dX7_common_8 : decode cX7_common 8 = .ok (.istore_n 2, 1) := by decide +kernel
theorem dX7_common_9 : decode cX7_common 9 = .ok (.iconst 0, 1) := by decide +kernel
theorem dX7_common_10 : decode cX7_common 10 = .ok (.istore_n 3, 1) := by decide +kernel
theorem dX7_common_11 : decode cX7_common 11 = .ok (.iload_n 3, 1) := by decide +kernel
theorem dX7_common_12 : decode cX7_common 12 = .ok (.aload_n 0, 1) := by decide +kernel
theorem dX7_common_13 : decode cX7_common 13 = .ok (.getfield 60, 3) := by decide +kernel
theorem dX7_common_16 : decode cX7_common 16 = .ok (.iconst 0, 1) := by decide +kernel
theorem dX7_common_17 : decode cX7_common 17 = .ok (.iaload, 1) := by decide +kernel
theorem dX7_common_18 : decode cX7_common 18 = .ok (.if_icmp .ge 77, 3) := by decide +kernel
theorem dX7_common_21 : decode cX7_common 21 = .ok (.aload_n 0, 1) := by decide +kernel
theorem dX7_common_22 : decode cX7_common 22 = .ok (.iconst 0, 1) := by decide +kernel
theorem dX7_common_23 : decode cX7_common 23 = .ok (.iload_n 3, 1) := by decide +kernel
theorem dX7_common_24 : decode cX7_common 24 = .ok (.invokevirtual 106, 3) := by decide +kernel
theorem dX7_common_27 : decode cX7_common 27 = .ok (.istore 4, 2) := by decide +kernel
theorem dX7_common_29 : decode cX7_common 29 = .ok (.iload_n 3, 1) := by decide +kernel
theorem dX7_common_30 : decode cX7_common 30 = .ok (.ifCond .le 19, 3) := by decide +kernel
theorem dX7_common_33 : decode cX7_common 33 = .ok (.aload_n 0, 1) := by decide +kernel
theorem dX7_common_34 : decode cX7_common 34 = .ok (.iconst 0, 1) := by decide +kernel
theorem dX7_common_35 : decode cX7_common 35 = .ok (.iload_n 3, 1) := by decide +kernel
theorem dX7_common_36 : decode cX7_common 36 = .ok (.iconst 1, 1) := by decide +kernel
theorem dX7_common_37 : decode cX7_common 37 = .ok (.isub, 1) := by decide +kernel
theorem dX7_common_38 : decode cX7_common 38 = .ok (.invokevirtual 106, 3) := by decide +kernel
theorem dX7_common_41 : decode cX7_common 41 = .ok (.iload 4, 2) := by decide +kernel
theorem dX7_common_43 : decode cX7_common 43 = .ok (.if_icmp .ne 6, 3) := by decide +kernel
theorem dX7_common_46 : decode cX7_common 46 = .ok (.goto 43, 3) := by decide +kernel
theorem dX7_common_49 : decode cX7_common 49 = .ok (.aload_n 0, 1) := by decide +kernel
theorem dX7_common_50 : decode cX7_common 50 = .ok (.iconst 0, 1) := by decide +kernel
theorem dX7_common_51 : decode cX7_common 51 = .ok (.iload 4, 2) := by decide +kernel
theorem dX7_common_53 : decode cX7_common 53 = .ok (.invokevirtual 173, 3) := by decide +kernel
theorem dX7_common_56 : decode cX7_common 56 = .ok (.aload_n 0, 1) := by decide +kernel
theorem dX7_common_57 : decode cX7_common 57 = .ok (.iconst 1, 1) := by decide +kernel
theorem dX7_common_58 : decode cX7_common 58 = .ok (.iload 4, 2) := by decide +kernel
theorem dX7_common_60 : decode cX7_common 60 = .ok (.invokevirtual 173, 3) := by decide +kernel
theorem dX7_common_63 : decode cX7_common 63 = .ok (.invokestatic 278, 3) := by decide +kernel
theorem dX7_common_66 : decode cX7_common 66 = .ok (.istore 5, 2) := by decide +kernel
theorem dX7_common_68 : decode cX7_common 68 = .ok (.iload_n 1, 1) := by decide +kernel
theorem dX7_common_69 : decode cX7_common 69 = .ok (.iload 5, 2) := by decide +kernel
theorem dX7_common_71 : decode cX7_common 71 = .ok (.iadd, 1) := by decide +kernel
theorem dX7_common_72 : decode cX7_common 72 = .ok (.istore_n 1, 1) := by decide +kernel
theorem dX7_common_73 : decode cX7_common 73 = .ok (.iload_n 2, 1) := by decide +kernel
theorem dX7_common_74 : decode cX7_common 74 = .ok (.iload 5, 2) := by decide +kernel
theorem dX7_common_76 : decode cX7_common 76 = .ok (.ifCond .le 7, 3) := by decide +kernel
theorem dX7_common_79 : decode cX7_common 79 = .ok (.iconst 1, 1) := by decide +kernel
theorem dX7_common_80 : decode cX7_common 80 = .ok (.goto 4, 3) := by decide +kernel
theorem dX7_common_83 : decode cX7_common 83 = .ok (.iconst 0, 1) := by decide +kernel
theorem dX7_common_84 : decode cX7_common 84 = .ok (.invokestatic 109, 3) := by decide +kernel
theorem dX7_common_87 : decode cX7_common 87 = .ok (.iadd, 1) := by decide +kernel
theorem dX7_common_88 : decode cX7_common 88 = .ok (.istore_n 2, 1) := by decide +kernel
theorem dX7_common_89 : decode cX7_common 89 = .ok (.iinc 3 1, 3) := by decide +kernel
theorem dX7_common_92 : decode cX7_common 92 = .ok (.goto (-81), 3) := by decide +kernel
theorem dX7_common_95 : decode cX7_common 95 = .ok (.aload_n 0, 1) := by decide +kernel
theorem dX7_common_96 : decode cX7_common 96 = .ok (.iconst 0, 1) := by decide +kernel
theorem dX7_common_97 : decode cX7_common 97 = .ok (.putfield 11, 3) := by decide +kernel
theorem dX7_common_100 : decode cX7_common 100 = .ok (.aload_n 0, 1) := by decide +kernel
theorem dX7_common_101 : decode cX7_common 101 = .ok (.iload_n 2, 1) := by decide +kernel
theorem dX7_common_102 : decode cX7_common 102 = .ok (.i2l, 1) := by decide +kernel
theorem dX7_common_103 : decode cX7_common 103 = .ok (.invokevirtual 145, 3) := by decide +kernel
theorem dX7_common_106 : decode cX7_common 106 = .ok (.aload_n 0, 1) := by decide +kernel
theorem dX7_common_107 : decode cX7_common 107 = .ok (.iload_n 1, 1) := by decide +kernel
theorem dX7_common_108 : decode cX7_common 108 = .ok (.aload_n 0, 1) := by decide +kernel
theorem dX7_common_109 : decode cX7_common 109 = .ok (.getfield 60, 3) := by decide +kernel
theorem dX7_common_112 : decode cX7_common 112 = .ok (.iconst 0, 1) := by decide +kernel
theorem dX7_common_113 : decode cX7_common 113 = .ok (.iaload, 1) := by decide +kernel
theorem dX7_common_114 : decode cX7_common 114 = .ok (.if_icmp .ne 7, 3) := by decide +kernel
theorem dX7_common_117 : decode cX7_common 117 = .ok (.iconst 1, 1) := by decide +kernel
theorem dX7_common_118 : decode cX7_common 118 = .ok (.goto 4, 3) := by decide +kernel
theorem dX7_common_121 : decode cX7_common 121 = .ok (.iconst 0, 1) := by decide +kernel
theorem dX7_common_122 : decode cX7_common 122 = .ok (.invokestatic 109, 3) := by decide +kernel
theorem dX7_common_125 : decode cX7_common 125 = .ok (.i2l, 1) := by decide +kernel
theorem dX7_common_126 : decode cX7_common 126 = .ok (.invokevirtual 145, 3) := by decide +kernel
theorem dX7_common_129 : decode cX7_common 129 = .ok (.aload_n 0, 1) := by decide +kernel
theorem dX7_common_130 : decode cX7_common 130 = .ok (.iload_n 1, 1) := by decide +kernel
theorem dX7_common_131 : decode cX7_common 131 = .ok (.aload_n 0, 1) := by decide +kernel
theorem dX7_common_132 : decode cX7_common 132 = .ok (.getfield 60, 3) := by decide +kernel
theorem dX7_common_135 : decode cX7_common 135 = .ok (.iconst 1, 1) := by decide +kernel
theorem dX7_common_136 : decode cX7_common 136 = .ok (.iaload, 1) := by decide +kernel
theorem dX7_common_137 : decode cX7_common 137 = .ok (.if_icmp .ne 7, 3) := by decide +kernel
theorem dX7_common_140 : decode cX7_common 140 = .ok (.iconst 1, 1) := by decide +kernel
theorem dX7_common_141 : decode cX7_common 141 = .ok (.goto 4, 3) := by decide +kernel
theorem dX7_common_144 : decode cX7_common 144 = .ok (.iconst 0, 1) := by decide +kernel
theorem dX7_common_145 : decode cX7_common 145 = .ok (.invokestatic 109, 3) := by decide +kernel
theorem dX7_common_148 : decode cX7_common 148 = .ok (.i2l, 1) := by decide +kernel
theorem dX7_common_149 : decode cX7_common 149 = .ok (.invokevirtual 145, 3) := by decide +kernel
theorem dX7_common_152 : decode cX7_common 152 = .ok (.iload_n 1, 1) := by decide +kernel
theorem dX7_common_153 : decode cX7_common 153 = .ok (.ireturn, 1) := by decide +kernel
theorem dX7_full_0 : decode cX7_full 0 = .ok (.aload_n 0, 1) := by decide +kernel
theorem dX7_full_1 : decode cX7_full 1 = .ok (.iconst 0, 1) := by decide +kernel
theorem dX7_full_2 : decode cX7_full 2 = .ok (.putfield 1, 3) := by decide +kernel
theorem dX7_full_5 : decode cX7_full 5 = .ok (.iload_n 1, 1) := by decide +kernel
theorem dX7_full_6 : decode cX7_full 6 = .ok (.invokestatic 136, 3) := by decide +kernel
theorem dX7_full_9 : decode cX7_full 9 = .ok (.ifCond .ne 5, 3) := by decide +kernel
theorem dX7_full_12 : decode cX7_full 12 = .ok (.iconst (-1), 1) := by decide +kernel
theorem dX7_full_13 : decode cX7_full 13 = .ok (.ireturn, 1) := by decide +kernel
theorem dX7_full_14 : decode cX7_full 14 = .ok (.iconst 0, 1) := by decide +kernel
theorem dX7_full_15 : decode cX7_full 15 = .ok (.istore_n 2, 1) := by decide +kernel
theorem dX7_full_16 : decode cX7_full 16 = .ok (.iconst 0, 1) := by decide +kernel
theorem dX7_full_17 : decode cX7_full 17 = .ok (.istore_n 3, 1) := by decide +kernel
theorem dX7_full_18 : decode cX7_full 18 = .ok (.iload_n 3, 1) := by decide +kernel
theorem dX7_full_19 : decode cX7_full 19 = .ok (.sipush 1000, 3) := by decide +kernel
theorem dX7_full_22 : decode cX7_full 22 = .ok (.if_icmp .ge 33, 3) := by decide +kernel
theorem dX7_full_25 : decode cX7_full 25 = .ok (.iload_n 2, 1) := by decide +kernel
theorem dX7_full_26 : decode cX7_full 26 = .ok (.aload_n 0, 1) := by decide +kernel
theorem dX7_full_27 : decode cX7_full 27 = .ok (.iload_n 1, 1) := by decide +kernel
theorem dX7_full_28 : decode cX7_full 28 = .ok (.aload_n 0, 1) := by decide +kernel
theorem dX7_full_29 : decode cX7_full 29 = .ok (.iload_n 3, 1) := by decide +kernel
theorem dX7_full_30 : decode cX7_full 30 = .ok (.invokevirtual 142, 3) := by decide +kernel
theorem dX7_full_33 : decode cX7_full 33 = .ok (.invokevirtual 173, 3) := by decide +kernel
theorem dX7_full_36 : decode cX7_full 36 = .ok (.ifCond .le 7, 3) := by decide +kernel
theorem dX7_full_39 : decode cX7_full 39 = .ok (.iconst 1, 1) := by decide +kernel
theorem dX7_full_40 : decode cX7_full 40 = .ok (.goto 4, 3) := by decide +kernel
theorem dX7_full_43 : decode cX7_full 43 = .ok (.iconst 0, 1) := by decide +kernel
theorem dX7_full_44 : decode cX7_full 44 = .ok (.invokestatic 109, 3) := by decide +kernel
theorem dX7_full_47 : decode cX7_full 47 = .ok (.iadd, 1) := by decide +kernel
theorem dX7_full_48 : decode cX7_full 48 = .ok (.istore_n 2, 1) := by decide +kernel
theorem dX7_full_49 : decode cX7_full 49 = .ok (.iinc 3 1, 3) := by decide +kernel
theorem dX7_full_52 : decode cX7_full 52 = .ok (.goto (-34), 3) := by decide +kernel
theorem dX7_full_55 : decode cX7_full 55 = .ok (.aload_n 0, 1) := by decide +kernel
theorem dX7_full_56 : decode cX7_full 56 = .ok (.iload_n 1, 1) := by decide +kernel
theorem dX7_full_57 : decode cX7_full 57 = .ok (.invokevirtual 272, 3) := by decide +kernel
theorem dX7_full_60 : decode cX7_full 60 = .ok (.i2d, 1) := by decide +kernel
theorem dX7_full_61 : decode cX7_full 61 = .ok (.iconst 1, 1) := by decide +kernel
theorem dX7_full_62 : decode cX7_full 62 = .ok (.aload_n 0, 1) := by decide +kernel
theorem dX7_full_63 : decode cX7_full 63 = .ok (.getfield 47, 3) := by decide +kernel
theorem dX7_full_66 : decode cX7_full 66 = .ok (.ishl, 1) := by decide +kernel
theorem dX7_full_67 : decode cX7_full 67 = .ok (.i2d, 1) := by decide +kernel
theorem dX7_full_68 : decode cX7_full 68 = .ok (.ddiv, 1) := by decide +kernel
theorem dX7_full_69 : decode cX7_full 69 = .ok (.dstore_n 3, 1) := by decide +kernel
theorem dX7_full_70 : decode cX7_full 70 = .ok (.aload_n 0, 1) := by decide +kernel
theorem dX7_full_71 : decode cX7_full 71 = .ok (.iconst 0, 1) := by decide +kernel
theorem dX7_full_72 : decode cX7_full 72 = .ok (.putfield 11, 3) := by decide +kernel
theorem dX7_full_75 : decode cX7_full 75 = .ok (.aload_n 0, 1) := by decide +kernel
theorem dX7_full_76 : decode cX7_full 76 = .ok (.dload_n 3, 1) := by decide +kernel
theorem dX7_full_77 : decode cX7_full 77 = .ok (.invokestatic 291, 3) := by decide +kernel
theorem dX7_full_80 : decode cX7_full 80 = .ok (.invokevirtual 145, 3) := by decide +kernel
theorem dX7_full_83 : decode cX7_full 83 = .ok (.aload_n 0, 1) := by decide +kernel
theorem dX7_full_84 : decode cX7_full 84 = .ok (.iload_n 2, 1) := by decide +kernel
theorem dX7_full_85 : decode cX7_full 85 = .ok (.i2l, 1) := by decide +kernel
theorem dX7_full_86 : decode cX7_full 86 = .ok (.invokevirtual 145, 3) := by decide +kernel
theorem dX7_full_89 : decode cX7_full 89 = .ok (.aload_n 0, 1) := by decide +kernel
theorem dX7_full_90 : decode cX7_full 90 = .ok (.getfield 60, 3) := by decide +kernel
theorem dX7_full_93 : decode cX7_full 93 = .ok (.iload_n 1, 1) := by decide +kernel
theorem dX7_full_94 : decode cX7_full 94 = .ok (.iaload, 1) := by decide +kernel
theorem dX7_full_95 : decode cX7_full 95 = .ok (.i2f, 1) := by decide +kernel
theorem dX7_full_96 : decode cX7_full 96 = .ok (.aload_n 0, 1) := by decide +kernel
theorem dX7_full_97 : decode cX7_full 97 = .ok (.iload_n 1, 1) := by decide +kernel
theorem dX7_full_98 : decode cX7_full 98 = .ok (.invokevirtual 121, 3) := by decide +kernel
theorem dX7_full_101 : decode cX7_full 101 = .ok (.i2f, 1) := by decide +kernel
theorem dX7_full_102 : decode cX7_full 102 = .ok (.fdiv, 1) := by decide +kernel
theorem dX7_full_103 : decode cX7_full 103 = .ok (.fstore 5, 2) := by decide +kernel
theorem dX7_full_105 : decode cX7_full 105 = .ok (.fload 5, 2) := by decide +kernel
theorem dX7_full_107 : decode cX7_full 107 = .ok (.invokestatic 297, 3) := by decide +kernel
theorem dX7_full_110 : decode cX7_full 110 = .ok (.ireturn, 1) := by decide +kernel
theorem dX7_marked_0 : decode cX7_marked 0 = .ok (.aload_n 0, 1) := by decide +kernel
theorem dX7_marked_1 : decode cX7_marked 1 = .ok (.iload_n 1, 1) := by decide +kernel
theorem dX7_marked_2 : decode cX7_marked 2 = .ok (.invokevirtual 162, 3) := by decide +kernel
theorem dX7_marked_5 : decode cX7_marked 5 = .ok (.iconst 0, 1) := by decide +kernel
theorem dX7_marked_6 : decode cX7_marked 6 = .ok (.istore_n 3, 1) := by decide +kernel
theorem dX7_marked_7 : decode cX7_marked 7 = .ok (.iconst 0, 1) := by decide +kernel
theorem dX7_marked_8 : decode cX7_marked 8 = .ok (.istore 4, 2) := by decide +kernel
theorem dX7_marked_10 : decode cX7_marked 10 = .ok (.iload 4, 2) := by decide +kernel
theorem dX7_marked_12 : decode cX7_marked 12 = .ok (.aload_n 0, 1) := by decide +kernel
theorem dX7_marked_13 : decode cX7_marked 13 = .ok (.iload_n 1, 1) := by decide +kernel
theorem dX7_marked_14 : decode cX7_marked 14 = .ok (.invokevirtual 121, 3) := by decide +kernel
theorem dX7_marked_17 : decode cX7_marked 17 = .ok (.if_icmp .ge 32, 3) := by decide +kernel
theorem dX7_marked_20 : decode cX7_marked 20 = .ok (.iload_n 3, 1) := by decide +kernel
theorem dX7_marked_21 : decode cX7_marked 21 = .ok (.aload_n 0, 1) := by decide +kernel
theorem dX7_marked_22 : decode cX7_marked 22 = .ok (.getfield 72, 3) := by decide +kernel
theorem dX7_marked_25 : decode cX7_marked 25 = .ok (.iload 4, 2) := by decide +kernel
theorem dX7_marked_27 : decode cX7_marked 27 = .ok (.iaload, 1) := by decide +kernel
theorem dX7_marked_28 : decode cX7_marked 28 = .ok (.iload_n 2, 1) := by decide +kernel
theorem dX7_marked_29 : decode cX7_marked 29 = .ok (.iand, 1) := by decide +kernel
theorem dX7_marked_30 : decode cX7_marked 30 = .ok (.ifCond .eq 7, 3) := by decide +kernel
theorem dX7_marked_33 : decode cX7_marked 33 = .ok (.iconst 1, 1) := by decide +kernel
theorem dX7_marked_34 : decode cX7_marked 34 = .ok (.goto 4, 3) := by decide +kernel
theorem dX7_marked_37 : decode cX7_marked 37 = .ok (.iconst 0, 1) := by decide +kernel
theorem dX7_marked_38 : decode cX7_marked 38 = .ok (.invokestatic 109, 3) := by decide +kernel
theorem dX7_marked_41 : decode cX7_marked 41 = .ok (.iadd, 1) := by decide +kernel
theorem dX7_marked_42 : decode cX7_marked 42 = .ok (.istore_n 3, 1) := by decide +kernel
theorem dX7_marked_43 : decode cX7_marked 43 = .ok (.iinc 4 1, 3) := by decide +kernel
theorem dX7_marked_46 : decode cX7_marked 46 = .ok (.goto (-36), 3) := by decide +kernel
theorem dX7_marked_49 : decode cX7_marked 49 = .ok (.iload_n 3, 1) := by decide +kernel
theorem dX7_marked_50 : decode cX7_marked 50 = .ok (.ireturn, 1) := by decide +kernel
theorem dX7_count_0 : decode cX7_count 0 = .ok (.aload_n 0, 1) := by decide +kernel
theorem dX7_count_1 : decode cX7_count 1 = .ok (.iconst 0, 1) := by decide +kernel
theorem dX7_count_2 : decode cX7_count 2 = .ok (.putfield 1, 3) := by decide +kernel
theorem dX7_count_5 : decode cX7_count 5 = .ok (.iload_n 2, 1) := by decide +kernel
theorem dX7_count_6 : decode cX7_count 6 = .ok (.bipush 6, 2) := by decide +kernel
theorem dX7_count_8 : decode cX7_count 8 = .ok (.if_icmp .ge 12, 3) := by decide +kernel
theorem dX7_count_11 : decode cX7_count 11 = .ok (.iload_n 1, 1) := by decide +kernel
theorem dX7_count_12 : decode cX7_count 12 = .ok (.invokestatic 136, 3) := by decide +kernel
theorem dX7_count_15 : decode cX7_count 15 = .ok (.ifCond .ne 5, 3) := by decide +kernel
theorem dX7_count_18 : decode cX7_count 18 = .ok (.iconst (-1), 1) := by decide +kernel
theorem dX7_count_19 : decode cX7_count 19 = .ok (.ireturn, 1) := by decide +kernel
theorem dX7_count_20 : decode cX7_count 20 = .ok (.iload_n 2, 1) := by decide +kernel
theorem dX7_count_21 : decode cX7_count 21 = .ok (.tableswitch 125 0 10 #[59, 66, 72, 79, 86, 93, 100, 105, 110, 115, 120], 59) := by decide +kernel
theorem dX7_count_80 : decode cX7_count 80 = .ok (.aload_n 0, 1) := by decide +kernel
theorem dX7_count_81 : decode cX7_count 81 = .ok (.getfield 60, 3) := by decide +kernel
theorem dX7_count_84 : decode cX7_count 84 = .ok (.iload_n 1, 1) := by decide +kernel
theorem dX7_count_85 : decode cX7_count 85 = .ok (.iaload, 1) := by decide +kernel
theorem dX7_count_86 : decode cX7_count 86 = .ok (.ireturn, 1) := by decide +kernel
theorem dX7_count_87 : decode cX7_count 87 = .ok (.aload_n 0, 1) := by decide +kernel
theorem dX7_count_88 : decode cX7_count 88 = .ok (.iload_n 1, 1) := by decide +kernel
theorem dX7_count_89 : decode cX7_count 89 = .ok (.invokevirtual 121, 3) := by decide +kernel
theorem dX7_count_92 : decode cX7_count 92 = .ok (.ireturn, 1) := by decide +kernel
theorem dX7_count_93 : decode cX7_count 93 = .ok (.aload_n 0, 1) := by decide +kernel
theorem dX7_count_94 : decode cX7_count 94 = .ok (.getfield 57, 3) := by decide +kernel
theorem dX7_count_97 : decode cX7_count 97 = .ok (.iload_n 1, 1) := by decide +kernel
theorem dX7_count_98 : decode cX7_count 98 = .ok (.iaload, 1) := by decide +kernel
theorem dX7_count_99 : decode cX7_count 99 = .ok (.ireturn, 1) := by decide +kernel
theorem dX7_count_100 : decode cX7_count 100 = .ok (.aload_n 0, 1) := by decide +kernel
theorem dX7_count_101 : decode cX7_count 101 = .ok (.iload_n 1, 1) := by decide +kernel
theorem dX7_count_102 : decode cX7_count 102 = .ok (.iconst 1, 1) := by decide +kernel
theorem dX7_count_103 : decode cX7_count 103 = .ok (.invokevirtual 303, 3) := by decide +kernel
theorem dX7_count_106 : decode cX7_count 106 = .ok (.ireturn, 1) := by decide +kernel
theorem dX7_count_107 : decode cX7_count 107 = .ok (.aload_n 0, 1) := by decide +kernel
theorem dX7_count_108 : decode cX7_count 108 = .ok (.iload_n 1, 1) := by decide +kernel
theorem dX7_count_109 : decode cX7_count 109 = .ok (.iconst 2, 1) := by decide +kernel
theorem dX7_count_110 : decode cX7_count 110 = .ok (.invokevirtual 303, 3) := by decide +kernel
theorem dX7_count_113 : decode cX7_count 113 = .ok (.ireturn, 1) := by decide +kernel
theorem dX7_count_114 : decode cX7_count 114 = .ok (.aload_n 0, 1) := by decide +kernel
theorem dX7_count_115 : decode cX7_count 115 = .ok (.iload_n 1, 1) := by decide +kernel
theorem dX7_count_116 : decode cX7_count 116 = .ok (.iconst 4, 1) := by decide +kernel
theorem dX7_count_117 : decode cX7_count 117 = .ok (.invokevirtual 303, 3) := by decide +kernel
theorem dX7_count_120 : decode cX7_count 120 = .ok (.ireturn, 1) := by decide +kernel
theorem dX7_count_121 : decode cX7_count 121 = .ok (.aload_n 0, 1) := by decide +kernel
theorem dX7_count_122 : decode cX7_count 122 = .ok (.getfield 47, 3) := by decide +kernel
theorem dX7_count_125 : decode cX7_count 125 = .ok (.ireturn, 1) := by decide +kernel
theorem dX7_count_126 : decode cX7_count 126 = .ok (.aload_n 0, 1) := by decide +kernel
theorem dX7_count_127 : decode cX7_count 127 = .ok (.getfield 51, 3) := by decide +kernel
theorem dX7_count_130 : decode cX7_count 130 = .ok (.ireturn, 1) := by decide +kernel
theorem dX7_count_131 : decode cX7_count 131 = .ok (.aload_n 0, 1) := by decide +kernel
theorem dX7_count_132 : decode cX7_count 132 = .ok (.getfield 54, 3) := by decide +kernel
theorem dX7_count_135 : decode cX7_count 135 = .ok (.ireturn, 1) := by decide +kernel
theorem dX7_count_136 : decode cX7_count 136 = .ok (.aload_n 0, 1) := by decide +kernel
theorem dX7_count_137 : decode cX7_count 137 = .ok (.getfield 11, 3) := by decide +kernel
theorem dX7_count_140 : decode cX7_count 140 = .ok (.ireturn, 1) := by decide +kernel
theorem dX7_count_141 : decode cX7_count 141 = .ok (.aload_n 0, 1) := by decide +kernel
theorem dX7_count_142 : decode cX7_count 142 = .ok (.getfield 14, 3) := by decide +kernel
theorem dX7_count_145 : decode cX7_count 145 = .ok (.ireturn, 1) := by decide +kernel
theorem dX7_count_146 : decode cX7_count 146 = .ok (.iconst (-1), 1) := by decide +kernel
theorem dX7_count_147 : decode cX7_count 147 = .ok (.ireturn, 1) := by decide +kernel
theorem dX7_row_0 : decode cX7_row 0 = .ok (.aload_n 0, 1) := by decide +kernel
theorem dX7_row_1 : decode cX7_row 1 = .ok (.iload_n 1, 1) := by decide +kernel
theorem dX7_row_2 : decode cX7_row 2 = .ok (.i2l, 1) := by decide +kernel
theorem dX7_row_3 : decode cX7_row 3 = .ok (.lconst 0, 1) := by decide +kernel
theorem dX7_row_4 : decode cX7_row 4 = .ok (.aload_n 0, 1) := by decide +kernel
theorem dX7_row_5 : decode cX7_row 5 = .ok (.getfield 11, 3) := by decide +kernel
theorem dX7_row_8 : decode cX7_row 8 = .ok (.iconst 1, 1) := by decide +kernel
theorem dX7_row_9 : decode cX7_row 9 = .ok (.isub, 1) := by decide +kernel
theorem dX7_row_10 : decode cX7_row 10 = .ok (.i2l, 1) := by decide +kernel
theorem dX7_row_11 : decode cX7_row 11 = .ok (.invokestatic 21, 3) := by decide +kernel
theorem dX7_row_14 : decode cX7_row 14 = .ok (.ifCond .ne 7, 3) := by decide +kernel
theorem dX7_row_17 : decode cX7_row 17 = .ok (.iconst 1, 1) := by decide +kernel
theorem dX7_row_18 : decode cX7_row 18 = .ok (.goto 4, 3) := by decide +kernel
theorem dX7_row_21 : decode cX7_row 21 = .ok (.iconst 0, 1) := by decide +kernel
theorem dX7_row_22 : decode cX7_row 22 = .ok (.invokestatic 109, 3) := by decide +kernel
theorem dX7_row_25 : decode cX7_row 25 = .ok (.putfield 1, 3) := by decide +kernel
theorem dX7_row_28 : decode cX7_row 28 = .ok (.aload_n 0, 1) := by decide +kernel
theorem dX7_row_29 : decode cX7_row 29 = .ok (.getfield 1, 3) := by decide +kernel
theorem dX7_row_32 : decode cX7_row 32 = .ok (.iconst 1, 1) := by decide +kernel
theorem dX7_row_33 : decode cX7_row 33 = .ok (.if_icmp .ne 7, 3) := by decide +kernel
theorem dX7_row_36 : decode cX7_row 36 = .ok (.lconst 0, 1) := by decide +kernel
theorem dX7_row_37 : decode cX7_row 37 = .ok (.goto 9, 3) := by decide +kernel
theorem dX7_row_40 : decode cX7_row 40 = .ok (.aload_n 0, 1) := by decide +kernel
theorem dX7_row_41 : decode cX7_row 41 = .ok (.getfield 7, 3) := by decide +kernel
theorem dX7_row_44 : decode cX7_row 44 = .ok (.iload_n 1, 1) := by decide +kernel
theorem dX7_row_45 : decode cX7_row 45 = .ok (.laload, 1) := by decide +kernel
theorem dX7_row_46 : decode cX7_row 46 = .ok (.lreturn, 1) := by decide +kernel
theorem dJxe99ae_isNaN_b9ae7_0 : decode cJxe99ae_isNaN_b9ae7 0 = .ok (.dload_n 0, 1) := by decide +kernel
theorem dJxe99ae_isNaN_b9ae7_1 : decode cJxe99ae_isNaN_b9ae7 1 = .ok (.dload_n 0, 1) := by decide +kernel
theorem dJxe99ae_isNaN_b9ae7_2 : decode cJxe99ae_isNaN_b9ae7 2 = .ok (.dcmp .l, 1) := by decide +kernel
theorem dJxe99ae_isNaN_b9ae7_3 : decode cJxe99ae_isNaN_b9ae7 3 = .ok (.ifCond .eq 7, 3) := by decide +kernel
theorem dJxe99ae_isNaN_b9ae7_6 : decode cJxe99ae_isNaN_b9ae7 6 = .ok (.iconst 1, 1) := by decide +kernel
theorem dJxe99ae_isNaN_b9ae7_7 : decode cJxe99ae_isNaN_b9ae7 7 = .ok (.goto 4, 3) := by decide +kernel
theorem dJxe99ae_isNaN_b9ae7_10 : decode cJxe99ae_isNaN_b9ae7 10 = .ok (.iconst 0, 1) := by decide +kernel
theorem dJxe99ae_isNaN_b9ae7_11 : decode cJxe99ae_isNaN_b9ae7 11 = .ok (.ireturn, 1) := by decide +kernel
theorem dJxe99ae_doubleToLongBits_ccdee_0 : decode cJxe99ae_doubleToLongBits_ccdee 0 = .ok (.dload_n 0, 1) := by decide +kernel
theorem dJxe99ae_doubleToLongBits_ccdee_1 : decode cJxe99ae_doubleToLongBits_ccdee 1 = .ok (.invokestatic 122, 3) := by decide +kernel
theorem dJxe99ae_doubleToLongBits_ccdee_4 : decode cJxe99ae_doubleToLongBits_ccdee 4 = .ok (.ifCond .ne 8, 3) := by decide +kernel
theorem dJxe99ae_doubleToLongBits_ccdee_7 : decode cJxe99ae_doubleToLongBits_ccdee 7 = .ok (.dload_n 0, 1) := by decide +kernel
theorem dJxe99ae_doubleToLongBits_ccdee_8 : decode cJxe99ae_doubleToLongBits_ccdee 8 = .ok (.invokestatic 134, 3) := by decide +kernel
theorem dJxe99ae_doubleToLongBits_ccdee_11 : decode cJxe99ae_doubleToLongBits_ccdee 11 = .ok (.lreturn, 1) := by decide +kernel
theorem dJxe99ae_doubleToLongBits_ccdee_12 : decode cJxe99ae_doubleToLongBits_ccdee 12 = .ok (.ldc2_w 137, 3) := by decide +kernel
theorem dJxe99ae_doubleToLongBits_ccdee_15 : decode cJxe99ae_doubleToLongBits_ccdee 15 = .ok (.lreturn, 1) := by decide +kernel
theorem dJxf58ca_isNaN_12338_0 : decode cJxf58ca_isNaN_12338 0 = .ok (.fload_n 0, 1) := by decide +kernel
theorem dJxf58ca_isNaN_12338_1 : decode cJxf58ca_isNaN_12338 1 = .ok (.fload_n 0, 1) := by decide +kernel
theorem dJxf58ca_isNaN_12338_2 : decode cJxf58ca_isNaN_12338 2 = .ok (.fcmp .l, 1) := by decide +kernel
theorem dJxf58ca_isNaN_12338_3 : decode cJxf58ca_isNaN_12338 3 = .ok (.ifCond .eq 7, 3) := by decide +kernel
theorem dJxf58ca_isNaN_12338_6 : decode cJxf58ca_isNaN_12338 6 = .ok (.iconst 1, 1) := by decide +kernel
theorem dJxf58ca_isNaN_12338_7 : decode cJxf58ca_isNaN_12338 7 = .ok (.goto 4, 3) := by decide +kernel
theorem dJxf58ca_isNaN_12338_10 : decode cJxf58ca_isNaN_12338 10 = .ok (.iconst 0, 1) := by decide +kernel
theorem dJxf58ca_isNaN_12338_11 : decode cJxf58ca_isNaN_12338 11 = .ok (.ireturn, 1) := by decide +kernel
theorem dJxf58ca_floatToIntBits_5c35a_0 : decode cJxf58ca_floatToIntBits_5c35a 0 = .ok (.fload_n 0, 1) := by decide +kernel
theorem dJxf58ca_floatToIntBits_5c35a_1 : decode cJxf58ca_floatToIntBits_5c35a 1 = .ok (.invokestatic 59, 3) := by decide +kernel
theorem dJxf58ca_floatToIntBits_5c35a_4 : decode cJxf58ca_floatToIntBits_5c35a 4 = .ok (.ifCond .ne 8, 3) := by decide +kernel
theorem dJxf58ca_floatToIntBits_5c35a_7 : decode cJxf58ca_floatToIntBits_5c35a 7 = .ok (.fload_n 0, 1) := by decide +kernel
theorem dJxf58ca_floatToIntBits_5c35a_8 : decode cJxf58ca_floatToIntBits_5c35a 8 = .ok (.invokestatic 74, 3) := by decide +kernel
theorem dJxf58ca_floatToIntBits_5c35a_11 : decode cJxf58ca_floatToIntBits_5c35a 11 = .ok (.ireturn, 1) := by decide +kernel
theorem dJxf58ca_floatToIntBits_5c35a_12 : decode cJxf58ca_floatToIntBits_5c35a 12 = .ok (.ldc 77, 2) := by decide +kernel
theorem dJxf58ca_floatToIntBits_5c35a_14 : decode cJxf58ca_floatToIntBits_5c35a 14 = .ok (.ireturn, 1) := by decide +kernel
theorem dJ9_max_7cf53_0 : decode cJ9_max_7cf53 0 = .ok (.iload_n 0, 1) := by decide +kernel
theorem dJ9_max_7cf53_1 : decode cJ9_max_7cf53 1 = .ok (.iload_n 1, 1) := by decide +kernel
theorem dJ9_max_7cf53_2 : decode cJ9_max_7cf53 2 = .ok (.if_icmp .lt 7, 3) := by decide +kernel
theorem dJ9_max_7cf53_5 : decode cJ9_max_7cf53 5 = .ok (.iload_n 0, 1) := by decide +kernel
theorem dJ9_max_7cf53_6 : decode cJ9_max_7cf53 6 = .ok (.goto 4, 3) := by decide +kernel
theorem dJ9_max_7cf53_9 : decode cJ9_max_7cf53 9 = .ok (.iload_n 1, 1) := by decide +kernel
theorem dJ9_max_7cf53_10 : decode cJ9_max_7cf53 10 = .ok (.ireturn, 1) := by decide +kernel
theorem dJ9_min_7cf53_0 : decode cJ9_min_7cf53 0 = .ok (.iload_n 0, 1) := by decide +kernel
theorem dJ9_min_7cf53_1 : decode cJ9_min_7cf53 1 = .ok (.iload_n 1, 1) := by decide +kernel
theorem dJ9_min_7cf53_2 : decode cJ9_min_7cf53 2 = .ok (.if_icmp .gt 7, 3) := by decide +kernel
theorem dJ9_min_7cf53_5 : decode cJ9_min_7cf53 5 = .ok (.iload_n 0, 1) := by decide +kernel
theorem dJ9_min_7cf53_6 : decode cJ9_min_7cf53 6 = .ok (.goto 4, 3) := by decide +kernel
theorem dJ9_min_7cf53_9 : decode cJ9_min_7cf53 9 = .ok (.iload_n 1, 1) := by decide +kernel
theorem dJ9_min_7cf53_10 : decode cJ9_min_7cf53 10 = .ok (.ireturn, 1) := by decide +kernel
theorem dJ0_length_8abf5_0 : decode cJ0_length_8abf5 0 = .ok (.aload_n 0, 1) := by decide +kernel
theorem dJ0_length_8abf5_1 : decode cJ0_length_8abf5 1 = .ok (.getfield 9, 3) := by decide +kernel
theorem dJ0_length_8abf5_4 : decode cJ0_length_8abf5 4 = .ok (.arraylength, 1) := by decide +kernel
theorem dJ0_length_8abf5_5 : decode cJ0_length_8abf5 5 = .ok (.aload_n 0, 1) := by decide +kernel
theorem dJ0_length_8abf5_6 : decode cJ0_length_8abf5 6 = .ok (.invokevirtual 335, 3) := by decide +kernel
theorem dJ0_length_8abf5_9 : decode cJ0_length_8abf5 9 = .ok (.ishr, 1) := by decide +kernel
theorem dJ0_length_8abf5_10 : decode cJ0_length_8abf5 10 = .ok (.ireturn, 1) := by decide +kernel
theorem dJ0_charAt_5068e_0 : decode cJ0_charAt_5068e 0 = .ok (.aload_n 0, 1) := by decide +kernel
theorem dJ0_charAt_5068e_1 : decode cJ0_charAt_5068e 1 = .ok (.invokevirtual 492, 3) := by decide +kernel
theorem dJ0_charAt_5068e_4 : decode cJ0_charAt_5068e 4 = .ok (.ifCond .eq 12, 3) := by decide +kernel
theorem dJ0_charAt_5068e_7 : decode cJ0_charAt_5068e 7 = .ok (.aload_n 0, 1) := by decide +kernel
theorem dJ0_charAt_5068e_8 : decode cJ0_charAt_5068e 8 = .ok (.getfield 9, 3) := by decide +kernel
theorem dJ0_charAt_5068e_11 : decode cJ0_charAt_5068e 11 = .ok (.iload_n 1, 1) := by decide +kernel
theorem dJ0_charAt_5068e_12 : decode cJ0_charAt_5068e 12 = .ok (.invokestatic 495, 3) := by decide +kernel
theorem dJ0_charAt_5068e_15 : decode cJ0_charAt_5068e 15 = .ok (.ireturn, 1) := by decide +kernel
theorem dJ0_charAt_5068e_16 : decode cJ0_charAt_5068e 16 = .ok (.aload_n 0, 1) := by decide +kernel
theorem dJ0_charAt_5068e_17 : decode cJ0_charAt_5068e 17 = .ok (.getfield 9, 3) := by decide +kernel
theorem dJ0_charAt_5068e_20 : decode cJ0_charAt_5068e 20 = .ok (.iload_n 1, 1) := by decide +kernel
theorem dJ0_charAt_5068e_21 : decode cJ0_charAt_5068e 21 = .ok (.invokestatic 498, 3) := by decide +kernel
theorem dJ0_charAt_5068e_24 : decode cJ0_charAt_5068e 24 = .ok (.ireturn, 1) := by decide +kernel
theorem dJ0_coder_7d493_0 : decode cJ0_coder_7d493 0 = .ok (.getstatic 38, 3) := by decide +kernel
theorem dJ0_coder_7d493_3 : decode cJ0_coder_7d493 3 = .ok (.ifCond .eq 10, 3) := by decide +kernel
theorem dJ0_coder_7d493_6 : decode cJ0_coder_7d493 6 = .ok (.aload_n 0, 1) := by decide +kernel
theorem dJ0_coder_7d493_7 : decode cJ0_coder_7d493 7 = .ok (.getfield 15, 3) := by decide +kernel
theorem dJ0_coder_7d493_10 : decode cJ0_coder_7d493 10 = .ok (.goto 4, 3) := by decide +kernel
theorem dJ0_coder_7d493_13 : decode cJ0_coder_7d493 13 = .ok (.iconst 1, 1) := by decide +kernel
theorem dJ0_coder_7d493_14 : decode cJ0_coder_7d493 14 = .ok (.ireturn, 1) := by decide +kernel
theorem dJ0_isLatin1_aae02_0 : decode cJ0_isLatin1_aae02 0 = .ok (.getstatic 38, 3) := by decide +kernel
theorem dJ0_isLatin1_aae02_3 : decode cJ0_isLatin1_aae02 3 = .ok (.ifCond .eq 14, 3) := by decide +kernel
theorem dJ0_isLatin1_aae02_6 : decode cJ0_isLatin1_aae02 6 = .ok (.aload_n 0, 1) := by decide +kernel
theorem dJ0_isLatin1_aae02_7 : decode cJ0_isLatin1_aae02 7 = .ok (.getfield 15, 3) := by decide +kernel
theorem dJ0_isLatin1_aae02_10 : decode cJ0_isLatin1_aae02 10 = .ok (.ifCond .ne 7, 3) := by decide +kernel
theorem dJ0_isLatin1_aae02_13 : decode cJ0_isLatin1_aae02 13 = .ok (.iconst 1, 1) := by decide +kernel
theorem dJ0_isLatin1_aae02_14 : decode cJ0_isLatin1_aae02 14 = .ok (.goto 4, 3) := by decide +kernel
theorem dJ0_isLatin1_aae02_17 : decode cJ0_isLatin1_aae02 17 = .ok (.iconst 0, 1) := by decide +kernel
theorem dJ0_isLatin1_aae02_18 : decode cJ0_isLatin1_aae02 18 = .ok (.ireturn, 1) := by decide +kernel
theorem dJ0_checkIndex_df160_0 : decode cJ0_checkIndex_df160 0 = .ok (.iload_n 0, 1) := by decide +kernel
theorem dJ0_checkIndex_df160_1 : decode cJ0_checkIndex_df160 1 = .ok (.iload_n 1, 1) := by decide +kernel
theorem dJ0_checkIndex_df160_2 : decode cJ0_checkIndex_df160 2 = .ok (.getstatic 1053, 3) := by decide +kernel
theorem dJ0_checkIndex_df160_5 : decode cJ0_checkIndex_df160 5 = .ok (.invokestatic 1059, 3) := by decide +kernel
theorem dJ0_checkIndex_df160_8 : decode cJ0_checkIndex_df160 8 = .ok (.pop, 1) := by decide +kernel
theorem dJ0_checkIndex_df160_9 : decode cJ0_checkIndex_df160 9 = .ok (.return_, 1) := by decide +kernel
theorem dJ1_charAt_3b067_0 : decode cJ1_charAt_3b067 0 = .ok (.iload_n 1, 1) := by decide +kernel
theorem dJ1_charAt_3b067_1 : decode cJ1_charAt_3b067 1 = .ok (.aload_n 0, 1) := by decide +kernel
theorem dJ1_charAt_3b067_2 : decode cJ1_charAt_3b067 2 = .ok (.arraylength, 1) := by decide +kernel
theorem dJ1_charAt_3b067_3 : decode cJ1_charAt_3b067 3 = .ok (.invokestatic 9, 3) := by decide +kernel
theorem dJ1_charAt_3b067_6 : decode cJ1_charAt_3b067 6 = .ok (.aload_n 0, 1) := by decide +kernel
theorem dJ1_charAt_3b067_7 : decode cJ1_charAt_3b067 7 = .ok (.iload_n 1, 1) := by decide +kernel
theorem dJ1_charAt_3b067_8 : decode cJ1_charAt_3b067 8 = .ok (.baload, 1) := by decide +kernel
theorem dJ1_charAt_3b067_9 : decode cJ1_charAt_3b067 9 = .ok (.sipush 255, 3) := by decide +kernel
theorem dJ1_charAt_3b067_12 : decode cJ1_charAt_3b067 12 = .ok (.iand, 1) := by decide +kernel
theorem dJ1_charAt_3b067_13 : decode cJ1_charAt_3b067 13 = .ok (.i2c, 1) := by decide +kernel
theorem dJ1_charAt_3b067_14 : decode cJ1_charAt_3b067 14 = .ok (.ireturn, 1) := by decide +kernel
theorem dJ2_getChar_3b067_0 : decode cJ2_getChar_3b067 0 = .ok (.getstatic 44, 3) := by decide +kernel
theorem dJ2_getChar_3b067_3 : decode cJ2_getChar_3b067 3 = .ok (.ifCond .ne 25, 3) := by decide +kernel
theorem dJ2_getChar_3b067_6 : decode cJ2_getChar_3b067 6 = .ok (.iload_n 1, 1) := by decide +kernel
theorem dJ2_getChar_3b067_7 : decode cJ2_getChar_3b067 7 = .ok (.ifCond .lt 11, 3) := by decide +kernel
theorem dJ2_getChar_3b067_10 : decode cJ2_getChar_3b067 10 = .ok (.iload_n 1, 1) := by decide +kernel
theorem dJ2_getChar_3b067_11 : decode cJ2_getChar_3b067 11 = .ok (.aload_n 0, 1) := by decide +kernel
theorem dJ2_getChar_3b067_12 : decode cJ2_getChar_3b067 12 = .ok (.invokestatic 48, 3) := by decide +kernel
theorem dJ2_getChar_3b067_15 : decode cJ2_getChar_3b067 15 = .ok (.if_icmp .lt 13, 3) := by decide +kernel
theorem dJ2_getChar_3b067_18 : decode cJ2_getChar_3b067 18 = .ok (.new 52, 3) := by decide +kernel
theorem dJ2_getChar_3b067_21 : decode cJ2_getChar_3b067 21 = .ok (.dup, 1) := by decide +kernel
theorem dJ2_getChar_3b067_22 : decode cJ2_getChar_3b067 22 = .ok (.ldc 54, 2) := by decide +kernel
theorem dJ2_getChar_3b067_24 : decode cJ2_getChar_3b067 24 = .ok (.invokespecial 56, 3) := by decide +kernel
theorem dJ2_getChar_3b067_27 : decode cJ2_getChar_3b067 27 = .ok (.athrow, 1) := by decide +kernel
theorem dJ2_getChar_3b067_28 : decode cJ2_getChar_3b067 28 = .ok (.iload_n 1, 1) := by decide +kernel
theorem dJ2_getChar_3b067_29 : decode cJ2_getChar_3b067 29 = .ok (.iconst 1, 1) := by decide +kernel
theorem dJ2_getChar_3b067_30 : decode cJ2_getChar_3b067 30 = .ok (.ishl, 1) := by decide +kernel
theorem dJ2_getChar_3b067_31 : decode cJ2_getChar_3b067 31 = .ok (.istore_n 1, 1) := by decide +kernel
theorem dJ2_getChar_3b067_32 : decode cJ2_getChar_3b067 32 = .ok (.aload_n 0, 1) := by decide +kernel
theorem dJ2_getChar_3b067_33 : decode cJ2_getChar_3b067 33 = .ok (.iload_n 1, 1) := by decide +kernel
theorem dJ2_getChar_3b067_34 : decode cJ2_getChar_3b067 34 = .ok (.iinc 1 1, 3) := by decide +kernel
theorem dJ2_getChar_3b067_37 : decode cJ2_getChar_3b067 37 = .ok (.baload, 1) := by decide +kernel
theorem dJ2_getChar_3b067_38 : decode cJ2_getChar_3b067 38 = .ok (.sipush 255, 3) := by decide +kernel
theorem dJ2_getChar_3b067_41 : decode cJ2_getChar_3b067 41 = .ok (.iand, 1) := by decide +kernel
theorem dJ2_getChar_3b067_42 : decode cJ2_getChar_3b067 42 = .ok (.getstatic 59, 3) := by decide +kernel
theorem dJ2_getChar_3b067_45 : decode cJ2_getChar_3b067 45 = .ok (.ishl, 1) := by decide +kernel
theorem dJ2_getChar_3b067_46 : decode cJ2_getChar_3b067 46 = .ok (.aload_n 0, 1) := by decide +kernel
theorem dJ2_getChar_3b067_47 : decode cJ2_getChar_3b067 47 = .ok (.iload_n 1, 1) := by decide +kernel
theorem dJ2_getChar_3b067_48 : decode cJ2_getChar_3b067 48 = .ok (.baload, 1) := by decide +kernel
theorem dJ2_getChar_3b067_49 : decode cJ2_getChar_3b067 49 = .ok (.sipush 255, 3) := by decide +kernel
theorem dJ2_getChar_3b067_52 : decode cJ2_getChar_3b067 52 = .ok (.iand, 1) := by decide +kernel
theorem dJ2_getChar_3b067_53 : decode cJ2_getChar_3b067 53 = .ok (.getstatic 63, 3) := by decide +kernel
theorem dJ2_getChar_3b067_56 : decode cJ2_getChar_3b067 56 = .ok (.ishl, 1) := by decide +kernel
theorem dJ2_getChar_3b067_57 : decode cJ2_getChar_3b067 57 = .ok (.ior, 1) := by decide +kernel
theorem dJ2_getChar_3b067_58 : decode cJ2_getChar_3b067 58 = .ok (.i2c, 1) := by decide +kernel
theorem dJ2_getChar_3b067_59 : decode cJ2_getChar_3b067 59 = .ok (.ireturn, 1) := by decide +kernel
theorem dJ2_length_9d52b_0 : decode cJ2_length_9d52b 0 = .ok (.aload_n 0, 1) := by decide +kernel
theorem dJ2_length_9d52b_1 : decode cJ2_length_9d52b 1 = .ok (.arraylength, 1) := by decide +kernel
theorem dJ2_length_9d52b_2 : decode cJ2_length_9d52b 2 = .ok (.iconst 1, 1) := by decide +kernel
theorem dJ2_length_9d52b_3 : decode cJ2_length_9d52b 3 = .ok (.ishr, 1) := by decide +kernel
theorem dJ2_length_9d52b_4 : decode cJ2_length_9d52b 4 = .ok (.ireturn, 1) := by decide +kernel
theorem dJ2_charAt_3b067_0 : decode cJ2_charAt_3b067 0 = .ok (.iload_n 1, 1) := by decide +kernel
theorem dJ2_charAt_3b067_1 : decode cJ2_charAt_3b067 1 = .ok (.aload_n 0, 1) := by decide +kernel
theorem dJ2_charAt_3b067_2 : decode cJ2_charAt_3b067 2 = .ok (.invokestatic 67, 3) := by decide +kernel
theorem dJ2_charAt_3b067_5 : decode cJ2_charAt_3b067 5 = .ok (.aload_n 0, 1) := by decide +kernel
theorem dJ2_charAt_3b067_6 : decode cJ2_charAt_3b067 6 = .ok (.iload_n 1, 1) := by decide +kernel
theorem dJ2_charAt_3b067_7 : decode cJ2_charAt_3b067 7 = .ok (.invokestatic 71, 3) := by decide +kernel
theorem dJ2_charAt_3b067_10 : decode cJ2_charAt_3b067 10 = .ok (.ireturn, 1) := by decide +kernel
theorem dJ2_checkIndex_2214a_0 : decode cJ2_checkIndex_2214a 0 = .ok (.iload_n 0, 1) := by decide +kernel
theorem dJ2_checkIndex_2214a_1 : decode cJ2_checkIndex_2214a 1 = .ok (.aload_n 1, 1) := by decide +kernel
theorem dJ2_checkIndex_2214a_2 : decode cJ2_checkIndex_2214a 2 = .ok (.invokestatic 48, 3) := by decide +kernel
theorem dJ2_checkIndex_2214a_5 : decode cJ2_checkIndex_2214a 5 = .ok (.invokestatic 414, 3) := by decide +kernel
theorem dJ2_checkIndex_2214a_8 : decode cJ2_checkIndex_2214a 8 = .ok (.return_, 1) := by decide +kernel
theorem dJ3_checkIndex_8e157_0 : decode cJ3_checkIndex_8e157 0 = .ok (.iload_n 0, 1) := by decide +kernel
theorem dJ3_checkIndex_8e157_1 : decode cJ3_checkIndex_8e157 1 = .ok (.ifCond .lt 8, 3) := by decide +kernel
theorem dJ3_checkIndex_8e157_4 : decode cJ3_checkIndex_8e157 4 = .ok (.iload_n 0, 1) := by decide +kernel
theorem dJ3_checkIndex_8e157_5 : decode cJ3_checkIndex_8e157 5 = .ok (.iload_n 1, 1) := by decide +kernel
theorem dJ3_checkIndex_8e157_6 : decode cJ3_checkIndex_8e157 6 = .ok (.if_icmp .lt 10, 3) := by decide +kernel
theorem dJ3_checkIndex_8e157_9 : decode cJ3_checkIndex_8e157 9 = .ok (.aload_n 2, 1) := by decide +kernel
theorem dJ3_checkIndex_8e157_10 : decode cJ3_checkIndex_8e157 10 = .ok (.iload_n 0, 1) := by decide +kernel
theorem dJ3_checkIndex_8e157_11 : decode cJ3_checkIndex_8e157 11 = .ok (.iload_n 1, 1) := by decide +kernel
theorem dJ3_checkIndex_8e157_12 : decode cJ3_checkIndex_8e157 12 = .ok (.invokestatic 95, 3) := by decide +kernel
theorem dJ3_checkIndex_8e157_15 : decode cJ3_checkIndex_8e157 15 = .ok (.athrow, 1) := by decide +kernel
theorem dJ3_checkIndex_8e157_16 : decode cJ3_checkIndex_8e157 16 = .ok (.iload_n 0, 1) := by decide +kernel
theorem dJ3_checkIndex_8e157_17 : decode cJ3_checkIndex_8e157 17 = .ok (.ireturn, 1) := by decide +kernel
theorem dL_word_0 : decode cL_word 0 = .ok (.aload_n 3, 1) := by decide +kernel
theorem dL_word_1 : decode cL_word 1 = .ok (.iconst 0, 1) := by decide +kernel
theorem dL_word_2 : decode cL_word 2 = .ok (.aload_n 0, 1) := by decide +kernel
theorem dL_word_3 : decode cL_word 3 = .ok (.iload_n 1, 1) := by decide +kernel
theorem dL_word_4 : decode cL_word 4 = .ok (.iload_n 2, 1) := by decide +kernel
theorem dL_word_5 : decode cL_word 5 = .ok (.invokevirtual 7, 3) := by decide +kernel
theorem dL_word_8 : decode cL_word 8 = .ok (.lastore, 1) := by decide +kernel
theorem dL_word_9 : decode cL_word 9 = .ok (.goto 7, 3) := by decide +kernel
theorem dL_word_12 : decode cL_word 12 = .ok (.astore 4, 2) := by decide +kernel
theorem dL_word_14 : decode cL_word 14 = .ok (.iconst 1, 1) := by decide +kernel
theorem dL_word_15 : decode cL_word 15 = .ok (.ireturn, 1) := by decide +kernel
theorem dL_word_16 : decode cL_word 16 = .ok (.iconst 0, 1) := by decide +kernel
theorem dL_word_17 : decode cL_word 17 = .ok (.ireturn, 1) := by decide +kernel
theorem dL_row_0 : decode cL_row 0 = .ok (.aload_n 2, 1) := by decide +kernel
theorem dL_row_1 : decode cL_row 1 = .ok (.iconst 0, 1) := by decide +kernel
theorem dL_row_2 : decode cL_row 2 = .ok (.aload_n 0, 1) := by decide +kernel
theorem dL_row_3 : decode cL_row 3 = .ok (.iload_n 1, 1) := by decide +kernel
theorem dL_row_4 : decode cL_row 4 = .ok (.invokevirtual 15, 3) := by decide +kernel
theorem dL_row_7 : decode cL_row 7 = .ok (.lastore, 1) := by decide +kernel
theorem dL_row_8 : decode cL_row 8 = .ok (.goto 6, 3) := by decide +kernel
theorem dL_row_11 : decode cL_row 11 = .ok (.astore_n 3, 1) := by decide +kernel
theorem dL_row_12 : decode cL_row 12 = .ok (.iconst 1, 1) := by decide +kernel
theorem dL_row_13 : decode cL_row 13 = .ok (.ireturn, 1) := by decide +kernel
theorem dL_row_14 : decode cL_row 14 = .ok (.iconst 0, 1) := by decide +kernel
theorem dL_row_15 : decode cL_row 15 = .ok (.ireturn, 1) := by decide +kernel
theorem dL_law_0 : decode cL_law 0 = .ok (.new 8, 3) := by decide +kernel
theorem dL_law_3 : decode cL_law 3 = .ok (.dup, 1) := by decide +kernel
theorem dL_law_4 : decode cL_law 4 = .ok (.invokespecial 19, 3) := by decide +kernel
theorem dL_law_7 : decode cL_law 7 = .ok (.astore_n 1, 1) := by decide +kernel
theorem dL_law_8 : decode cL_law 8 = .ok (.new 20, 3) := by decide +kernel
theorem dL_law_11 : decode cL_law 11 = .ok (.dup, 1) := by decide +kernel
theorem dL_law_12 : decode cL_law 12 = .ok (.invokespecial 22, 3) := by decide +kernel
theorem dL_law_15 : decode cL_law 15 = .ok (.astore_n 2, 1) := by decide +kernel
theorem dL_law_16 : decode cL_law 16 = .ok (.iconst 1, 1) := by decide +kernel
theorem dL_law_17 : decode cL_law 17 = .ok (.newarray .long, 2) := by decide +kernel
theorem dL_law_19 : decode cL_law 19 = .ok (.astore_n 3, 1) := by decide +kernel
theorem dL_law_20 : decode cL_law 20 = .ok (.iconst 0, 1) := by decide +kernel
theorem dL_law_21 : decode cL_law 21 = .ok (.istore 4, 2) := by decide +kernel
theorem dL_law_23 : decode cL_law 23 = .ok (.iload 4, 2) := by decide +kernel
theorem dL_law_25 : decode cL_law 25 = .ok (.aload_n 0, 1) := by decide +kernel
theorem dL_law_26 : decode cL_law 26 = .ok (.arraylength, 1) := by decide +kernel
theorem dL_law_27 : decode cL_law 27 = .ok (.iconst 5, 1) := by decide +kernel
theorem dL_law_28 : decode cL_law 28 = .ok (.isub, 1) := by decide +kernel
theorem dL_law_29 : decode cL_law 29 = .ok (.if_icmp .gt 1370, 3) := by decide +kernel
theorem dL_law_32 : decode cL_law 32 = .ok (.aload_n 0, 1) := by decide +kernel
theorem dL_law_33 : decode cL_law 33 = .ok (.iload 4, 2) := by decide +kernel
theorem dL_law_35 : decode cL_law 35 = .ok (.iaload, 1) := by decide +kernel
theorem dL_law_36 : decode cL_law 36 = .ok (.bipush 63, 2) := by decide +kernel
theorem dL_law_38 : decode cL_law 38 = .ok (.iand, 1) := by decide +kernel
theorem dL_law_39 : decode cL_law 39 = .ok (.tableswitch 1354 0 36 #[161, 198, 223, 260, 297, 334, 371, 396, 421, 446, 483, 550, 575, 636, 673, 710, 735, 772, 797, 834, 859, 908, 945, 970, 995, 1020, 1033, 1058, 1083, 1108, 1149, 1174, 1187, 1212, 1249, 1274, 1299], 161) := by decide +kernel
theorem dL_law_200 : decode cL_law 200 = .ok (.aload_n 1, 1) := by decide +kernel
theorem dL_law_201 : decode cL_law 201 = .ok (.aload_n 0, 1) := by decide +kernel
theorem dL_law_202 : decode cL_law 202 = .ok (.iload 4, 2) := by decide +kernel
theorem dL_law_204 : decode cL_law 204 = .ok (.iconst 1, 1) := by decide +kernel
theorem dL_law_205 : decode cL_law 205 = .ok (.iadd, 1) := by decide +kernel
theorem dL_law_206 : decode cL_law 206 = .ok (.iaload, 1) := by decide +kernel
theorem dL_law_207 : decode cL_law 207 = .ok (.aload_n 0, 1) := by decide +kernel
theorem dL_law_208 : decode cL_law 208 = .ok (.iload 4, 2) := by decide +kernel
theorem dL_law_210 : decode cL_law 210 = .ok (.iconst 2, 1) := by decide +kernel
theorem dL_law_211 : decode cL_law 211 = .ok (.iadd, 1) := by decide +kernel
theorem dL_law_212 : decode cL_law 212 = .ok (.iaload, 1) := by decide +kernel
theorem dL_law_213 : decode cL_law 213 = .ok (.invokevirtual 23, 3) := by decide +kernel
theorem dL_law_216 : decode cL_law 216 = .ok (.aload_n 2, 1) := by decide +kernel
theorem dL_law_217 : decode cL_law 217 = .ok (.aload_n 0, 1) := by decide +kernel
theorem dL_law_218 : decode cL_law 218 = .ok (.iload 4, 2) := by decide +kernel
theorem dL_law_220 : decode cL_law 220 = .ok (.iconst 1, 1) := by decide +kernel
theorem dL_law_221 : decode cL_law 221 = .ok (.iadd, 1) := by decide +kernel
theorem dL_law_222 : decode cL_law 222 = .ok (.iaload, 1) := by decide +kernel
theorem dL_law_223 : decode cL_law 223 = .ok (.aload_n 0, 1) := by decide +kernel
theorem dL_law_224 : decode cL_law 224 = .ok (.iload 4, 2) := by decide +kernel
theorem dL_law_226 : decode cL_law 226 = .ok (.iconst 2, 1) := by decide +kernel
theorem dL_law_227 : decode cL_law 227 = .ok (.iadd, 1) := by decide +kernel
theorem dL_law_228 : decode cL_law 228 = .ok (.iaload, 1) := by decide +kernel
theorem dL_law_229 : decode cL_law 229 = .ok (.invokevirtual 27, 3) := by decide +kernel
theorem dL_law_232 : decode cL_law 232 = .ok (.if_icmp .eq 1161, 3) := by decide +kernel
theorem dL_law_235 : decode cL_law 235 = .ok (.iconst 0, 1) := by decide +kernel
theorem dL_law_236 : decode cL_law 236 = .ok (.ireturn, 1) := by decide +kernel
theorem dL_law_237 : decode cL_law 237 = .ok (.aload_n 1, 1) := by decide +kernel
theorem dL_law_238 : decode cL_law 238 = .ok (.aload_n 0, 1) := by decide +kernel
theorem dL_law_239 : decode cL_law 239 = .ok (.iload 4, 2) := by decide +kernel
theorem dL_law_241 : decode cL_law 241 = .ok (.iconst 1, 1) := by decide +kernel
theorem dL_law_242 : decode cL_law 242 = .ok (.iadd, 1) := by decide +kernel
theorem dL_law_243 : decode cL_law 243 = .ok (.iaload, 1) := by decide +kernel
theorem dL_law_244 : decode cL_law 244 = .ok (.invokevirtual 28, 3) := by decide +kernel
theorem dL_law_247 : decode cL_law 247 = .ok (.aload_n 2, 1) := by decide +kernel
theorem dL_law_248 : decode cL_law 248 = .ok (.aload_n 0, 1) := by decide +kernel
theorem dL_law_249 : decode cL_law 249 = .ok (.iload 4, 2) := by decide +kernel
theorem dL_law_251 : decode cL_law 251 = .ok (.iconst 1, 1) := by decide +kernel
theorem dL_law_252 : decode cL_law 252 = .ok (.iadd, 1) := by decide +kernel
theorem dL_law_253 : decode cL_law 253 = .ok (.iaload, 1) := by decide +kernel
theorem dL_law_254 : decode cL_law 254 = .ok (.invokevirtual 32, 3) := by decide +kernel
theorem dL_law_257 : decode cL_law 257 = .ok (.if_icmp .eq 1136, 3) := by decide +kernel
theorem dL_law_260 : decode cL_law 260 = .ok (.iconst 0, 1) := by decide +kernel
theorem dL_law_261 : decode cL_law 261 = .ok (.ireturn, 1) := by decide +kernel
theorem dL_law_262 : decode cL_law 262 = .ok (.aload_n 1, 1) := by decide +kernel
theorem dL_law_263 : decode cL_law 263 = .ok (.aload_n 0, 1) := by decide +kernel
theorem dL_law_264 : decode cL_law 264 = .ok (.iload 4, 2) := by decide +kernel
theorem dL_law_266 : decode cL_law 266 = .ok (.iconst 1, 1) := by decide +kernel
theorem dL_law_267 : decode cL_law 267 = .ok (.iadd, 1) := by decide +kernel
theorem dL_law_268 : decode cL_law 268 = .ok (.iaload, 1) := by decide +kernel
theorem dL_law_269 : decode cL_law 269 = .ok (.aload_n 0, 1) := by decide +kernel
theorem dL_law_270 : decode cL_law 270 = .ok (.iload 4, 2) := by decide +kernel
theorem dL_law_272 : decode cL_law 272 = .ok (.iconst 2, 1) := by decide +kernel
theorem dL_law_273 : decode cL_law 273 = .ok (.iadd, 1) := by decide +kernel
theorem dL_law_274 : decode cL_law 274 = .ok (.iaload, 1) := by decide +kernel
theorem dL_law_275 : decode cL_law 275 = .ok (.invokevirtual 33, 3) := by decide +kernel
theorem dL_law_278 : decode cL_law 278 = .ok (.aload_n 2, 1) := by decide +kernel
theorem dL_law_279 : decode cL_law 279 = .ok (.aload_n 0, 1) := by decide +kernel
theorem dL_law_280 : decode cL_law 280 = .ok (.iload 4, 2) := by decide +kernel
theorem dL_law_282 : decode cL_law 282 = .ok (.iconst 1, 1) := by decide +kernel
theorem dL_law_283 : decode cL_law 283 = .ok (.iadd, 1) := by decide +kernel
theorem dL_law_284 : decode cL_law 284 = .ok (.iaload, 1) := by decide +kernel
theorem dL_law_285 : decode cL_law 285 = .ok (.aload_n 0, 1) := by decide +kernel
theorem dL_law_286 : decode cL_law 286 = .ok (.iload 4, 2) := by decide +kernel
theorem dL_law_288 : decode cL_law 288 = .ok (.iconst 2, 1) := by decide +kernel
theorem dL_law_289 : decode cL_law 289 = .ok (.iadd, 1) := by decide +kernel
theorem dL_law_290 : decode cL_law 290 = .ok (.iaload, 1) := by decide +kernel
theorem dL_law_291 : decode cL_law 291 = .ok (.invokevirtual 36, 3) := by decide +kernel
theorem dL_law_294 : decode cL_law 294 = .ok (.if_icmp .eq 1099, 3) := by decide +kernel
theorem dL_law_297 : decode cL_law 297 = .ok (.iconst 0, 1) := by decide +kernel
theorem dL_law_298 : decode cL_law 298 = .ok (.ireturn, 1) := by decide +kernel
theorem dL_law_299 : decode cL_law 299 = .ok (.aload_n 1, 1) := by decide +kernel
theorem dL_law_300 : decode cL_law 300 = .ok (.aload_n 0, 1) := by decide +kernel
theorem dL_law_301 : decode cL_law 301 = .ok (.iload 4, 2) := by decide +kernel
theorem dL_law_303 : decode cL_law 303 = .ok (.iconst 1, 1) := by decide +kernel
theorem dL_law_304 : decode cL_law 304 = .ok (.iadd, 1) := by decide +kernel
theorem dL_law_305 : decode cL_law 305 = .ok (.iaload, 1) := by decide +kernel
theorem dL_law_306 : decode cL_law 306 = .ok (.aload_n 0, 1) := by decide +kernel
theorem dL_law_307 : decode cL_law 307 = .ok (.iload 4, 2) := by decide +kernel
theorem dL_law_309 : decode cL_law 309 = .ok (.iconst 2, 1) := by decide +kernel
theorem dL_law_310 : decode cL_law 310 = .ok (.iadd, 1) := by decide +kernel
theorem dL_law_311 : decode cL_law 311 = .ok (.iaload, 1) := by decide +kernel
theorem dL_law_312 : decode cL_law 312 = .ok (.invokevirtual 37, 3) := by decide +kernel
theorem dL_law_315 : decode cL_law 315 = .ok (.aload_n 2, 1) := by decide +kernel
theorem dL_law_316 : decode cL_law 316 = .ok (.aload_n 0, 1) := by decide +kernel
theorem dL_law_317 : decode cL_law 317 = .ok (.iload 4, 2) := by decide +kernel
theorem dL_law_319 : decode cL_law 319 = .ok (.iconst 1, 1) := by decide +kernel
theorem dL_law_320 : decode cL_law 320 = .ok (.iadd, 1) := by decide +kernel
theorem dL_law_321 : decode cL_law 321 = .ok (.iaload, 1) := by decide +kernel
theorem dL_law_322 : decode cL_law 322 = .ok (.aload_n 0, 1) := by decide +kernel
theorem dL_law_323 : decode cL_law 323 = .ok (.iload 4, 2) := by decide +kernel
theorem dL_law_325 : decode cL_law 325 = .ok (.iconst 2, 1) := by decide +kernel
theorem dL_law_326 : decode cL_law 326 = .ok (.iadd, 1) := by decide +kernel
theorem dL_law_327 : decode cL_law 327 = .ok (.iaload, 1) := by decide +kernel
theorem dL_law_328 : decode cL_law 328 = .ok (.invokevirtual 40, 3) := by decide +kernel
theorem dL_law_331 : decode cL_law 331 = .ok (.if_icmp .eq 1062, 3) := by decide +kernel
theorem dL_law_334 : decode cL_law 334 = .ok (.iconst 0, 1) := by decide +kernel
theorem dL_law_335 : decode cL_law 335 = .ok (.ireturn, 1) := by decide +kernel
theorem dL_law_336 : decode cL_law 336 = .ok (.aload_n 1, 1) := by decide +kernel
theorem dL_law_337 : decode cL_law 337 = .ok (.aload_n 0, 1) := by decide +kernel
theorem dL_law_338 : decode cL_law 338 = .ok (.iload 4, 2) := by decide +kernel
theorem dL_law_340 : decode cL_law 340 = .ok (.iconst 1, 1) := by decide +kernel
theorem dL_law_341 : decode cL_law 341 = .ok (.iadd, 1) := by decide +kernel
theorem dL_law_342 : decode cL_law 342 = .ok (.iaload, 1) := by decide +kernel
theorem dL_law_343 : decode cL_law 343 = .ok (.aload_n 0, 1) := by decide +kernel
theorem dL_law_344 : decode cL_law 344 = .ok (.iload 4, 2) := by decide +kernel
theorem dL_law_346 : decode cL_law 346 = .ok (.iconst 2, 1) := by decide +kernel
theorem dL_law_347 : decode cL_law 347 = .ok (.iadd, 1) := by decide +kernel
theorem dL_law_348 : decode cL_law 348 = .ok (.iaload, 1) := by decide +kernel
theorem dL_law_349 : decode cL_law 349 = .ok (.invokevirtual 41, 3) := by decide +kernel
theorem dL_law_352 : decode cL_law 352 = .ok (.aload_n 2, 1) := by decide +kernel
theorem dL_law_353 : decode cL_law 353 = .ok (.aload_n 0, 1) := by decide +kernel
theorem dL_law_354 : decode cL_law 354 = .ok (.iload 4, 2) := by decide +kernel
theorem dL_law_356 : decode cL_law 356 = .ok (.iconst 1, 1) := by decide +kernel
theorem dL_law_357 : decode cL_law 357 = .ok (.iadd, 1) := by decide +kernel
theorem dL_law_358 : decode cL_law 358 = .ok (.iaload, 1) := by decide +kernel
theorem dL_law_359 : decode cL_law 359 = .ok (.aload_n 0, 1) := by decide +kernel
theorem dL_law_360 : decode cL_law 360 = .ok (.iload 4, 2) := by decide +kernel
theorem dL_law_362 : decode cL_law 362 = .ok (.iconst 2, 1) := by decide +kernel
theorem dL_law_363 : decode cL_law 363 = .ok (.iadd, 1) := by decide +kernel
theorem dL_law_364 : decode cL_law 364 = .ok (.iaload, 1) := by decide +kernel
theorem dL_law_365 : decode cL_law 365 = .ok (.invokevirtual 44, 3) := by decide +kernel
theorem dL_law_368 : decode cL_law 368 = .ok (.if_icmp .eq 1025, 3) := by decide +kernel
theorem dL_law_371 : decode cL_law 371 = .ok (.iconst 0, 1) := by decide +kernel
theorem dL_law_372 : decode cL_law 372 = .ok (.ireturn, 1) := by decide +kernel
theorem dL_law_373 : decode cL_law 373 = .ok (.aload_n 1, 1) := by decide +kernel
theorem dL_law_374 : decode cL_law 374 = .ok (.aload_n 0, 1) := by decide +kernel
theorem dL_law_375 : decode cL_law 375 = .ok (.iload 4, 2) := by decide +kernel
theorem dL_law_377 : decode cL_law 377 = .ok (.iconst 1, 1) := by decide +kernel
theorem dL_law_378 : decode cL_law 378 = .ok (.iadd, 1) := by decide +kernel
theorem dL_law_379 : decode cL_law 379 = .ok (.iaload, 1) := by decide +kernel
theorem dL_law_380 : decode cL_law 380 = .ok (.aload_n 0, 1) := by decide +kernel
theorem dL_law_381 : decode cL_law 381 = .ok (.iload 4, 2) := by decide +kernel
theorem dL_law_383 : decode cL_law 383 = .ok (.iconst 2, 1) := by decide +kernel
theorem dL_law_384 : decode cL_law 384 = .ok (.iadd, 1) := by decide +kernel
theorem dL_law_385 : decode cL_law 385 = .ok (.iaload, 1) := by decide +kernel
theorem dL_law_386 : decode cL_law 386 = .ok (.invokevirtual 45, 3) := by decide +kernel
theorem dL_law_389 : decode cL_law 389 = .ok (.aload_n 2, 1) := by decide +kernel
theorem dL_law_390 : decode cL_law 390 = .ok (.aload_n 0, 1) := by decide +kernel
theorem dL_law_391 : decode cL_law 391 = .ok (.iload 4, 2) := by decide +kernel
theorem dL_law_393 : decode cL_law 393 = .ok (.iconst 1, 1) := by decide +kernel
theorem dL_law_394 : decode cL_law 394 = .ok (.iadd, 1) := by decide +kernel
theorem dL_law_395 : decode cL_law 395 = .ok (.iaload, 1) := by decide +kernel
theorem dL_law_396 : decode cL_law 396 = .ok (.aload_n 0, 1) := by decide +kernel
theorem dL_law_397 : decode cL_law 397 = .ok (.iload 4, 2) := by decide +kernel
theorem dL_law_399 : decode cL_law 399 = .ok (.iconst 2, 1) := by decide +kernel
theorem dL_law_400 : decode cL_law 400 = .ok (.iadd, 1) := by decide +kernel
theorem dL_law_401 : decode cL_law 401 = .ok (.iaload, 1) := by decide +kernel
theorem dL_law_402 : decode cL_law 402 = .ok (.invokevirtual 48, 3) := by decide +kernel
theorem dL_law_405 : decode cL_law 405 = .ok (.if_icmp .eq 988, 3) := by decide +kernel
theorem dL_law_408 : decode cL_law 408 = .ok (.iconst 0, 1) := by decide +kernel
theorem dL_law_409 : decode cL_law 409 = .ok (.ireturn, 1) := by decide +kernel
theorem dL_law_410 : decode cL_law 410 = .ok (.aload_n 1, 1) := by decide +kernel
theorem dL_law_411 : decode cL_law 411 = .ok (.aload_n 0, 1) := by decide +kernel
theorem dL_law_412 : decode cL_law 412 = .ok (.iload 4, 2) := by decide +kernel
theorem dL_law_414 : decode cL_law 414 = .ok (.iconst 1, 1) := by decide +kernel
theorem dL_law_415 : decode cL_law 415 = .ok (.iadd, 1) := by decide +kernel
theorem dL_law_416 : decode cL_law 416 = .ok (.iaload, 1) := by decide +kernel
theorem dL_law_417 : decode cL_law 417 = .ok (.invokevirtual 49, 3) := by decide +kernel
theorem dL_law_420 : decode cL_law 420 = .ok (.aload_n 2, 1) := by decide +kernel
theorem dL_law_421 : decode cL_law 421 = .ok (.aload_n 0, 1) := by decide +kernel
theorem dL_law_422 : decode cL_law 422 = .ok (.iload 4, 2) := by decide +kernel
theorem dL_law_424 : decode cL_law 424 = .ok (.iconst 1, 1) := by decide +kernel
theorem dL_law_425 : decode cL_law 425 = .ok (.iadd, 1) := by decide +kernel
theorem dL_law_426 : decode cL_law 426 = .ok (.iaload, 1) := by decide +kernel
theorem dL_law_427 : decode cL_law 427 = .ok (.invokevirtual 52, 3) := by decide +kernel
theorem dL_law_430 : decode cL_law 430 = .ok (.if_icmp .eq 963, 3) := by decide +kernel
theorem dL_law_433 : decode cL_law 433 = .ok (.iconst 0, 1) := by decide +kernel
theorem dL_law_434 : decode cL_law 434 = .ok (.ireturn, 1) := by decide +kernel
theorem dL_law_435 : decode cL_law 435 = .ok (.aload_n 1, 1) := by decide +kernel
theorem dL_law_436 : decode cL_law 436 = .ok (.aload_n 0, 1) := by decide +kernel
theorem dL_law_437 : decode cL_law 437 = .ok (.iload 4, 2) := by decide +kernel
theorem dL_law_439 : decode cL_law 439 = .ok (.iconst 1, 1) := by decide +kernel
theorem dL_law_440 : decode cL_law 440 = .ok (.iadd, 1) := by decide +kernel
theorem dL_law_441 : decode cL_law 441 = .ok (.iaload, 1) := by decide +kernel
theorem dL_law_442 : decode cL_law 442 = .ok (.invokevirtual 53, 3) := by decide +kernel
theorem dL_law_445 : decode cL_law 445 = .ok (.aload_n 2, 1) := by decide +kernel
theorem dL_law_446 : decode cL_law 446 = .ok (.aload_n 0, 1) := by decide +kernel
theorem dL_law_447 : decode cL_law 447 = .ok (.iload 4, 2) := by decide +kernel
theorem dL_law_449 : decode cL_law 449 = .ok (.iconst 1, 1) := by decide +kernel
theorem dL_law_450 : decode cL_law 450 = .ok (.iadd, 1) := by decide +kernel
theorem dL_law_451 : decode cL_law 451 = .ok (.iaload, 1) := by decide +kernel
theorem dL_law_452 : decode cL_law 452 = .ok (.invokevirtual 56, 3) := by decide +kernel
theorem dL_law_455 : decode cL_law 455 = .ok (.if_icmp .eq 938, 3) := by decide +kernel
theorem dL_law_458 : decode cL_law 458 = .ok (.iconst 0, 1) := by decide +kernel
theorem dL_law_459 : decode cL_law 459 = .ok (.ireturn, 1) := by decide +kernel
theorem dL_law_460 : decode cL_law 460 = .ok (.aload_n 1, 1) := by decide +kernel
theorem dL_law_461 : decode cL_law 461 = .ok (.aload_n 0, 1) := by decide +kernel
theorem dL_law_462 : decode cL_law 462 = .ok (.iload 4, 2) := by decide +kernel
theorem dL_law_464 : decode cL_law 464 = .ok (.iconst 1, 1) := by decide +kernel
theorem dL_law_465 : decode cL_law 465 = .ok (.iadd, 1) := by decide +kernel
theorem dL_law_466 : decode cL_law 466 = .ok (.iaload, 1) := by decide +kernel
theorem dL_law_467 : decode cL_law 467 = .ok (.invokevirtual 57, 3) := by decide +kernel
theorem dL_law_470 : decode cL_law 470 = .ok (.aload_n 2, 1) := by decide +kernel
theorem dL_law_471 : decode cL_law 471 = .ok (.aload_n 0, 1) := by decide +kernel
theorem dL_law_472 : decode cL_law 472 = .ok (.iload 4, 2) := by decide +kernel
theorem dL_law_474 : decode cL_law 474 = .ok (.iconst 1, 1) := by decide +kernel
theorem dL_law_475 : decode cL_law 475 = .ok (.iadd, 1) := by decide +kernel
theorem dL_law_476 : decode cL_law 476 = .ok (.iaload, 1) := by decide +kernel
theorem dL_law_477 : decode cL_law 477 = .ok (.invokevirtual 60, 3) := by decide +kernel
theorem dL_law_480 : decode cL_law 480 = .ok (.if_icmp .eq 913, 3) := by decide +kernel
theorem dL_law_483 : decode cL_law 483 = .ok (.iconst 0, 1) := by decide +kernel
theorem dL_law_484 : decode cL_law 484 = .ok (.ireturn, 1) := by decide +kernel
theorem dL_law_485 : decode cL_law 485 = .ok (.aload_n 1, 1) := by decide +kernel
theorem dL_law_486 : decode cL_law 486 = .ok (.aload_n 0, 1) := by decide +kernel
theorem dL_law_487 : decode cL_law 487 = .ok (.iload 4, 2) := by decide +kernel
theorem dL_law_489 : decode cL_law 489 = .ok (.iconst 1, 1) := by decide +kernel
theorem dL_law_490 : decode cL_law 490 = .ok (.iadd, 1) := by decide +kernel
theorem dL_law_491 : decode cL_law 491 = .ok (.iaload, 1) := by decide +kernel
theorem dL_law_492 : decode cL_law 492 = .ok (.aload_n 0, 1) := by decide +kernel
theorem dL_law_493 : decode cL_law 493 = .ok (.iload 4, 2) := by decide +kernel
theorem dL_law_495 : decode cL_law 495 = .ok (.iconst 2, 1) := by decide +kernel
theorem dL_law_496 : decode cL_law 496 = .ok (.iadd, 1) := by decide +kernel
theorem dL_law_497 : decode cL_law 497 = .ok (.iaload, 1) := by decide +kernel
theorem dL_law_498 : decode cL_law 498 = .ok (.invokevirtual 61, 3) := by decide +kernel
theorem dL_law_501 : decode cL_law 501 = .ok (.aload_n 2, 1) := by decide +kernel
theorem dL_law_502 : decode cL_law 502 = .ok (.aload_n 0, 1) := by decide +kernel
theorem dL_law_503 : decode cL_law 503 = .ok (.iload 4, 2) := by decide +kernel
theorem dL_law_505 : decode cL_law 505 = .ok (.iconst 1, 1) := by decide +kernel
theorem dL_law_506 : decode cL_law 506 = .ok (.iadd, 1) := by decide +kernel
theorem dL_law_507 : decode cL_law 507 = .ok (.iaload, 1) := by decide +kernel
theorem dL_law_508 : decode cL_law 508 = .ok (.aload_n 0, 1) := by decide +kernel
theorem dL_law_509 : decode cL_law 509 = .ok (.iload 4, 2) := by decide +kernel
theorem dL_law_511 : decode cL_law 511 = .ok (.iconst 2, 1) := by decide +kernel
theorem dL_law_512 : decode cL_law 512 = .ok (.iadd, 1) := by decide +kernel
theorem dL_law_513 : decode cL_law 513 = .ok (.iaload, 1) := by decide +kernel
theorem dL_law_514 : decode cL_law 514 = .ok (.invokevirtual 64, 3) := by decide +kernel
theorem dL_law_517 : decode cL_law 517 = .ok (.if_icmp .eq 876, 3) := by decide +kernel
theorem dL_law_520 : decode cL_law 520 = .ok (.iconst 0, 1) := by decide +kernel
theorem dL_law_521 : decode cL_law 521 = .ok (.ireturn, 1) := by decide +kernel
theorem dL_law_522 : decode cL_law 522 = .ok (.aload_n 1, 1) := by decide +kernel
theorem dL_law_523 : decode cL_law 523 = .ok (.aload_n 0, 1) := by decide +kernel
theorem dL_law_524 : decode cL_law 524 = .ok (.iload 4, 2) := by decide +kernel
theorem dL_law_526 : decode cL_law 526 = .ok (.iconst 1, 1) := by decide +kernel
theorem dL_law_527 : decode cL_law 527 = .ok (.iadd, 1) := by decide +kernel
theorem dL_law_528 : decode cL_law 528 = .ok (.iaload, 1) := by decide +kernel
theorem dL_law_529 : decode cL_law 529 = .ok (.aload_n 0, 1) := by decide +kernel
theorem dL_law_530 : decode cL_law 530 = .ok (.iload 4, 2) := by decide +kernel
theorem dL_law_532 : decode cL_law 532 = .ok (.iconst 2, 1) := by decide +kernel
theorem dL_law_533 : decode cL_law 533 = .ok (.iadd, 1) := by decide +kernel
theorem dL_law_534 : decode cL_law 534 = .ok (.iaload, 1) := by decide +kernel
theorem dL_law_535 : decode cL_law 535 = .ok (.aload_n 3, 1) := by decide +kernel
theorem dL_law_536 : decode cL_law 536 = .ok (.invokestatic 65, 3) := by decide +kernel
theorem dL_law_539 : decode cL_law 539 = .ok (.istore 5, 2) := by decide +kernel
theorem dL_law_541 : decode cL_law 541 = .ok (.aload_n 2, 1) := by decide +kernel
theorem dL_law_542 : decode cL_law 542 = .ok (.aload_n 0, 1) := by decide +kernel
theorem dL_law_543 : decode cL_law 543 = .ok (.iload 4, 2) := by decide +kernel
theorem dL_law_545 : decode cL_law 545 = .ok (.iconst 1, 1) := by decide +kernel
theorem dL_law_546 : decode cL_law 546 = .ok (.iadd, 1) := by decide +kernel
theorem dL_law_547 : decode cL_law 547 = .ok (.iaload, 1) := by decide +kernel
theorem dL_law_548 : decode cL_law 548 = .ok (.aload_n 0, 1) := by decide +kernel
theorem dL_law_549 : decode cL_law 549 = .ok (.iload 4, 2) := by decide +kernel
theorem dL_law_551 : decode cL_law 551 = .ok (.iconst 2, 1) := by decide +kernel
theorem dL_law_552 : decode cL_law 552 = .ok (.iadd, 1) := by decide +kernel
theorem dL_law_553 : decode cL_law 553 = .ok (.iaload, 1) := by decide +kernel
theorem dL_law_554 : decode cL_law 554 = .ok (.invokevirtual 70, 3) := by decide +kernel
theorem dL_law_557 : decode cL_law 557 = .ok (.lstore 6, 2) := by decide +kernel
theorem dL_law_559 : decode cL_law 559 = .ok (.aload_n 2, 1) := by decide +kernel
theorem dL_law_560 : decode cL_law 560 = .ok (.invokevirtual 71, 3) := by decide +kernel
theorem dL_law_563 : decode cL_law 563 = .ok (.iload 5, 2) := by decide +kernel
theorem dL_law_565 : decode cL_law 565 = .ok (.if_icmp .eq 5, 3) := by decide +kernel
theorem dL_law_568 : decode cL_law 568 = .ok (.iconst 0, 1) := by decide +kernel
theorem dL_law_569 : decode cL_law 569 = .ok (.ireturn, 1) := by decide +kernel
theorem dL_law_570 : decode cL_law 570 = .ok (.iload 5, 2) := by decide +kernel
theorem dL_law_572 : decode cL_law 572 = .ok (.ifCond .ne 14, 3) := by decide +kernel
theorem dL_law_575 : decode cL_law 575 = .ok (.aload_n 3, 1) := by decide +kernel
theorem dL_law_576 : decode cL_law 576 = .ok (.iconst 0, 1) := by decide +kernel
theorem dL_law_577 : decode cL_law 577 = .ok (.laload, 1) := by decide +kernel
theorem dL_law_578 : decode cL_law 578 = .ok (.lload 6, 2) := by decide +kernel
theorem dL_law_580 : decode cL_law 580 = .ok (.lcmp, 1) := by decide +kernel
theorem dL_law_581 : decode cL_law 581 = .ok (.ifCond .eq 5, 3) := by decide +kernel
theorem dL_law_584 : decode cL_law 584 = .ok (.iconst 0, 1) := by decide +kernel
theorem dL_law_585 : decode cL_law 585 = .ok (.ireturn, 1) := by decide +kernel
theorem dL_law_586 : decode cL_law 586 = .ok (.goto 807, 3) := by decide +kernel
theorem dL_law_589 : decode cL_law 589 = .ok (.aload_n 1, 1) := by decide +kernel
theorem dL_law_590 : decode cL_law 590 = .ok (.aload_n 0, 1) := by decide +kernel
theorem dL_law_591 : decode cL_law 591 = .ok (.iload 4, 2) := by decide +kernel
theorem dL_law_593 : decode cL_law 593 = .ok (.iconst 1, 1) := by decide +kernel
theorem dL_law_594 : decode cL_law 594 = .ok (.iadd, 1) := by decide +kernel
theorem dL_law_595 : decode cL_law 595 = .ok (.iaload, 1) := by decide +kernel
theorem dL_law_596 : decode cL_law 596 = .ok (.invokevirtual 75, 3) := by decide +kernel
theorem dL_law_599 : decode cL_law 599 = .ok (.aload_n 2, 1) := by decide +kernel
theorem dL_law_600 : decode cL_law 600 = .ok (.aload_n 0, 1) := by decide +kernel
theorem dL_law_601 : decode cL_law 601 = .ok (.iload 4, 2) := by decide +kernel
theorem dL_law_603 : decode cL_law 603 = .ok (.iconst 1, 1) := by decide +kernel
theorem dL_law_604 : decode cL_law 604 = .ok (.iadd, 1) := by decide +kernel
theorem dL_law_605 : decode cL_law 605 = .ok (.iaload, 1) := by decide +kernel
theorem dL_law_606 : decode cL_law 606 = .ok (.invokevirtual 78, 3) := by decide +kernel
theorem dL_law_609 : decode cL_law 609 = .ok (.if_icmp .eq 784, 3) := by decide +kernel
theorem dL_law_612 : decode cL_law 612 = .ok (.iconst 0, 1) := by decide +kernel
theorem dL_law_613 : decode cL_law 613 = .ok (.ireturn, 1) := by decide +kernel
theorem dL_law_614 : decode cL_law 614 = .ok (.aload_n 1, 1) := by decide +kernel
theorem dL_law_615 : decode cL_law 615 = .ok (.aload_n 0, 1) := by decide +kernel
theorem dL_law_616 : decode cL_law 616 = .ok (.iload 4, 2) := by decide +kernel
theorem dL_law_618 : decode cL_law 618 = .ok (.iconst 1, 1) := by decide +kernel
theorem dL_law_619 : decode cL_law 619 = .ok (.iadd, 1) := by decide +kernel
theorem dL_law_620 : decode cL_law 620 = .ok (.iaload, 1) := by decide +kernel
theorem dL_law_621 : decode cL_law 621 = .ok (.aload_n 0, 1) := by decide +kernel
theorem dL_law_622 : decode cL_law 622 = .ok (.iload 4, 2) := by decide +kernel
theorem dL_law_624 : decode cL_law 624 = .ok (.iconst 2, 1) := by decide +kernel
theorem dL_law_625 : decode cL_law 625 = .ok (.iadd, 1) := by decide +kernel
theorem dL_law_626 : decode cL_law 626 = .ok (.iaload, 1) := by decide +kernel
theorem dL_law_627 : decode cL_law 627 = .ok (.aload_n 0, 1) := by decide +kernel
theorem dL_law_628 : decode cL_law 628 = .ok (.iload 4, 2) := by decide +kernel
theorem dL_law_630 : decode cL_law 630 = .ok (.iconst 3, 1) := by decide +kernel
theorem dL_law_631 : decode cL_law 631 = .ok (.iadd, 1) := by decide +kernel
theorem dL_law_632 : decode cL_law 632 = .ok (.iaload, 1) := by decide +kernel
theorem dL_law_633 : decode cL_law 633 = .ok (.aload_n 0, 1) := by decide +kernel
theorem dL_law_634 : decode cL_law 634 = .ok (.iload 4, 2) := by decide +kernel
theorem dL_law_636 : decode cL_law 636 = .ok (.iconst 4, 1) := by decide +kernel
theorem dL_law_637 : decode cL_law 637 = .ok (.iadd, 1) := by decide +kernel
theorem dL_law_638 : decode cL_law 638 = .ok (.iaload, 1) := by decide +kernel
theorem dL_law_639 : decode cL_law 639 = .ok (.invokevirtual 79, 3) := by decide +kernel
theorem dL_law_642 : decode cL_law 642 = .ok (.aload_n 2, 1) := by decide +kernel
theorem dL_law_643 : decode cL_law 643 = .ok (.aload_n 0, 1) := by decide +kernel
theorem dL_law_644 : decode cL_law 644 = .ok (.iload 4, 2) := by decide +kernel
theorem dL_law_646 : decode cL_law 646 = .ok (.iconst 1, 1) := by decide +kernel
theorem dL_law_647 : decode cL_law 647 = .ok (.iadd, 1) := by decide +kernel
theorem dL_law_648 : decode cL_law 648 = .ok (.iaload, 1) := by decide +kernel
theorem dL_law_649 : decode cL_law 649 = .ok (.aload_n 0, 1) := by decide +kernel
theorem dL_law_650 : decode cL_law 650 = .ok (.iload 4, 2) := by decide +kernel
theorem dL_law_652 : decode cL_law 652 = .ok (.iconst 2, 1) := by decide +kernel
theorem dL_law_653 : decode cL_law 653 = .ok (.iadd, 1) := by decide +kernel
theorem dL_law_654 : decode cL_law 654 = .ok (.iaload, 1) := by decide +kernel
theorem dL_law_655 : decode cL_law 655 = .ok (.aload_n 0, 1) := by decide +kernel
theorem dL_law_656 : decode cL_law 656 = .ok (.iload 4, 2) := by decide +kernel
theorem dL_law_658 : decode cL_law 658 = .ok (.iconst 3, 1) := by decide +kernel
theorem dL_law_659 : decode cL_law 659 = .ok (.iadd, 1) := by decide +kernel
theorem dL_law_660 : decode cL_law 660 = .ok (.iaload, 1) := by decide +kernel
theorem dL_law_661 : decode cL_law 661 = .ok (.aload_n 0, 1) := by decide +kernel
theorem dL_law_662 : decode cL_law 662 = .ok (.iload 4, 2) := by decide +kernel
theorem dL_law_664 : decode cL_law 664 = .ok (.iconst 4, 1) := by decide +kernel
theorem dL_law_665 : decode cL_law 665 = .ok (.iadd, 1) := by decide +kernel
theorem dL_law_666 : decode cL_law 666 = .ok (.iaload, 1) := by decide +kernel
theorem dL_law_667 : decode cL_law 667 = .ok (.invokevirtual 83, 3) := by decide +kernel
theorem dL_law_670 : decode cL_law 670 = .ok (.if_icmp .eq 723, 3) := by decide +kernel
theorem dL_law_673 : decode cL_law 673 = .ok (.iconst 0, 1) := by decide +kernel
theorem dL_law_674 : decode cL_law 674 = .ok (.ireturn, 1) := by decide +kernel
theorem dL_law_675 : decode cL_law 675 = .ok (.aload_n 1, 1) := by decide +kernel
theorem dL_law_676 : decode cL_law 676 = .ok (.aload_n 0, 1) := by decide +kernel
theorem dL_law_677 : decode cL_law 677 = .ok (.iload 4, 2) := by decide +kernel
theorem dL_law_679 : decode cL_law 679 = .ok (.iconst 1, 1) := by decide +kernel
theorem dL_law_680 : decode cL_law 680 = .ok (.iadd, 1) := by decide +kernel
theorem dL_law_681 : decode cL_law 681 = .ok (.iaload, 1) := by decide +kernel
theorem dL_law_682 : decode cL_law 682 = .ok (.aload_n 0, 1) := by decide +kernel
theorem dL_law_683 : decode cL_law 683 = .ok (.iload 4, 2) := by decide +kernel
theorem dL_law_685 : decode cL_law 685 = .ok (.iconst 2, 1) := by decide +kernel
theorem dL_law_686 : decode cL_law 686 = .ok (.iadd, 1) := by decide +kernel
theorem dL_law_687 : decode cL_law 687 = .ok (.iaload, 1) := by decide +kernel
theorem dL_law_688 : decode cL_law 688 = .ok (.invokevirtual 84, 3) := by decide +kernel
theorem dL_law_691 : decode cL_law 691 = .ok (.aload_n 2, 1) := by decide +kernel
theorem dL_law_692 : decode cL_law 692 = .ok (.aload_n 0, 1) := by decide +kernel
theorem dL_law_693 : decode cL_law 693 = .ok (.iload 4, 2) := by decide +kernel
theorem dL_law_695 : decode cL_law 695 = .ok (.iconst 1, 1) := by decide +kernel
theorem dL_law_696 : decode cL_law 696 = .ok (.iadd, 1) := by decide +kernel
theorem dL_law_697 : decode cL_law 697 = .ok (.iaload, 1) := by decide +kernel
theorem dL_law_698 : decode cL_law 698 = .ok (.aload_n 0, 1) := by decide +kernel
theorem dL_law_699 : decode cL_law 699 = .ok (.iload 4, 2) := by decide +kernel
theorem dL_law_701 : decode cL_law 701 = .ok (.iconst 2, 1) := by decide +kernel
theorem dL_law_702 : decode cL_law 702 = .ok (.iadd, 1) := by decide +kernel
theorem dL_law_703 : decode cL_law 703 = .ok (.iaload, 1) := by decide +kernel
theorem dL_law_704 : decode cL_law 704 = .ok (.invokevirtual 87, 3) := by decide +kernel
theorem dL_law_707 : decode cL_law 707 = .ok (.if_icmp .eq 686, 3) := by decide +kernel
theorem dL_law_710 : decode cL_law 710 = .ok (.iconst 0, 1) := by decide +kernel
theorem dL_law_711 : decode cL_law 711 = .ok (.ireturn, 1) := by decide +kernel
theorem dL_law_712 : decode cL_law 712 = .ok (.aload_n 1, 1) := by decide +kernel
theorem dL_law_713 : decode cL_law 713 = .ok (.aload_n 0, 1) := by decide +kernel
theorem dL_law_714 : decode cL_law 714 = .ok (.iload 4, 2) := by decide +kernel
theorem dL_law_716 : decode cL_law 716 = .ok (.iconst 1, 1) := by decide +kernel
theorem dL_law_717 : decode cL_law 717 = .ok (.iadd, 1) := by decide +kernel
theorem dL_law_718 : decode cL_law 718 = .ok (.iaload, 1) := by decide +kernel
theorem dL_law_719 : decode cL_law 719 = .ok (.aload_n 0, 1) := by decide +kernel
theorem dL_law_720 : decode cL_law 720 = .ok (.iload 4, 2) := by decide +kernel
theorem dL_law_722 : decode cL_law 722 = .ok (.iconst 2, 1) := by decide +kernel
theorem dL_law_723 : decode cL_law 723 = .ok (.iadd, 1) := by decide +kernel
theorem dL_law_724 : decode cL_law 724 = .ok (.iaload, 1) := by decide +kernel
theorem dL_law_725 : decode cL_law 725 = .ok (.invokevirtual 88, 3) := by decide +kernel
theorem dL_law_728 : decode cL_law 728 = .ok (.aload_n 2, 1) := by decide +kernel
theorem dL_law_729 : decode cL_law 729 = .ok (.aload_n 0, 1) := by decide +kernel
theorem dL_law_730 : decode cL_law 730 = .ok (.iload 4, 2) := by decide +kernel
theorem dL_law_732 : decode cL_law 732 = .ok (.iconst 1, 1) := by decide +kernel
theorem dL_law_733 : decode cL_law 733 = .ok (.iadd, 1) := by decide +kernel
theorem dL_law_734 : decode cL_law 734 = .ok (.iaload, 1) := by decide +kernel
theorem dL_law_735 : decode cL_law 735 = .ok (.aload_n 0, 1) := by decide +kernel
theorem dL_law_736 : decode cL_law 736 = .ok (.iload 4, 2) := by decide +kernel
theorem dL_law_738 : decode cL_law 738 = .ok (.iconst 2, 1) := by decide +kernel
theorem dL_law_739 : decode cL_law 739 = .ok (.iadd, 1) := by decide +kernel
theorem dL_law_740 : decode cL_law 740 = .ok (.iaload, 1) := by decide +kernel
theorem dL_law_741 : decode cL_law 741 = .ok (.invokevirtual 91, 3) := by decide +kernel
theorem dL_law_744 : decode cL_law 744 = .ok (.if_icmp .eq 649, 3) := by decide +kernel
theorem dL_law_747 : decode cL_law 747 = .ok (.iconst 0, 1) := by decide +kernel
theorem dL_law_748 : decode cL_law 748 = .ok (.ireturn, 1) := by decide +kernel
theorem dL_law_749 : decode cL_law 749 = .ok (.aload_n 1, 1) := by decide +kernel
theorem dL_law_750 : decode cL_law 750 = .ok (.aload_n 0, 1) := by decide +kernel
theorem dL_law_751 : decode cL_law 751 = .ok (.iload 4, 2) := by decide +kernel
theorem dL_law_753 : decode cL_law 753 = .ok (.iconst 1, 1) := by decide +kernel
theorem dL_law_754 : decode cL_law 754 = .ok (.iadd, 1) := by decide +kernel
theorem dL_law_755 : decode cL_law 755 = .ok (.iaload, 1) := by decide +kernel
theorem dL_law_756 : decode cL_law 756 = .ok (.invokevirtual 92, 3) := by decide +kernel
theorem dL_law_759 : decode cL_law 759 = .ok (.aload_n 2, 1) := by decide +kernel
theorem dL_law_760 : decode cL_law 760 = .ok (.aload_n 0, 1) := by decide +kernel
theorem dL_law_761 : decode cL_law 761 = .ok (.iload 4, 2) := by decide +kernel
theorem dL_law_763 : decode cL_law 763 = .ok (.iconst 1, 1) := by decide +kernel
theorem dL_law_764 : decode cL_law 764 = .ok (.iadd, 1) := by decide +kernel
theorem dL_law_765 : decode cL_law 765 = .ok (.iaload, 1) := by decide +kernel
theorem dL_law_766 : decode cL_law 766 = .ok (.invokevirtual 95, 3) := by decide +kernel
theorem dL_law_769 : decode cL_law 769 = .ok (.if_icmp .eq 624, 3) := by decide +kernel
theorem dL_law_772 : decode cL_law 772 = .ok (.iconst 0, 1) := by decide +kernel
theorem dL_law_773 : decode cL_law 773 = .ok (.ireturn, 1) := by decide +kernel
theorem dL_law_774 : decode cL_law 774 = .ok (.aload_n 1, 1) := by decide +kernel
theorem dL_law_775 : decode cL_law 775 = .ok (.aload_n 0, 1) := by decide +kernel
theorem dL_law_776 : decode cL_law 776 = .ok (.iload 4, 2) := by decide +kernel
theorem dL_law_778 : decode cL_law 778 = .ok (.iconst 1, 1) := by decide +kernel
theorem dL_law_779 : decode cL_law 779 = .ok (.iadd, 1) := by decide +kernel
theorem dL_law_780 : decode cL_law 780 = .ok (.iaload, 1) := by decide +kernel
theorem dL_law_781 : decode cL_law 781 = .ok (.aload_n 0, 1) := by decide +kernel
theorem dL_law_782 : decode cL_law 782 = .ok (.iload 4, 2) := by decide +kernel
theorem dL_law_784 : decode cL_law 784 = .ok (.iconst 2, 1) := by decide +kernel
theorem dL_law_785 : decode cL_law 785 = .ok (.iadd, 1) := by decide +kernel
theorem dL_law_786 : decode cL_law 786 = .ok (.iaload, 1) := by decide +kernel
theorem dL_law_787 : decode cL_law 787 = .ok (.invokevirtual 96, 3) := by decide +kernel
theorem dL_law_790 : decode cL_law 790 = .ok (.aload_n 2, 1) := by decide +kernel
theorem dL_law_791 : decode cL_law 791 = .ok (.aload_n 0, 1) := by decide +kernel
theorem dL_law_792 : decode cL_law 792 = .ok (.iload 4, 2) := by decide +kernel
theorem dL_law_794 : decode cL_law 794 = .ok (.iconst 1, 1) := by decide +kernel
theorem dL_law_795 : decode cL_law 795 = .ok (.iadd, 1) := by decide +kernel
theorem dL_law_796 : decode cL_law 796 = .ok (.iaload, 1) := by decide +kernel
theorem dL_law_797 : decode cL_law 797 = .ok (.aload_n 0, 1) := by decide +kernel
theorem dL_law_798 : decode cL_law 798 = .ok (.iload 4, 2) := by decide +kernel
theorem dL_law_800 : decode cL_law 800 = .ok (.iconst 2, 1) := by decide +kernel
theorem dL_law_801 : decode cL_law 801 = .ok (.iadd, 1) := by decide +kernel
theorem dL_law_802 : decode cL_law 802 = .ok (.iaload, 1) := by decide +kernel
theorem dL_law_803 : decode cL_law 803 = .ok (.invokevirtual 99, 3) := by decide +kernel
theorem dL_law_806 : decode cL_law 806 = .ok (.if_icmp .eq 587, 3) := by decide +kernel
theorem dL_law_809 : decode cL_law 809 = .ok (.iconst 0, 1) := by decide +kernel
theorem dL_law_810 : decode cL_law 810 = .ok (.ireturn, 1) := by decide +kernel
theorem dL_law_811 : decode cL_law 811 = .ok (.aload_n 1, 1) := by decide +kernel
theorem dL_law_812 : decode cL_law 812 = .ok (.aload_n 0, 1) := by decide +kernel
theorem dL_law_813 : decode cL_law 813 = .ok (.iload 4, 2) := by decide +kernel
theorem dL_law_815 : decode cL_law 815 = .ok (.iconst 1, 1) := by decide +kernel
theorem dL_law_816 : decode cL_law 816 = .ok (.iadd, 1) := by decide +kernel
theorem dL_law_817 : decode cL_law 817 = .ok (.iaload, 1) := by decide +kernel
theorem dL_law_818 : decode cL_law 818 = .ok (.invokevirtual 100, 3) := by decide +kernel
theorem dL_law_821 : decode cL_law 821 = .ok (.aload_n 2, 1) := by decide +kernel
theorem dL_law_822 : decode cL_law 822 = .ok (.aload_n 0, 1) := by decide +kernel
theorem dL_law_823 : decode cL_law 823 = .ok (.iload 4, 2) := by decide +kernel
theorem dL_law_825 : decode cL_law 825 = .ok (.iconst 1, 1) := by decide +kernel
theorem dL_law_826 : decode cL_law 826 = .ok (.iadd, 1) := by decide +kernel
theorem dL_law_827 : decode cL_law 827 = .ok (.iaload, 1) := by decide +kernel
theorem dL_law_828 : decode cL_law 828 = .ok (.invokevirtual 103, 3) := by decide +kernel
theorem dL_law_831 : decode cL_law 831 = .ok (.if_icmp .eq 562, 3) := by decide +kernel
theorem dL_law_834 : decode cL_law 834 = .ok (.iconst 0, 1) := by decide +kernel
theorem dL_law_835 : decode cL_law 835 = .ok (.ireturn, 1) := by decide +kernel
theorem dL_law_836 : decode cL_law 836 = .ok (.aload_n 1, 1) := by decide +kernel
theorem dL_law_837 : decode cL_law 837 = .ok (.aload_n 0, 1) := by decide +kernel
theorem dL_law_838 : decode cL_law 838 = .ok (.iload 4, 2) := by decide +kernel
theorem dL_law_840 : decode cL_law 840 = .ok (.iconst 1, 1) := by decide +kernel
theorem dL_law_841 : decode cL_law 841 = .ok (.iadd, 1) := by decide +kernel
theorem dL_law_842 : decode cL_law 842 = .ok (.iaload, 1) := by decide +kernel
theorem dL_law_843 : decode cL_law 843 = .ok (.aload_n 0, 1) := by decide +kernel
theorem dL_law_844 : decode cL_law 844 = .ok (.iload 4, 2) := by decide +kernel
theorem dL_law_846 : decode cL_law 846 = .ok (.iconst 2, 1) := by decide +kernel
theorem dL_law_847 : decode cL_law 847 = .ok (.iadd, 1) := by decide +kernel
theorem dL_law_848 : decode cL_law 848 = .ok (.iaload, 1) := by decide +kernel
theorem dL_law_849 : decode cL_law 849 = .ok (.invokevirtual 104, 3) := by decide +kernel
theorem dL_law_852 : decode cL_law 852 = .ok (.aload_n 2, 1) := by decide +kernel
theorem dL_law_853 : decode cL_law 853 = .ok (.aload_n 0, 1) := by decide +kernel
theorem dL_law_854 : decode cL_law 854 = .ok (.iload 4, 2) := by decide +kernel
theorem dL_law_856 : decode cL_law 856 = .ok (.iconst 1, 1) := by decide +kernel
theorem dL_law_857 : decode cL_law 857 = .ok (.iadd, 1) := by decide +kernel
theorem dL_law_858 : decode cL_law 858 = .ok (.iaload, 1) := by decide +kernel
theorem dL_law_859 : decode cL_law 859 = .ok (.aload_n 0, 1) := by decide +kernel
theorem dL_law_860 : decode cL_law 860 = .ok (.iload 4, 2) := by decide +kernel
theorem dL_law_862 : decode cL_law 862 = .ok (.iconst 2, 1) := by decide +kernel
theorem dL_law_863 : decode cL_law 863 = .ok (.iadd, 1) := by decide +kernel
theorem dL_law_864 : decode cL_law 864 = .ok (.iaload, 1) := by decide +kernel
theorem dL_law_865 : decode cL_law 865 = .ok (.invokevirtual 107, 3) := by decide +kernel
theorem dL_law_868 : decode cL_law 868 = .ok (.if_icmp .eq 525, 3) := by decide +kernel
theorem dL_law_871 : decode cL_law 871 = .ok (.iconst 0, 1) := by decide +kernel
theorem dL_law_872 : decode cL_law 872 = .ok (.ireturn, 1) := by decide +kernel
theorem dL_law_873 : decode cL_law 873 = .ok (.aload_n 1, 1) := by decide +kernel
theorem dL_law_874 : decode cL_law 874 = .ok (.aload_n 0, 1) := by decide +kernel
theorem dL_law_875 : decode cL_law 875 = .ok (.iload 4, 2) := by decide +kernel
theorem dL_law_877 : decode cL_law 877 = .ok (.iconst 1, 1) := by decide +kernel
theorem dL_law_878 : decode cL_law 878 = .ok (.iadd, 1) := by decide +kernel
theorem dL_law_879 : decode cL_law 879 = .ok (.iaload, 1) := by decide +kernel
theorem dL_law_880 : decode cL_law 880 = .ok (.invokevirtual 108, 3) := by decide +kernel
theorem dL_law_883 : decode cL_law 883 = .ok (.aload_n 2, 1) := by decide +kernel
theorem dL_law_884 : decode cL_law 884 = .ok (.aload_n 0, 1) := by decide +kernel
theorem dL_law_885 : decode cL_law 885 = .ok (.iload 4, 2) := by decide +kernel
theorem dL_law_887 : decode cL_law 887 = .ok (.iconst 1, 1) := by decide +kernel
theorem dL_law_888 : decode cL_law 888 = .ok (.iadd, 1) := by decide +kernel
theorem dL_law_889 : decode cL_law 889 = .ok (.iaload, 1) := by decide +kernel
theorem dL_law_890 : decode cL_law 890 = .ok (.invokevirtual 111, 3) := by decide +kernel
theorem dL_law_893 : decode cL_law 893 = .ok (.if_icmp .eq 500, 3) := by decide +kernel
theorem dL_law_896 : decode cL_law 896 = .ok (.iconst 0, 1) := by decide +kernel
theorem dL_law_897 : decode cL_law 897 = .ok (.ireturn, 1) := by decide +kernel
theorem dL_law_898 : decode cL_law 898 = .ok (.aload_n 1, 1) := by decide +kernel
theorem dL_law_899 : decode cL_law 899 = .ok (.aload_n 0, 1) := by decide +kernel
theorem dL_law_900 : decode cL_law 900 = .ok (.iload 4, 2) := by decide +kernel
theorem dL_law_902 : decode cL_law 902 = .ok (.iconst 1, 1) := by decide +kernel
theorem dL_law_903 : decode cL_law 903 = .ok (.iadd, 1) := by decide +kernel
theorem dL_law_904 : decode cL_law 904 = .ok (.iaload, 1) := by decide +kernel
theorem dL_law_905 : decode cL_law 905 = .ok (.aload_n 0, 1) := by decide +kernel
theorem dL_law_906 : decode cL_law 906 = .ok (.iload 4, 2) := by decide +kernel
theorem dL_law_908 : decode cL_law 908 = .ok (.iconst 2, 1) := by decide +kernel
theorem dL_law_909 : decode cL_law 909 = .ok (.iadd, 1) := by decide +kernel
theorem dL_law_910 : decode cL_law 910 = .ok (.iaload, 1) := by decide +kernel
theorem dL_law_911 : decode cL_law 911 = .ok (.aload_n 0, 1) := by decide +kernel
theorem dL_law_912 : decode cL_law 912 = .ok (.iload 4, 2) := by decide +kernel
theorem dL_law_914 : decode cL_law 914 = .ok (.iconst 3, 1) := by decide +kernel
theorem dL_law_915 : decode cL_law 915 = .ok (.iadd, 1) := by decide +kernel
theorem dL_law_916 : decode cL_law 916 = .ok (.iaload, 1) := by decide +kernel
theorem dL_law_917 : decode cL_law 917 = .ok (.invokevirtual 112, 3) := by decide +kernel
theorem dL_law_920 : decode cL_law 920 = .ok (.aload_n 2, 1) := by decide +kernel
theorem dL_law_921 : decode cL_law 921 = .ok (.aload_n 0, 1) := by decide +kernel
theorem dL_law_922 : decode cL_law 922 = .ok (.iload 4, 2) := by decide +kernel
theorem dL_law_924 : decode cL_law 924 = .ok (.iconst 1, 1) := by decide +kernel
theorem dL_law_925 : decode cL_law 925 = .ok (.iadd, 1) := by decide +kernel
theorem dL_law_926 : decode cL_law 926 = .ok (.iaload, 1) := by decide +kernel
theorem dL_law_927 : decode cL_law 927 = .ok (.aload_n 0, 1) := by decide +kernel
theorem dL_law_928 : decode cL_law 928 = .ok (.iload 4, 2) := by decide +kernel
theorem dL_law_930 : decode cL_law 930 = .ok (.iconst 2, 1) := by decide +kernel
theorem dL_law_931 : decode cL_law 931 = .ok (.iadd, 1) := by decide +kernel
theorem dL_law_932 : decode cL_law 932 = .ok (.iaload, 1) := by decide +kernel
theorem dL_law_933 : decode cL_law 933 = .ok (.aload_n 0, 1) := by decide +kernel
theorem dL_law_934 : decode cL_law 934 = .ok (.iload 4, 2) := by decide +kernel
theorem dL_law_936 : decode cL_law 936 = .ok (.iconst 3, 1) := by decide +kernel
theorem dL_law_937 : decode cL_law 937 = .ok (.iadd, 1) := by decide +kernel
theorem dL_law_938 : decode cL_law 938 = .ok (.iaload, 1) := by decide +kernel
theorem dL_law_939 : decode cL_law 939 = .ok (.invokevirtual 116, 3) := by decide +kernel
theorem dL_law_942 : decode cL_law 942 = .ok (.if_icmp .eq 451, 3) := by decide +kernel
theorem dL_law_945 : decode cL_law 945 = .ok (.iconst 0, 1) := by decide +kernel
theorem dL_law_946 : decode cL_law 946 = .ok (.ireturn, 1) := by decide +kernel
theorem dL_law_947 : decode cL_law 947 = .ok (.aload_n 1, 1) := by decide +kernel
theorem dL_law_948 : decode cL_law 948 = .ok (.aload_n 0, 1) := by decide +kernel
theorem dL_law_949 : decode cL_law 949 = .ok (.iload 4, 2) := by decide +kernel
theorem dL_law_951 : decode cL_law 951 = .ok (.iconst 1, 1) := by decide +kernel
theorem dL_law_952 : decode cL_law 952 = .ok (.iadd, 1) := by decide +kernel
theorem dL_law_953 : decode cL_law 953 = .ok (.iaload, 1) := by decide +kernel
theorem dL_law_954 : decode cL_law 954 = .ok (.aload_n 0, 1) := by decide +kernel
theorem dL_law_955 : decode cL_law 955 = .ok (.iload 4, 2) := by decide +kernel
theorem dL_law_957 : decode cL_law 957 = .ok (.iconst 2, 1) := by decide +kernel
theorem dL_law_958 : decode cL_law 958 = .ok (.iadd, 1) := by decide +kernel
theorem dL_law_959 : decode cL_law 959 = .ok (.iaload, 1) := by decide +kernel
theorem dL_law_960 : decode cL_law 960 = .ok (.invokevirtual 117, 3) := by decide +kernel
theorem dL_law_963 : decode cL_law 963 = .ok (.aload_n 2, 1) := by decide +kernel
theorem dL_law_964 : decode cL_law 964 = .ok (.aload_n 0, 1) := by decide +kernel
theorem dL_law_965 : decode cL_law 965 = .ok (.iload 4, 2) := by decide +kernel
theorem dL_law_967 : decode cL_law 967 = .ok (.iconst 1, 1) := by decide +kernel
theorem dL_law_968 : decode cL_law 968 = .ok (.iadd, 1) := by decide +kernel
theorem dL_law_969 : decode cL_law 969 = .ok (.iaload, 1) := by decide +kernel
theorem dL_law_970 : decode cL_law 970 = .ok (.aload_n 0, 1) := by decide +kernel
theorem dL_law_971 : decode cL_law 971 = .ok (.iload 4, 2) := by decide +kernel
theorem dL_law_973 : decode cL_law 973 = .ok (.iconst 2, 1) := by decide +kernel
theorem dL_law_974 : decode cL_law 974 = .ok (.iadd, 1) := by decide +kernel
theorem dL_law_975 : decode cL_law 975 = .ok (.iaload, 1) := by decide +kernel
theorem dL_law_976 : decode cL_law 976 = .ok (.invokevirtual 120, 3) := by decide +kernel
theorem dL_law_979 : decode cL_law 979 = .ok (.if_icmp .eq 414, 3) := by decide +kernel
theorem dL_law_982 : decode cL_law 982 = .ok (.iconst 0, 1) := by decide +kernel
theorem dL_law_983 : decode cL_law 983 = .ok (.ireturn, 1) := by decide +kernel
theorem dL_law_984 : decode cL_law 984 = .ok (.aload_n 1, 1) := by decide +kernel
theorem dL_law_985 : decode cL_law 985 = .ok (.aload_n 0, 1) := by decide +kernel
theorem dL_law_986 : decode cL_law 986 = .ok (.iload 4, 2) := by decide +kernel
theorem dL_law_988 : decode cL_law 988 = .ok (.iconst 1, 1) := by decide +kernel
theorem dL_law_989 : decode cL_law 989 = .ok (.iadd, 1) := by decide +kernel
theorem dL_law_990 : decode cL_law 990 = .ok (.iaload, 1) := by decide +kernel
theorem dL_law_991 : decode cL_law 991 = .ok (.invokevirtual 121, 3) := by decide +kernel
theorem dL_law_994 : decode cL_law 994 = .ok (.aload_n 2, 1) := by decide +kernel
theorem dL_law_995 : decode cL_law 995 = .ok (.aload_n 0, 1) := by decide +kernel
theorem dL_law_996 : decode cL_law 996 = .ok (.iload 4, 2) := by decide +kernel
theorem dL_law_998 : decode cL_law 998 = .ok (.iconst 1, 1) := by decide +kernel
theorem dL_law_999 : decode cL_law 999 = .ok (.iadd, 1) := by decide +kernel
theorem dL_law_1000 : decode cL_law 1000 = .ok (.iaload, 1) := by decide +kernel
theorem dL_law_1001 : decode cL_law 1001 = .ok (.invokevirtual 124, 3) := by decide +kernel
theorem dL_law_1004 : decode cL_law 1004 = .ok (.if_icmp .eq 389, 3) := by decide +kernel
theorem dL_law_1007 : decode cL_law 1007 = .ok (.iconst 0, 1) := by decide +kernel
theorem dL_law_1008 : decode cL_law 1008 = .ok (.ireturn, 1) := by decide +kernel
theorem dL_law_1009 : decode cL_law 1009 = .ok (.aload_n 1, 1) := by decide +kernel
theorem dL_law_1010 : decode cL_law 1010 = .ok (.aload_n 0, 1) := by decide +kernel
theorem dL_law_1011 : decode cL_law 1011 = .ok (.iload 4, 2) := by decide +kernel
theorem dL_law_1013 : decode cL_law 1013 = .ok (.iconst 1, 1) := by decide +kernel
theorem dL_law_1014 : decode cL_law 1014 = .ok (.iadd, 1) := by decide +kernel
theorem dL_law_1015 : decode cL_law 1015 = .ok (.iaload, 1) := by decide +kernel
theorem dL_law_1016 : decode cL_law 1016 = .ok (.invokevirtual 125, 3) := by decide +kernel
theorem dL_law_1019 : decode cL_law 1019 = .ok (.aload_n 2, 1) := by decide +kernel
theorem dL_law_1020 : decode cL_law 1020 = .ok (.aload_n 0, 1) := by decide +kernel
theorem dL_law_1021 : decode cL_law 1021 = .ok (.iload 4, 2) := by decide +kernel
theorem dL_law_1023 : decode cL_law 1023 = .ok (.iconst 1, 1) := by decide +kernel
theorem dL_law_1024 : decode cL_law 1024 = .ok (.iadd, 1) := by decide +kernel
theorem dL_law_1025 : decode cL_law 1025 = .ok (.iaload, 1) := by decide +kernel
theorem dL_law_1026 : decode cL_law 1026 = .ok (.invokevirtual 128, 3) := by decide +kernel
theorem dL_law_1029 : decode cL_law 1029 = .ok (.if_icmp .eq 364, 3) := by decide +kernel
theorem dL_law_1032 : decode cL_law 1032 = .ok (.iconst 0, 1) := by decide +kernel
theorem dL_law_1033 : decode cL_law 1033 = .ok (.ireturn, 1) := by decide +kernel
theorem dL_law_1034 : decode cL_law 1034 = .ok (.aload_n 1, 1) := by decide +kernel
theorem dL_law_1035 : decode cL_law 1035 = .ok (.aload_n 0, 1) := by decide +kernel
theorem dL_law_1036 : decode cL_law 1036 = .ok (.iload 4, 2) := by decide +kernel
theorem dL_law_1038 : decode cL_law 1038 = .ok (.iconst 1, 1) := by decide +kernel
theorem dL_law_1039 : decode cL_law 1039 = .ok (.iadd, 1) := by decide +kernel
theorem dL_law_1040 : decode cL_law 1040 = .ok (.iaload, 1) := by decide +kernel
theorem dL_law_1041 : decode cL_law 1041 = .ok (.invokevirtual 129, 3) := by decide +kernel
theorem dL_law_1044 : decode cL_law 1044 = .ok (.aload_n 2, 1) := by decide +kernel
theorem dL_law_1045 : decode cL_law 1045 = .ok (.aload_n 0, 1) := by decide +kernel
theorem dL_law_1046 : decode cL_law 1046 = .ok (.iload 4, 2) := by decide +kernel
theorem dL_law_1048 : decode cL_law 1048 = .ok (.iconst 1, 1) := by decide +kernel
theorem dL_law_1049 : decode cL_law 1049 = .ok (.iadd, 1) := by decide +kernel
theorem dL_law_1050 : decode cL_law 1050 = .ok (.iaload, 1) := by decide +kernel
theorem dL_law_1051 : decode cL_law 1051 = .ok (.invokevirtual 132, 3) := by decide +kernel
theorem dL_law_1054 : decode cL_law 1054 = .ok (.if_icmp .eq 339, 3) := by decide +kernel
theorem dL_law_1057 : decode cL_law 1057 = .ok (.iconst 0, 1) := by decide +kernel
theorem dL_law_1058 : decode cL_law 1058 = .ok (.ireturn, 1) := by decide +kernel
theorem dL_law_1059 : decode cL_law 1059 = .ok (.aload_n 1, 1) := by decide +kernel
theorem dL_law_1060 : decode cL_law 1060 = .ok (.invokevirtual 133, 3) := by decide +kernel
theorem dL_law_1063 : decode cL_law 1063 = .ok (.aload_n 2, 1) := by decide +kernel
theorem dL_law_1064 : decode cL_law 1064 = .ok (.invokevirtual 136, 3) := by decide +kernel
theorem dL_law_1067 : decode cL_law 1067 = .ok (.if_icmp .eq 326, 3) := by decide +kernel
theorem dL_law_1070 : decode cL_law 1070 = .ok (.iconst 0, 1) := by decide +kernel
theorem dL_law_1071 : decode cL_law 1071 = .ok (.ireturn, 1) := by decide +kernel
theorem dL_law_1072 : decode cL_law 1072 = .ok (.aload_n 1, 1) := by decide +kernel
theorem dL_law_1073 : decode cL_law 1073 = .ok (.aload_n 0, 1) := by decide +kernel
theorem dL_law_1074 : decode cL_law 1074 = .ok (.iload 4, 2) := by decide +kernel
theorem dL_law_1076 : decode cL_law 1076 = .ok (.iconst 1, 1) := by decide +kernel
theorem dL_law_1077 : decode cL_law 1077 = .ok (.iadd, 1) := by decide +kernel
theorem dL_law_1078 : decode cL_law 1078 = .ok (.iaload, 1) := by decide +kernel
theorem dL_law_1079 : decode cL_law 1079 = .ok (.invokevirtual 137, 3) := by decide +kernel
theorem dL_law_1082 : decode cL_law 1082 = .ok (.aload_n 2, 1) := by decide +kernel
theorem dL_law_1083 : decode cL_law 1083 = .ok (.aload_n 0, 1) := by decide +kernel
theorem dL_law_1084 : decode cL_law 1084 = .ok (.iload 4, 2) := by decide +kernel
theorem dL_law_1086 : decode cL_law 1086 = .ok (.iconst 1, 1) := by decide +kernel
theorem dL_law_1087 : decode cL_law 1087 = .ok (.iadd, 1) := by decide +kernel
theorem dL_law_1088 : decode cL_law 1088 = .ok (.iaload, 1) := by decide +kernel
theorem dL_law_1089 : decode cL_law 1089 = .ok (.invokevirtual 140, 3) := by decide +kernel
theorem dL_law_1092 : decode cL_law 1092 = .ok (.if_icmp .eq 301, 3) := by decide +kernel
theorem dL_law_1095 : decode cL_law 1095 = .ok (.iconst 0, 1) := by decide +kernel
theorem dL_law_1096 : decode cL_law 1096 = .ok (.ireturn, 1) := by decide +kernel
theorem dL_law_1097 : decode cL_law 1097 = .ok (.aload_n 1, 1) := by decide +kernel
theorem dL_law_1098 : decode cL_law 1098 = .ok (.aload_n 0, 1) := by decide +kernel
theorem dL_law_1099 : decode cL_law 1099 = .ok (.iload 4, 2) := by decide +kernel
theorem dL_law_1101 : decode cL_law 1101 = .ok (.iconst 1, 1) := by decide +kernel
theorem dL_law_1102 : decode cL_law 1102 = .ok (.iadd, 1) := by decide +kernel
theorem dL_law_1103 : decode cL_law 1103 = .ok (.iaload, 1) := by decide +kernel
theorem dL_law_1104 : decode cL_law 1104 = .ok (.invokevirtual 141, 3) := by decide +kernel
theorem dL_law_1107 : decode cL_law 1107 = .ok (.aload_n 2, 1) := by decide +kernel
theorem dL_law_1108 : decode cL_law 1108 = .ok (.aload_n 0, 1) := by decide +kernel
theorem dL_law_1109 : decode cL_law 1109 = .ok (.iload 4, 2) := by decide +kernel
theorem dL_law_1111 : decode cL_law 1111 = .ok (.iconst 1, 1) := by decide +kernel
theorem dL_law_1112 : decode cL_law 1112 = .ok (.iadd, 1) := by decide +kernel
theorem dL_law_1113 : decode cL_law 1113 = .ok (.iaload, 1) := by decide +kernel
theorem dL_law_1114 : decode cL_law 1114 = .ok (.invokevirtual 144, 3) := by decide +kernel
theorem dL_law_1117 : decode cL_law 1117 = .ok (.if_icmp .eq 276, 3) := by decide +kernel
theorem dL_law_1120 : decode cL_law 1120 = .ok (.iconst 0, 1) := by decide +kernel
theorem dL_law_1121 : decode cL_law 1121 = .ok (.ireturn, 1) := by decide +kernel
theorem dL_law_1122 : decode cL_law 1122 = .ok (.aload_n 1, 1) := by decide +kernel
theorem dL_law_1123 : decode cL_law 1123 = .ok (.aload_n 0, 1) := by decide +kernel
theorem dL_law_1124 : decode cL_law 1124 = .ok (.iload 4, 2) := by decide +kernel
theorem dL_law_1126 : decode cL_law 1126 = .ok (.iconst 1, 1) := by decide +kernel
theorem dL_law_1127 : decode cL_law 1127 = .ok (.iadd, 1) := by decide +kernel
theorem dL_law_1128 : decode cL_law 1128 = .ok (.iaload, 1) := by decide +kernel
theorem dL_law_1129 : decode cL_law 1129 = .ok (.invokevirtual 145, 3) := by decide +kernel
theorem dL_law_1132 : decode cL_law 1132 = .ok (.aload_n 2, 1) := by decide +kernel
theorem dL_law_1133 : decode cL_law 1133 = .ok (.aload_n 0, 1) := by decide +kernel
theorem dL_law_1134 : decode cL_law 1134 = .ok (.iload 4, 2) := by decide +kernel
theorem dL_law_1136 : decode cL_law 1136 = .ok (.iconst 1, 1) := by decide +kernel
theorem dL_law_1137 : decode cL_law 1137 = .ok (.iadd, 1) := by decide +kernel
theorem dL_law_1138 : decode cL_law 1138 = .ok (.iaload, 1) := by decide +kernel
theorem dL_law_1139 : decode cL_law 1139 = .ok (.invokevirtual 148, 3) := by decide +kernel
theorem dL_law_1142 : decode cL_law 1142 = .ok (.if_icmp .eq 251, 3) := by decide +kernel
theorem dL_law_1145 : decode cL_law 1145 = .ok (.iconst 0, 1) := by decide +kernel
theorem dL_law_1146 : decode cL_law 1146 = .ok (.ireturn, 1) := by decide +kernel
theorem dL_law_1147 : decode cL_law 1147 = .ok (.aload_n 1, 1) := by decide +kernel
theorem dL_law_1148 : decode cL_law 1148 = .ok (.aload_n 0, 1) := by decide +kernel
theorem dL_law_1149 : decode cL_law 1149 = .ok (.iload 4, 2) := by decide +kernel
theorem dL_law_1151 : decode cL_law 1151 = .ok (.iconst 1, 1) := by decide +kernel
theorem dL_law_1152 : decode cL_law 1152 = .ok (.iadd, 1) := by decide +kernel
theorem dL_law_1153 : decode cL_law 1153 = .ok (.iaload, 1) := by decide +kernel
theorem dL_law_1154 : decode cL_law 1154 = .ok (.ifCond .eq 7, 3) := by decide +kernel
theorem dL_law_1157 : decode cL_law 1157 = .ok (.iconst 1, 1) := by decide +kernel
theorem dL_law_1158 : decode cL_law 1158 = .ok (.goto 4, 3) := by decide +kernel
theorem dL_law_1161 : decode cL_law 1161 = .ok (.iconst 0, 1) := by decide +kernel
theorem dL_law_1162 : decode cL_law 1162 = .ok (.invokevirtual 149, 3) := by decide +kernel
theorem dL_law_1165 : decode cL_law 1165 = .ok (.aload_n 2, 1) := by decide +kernel
theorem dL_law_1166 : decode cL_law 1166 = .ok (.aload_n 0, 1) := by decide +kernel
theorem dL_law_1167 : decode cL_law 1167 = .ok (.iload 4, 2) := by decide +kernel
theorem dL_law_1169 : decode cL_law 1169 = .ok (.iconst 1, 1) := by decide +kernel
theorem dL_law_1170 : decode cL_law 1170 = .ok (.iadd, 1) := by decide +kernel
theorem dL_law_1171 : decode cL_law 1171 = .ok (.iaload, 1) := by decide +kernel
theorem dL_law_1172 : decode cL_law 1172 = .ok (.ifCond .eq 7, 3) := by decide +kernel
theorem dL_law_1175 : decode cL_law 1175 = .ok (.iconst 1, 1) := by decide +kernel
theorem dL_law_1176 : decode cL_law 1176 = .ok (.goto 4, 3) := by decide +kernel
theorem dL_law_1179 : decode cL_law 1179 = .ok (.iconst 0, 1) := by decide +kernel
theorem dL_law_1180 : decode cL_law 1180 = .ok (.invokevirtual 153, 3) := by decide +kernel
theorem dL_law_1183 : decode cL_law 1183 = .ok (.if_icmp .eq 210, 3) := by decide +kernel
theorem dL_law_1186 : decode cL_law 1186 = .ok (.iconst 0, 1) := by decide +kernel
theorem dL_law_1187 : decode cL_law 1187 = .ok (.ireturn, 1) := by decide +kernel
theorem dL_law_1188 : decode cL_law 1188 = .ok (.aload_n 1, 1) := by decide +kernel
theorem dL_law_1189 : decode cL_law 1189 = .ok (.aload_n 0, 1) := by decide +kernel
theorem dL_law_1190 : decode cL_law 1190 = .ok (.iload 4, 2) := by decide +kernel
theorem dL_law_1192 : decode cL_law 1192 = .ok (.iconst 1, 1) := by decide +kernel
theorem dL_law_1193 : decode cL_law 1193 = .ok (.iadd, 1) := by decide +kernel
theorem dL_law_1194 : decode cL_law 1194 = .ok (.iaload, 1) := by decide +kernel
theorem dL_law_1195 : decode cL_law 1195 = .ok (.invokevirtual 154, 3) := by decide +kernel
theorem dL_law_1198 : decode cL_law 1198 = .ok (.aload_n 2, 1) := by decide +kernel
theorem dL_law_1199 : decode cL_law 1199 = .ok (.aload_n 0, 1) := by decide +kernel
theorem dL_law_1200 : decode cL_law 1200 = .ok (.iload 4, 2) := by decide +kernel
theorem dL_law_1202 : decode cL_law 1202 = .ok (.iconst 1, 1) := by decide +kernel
theorem dL_law_1203 : decode cL_law 1203 = .ok (.iadd, 1) := by decide +kernel
theorem dL_law_1204 : decode cL_law 1204 = .ok (.iaload, 1) := by decide +kernel
theorem dL_law_1205 : decode cL_law 1205 = .ok (.invokevirtual 157, 3) := by decide +kernel
theorem dL_law_1208 : decode cL_law 1208 = .ok (.if_icmp .eq 185, 3) := by decide +kernel
theorem dL_law_1211 : decode cL_law 1211 = .ok (.iconst 0, 1) := by decide +kernel
theorem dL_law_1212 : decode cL_law 1212 = .ok (.ireturn, 1) := by decide +kernel
theorem dL_law_1213 : decode cL_law 1213 = .ok (.aload_n 1, 1) := by decide +kernel
theorem dL_law_1214 : decode cL_law 1214 = .ok (.invokevirtual 158, 3) := by decide +kernel
theorem dL_law_1217 : decode cL_law 1217 = .ok (.aload_n 2, 1) := by decide +kernel
theorem dL_law_1218 : decode cL_law 1218 = .ok (.invokevirtual 161, 3) := by decide +kernel
theorem dL_law_1221 : decode cL_law 1221 = .ok (.if_icmp .eq 172, 3) := by decide +kernel
theorem dL_law_1224 : decode cL_law 1224 = .ok (.iconst 0, 1) := by decide +kernel
theorem dL_law_1225 : decode cL_law 1225 = .ok (.ireturn, 1) := by decide +kernel
theorem dL_law_1226 : decode cL_law 1226 = .ok (.aload_n 1, 1) := by decide +kernel
theorem dL_law_1227 : decode cL_law 1227 = .ok (.aload_n 0, 1) := by decide +kernel
theorem dL_law_1228 : decode cL_law 1228 = .ok (.iload 4, 2) := by decide +kernel
theorem dL_law_1230 : decode cL_law 1230 = .ok (.iconst 1, 1) := by decide +kernel
theorem dL_law_1231 : decode cL_law 1231 = .ok (.iadd, 1) := by decide +kernel
theorem dL_law_1232 : decode cL_law 1232 = .ok (.iaload, 1) := by decide +kernel
theorem dL_law_1233 : decode cL_law 1233 = .ok (.invokevirtual 162, 3) := by decide +kernel
theorem dL_law_1236 : decode cL_law 1236 = .ok (.aload_n 2, 1) := by decide +kernel
theorem dL_law_1237 : decode cL_law 1237 = .ok (.aload_n 0, 1) := by decide +kernel
theorem dL_law_1238 : decode cL_law 1238 = .ok (.iload 4, 2) := by decide +kernel
theorem dL_law_1240 : decode cL_law 1240 = .ok (.iconst 1, 1) := by decide +kernel
theorem dL_law_1241 : decode cL_law 1241 = .ok (.iadd, 1) := by decide +kernel
theorem dL_law_1242 : decode cL_law 1242 = .ok (.iaload, 1) := by decide +kernel
theorem dL_law_1243 : decode cL_law 1243 = .ok (.invokevirtual 165, 3) := by decide +kernel
theorem dL_law_1246 : decode cL_law 1246 = .ok (.if_icmp .eq 147, 3) := by decide +kernel
theorem dL_law_1249 : decode cL_law 1249 = .ok (.iconst 0, 1) := by decide +kernel
theorem dL_law_1250 : decode cL_law 1250 = .ok (.ireturn, 1) := by decide +kernel
theorem dL_law_1251 : decode cL_law 1251 = .ok (.aload_n 1, 1) := by decide +kernel
theorem dL_law_1252 : decode cL_law 1252 = .ok (.aload_n 0, 1) := by decide +kernel
theorem dL_law_1253 : decode cL_law 1253 = .ok (.iload 4, 2) := by decide +kernel
theorem dL_law_1255 : decode cL_law 1255 = .ok (.iconst 1, 1) := by decide +kernel
theorem dL_law_1256 : decode cL_law 1256 = .ok (.iadd, 1) := by decide +kernel
theorem dL_law_1257 : decode cL_law 1257 = .ok (.iaload, 1) := by decide +kernel
theorem dL_law_1258 : decode cL_law 1258 = .ok (.aload_n 0, 1) := by decide +kernel
theorem dL_law_1259 : decode cL_law 1259 = .ok (.iload 4, 2) := by decide +kernel
theorem dL_law_1261 : decode cL_law 1261 = .ok (.iconst 2, 1) := by decide +kernel
theorem dL_law_1262 : decode cL_law 1262 = .ok (.iadd, 1) := by decide +kernel
theorem dL_law_1263 : decode cL_law 1263 = .ok (.iaload, 1) := by decide +kernel
theorem dL_law_1264 : decode cL_law 1264 = .ok (.invokevirtual 166, 3) := by decide +kernel
theorem dL_law_1267 : decode cL_law 1267 = .ok (.aload_n 2, 1) := by decide +kernel
theorem dL_law_1268 : decode cL_law 1268 = .ok (.aload_n 0, 1) := by decide +kernel
theorem dL_law_1269 : decode cL_law 1269 = .ok (.iload 4, 2) := by decide +kernel
theorem dL_law_1271 : decode cL_law 1271 = .ok (.iconst 1, 1) := by decide +kernel
theorem dL_law_1272 : decode cL_law 1272 = .ok (.iadd, 1) := by decide +kernel
theorem dL_law_1273 : decode cL_law 1273 = .ok (.iaload, 1) := by decide +kernel
theorem dL_law_1274 : decode cL_law 1274 = .ok (.aload_n 0, 1) := by decide +kernel
theorem dL_law_1275 : decode cL_law 1275 = .ok (.iload 4, 2) := by decide +kernel
theorem dL_law_1277 : decode cL_law 1277 = .ok (.iconst 2, 1) := by decide +kernel
theorem dL_law_1278 : decode cL_law 1278 = .ok (.iadd, 1) := by decide +kernel
theorem dL_law_1279 : decode cL_law 1279 = .ok (.iaload, 1) := by decide +kernel
theorem dL_law_1280 : decode cL_law 1280 = .ok (.invokevirtual 169, 3) := by decide +kernel
theorem dL_law_1283 : decode cL_law 1283 = .ok (.if_icmp .eq 110, 3) := by decide +kernel
theorem dL_law_1286 : decode cL_law 1286 = .ok (.iconst 0, 1) := by decide +kernel
theorem dL_law_1287 : decode cL_law 1287 = .ok (.ireturn, 1) := by decide +kernel
theorem dL_law_1288 : decode cL_law 1288 = .ok (.aload_n 1, 1) := by decide +kernel
theorem dL_law_1289 : decode cL_law 1289 = .ok (.aload_n 0, 1) := by decide +kernel
theorem dL_law_1290 : decode cL_law 1290 = .ok (.iload 4, 2) := by decide +kernel
theorem dL_law_1292 : decode cL_law 1292 = .ok (.iconst 1, 1) := by decide +kernel
theorem dL_law_1293 : decode cL_law 1293 = .ok (.iadd, 1) := by decide +kernel
theorem dL_law_1294 : decode cL_law 1294 = .ok (.iaload, 1) := by decide +kernel
theorem dL_law_1295 : decode cL_law 1295 = .ok (.invokevirtual 170, 3) := by decide +kernel
theorem dL_law_1298 : decode cL_law 1298 = .ok (.aload_n 2, 1) := by decide +kernel
theorem dL_law_1299 : decode cL_law 1299 = .ok (.aload_n 0, 1) := by decide +kernel
theorem dL_law_1300 : decode cL_law 1300 = .ok (.iload 4, 2) := by decide +kernel
theorem dL_law_1302 : decode cL_law 1302 = .ok (.iconst 1, 1) := by decide +kernel
theorem dL_law_1303 : decode cL_law 1303 = .ok (.iadd, 1) := by decide +kernel
theorem dL_law_1304 : decode cL_law 1304 = .ok (.iaload, 1) := by decide +kernel
theorem dL_law_1305 : decode cL_law 1305 = .ok (.invokevirtual 173, 3) := by decide +kernel
theorem dL_law_1308 : decode cL_law 1308 = .ok (.if_icmp .eq 85, 3) := by decide +kernel
theorem dL_law_1311 : decode cL_law 1311 = .ok (.iconst 0, 1) := by decide +kernel
theorem dL_law_1312 : decode cL_law 1312 = .ok (.ireturn, 1) := by decide +kernel
theorem dL_law_1313 : decode cL_law 1313 = .ok (.aload_n 1, 1) := by decide +kernel
theorem dL_law_1314 : decode cL_law 1314 = .ok (.aload_n 0, 1) := by decide +kernel
theorem dL_law_1315 : decode cL_law 1315 = .ok (.iload 4, 2) := by decide +kernel
theorem dL_law_1317 : decode cL_law 1317 = .ok (.iconst 1, 1) := by decide +kernel
theorem dL_law_1318 : decode cL_law 1318 = .ok (.iadd, 1) := by decide +kernel
theorem dL_law_1319 : decode cL_law 1319 = .ok (.iaload, 1) := by decide +kernel
theorem dL_law_1320 : decode cL_law 1320 = .ok (.invokevirtual 174, 3) := by decide +kernel
theorem dL_law_1323 : decode cL_law 1323 = .ok (.aload_n 2, 1) := by decide +kernel
theorem dL_law_1324 : decode cL_law 1324 = .ok (.aload_n 0, 1) := by decide +kernel
theorem dL_law_1325 : decode cL_law 1325 = .ok (.iload 4, 2) := by decide +kernel
theorem dL_law_1327 : decode cL_law 1327 = .ok (.iconst 1, 1) := by decide +kernel
theorem dL_law_1328 : decode cL_law 1328 = .ok (.iadd, 1) := by decide +kernel
theorem dL_law_1329 : decode cL_law 1329 = .ok (.iaload, 1) := by decide +kernel
theorem dL_law_1330 : decode cL_law 1330 = .ok (.invokevirtual 178, 3) := by decide +kernel
theorem dL_law_1333 : decode cL_law 1333 = .ok (.if_icmp .eq 60, 3) := by decide +kernel
theorem dL_law_1336 : decode cL_law 1336 = .ok (.iconst 0, 1) := by decide +kernel
theorem dL_law_1337 : decode cL_law 1337 = .ok (.ireturn, 1) := by decide +kernel
theorem dL_law_1338 : decode cL_law 1338 = .ok (.aload_n 1, 1) := by decide +kernel
theorem dL_law_1339 : decode cL_law 1339 = .ok (.aload_n 0, 1) := by decide +kernel
theorem dL_law_1340 : decode cL_law 1340 = .ok (.iload 4, 2) := by decide +kernel
theorem dL_law_1342 : decode cL_law 1342 = .ok (.iconst 1, 1) := by decide +kernel
theorem dL_law_1343 : decode cL_law 1343 = .ok (.iadd, 1) := by decide +kernel
theorem dL_law_1344 : decode cL_law 1344 = .ok (.iaload, 1) := by decide +kernel
theorem dL_law_1345 : decode cL_law 1345 = .ok (.aload_n 3, 1) := by decide +kernel
theorem dL_law_1346 : decode cL_law 1346 = .ok (.invokestatic 179, 3) := by decide +kernel
theorem dL_law_1349 : decode cL_law 1349 = .ok (.istore 5, 2) := by decide +kernel
theorem dL_law_1351 : decode cL_law 1351 = .ok (.aload_n 2, 1) := by decide +kernel
theorem dL_law_1352 : decode cL_law 1352 = .ok (.aload_n 0, 1) := by decide +kernel
theorem dL_law_1353 : decode cL_law 1353 = .ok (.iload 4, 2) := by decide +kernel
theorem dL_law_1355 : decode cL_law 1355 = .ok (.iconst 1, 1) := by decide +kernel
theorem dL_law_1356 : decode cL_law 1356 = .ok (.iadd, 1) := by decide +kernel
theorem dL_law_1357 : decode cL_law 1357 = .ok (.iaload, 1) := by decide +kernel
theorem dL_law_1358 : decode cL_law 1358 = .ok (.invokevirtual 182, 3) := by decide +kernel
theorem dL_law_1361 : decode cL_law 1361 = .ok (.lstore 6, 2) := by decide +kernel
theorem dL_law_1363 : decode cL_law 1363 = .ok (.aload_n 2, 1) := by decide +kernel
theorem dL_law_1364 : decode cL_law 1364 = .ok (.invokevirtual 71, 3) := by decide +kernel
theorem dL_law_1367 : decode cL_law 1367 = .ok (.iload 5, 2) := by decide +kernel
theorem dL_law_1369 : decode cL_law 1369 = .ok (.if_icmp .eq 5, 3) := by decide +kernel
theorem dL_law_1372 : decode cL_law 1372 = .ok (.iconst 0, 1) := by decide +kernel
theorem dL_law_1373 : decode cL_law 1373 = .ok (.ireturn, 1) := by decide +kernel
theorem dL_law_1374 : decode cL_law 1374 = .ok (.iload 5, 2) := by decide +kernel
theorem dL_law_1376 : decode cL_law 1376 = .ok (.ifCond .ne 14, 3) := by decide +kernel
theorem dL_law_1379 : decode cL_law 1379 = .ok (.aload_n 3, 1) := by decide +kernel
theorem dL_law_1380 : decode cL_law 1380 = .ok (.iconst 0, 1) := by decide +kernel
theorem dL_law_1381 : decode cL_law 1381 = .ok (.laload, 1) := by decide +kernel
theorem dL_law_1382 : decode cL_law 1382 = .ok (.lload 6, 2) := by decide +kernel
theorem dL_law_1384 : decode cL_law 1384 = .ok (.lcmp, 1) := by decide +kernel
theorem dL_law_1385 : decode cL_law 1385 = .ok (.ifCond .eq 5, 3) := by decide +kernel
theorem dL_law_1388 : decode cL_law 1388 = .ok (.iconst 0, 1) := by decide +kernel
theorem dL_law_1389 : decode cL_law 1389 = .ok (.ireturn, 1) := by decide +kernel
theorem dL_law_1390 : decode cL_law 1390 = .ok (.goto 3, 3) := by decide +kernel
theorem dL_law_1393 : decode cL_law 1393 = .ok (.iinc 4 5, 3) := by decide +kernel
theorem dL_law_1396 : decode cL_law 1396 = .ok (.goto (-1373), 3) := by decide +kernel
theorem dL_law_1399 : decode cL_law 1399 = .ok (.iconst 1, 1) := by decide +kernel
theorem dL_law_1400 : decode cL_law 1400 = .ok (.ireturn, 1) := by decide +kernel
abbrev vwCl : List vw_C := [(RX0, TX0, 3), (RX1, TX1, 3), (RX2, TX2, 6), (RX3, TX3, 2), (RX4, TX4, 3), (RX5, TX5, 2), (RX6, TX6, 12), (RX7, TX7, 27)]
