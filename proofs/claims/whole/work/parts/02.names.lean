/-! ===== BEGIN words of one list among another's, by their places ===== -/
theorem goodIn_r {big : List Cond} (ws : List Cond) (ps : List Nat) (hp : ws = ps.filterMap (fun i => big[i]?)) (h : ws.all goodWord = true) : GoodIn big ws := by
  intro w hw
  have h1 := List.all_eq_true.mp h w hw
  rw [hp] at hw
  obtain ⟨i, -, hi⟩ := List.mem_filterMap.mp hw
  have hm : w ∈ big := by first | exact List.mem_of_getElem? hi | exact List.getElem?_mem hi
  exact ⟨hm, good_of_word h1⟩
theorem goodIn_app {big a b : List Cond} (ha : GoodIn big a) (hb : GoodIn big b) : GoodIn big (a ++ b) := fun w h => (List.mem_append.mp h).elim (ha w) (hb w)
theorem goodIn_ca {big a b : List Cond} {c : Cond} (ha : GoodIn big (c :: a)) (hb : GoodIn big b) : GoodIn big (c :: (a ++ b)) := fun w h => (List.mem_cons.mp h).elim (fun e => ha w (List.mem_cons.mpr (Or.inl e))) (fun h => (List.mem_append.mp h).elim (fun h => ha w (List.mem_cons.mpr (Or.inr h))) (hb w))
theorem goodIn_sub {big ws : List Cond} (hm : ∀ w ∈ ws, w ∈ big) (h : ws.all goodWord = true) : GoodIn big ws := fun w hw => ⟨hm w hw, good_of_word (List.all_eq_true.mp h w hw)⟩
/-! ===== END ===== -/

/-! ===== BEGIN printed: names, fields, word lists, decode rows ===== -/
def RX0 : String := "FlexTerms$Bodies"
def TX0 : u_T := fun k => match k with
  | 0 => ("FlexTerms$Bodies", "words", "[I", true)
  | 1 => ("FlexTerms$Bodies", "firsts", "[I", true)
  | _ => ("FlexTerms$Bodies", "count", "I", false)
def tyX0 : Nat → FieldType := fun k => match k with
  | 0 => .array .int
  | 1 => .array .int
  | _ => .int
abbrev wsX00 : List Cond := u_ws RX0 TX0 3
theorem nmX0 : ∀ a, a < 3 → ∀ b, b < 3 → a ≠ b → (TX0 a).2.1 ≠ (TX0 b).2.1 := by decide +kernel
theorem tyX0_ok : ∀ k, k < 3 → parseFieldDescriptor (TX0 k).2.2.1 = some (tyX0 k) := by decide +kernel
abbrev cX0_init : ByteArray := prog_2_method_1_code
def yX0_init : MethodName := ⟨RX0, "<init>", "()V"⟩
abbrev cX0_first : ByteArray := prog_2_method_2_code
def yX0_first : MethodName := ⟨RX0, "first", "(II)I"⟩
abbrev cX0_end : ByteArray := prog_2_method_3_code
def yX0_end : MethodName := ⟨RX0, "end", "(II)I"⟩
abbrev cX0_word : ByteArray := prog_2_method_4_code
def yX0_word : MethodName := ⟨RX0, "word", "(I)I"⟩
abbrev cX0_letterIn : ByteArray := prog_2_method_5_code
def yX0_letterIn : MethodName := ⟨RX0, "letterIn", "(II)I"⟩
abbrev cX0_lettersIn : ByteArray := prog_2_method_6_code
def yX0_lettersIn : MethodName := ⟨RX0, "lettersIn", "(I)I"⟩
abbrev cX0_wordFor : ByteArray := prog_2_method_7_code
def yX0_wordFor : MethodName := ⟨RX0, "wordFor", "(Ljava/lang/String;)I"⟩
abbrev cX0_bound : ByteArray := prog_2_method_8_code
def yX0_bound : MethodName := ⟨RX0, "bound", "(I)I"⟩
abbrev cX0_spell : ByteArray := prog_2_method_9_code
def yX0_spell : MethodName := ⟨RX0, "spell", "(IIIII)V"⟩
abbrev cX0_keep : ByteArray := prog_2_method_10_code
def yX0_keep : MethodName := ⟨RX0, "keep", "(I)V"⟩
def RX1 : String := "FlexTerms$Choice"
def TX1 : u_T := fun k => match k with
  | 0 => ("FlexTerms$Choice", "words", "[I", true)
  | 1 => ("FlexTerms$Choice", "plain", "[I", true)
  | 2 => ("FlexTerms$Choice", "ones", "[I", true)
  | _ => ("FlexTerms$Choice", "twos", "[I", true)
def tyX1 : Nat → FieldType := fun k => match k with
  | 0 => .array .int
  | 1 => .array .int
  | 2 => .array .int
  | _ => .array .int
abbrev wsX10 : List Cond := u_ws RX1 TX1 4
theorem nmX1 : ∀ a, a < 4 → ∀ b, b < 4 → a ≠ b → (TX1 a).2.1 ≠ (TX1 b).2.1 := by decide +kernel
theorem tyX1_ok : ∀ k, k < 4 → parseFieldDescriptor (TX1 k).2.2.1 = some (tyX1 k) := by decide +kernel
abbrev cX1_init : ByteArray := prog_3_method_1_code
def yX1_init : MethodName := ⟨RX1, "<init>", "()V"⟩
abbrev cX1_take : ByteArray := prog_3_method_2_code
def yX1_take : MethodName := ⟨RX1, "take", "(II)V"⟩
abbrev cX1_word : ByteArray := prog_3_method_3_code
def yX1_word : MethodName := ⟨RX1, "word", "(I)I"⟩
abbrev cX1_nodesWith : ByteArray := prog_3_method_4_code
def yX1_nodesWith : MethodName := ⟨RX1, "nodesWith", "(III)I"⟩
def RX2 : String := "FlexTerms$Equations"
def TX2 : u_T := fun k => match k with
  | 0 => ("FlexTerms$Equations", "letters", "[I", true)
  | 1 => ("FlexTerms$Equations", "starts", "[I", true)
  | 2 => ("FlexTerms$Equations", "nodes", "[I", true)
  | 3 => ("FlexTerms$Equations", "depths", "[I", true)
  | 4 => ("FlexTerms$Equations", "seconds", "[I", true)
  | 5 => ("FlexTerms$Equations", "sides", "I", false)
  | _ => ("FlexTerms$Equations", "total", "I", false)
def tyX2 : Nat → FieldType := fun k => match k with
  | 0 => .array .int
  | 1 => .array .int
  | 2 => .array .int
  | 3 => .array .int
  | 4 => .array .int
  | 5 => .int
  | _ => .int
abbrev wsX20 : List Cond := u_ws RX2 TX2 7
theorem nmX2 : ∀ a, a < 7 → ∀ b, b < 7 → a ≠ b → (TX2 a).2.1 ≠ (TX2 b).2.1 := by decide +kernel
theorem tyX2_ok : ∀ k, k < 7 → parseFieldDescriptor (TX2 k).2.2.1 = some (tyX2 k) := by decide +kernel
abbrev cX2_init : ByteArray := prog_4_method_1_code
def yX2_init : MethodName := ⟨RX2, "<init>", "()V"⟩
abbrev cX2_erase : ByteArray := prog_4_method_2_code
def yX2_erase : MethodName := ⟨RX2, "erase", "()V"⟩
abbrev cX2_append : ByteArray := prog_4_method_3_code
def yX2_append : MethodName := ⟨RX2, "append", "(I)Z"⟩
abbrev cX2_endSide : ByteArray := prog_4_method_4_code
def yX2_endSide : MethodName := ⟨RX2, "endSide", "()V"⟩
abbrev cX2_awaitsLeft : ByteArray := prog_4_method_5_code
def yX2_awaitsLeft : MethodName := ⟨RX2, "awaitsLeft", "()Z"⟩
abbrev cX2_count : ByteArray := prog_4_method_6_code
def yX2_count : MethodName := ⟨RX2, "count", "()I"⟩
abbrev cX2_total : ByteArray := prog_4_method_7_code
def yX2_total : MethodName := ⟨RX2, "total", "()I"⟩
abbrev cX2_has : ByteArray := prog_4_method_8_code
def yX2_has : MethodName := ⟨RX2, "has", "(I)Z"⟩
abbrev cX2_start : ByteArray := prog_4_method_9_code
def yX2_start : MethodName := ⟨RX2, "start", "(II)I"⟩
abbrev cX2_letterAt : ByteArray := prog_4_method_10_code
def yX2_letterAt : MethodName := ⟨RX2, "letterAt", "(I)I"⟩
abbrev cX2_nodesAt : ByteArray := prog_4_method_11_code
def yX2_nodesAt : MethodName := ⟨RX2, "nodesAt", "(I)I"⟩
abbrev cX2_depthAt : ByteArray := prog_4_method_12_code
def yX2_depthAt : MethodName := ⟨RX2, "depthAt", "(I)I"⟩
abbrev cX2_secondOf : ByteArray := prog_4_method_13_code
def yX2_secondOf : MethodName := ⟨RX2, "secondOf", "(I)I"⟩
abbrev cX2_flexIn : ByteArray := prog_4_method_14_code
def yX2_flexIn : MethodName := ⟨RX2, "flexIn", "(II)I"⟩
abbrev cX2_copyFrom : ByteArray := prog_4_method_15_code
def yX2_copyFrom : MethodName := ⟨RX2, "copyFrom", "(LFlexTerms$Equations;)V"⟩
abbrev cX2_remove : ByteArray := prog_4_method_16_code
def yX2_remove : MethodName := ⟨RX2, "remove", "(I)V"⟩
abbrev cX2_turn : ByteArray := prog_4_method_17_code
def yX2_turn : MethodName := ⟨RX2, "turn", "(I)V"⟩
abbrev cX2_measure : ByteArray := prog_4_method_18_code
def yX2_measure : MethodName := ⟨RX2, "measure", "()V"⟩
def RX3 : String := "FlexTerms$Growth"
def TX3 : u_T := fun k => match k with
  | 0 => ("FlexTerms$Growth", "equations", "LFlexTerms$Equations;", true)
  | 1 => ("FlexTerms$Growth", "choice", "LFlexTerms$Choice;", true)
  | 2 => ("FlexTerms$Growth", "kinds", "[I", true)
  | 3 => ("FlexTerms$Growth", "seconds", "[I", true)
  | 4 => ("FlexTerms$Growth", "sizes", "[I", true)
  | 5 => ("FlexTerms$Growth", "places", "[I", true)
  | 6 => ("FlexTerms$Growth", "grown", "[I", true)
  | _ => ("FlexTerms$Growth", "used", "I", false)
def tyX3 : Nat → FieldType := fun k => match k with
  | 0 => .object "FlexTerms$Equations"
  | 1 => .object "FlexTerms$Choice"
  | 2 => .array .int
  | 3 => .array .int
  | 4 => .array .int
  | 5 => .array .int
  | 6 => .array .int
  | _ => .int
abbrev wsX30 : List Cond := u_ws RX3 TX3 8
theorem nmX3 : ∀ a, a < 8 → ∀ b, b < 8 → a ≠ b → (TX3 a).2.1 ≠ (TX3 b).2.1 := by decide +kernel
theorem tyX3_ok : ∀ k, k < 8 → parseFieldDescriptor (TX3 k).2.2.1 = some (tyX3 k) := by decide +kernel
abbrev cX3_init : ByteArray := prog_5_method_1_code
def yX3_init : MethodName := ⟨RX3, "<init>", "(LFlexTerms$Equations;)V"⟩
abbrev cX3_prepare : ByteArray := prog_5_method_2_code
def yX3_prepare : MethodName := ⟨RX3, "prepare", "()V"⟩
abbrev cX3_take : ByteArray := prog_5_method_3_code
def yX3_take : MethodName := ⟨RX3, "take", "(II)V"⟩
abbrev cX3_word : ByteArray := prog_5_method_4_code
def yX3_word : MethodName := ⟨RX3, "word", "(I)I"⟩
abbrev cX3_sizeAt : ByteArray := prog_5_method_5_code
def yX3_sizeAt : MethodName := ⟨RX3, "sizeAt", "(I)I"⟩
abbrev cX3_fits : ByteArray := prog_5_method_6_code
def yX3_fits : MethodName := ⟨RX3, "fits", "(I)Z"⟩
abbrev cX3_agree : ByteArray := prog_5_method_7_code
def yX3_agree : MethodName := ⟨RX3, "agree", "(II)Z"⟩
abbrev cX3_grow : ByteArray := prog_5_method_8_code
def yX3_grow : MethodName := ⟨RX3, "grow", "(I)V"⟩
abbrev cX3_letterOf : ByteArray := prog_5_method_9_code
def yX3_letterOf : MethodName := ⟨RX3, "letterOf", "(II)I"⟩
abbrev cX3_measure : ByteArray := prog_5_method_10_code
def yX3_measure : MethodName := ⟨RX3, "measure", "(I)V"⟩
abbrev cX3_build : ByteArray := prog_5_method_11_code
def yX3_build : MethodName := ⟨RX3, "build", "(I)V"⟩
abbrev cX3_copyPart : ByteArray := prog_5_method_12_code
def yX3_copyPart : MethodName := ⟨RX3, "copyPart", "(I)V"⟩
def RX4 : String := "FlexTerms$History"
def TX4 : u_T := fun k => match k with
  | 0 => ("FlexTerms$History", "states", "[LFlexTerms$Equations;", true)
  | _ => ("FlexTerms$History", "count", "I", false)
def tyX4 : Nat → FieldType := fun k => match k with
  | 0 => .array (.object "FlexTerms$Equations")
  | _ => .int
abbrev wsX40 : List Cond := u_ws RX4 TX4 2
theorem nmX4 : ∀ a, a < 2 → ∀ b, b < 2 → a ≠ b → (TX4 a).2.1 ≠ (TX4 b).2.1 := by decide +kernel
theorem tyX4_ok : ∀ k, k < 2 → parseFieldDescriptor (TX4 k).2.2.1 = some (tyX4 k) := by decide +kernel
abbrev cX4_init : ByteArray := prog_6_method_1_code
def yX4_init : MethodName := ⟨RX4, "<init>", "()V"⟩
abbrev cX4_count : ByteArray := prog_6_method_2_code
def yX4_count : MethodName := ⟨RX4, "count", "()I"⟩
abbrev cX4_push : ByteArray := prog_6_method_3_code
def yX4_push : MethodName := ⟨RX4, "push", "(LFlexTerms$Equations;)V"⟩
abbrev cX4_popInto : ByteArray := prog_6_method_4_code
def yX4_popInto : MethodName := ⟨RX4, "popInto", "(LFlexTerms$Equations;)Z"⟩
def RX5 : String := "FlexTerms$Letters"
def TX5 : u_T := fun k => match k with
  | _ => ("", "", "", false)
def tyX5 : Nat → FieldType := fun k => match k with
  | _ => .int
abbrev wsX50 : List Cond := u_ws RX5 TX5 0
theorem nmX5 : ∀ a, a < 0 → ∀ b, b < 0 → a ≠ b → (TX5 a).2.1 ≠ (TX5 b).2.1 := by decide +kernel
theorem tyX5_ok : ∀ k, k < 0 → parseFieldDescriptor (TX5 k).2.2.1 = some (tyX5 k) := by decide +kernel
abbrev cX5_kind : ByteArray := prog_7_method_2_code
def yX5_kind : MethodName := ⟨RX5, "kind", "(I)I"⟩
abbrev cX5_isFlex : ByteArray := prog_7_method_3_code
def yX5_isFlex : MethodName := ⟨RX5, "isFlex", "(I)Z"⟩
abbrev cX5_parts : ByteArray := prog_7_method_4_code
def yX5_parts : MethodName := ⟨RX5, "parts", "(I)I"⟩
def RX6 : String := "FlexTerms$Pairs"
def TX6 : u_T := fun k => match k with
  | 0 => ("FlexTerms$Pairs", "equations", "LFlexTerms$Equations;", true)
  | 1 => ("FlexTerms$Pairs", "lefts", "[I", true)
  | 2 => ("FlexTerms$Pairs", "rights", "[I", true)
  | _ => ("FlexTerms$Pairs", "count", "I", false)
def tyX6 : Nat → FieldType := fun k => match k with
  | 0 => .object "FlexTerms$Equations"
  | 1 => .array .int
  | 2 => .array .int
  | _ => .int
abbrev wsX60 : List Cond := u_ws RX6 TX6 4
theorem nmX6 : ∀ a, a < 4 → ∀ b, b < 4 → a ≠ b → (TX6 a).2.1 ≠ (TX6 b).2.1 := by decide +kernel
theorem tyX6_ok : ∀ k, k < 4 → parseFieldDescriptor (TX6 k).2.2.1 = some (tyX6 k) := by decide +kernel
abbrev cX6_init : ByteArray := prog_8_method_1_code
def yX6_init : MethodName := ⟨RX6, "<init>", "(LFlexTerms$Equations;)V"⟩
abbrev cX6_count : ByteArray := prog_8_method_2_code
def yX6_count : MethodName := ⟨RX6, "count", "()I"⟩
abbrev cX6_left : ByteArray := prog_8_method_3_code
def yX6_left : MethodName := ⟨RX6, "left", "(I)I"⟩
abbrev cX6_right : ByteArray := prog_8_method_4_code
def yX6_right : MethodName := ⟨RX6, "right", "(I)I"⟩
abbrev cX6_kind : ByteArray := prog_8_method_5_code
def yX6_kind : MethodName := ⟨RX6, "kind", "(I)I"⟩
abbrev cX6_ways : ByteArray := prog_8_method_6_code
def yX6_ways : MethodName := ⟨RX6, "ways", "(I)I"⟩
abbrev cX6_howMany : ByteArray := prog_8_method_7_code
def yX6_howMany : MethodName := ⟨RX6, "howMany", "(I)I"⟩
abbrev cX6_lastFlex : ByteArray := prog_8_method_8_code
def yX6_lastFlex : MethodName := ⟨RX6, "lastFlex", "(I)I"⟩
abbrev cX6_takeApart : ByteArray := prog_8_method_9_code
def yX6_takeApart : MethodName := ⟨RX6, "takeApart", "()V"⟩
abbrev cX6_takeApart_ : ByteArray := prog_8_method_10_code
def yX6_takeApart_ : MethodName := ⟨RX6, "takeApart", "(II)V"⟩
abbrev cX6_keep : ByteArray := prog_8_method_11_code
def yX6_keep : MethodName := ⟨RX6, "keep", "(II)V"⟩
def RX7 : String := "FlexTerms$Search"
def TX7 : u_T := fun k => match k with
  | 0 => ("FlexTerms$Search", "equations", "LFlexTerms$Equations;", true)
  | 1 => ("FlexTerms$Search", "pairs", "LFlexTerms$Pairs;", true)
  | 2 => ("FlexTerms$Search", "bodies", "LFlexTerms$Bodies;", true)
  | 3 => ("FlexTerms$Search", "growth", "LFlexTerms$Growth;", true)
  | 4 => ("FlexTerms$Search", "standing", "[I", true)
  | 5 => ("FlexTerms$Search", "lastLetters", "[I", true)
  | 6 => ("FlexTerms$Search", "words", "[I", true)
  | 7 => ("FlexTerms$Search", "letters", "I", false)
  | 8 => ("FlexTerms$Search", "count", "I", false)
  | _ => ("FlexTerms$Search", "isKnown", "Z", false)
def tyX7 : Nat → FieldType := fun k => match k with
  | 0 => .object "FlexTerms$Equations"
  | 1 => .object "FlexTerms$Pairs"
  | 2 => .object "FlexTerms$Bodies"
  | 3 => .object "FlexTerms$Growth"
  | 4 => .array .int
  | 5 => .array .int
  | 6 => .array .int
  | 7 => .int
  | 8 => .int
  | _ => .boolean
abbrev wsX70 : List Cond := u_ws RX7 TX7 10
theorem nmX7 : ∀ a, a < 10 → ∀ b, b < 10 → a ≠ b → (TX7 a).2.1 ≠ (TX7 b).2.1 := by decide +kernel
theorem tyX7_ok : ∀ k, k < 10 → parseFieldDescriptor (TX7 k).2.2.1 = some (tyX7 k) := by decide +kernel
abbrev cX7_init : ByteArray := prog_9_method_1_code
def yX7_init : MethodName := ⟨RX7, "<init>", "(LFlexTerms$Equations;LFlexTerms$Pairs;LFlexTerms$Bodies;LFlexTerms$Growth;)V"⟩
abbrev cX7_forget : ByteArray := prog_9_method_2_code
def yX7_forget : MethodName := ⟨RX7, "forget", "()V"⟩
abbrev cX7_found : ByteArray := prog_9_method_3_code
def yX7_found : MethodName := ⟨RX7, "found", "()I"⟩
abbrev cX7_wordOf : ByteArray := prog_9_method_4_code
def yX7_wordOf : MethodName := ⟨RX7, "wordOf", "(II)I"⟩
abbrev cX7_sizeOf : ByteArray := prog_9_method_5_code
def yX7_sizeOf : MethodName := ⟨RX7, "sizeOf", "(I)I"⟩
abbrev cX7_take : ByteArray := prog_9_method_6_code
def yX7_take : MethodName := ⟨RX7, "take", "(I)V"⟩
abbrev cX7_prepare : ByteArray := prog_9_method_7_code
def yX7_prepare : MethodName := ⟨RX7, "prepare", "()V"⟩
abbrev cX7_lookThrough : ByteArray := prog_9_method_8_code
def yX7_lookThrough : MethodName := ⟨RX7, "lookThrough", "(II)V"⟩
abbrev cX7_pairsAgree : ByteArray := prog_9_method_9_code
def yX7_pairsAgree : MethodName := ⟨RX7, "pairsAgree", "(I)Z"⟩
abbrev cX7_keepIfItFits : ByteArray := prog_9_method_10_code
def yX7_keepIfItFits : MethodName := ⟨RX7, "keepIfItFits", "()V"⟩
def RX8 : String := "FlexTerms$Text"
def TX8 : u_T := fun k => match k with
  | 0 => ("FlexTerms$Text", "bytes", "[I", true)
  | 1 => ("FlexTerms$Text", "partsLeft", "[I", true)
  | 2 => ("FlexTerms$Text", "length", "I", false)
  | 3 => ("FlexTerms$Text", "depth", "I", false)
  | _ => ("FlexTerms$Text", "awaited", "I", false)
def tyX8 : Nat → FieldType := fun k => match k with
  | 0 => .array .int
  | 1 => .array .int
  | 2 => .int
  | 3 => .int
  | _ => .int
abbrev wsX80 : List Cond := u_ws RX8 TX8 5
theorem nmX8 : ∀ a, a < 5 → ∀ b, b < 5 → a ≠ b → (TX8 a).2.1 ≠ (TX8 b).2.1 := by decide +kernel
theorem tyX8_ok : ∀ k, k < 5 → parseFieldDescriptor (TX8 k).2.2.1 = some (tyX8 k) := by decide +kernel
abbrev cX8_init : ByteArray := prog_10_method_1_code
def yX8_init : MethodName := ⟨RX8, "<init>", "()V"⟩
abbrev cX8_length : ByteArray := prog_10_method_2_code
def yX8_length : MethodName := ⟨RX8, "length", "()I"⟩
abbrev cX8_erase : ByteArray := prog_10_method_3_code
def yX8_erase : MethodName := ⟨RX8, "erase", "()V"⟩
abbrev cX8_append : ByteArray := prog_10_method_4_code
def yX8_append : MethodName := ⟨RX8, "append", "(I)Z"⟩
abbrev cX8_readInto : ByteArray := prog_10_method_5_code
def yX8_readInto : MethodName := ⟨RX8, "readInto", "(LFlexTerms$Equations;)I"⟩
abbrev cX8_accepts : ByteArray := prog_10_method_6_code
def yX8_accepts : MethodName := ⟨RX8, "accepts", "(ILFlexTerms$Equations;)Z"⟩
abbrev cX8_acceptsLetter : ByteArray := prog_10_method_7_code
def yX8_acceptsLetter : MethodName := ⟨RX8, "acceptsLetter", "(ILFlexTerms$Equations;)Z"⟩
abbrev cX8_acceptsInside : ByteArray := prog_10_method_8_code
def yX8_acceptsInside : MethodName := ⟨RX8, "acceptsInside", "(I)Z"⟩
abbrev cX8_acceptsOutside : ByteArray := prog_10_method_9_code
def yX8_acceptsOutside : MethodName := ⟨RX8, "acceptsOutside", "(ILFlexTerms$Equations;)Z"⟩
def RX9 : String := "FlexTerms$Writing"
def TX9 : u_T := fun k => match k with
  | 0 => ("FlexTerms$Writing", "bytes", "[I", true)
  | 1 => ("FlexTerms$Writing", "partsLeft", "[I", true)
  | 2 => ("FlexTerms$Writing", "length", "I", false)
  | _ => ("FlexTerms$Writing", "depth", "I", false)
def tyX9 : Nat → FieldType := fun k => match k with
  | 0 => .array .int
  | 1 => .array .int
  | 2 => .int
  | _ => .int
abbrev wsX90 : List Cond := u_ws RX9 TX9 4
theorem nmX9 : ∀ a, a < 4 → ∀ b, b < 4 → a ≠ b → (TX9 a).2.1 ≠ (TX9 b).2.1 := by decide +kernel
theorem tyX9_ok : ∀ k, k < 4 → parseFieldDescriptor (TX9 k).2.2.1 = some (tyX9 k) := by decide +kernel
abbrev cX9_init : ByteArray := prog_11_method_1_code
def yX9_init : MethodName := ⟨RX9, "<init>", "()V"⟩
abbrev cX9_begin : ByteArray := prog_11_method_2_code
def yX9_begin : MethodName := ⟨RX9, "begin", "()V"⟩
abbrev cX9_length : ByteArray := prog_11_method_3_code
def yX9_length : MethodName := ⟨RX9, "length", "()I"⟩
abbrev cX9_byteAt : ByteArray := prog_11_method_4_code
def yX9_byteAt : MethodName := ⟨RX9, "byteAt", "(I)I"⟩
abbrev cX9_putTerm : ByteArray := prog_11_method_5_code
def yX9_putTerm : MethodName := ⟨RX9, "putTerm", "(LFlexTerms$Equations;I)V"⟩
abbrev cX9_putBody : ByteArray := prog_11_method_6_code
def yX9_putBody : MethodName := ⟨RX9, "putBody", "(I)V"⟩
abbrev cX9_put : ByteArray := prog_11_method_7_code
def yX9_put : MethodName := ⟨RX9, "put", "(I)V"⟩
abbrev cX9_putLetter : ByteArray := prog_11_method_8_code
def yX9_putLetter : MethodName := ⟨RX9, "putLetter", "(I)V"⟩
abbrev cX9_endTerm : ByteArray := prog_11_method_9_code
def yX9_endTerm : MethodName := ⟨RX9, "endTerm", "()V"⟩
def RX10 : String := "FlexTerms"
def TX10 : u_T := fun k => match k with
  | 0 => ("FlexTerms", "text", "LFlexTerms$Text;", true)
  | 1 => ("FlexTerms", "now", "LFlexTerms$Equations;", true)
  | 2 => ("FlexTerms", "read", "LFlexTerms$Equations;", true)
  | 3 => ("FlexTerms", "history", "LFlexTerms$History;", true)
  | 4 => ("FlexTerms", "taken", "LFlexTerms$Pairs;", true)
  | 5 => ("FlexTerms", "table", "LFlexTerms$Bodies;", true)
  | 6 => ("FlexTerms", "growth", "LFlexTerms$Growth;", true)
  | 7 => ("FlexTerms", "search", "LFlexTerms$Search;", true)
  | 8 => ("FlexTerms", "writing", "LFlexTerms$Writing;", true)
  | 9 => ("FlexTerms", "bads", "I", false)
  | 10 => ("FlexTerms", "noes", "I", false)
  | _ => ("FlexTerms", "fulls", "I", false)
def tyX10 : Nat → FieldType := fun k => match k with
  | 0 => .object "FlexTerms$Text"
  | 1 => .object "FlexTerms$Equations"
  | 2 => .object "FlexTerms$Equations"
  | 3 => .object "FlexTerms$History"
  | 4 => .object "FlexTerms$Pairs"
  | 5 => .object "FlexTerms$Bodies"
  | 6 => .object "FlexTerms$Growth"
  | 7 => .object "FlexTerms$Search"
  | 8 => .object "FlexTerms$Writing"
  | 9 => .int
  | 10 => .int
  | _ => .int
abbrev wsX100 : List Cond := u_ws RX10 TX10 12
theorem nmX10 : ∀ a, a < 12 → ∀ b, b < 12 → a ≠ b → (TX10 a).2.1 ≠ (TX10 b).2.1 := by decide +kernel
theorem tyX10_ok : ∀ k, k < 12 → parseFieldDescriptor (TX10 k).2.2.1 = some (tyX10 k) := by decide +kernel
abbrev cX10_init : ByteArray := prog_1_method_1_code
def yX10_init : MethodName := ⟨RX10, "<init>", "()V"⟩
abbrev cX10_type : ByteArray := prog_1_method_2_code
def yX10_type : MethodName := ⟨RX10, "type", "(I)I"⟩
abbrev cX10_clear : ByteArray := prog_1_method_3_code
def yX10_clear : MethodName := ⟨RX10, "clear", "()I"⟩
abbrev cX10_reads : ByteArray := prog_1_method_4_code
def yX10_reads : MethodName := ⟨RX10, "reads", "()I"⟩
abbrev cX10_drops : ByteArray := prog_1_method_5_code
def yX10_drops : MethodName := ⟨RX10, "drops", "(I)I"⟩
abbrev cX10_turns : ByteArray := prog_1_method_6_code
def yX10_turns : MethodName := ⟨RX10, "turns", "(I)I"⟩
abbrev cX10_of : ByteArray := prog_1_method_7_code
def yX10_of : MethodName := ⟨RX10, "of", "(III)I"⟩
abbrev cX10_shown : ByteArray := prog_1_method_8_code
def yX10_shown : MethodName := ⟨RX10, "shown", "(II)I"⟩
abbrev cX10_pairs : ByteArray := prog_1_method_9_code
def yX10_pairs : MethodName := ⟨RX10, "pairs", "(I)I"⟩
abbrev cX10_pair : ByteArray := prog_1_method_10_code
def yX10_pair : MethodName := ⟨RX10, "pair", "(II)I"⟩
abbrev cX10_solutions : ByteArray := prog_1_method_11_code
def yX10_solutions : MethodName := ⟨RX10, "solutions", "()I"⟩
abbrev cX10_size : ByteArray := prog_1_method_12_code
def yX10_size : MethodName := ⟨RX10, "size", "(I)I"⟩
abbrev cX10_body : ByteArray := prog_1_method_13_code
def yX10_body : MethodName := ⟨RX10, "body", "(III)I"⟩
abbrev cX10_becomes : ByteArray := prog_1_method_14_code
def yX10_becomes : MethodName := ⟨RX10, "becomes", "(IIII)I"⟩
abbrev cX10_bodies : ByteArray := prog_1_method_15_code
def yX10_bodies : MethodName := ⟨RX10, "bodies", "(II)I"⟩
abbrev cX10_back : ByteArray := prog_1_method_16_code
def yX10_back : MethodName := ⟨RX10, "back", "()I"⟩
abbrev cX10_told : ByteArray := prog_1_method_17_code
def yX10_told : MethodName := ⟨RX10, "told", "(I)I"⟩
abbrev cX10_digest : ByteArray := prog_1_method_18_code
def yX10_digest : MethodName := ⟨RX10, "digest", "()J"⟩
abbrev cX10_digestBodies : ByteArray := prog_1_method_19_code
def yX10_digestBodies : MethodName := ⟨RX10, "digestBodies", "(JI)J"⟩
abbrev cX10_fact : ByteArray := prog_1_method_20_code
def yX10_fact : MethodName := ⟨RX10, "fact", "(I)I"⟩
abbrev cX10_sideFact : ByteArray := prog_1_method_21_code
def yX10_sideFact : MethodName := ⟨RX10, "sideFact", "(III)I"⟩
abbrev cX10_arrange : ByteArray := prog_1_method_22_code
def yX10_arrange : MethodName := ⟨RX10, "arrange", "()V"⟩
abbrev cX10_refuse : ByteArray := prog_1_method_23_code
def yX10_refuse : MethodName := ⟨RX10, "refuse", "(I)I"⟩
abbrev cX10_isSide : ByteArray := prog_1_method_24_code
def yX10_isSide : MethodName := ⟨RX10, "isSide", "(I)Z"⟩
def RX11 : String := "FlexTermsModel"
def TX11 : u_T := fun k => match k with
  | 0 => ("FlexTermsModel", "now", "[I", true)
  | 1 => ("FlexTermsModel", "fresh", "[I", true)
  | 2 => ("FlexTermsModel", "past", "[I", true)
  | 3 => ("FlexTermsModel", "states", "I", false)
  | 4 => ("FlexTermsModel", "refused", "[I", true)
  | 5 => ("FlexTermsModel", "text", "[I", true)
  | 6 => ("FlexTermsModel", "length", "I", false)
  | 7 => ("FlexTermsModel", "bodies", "[I", true)
  | 8 => ("FlexTermsModel", "starts", "[I", true)
  | 9 => ("FlexTermsModel", "at", "I", false)
  | 10 => ("FlexTermsModel", "filled", "I", false)
  | 11 => ("FlexTermsModel", "open", "[I", true)
  | 12 => ("FlexTermsModel", "depth", "I", false)
  | 13 => ("FlexTermsModel", "written", "[I", true)
  | 14 => ("FlexTermsModel", "writtenMany", "I", false)
  | 15 => ("FlexTermsModel", "first", "[I", true)
  | 16 => ("FlexTermsModel", "second", "[I", true)
  | 17 => ("FlexTermsModel", "pairMany", "I", false)
  | 18 => ("FlexTermsModel", "chosen", "[I", true)
  | 19 => ("FlexTermsModel", "standing", "[I", true)
  | 20 => ("FlexTermsModel", "standingMany", "I", false)
  | 21 => ("FlexTermsModel", "picked", "[I", true)
  | 22 => ("FlexTermsModel", "solved", "[I", true)
  | 23 => ("FlexTermsModel", "sizes", "[I", true)
  | 24 => ("FlexTermsModel", "solvedMany", "I", false)
  | 25 => ("FlexTermsModel", "heap", "[I", true)
  | 26 => ("FlexTermsModel", "place", "[I", true)
  | 27 => ("FlexTermsModel", "sign", "[I", true)
  | 28 => ("FlexTermsModel", "waiting", "I", false)
  | 29 => ("FlexTermsModel", "built", "[I", true)
  | _ => ("FlexTermsModel", "hash", "J", false)
def tyX11 : Nat → FieldType := fun k => match k with
  | 0 => .array .int
  | 1 => .array .int
  | 2 => .array .int
  | 3 => .int
  | 4 => .array .int
  | 5 => .array .int
  | 6 => .int
  | 7 => .array .int
  | 8 => .array .int
  | 9 => .int
  | 10 => .int
  | 11 => .array .int
  | 12 => .int
  | 13 => .array .int
  | 14 => .int
  | 15 => .array .int
  | 16 => .array .int
  | 17 => .int
  | 18 => .array .int
  | 19 => .array .int
  | 20 => .int
  | 21 => .array .int
  | 22 => .array .int
  | 23 => .array .int
  | 24 => .int
  | 25 => .array .int
  | 26 => .array .int
  | 27 => .array .int
  | 28 => .int
  | 29 => .array .int
  | _ => .long
abbrev wsX110 : List Cond := u_ws RX11 TX11 31
theorem nmX11 : ∀ a, a < 31 → ∀ b, b < 31 → a ≠ b → (TX11 a).2.1 ≠ (TX11 b).2.1 := by decide +kernel
theorem tyX11_ok : ∀ k, k < 31 → parseFieldDescriptor (TX11 k).2.2.1 = some (tyX11 k) := by decide +kernel
abbrev cX11_init : ByteArray := prog_13_method_1_code
def yX11_init : MethodName := ⟨RX11, "<init>", "()V"⟩
abbrev cX11_bad : ByteArray := prog_13_method_3_code
def yX11_bad : MethodName := ⟨RX11, "bad", "()I"⟩
abbrev cX11_no : ByteArray := prog_13_method_4_code
def yX11_no : MethodName := ⟨RX11, "no", "()I"⟩
abbrev cX11_full : ByteArray := prog_13_method_5_code
def yX11_full : MethodName := ⟨RX11, "full", "()I"⟩
abbrev cX11_within : ByteArray := prog_13_method_6_code
def yX11_within : MethodName := ⟨RX11, "within", "(III)Z"⟩
abbrev cX11_signsOf : ByteArray := prog_13_method_7_code
def yX11_signsOf : MethodName := ⟨RX11, "signsOf", "(II)I"⟩
abbrev cX11_signAt : ByteArray := prog_13_method_8_code
def yX11_signAt : MethodName := ⟨RX11, "signAt", "(III)I"⟩
abbrev cX11_isBody : ByteArray := prog_13_method_9_code
def yX11_isBody : MethodName := ⟨RX11, "isBody", "(III)Z"⟩
abbrev cX11_sizeOf : ByteArray := prog_13_method_10_code
def yX11_sizeOf : MethodName := ⟨RX11, "sizeOf", "(I)I"⟩
abbrev cX11_byteOf : ByteArray := prog_13_method_11_code
def yX11_byteOf : MethodName := ⟨RX11, "byteOf", "(I)I"⟩
abbrev cX11_isFlex : ByteArray := prog_13_method_12_code
def yX11_isFlex : MethodName := ⟨RX11, "isFlex", "(I)Z"⟩
abbrev cX11_partsOf : ByteArray := prog_13_method_13_code
def yX11_partsOf : MethodName := ⟨RX11, "partsOf", "(I)I"⟩
abbrev cX11_isLetter : ByteArray := prog_13_method_14_code
def yX11_isLetter : MethodName := ⟨RX11, "isLetter", "(I)Z"⟩
abbrev cX11_leaves : ByteArray := prog_13_method_15_code
def yX11_leaves : MethodName := ⟨RX11, "leaves", "()V"⟩
abbrev cX11_back : ByteArray := prog_13_method_16_code
def yX11_back : MethodName := ⟨RX11, "back", "()I"⟩
abbrev cX11_type : ByteArray := prog_13_method_17_code
def yX11_type : MethodName := ⟨RX11, "type", "(I)I"⟩
abbrev cX11_clear : ByteArray := prog_13_method_18_code
def yX11_clear : MethodName := ⟨RX11, "clear", "()I"⟩
abbrev cX11_blanks : ByteArray := prog_13_method_19_code
def yX11_blanks : MethodName := ⟨RX11, "blanks", "()V"⟩
abbrev cX11_passes : ByteArray := prog_13_method_20_code
def yX11_passes : MethodName := ⟨RX11, "passes", "(I)Z"⟩
abbrev cX11_letterPassed : ByteArray := prog_13_method_21_code
def yX11_letterPassed : MethodName := ⟨RX11, "letterPassed", "()I"⟩
abbrev cX11_closes : ByteArray := prog_13_method_22_code
def yX11_closes : MethodName := ⟨RX11, "closes", "()Z"⟩
abbrev cX11_readsTerm : ByteArray := prog_13_method_23_code
def yX11_readsTerm : MethodName := ⟨RX11, "readsTerm", "()Z"⟩
abbrev cX11_readsEquation : ByteArray := prog_13_method_24_code
def yX11_readsEquation : MethodName := ⟨RX11, "readsEquation", "()Z"⟩
abbrev cX11_isRead : ByteArray := prog_13_method_25_code
def yX11_isRead : MethodName := ⟨RX11, "isRead", "()Z"⟩
abbrev cX11_reads : ByteArray := prog_13_method_26_code
def yX11_reads : MethodName := ⟨RX11, "reads", "()I"⟩
abbrev cX11_isEquation : ByteArray := prog_13_method_27_code
def yX11_isEquation : MethodName := ⟨RX11, "isEquation", "(I)Z"⟩
abbrev cX11_isSide : ByteArray := prog_13_method_28_code
def yX11_isSide : MethodName := ⟨RX11, "isSide", "(I)Z"⟩
abbrev cX11_nodesOf : ByteArray := prog_13_method_29_code
def yX11_nodesOf : MethodName := ⟨RX11, "nodesOf", "(II)I"⟩
abbrev cX11_beginOf : ByteArray := prog_13_method_30_code
def yX11_beginOf : MethodName := ⟨RX11, "beginOf", "(II)I"⟩
abbrev cX11_drops : ByteArray := prog_13_method_31_code
def yX11_drops : MethodName := ⟨RX11, "drops", "(I)I"⟩
abbrev cX11_turns : ByteArray := prog_13_method_32_code
def yX11_turns : MethodName := ⟨RX11, "turns", "(I)I"⟩
abbrev cX11_flexIn : ByteArray := prog_13_method_33_code
def yX11_flexIn : MethodName := ⟨RX11, "flexIn", "(II)I"⟩
abbrev cX11_deepOf : ByteArray := prog_13_method_34_code
def yX11_deepOf : MethodName := ⟨RX11, "deepOf", "(II)I"⟩
abbrev cX11_ends : ByteArray := prog_13_method_35_code
def yX11_ends : MethodName := ⟨RX11, "ends", "()V"⟩
abbrev cX11_ofSide : ByteArray := prog_13_method_36_code
def yX11_ofSide : MethodName := ⟨RX11, "ofSide", "(III)I"⟩
abbrev cX11_of : ByteArray := prog_13_method_37_code
def yX11_of : MethodName := ⟨RX11, "of", "(III)I"⟩
abbrev cX11_writes : ByteArray := prog_13_method_38_code
def yX11_writes : MethodName := ⟨RX11, "writes", "(I)V"⟩
abbrev cX11_writesLetter : ByteArray := prog_13_method_39_code
def yX11_writesLetter : MethodName := ⟨RX11, "writesLetter", "(I)V"⟩
abbrev cX11_writesSide : ByteArray := prog_13_method_40_code
def yX11_writesSide : MethodName := ⟨RX11, "writesSide", "(II)V"⟩
abbrev cX11_writtenAt : ByteArray := prog_13_method_41_code
def yX11_writtenAt : MethodName := ⟨RX11, "writtenAt", "(I)I"⟩
abbrev cX11_shown : ByteArray := prog_13_method_42_code
def yX11_shown : MethodName := ⟨RX11, "shown", "(II)I"⟩
abbrev cX11_behind : ByteArray := prog_13_method_43_code
def yX11_behind : MethodName := ⟨RX11, "behind", "(I)I"⟩
abbrev cX11_comesIn : ByteArray := prog_13_method_44_code
def yX11_comesIn : MethodName := ⟨RX11, "comesIn", "(III)V"⟩
abbrev cX11_goesOut : ByteArray := prog_13_method_45_code
def yX11_goesOut : MethodName := ⟨RX11, "goesOut", "(I)V"⟩
abbrev cX11_takesApart : ByteArray := prog_13_method_46_code
def yX11_takesApart : MethodName := ⟨RX11, "takesApart", "(I)V"⟩
abbrev cX11_laysPairs : ByteArray := prog_13_method_47_code
def yX11_laysPairs : MethodName := ⟨RX11, "laysPairs", "()V"⟩
abbrev cX11_kindOf : ByteArray := prog_13_method_48_code
def yX11_kindOf : MethodName := ⟨RX11, "kindOf", "(I)I"⟩
abbrev cX11_tellPairs : ByteArray := prog_13_method_49_code
def yX11_tellPairs : MethodName := ⟨RX11, "tellPairs", "(I)I"⟩
abbrev cX11_pairs : ByteArray := prog_13_method_50_code
def yX11_pairs : MethodName := ⟨RX11, "pairs", "(I)I"⟩
abbrev cX11_waysOf : ByteArray := prog_13_method_51_code
def yX11_waysOf : MethodName := ⟨RX11, "waysOf", "(I)I"⟩
abbrev cX11_pair : ByteArray := prog_13_method_52_code
def yX11_pair : MethodName := ⟨RX11, "pair", "(II)I"⟩
abbrev cX11_allLetters : ByteArray := prog_13_method_53_code
def yX11_allLetters : MethodName := ⟨RX11, "allLetters", "()I"⟩
abbrev cX11_laysStanding : ByteArray := prog_13_method_54_code
def yX11_laysStanding : MethodName := ⟨RX11, "laysStanding", "()V"⟩
abbrev cX11_grown : ByteArray := prog_13_method_55_code
def yX11_grown : MethodName := ⟨RX11, "grown", "(III)I"⟩
abbrev cX11_comesTo : ByteArray := prog_13_method_56_code
def yX11_comesTo : MethodName := ⟨RX11, "comesTo", "(II)I"⟩
abbrev cX11_waits : ByteArray := prog_13_method_57_code
def yX11_waits : MethodName := ⟨RX11, "waits", "(II)V"⟩
abbrev cX11_buildsLetter : ByteArray := prog_13_method_58_code
def yX11_buildsLetter : MethodName := ⟨RX11, "buildsLetter", "(II)V"⟩
abbrev cX11_builds : ByteArray := prog_13_method_59_code
def yX11_builds : MethodName := ⟨RX11, "builds", "(III)I"⟩
abbrev cX11_isSolved : ByteArray := prog_13_method_60_code
def yX11_isSolved : MethodName := ⟨RX11, "isSolved", "(I)Z"⟩
abbrev cX11_areSolved : ByteArray := prog_13_method_61_code
def yX11_areSolved : MethodName := ⟨RX11, "areSolved", "()Z"⟩
abbrev cX11_meets : ByteArray := prog_13_method_62_code
def yX11_meets : MethodName := ⟨RX11, "meets", "(I)V"⟩
abbrev cX11_picksNext : ByteArray := prog_13_method_63_code
def yX11_picksNext : MethodName := ⟨RX11, "picksNext", "(II)Z"⟩
abbrev cX11_goesThrough : ByteArray := prog_13_method_64_code
def yX11_goesThrough : MethodName := ⟨RX11, "goesThrough", "(I)V"⟩
abbrev cX11_solves : ByteArray := prog_13_method_65_code
def yX11_solves : MethodName := ⟨RX11, "solves", "()V"⟩
abbrev cX11_solutions : ByteArray := prog_13_method_66_code
def yX11_solutions : MethodName := ⟨RX11, "solutions", "()I"⟩
abbrev cX11_size : ByteArray := prog_13_method_67_code
def yX11_size : MethodName := ⟨RX11, "size", "(I)I"⟩
abbrev cX11_writesBody : ByteArray := prog_13_method_68_code
def yX11_writesBody : MethodName := ⟨RX11, "writesBody", "(I)V"⟩
abbrev cX11_body : ByteArray := prog_13_method_69_code
def yX11_body : MethodName := ⟨RX11, "body", "(III)I"⟩
abbrev cX11_becomes : ByteArray := prog_13_method_70_code
def yX11_becomes : MethodName := ⟨RX11, "becomes", "(IIII)I"⟩
abbrev cX11_bodies : ByteArray := prog_13_method_71_code
def yX11_bodies : MethodName := ⟨RX11, "bodies", "(II)I"⟩
abbrev cX11_toldOf : ByteArray := prog_13_method_72_code
def yX11_toldOf : MethodName := ⟨RX11, "toldOf", "(I)I"⟩
abbrev cX11_told : ByteArray := prog_13_method_73_code
def yX11_told : MethodName := ⟨RX11, "told", "(I)I"⟩
abbrev cX11_mix : ByteArray := prog_13_method_74_code
def yX11_mix : MethodName := ⟨RX11, "mix", "(I)V"⟩
abbrev cX11_mixSolution : ByteArray := prog_13_method_75_code
def yX11_mixSolution : MethodName := ⟨RX11, "mixSolution", "(I)V"⟩
abbrev cX11_digest : ByteArray := prog_13_method_76_code
def yX11_digest : MethodName := ⟨RX11, "digest", "()J"⟩
def RJx145de : String := "java/io/Serializable"
def TJx145de : u_T := fun k => match k with
  | _ => ("", "", "", false)
def tyJx145de : Nat → FieldType := fun k => match k with
  | _ => .int
abbrev wsJx145de0 : List Cond := u_ws RJx145de TJx145de 0
theorem nmJx145de : ∀ a, a < 0 → ∀ b, b < 0 → a ≠ b → (TJx145de a).2.1 ≠ (TJx145de b).2.1 := by decide +kernel
theorem tyJx145de_ok : ∀ k, k < 0 → parseFieldDescriptor (TJx145de k).2.2.1 = some (tyJx145de k) := by decide +kernel
def RJx9f9b0 : String := "java/lang/CharSequence"
def TJx9f9b0 : u_T := fun k => match k with
  | _ => ("", "", "", false)
def tyJx9f9b0 : Nat → FieldType := fun k => match k with
  | _ => .int
abbrev wsJx9f9b00 : List Cond := u_ws RJx9f9b0 TJx9f9b0 0
theorem nmJx9f9b0 : ∀ a, a < 0 → ∀ b, b < 0 → a ≠ b → (TJx9f9b0 a).2.1 ≠ (TJx9f9b0 b).2.1 := by decide +kernel
theorem tyJx9f9b0_ok : ∀ k, k < 0 → parseFieldDescriptor (TJx9f9b0 k).2.2.1 = some (tyJx9f9b0 k) := by decide +kernel
def RJ11 : String := "java/lang/Character"
def TJ11 : u_T := fun k => match k with
  | _ => ("", "", "", false)
def tyJ11 : Nat → FieldType := fun k => match k with
  | _ => .int
abbrev wsJ110 : List Cond := u_ws RJ11 TJ11 0
theorem nmJ11 : ∀ a, a < 0 → ∀ b, b < 0 → a ≠ b → (TJ11 a).2.1 ≠ (TJ11 b).2.1 := by decide +kernel
theorem tyJ11_ok : ∀ k, k < 0 → parseFieldDescriptor (TJ11 k).2.2.1 = some (tyJ11 k) := by decide +kernel
abbrev cJ11_isValidCodePoint_9a6ad : ByteArray := prog_14_method_11_code
def yJ11_isValidCodePoint_9a6ad : MethodName := ⟨RJ11, "isValidCodePoint", "(I)Z"⟩
abbrev cJ11_highSurrogate_5068e : ByteArray := prog_14_method_28_code
def yJ11_highSurrogate_5068e : MethodName := ⟨RJ11, "highSurrogate", "(I)C"⟩
abbrev cJ11_lowSurrogate_5068e : ByteArray := prog_14_method_29_code
def yJ11_lowSurrogate_5068e : MethodName := ⟨RJ11, "lowSurrogate", "(I)C"⟩
def RJx8e188 : String := "java/lang/Cloneable"
def TJx8e188 : u_T := fun k => match k with
  | _ => ("", "", "", false)
def tyJx8e188 : Nat → FieldType := fun k => match k with
  | _ => .int
abbrev wsJx8e1880 : List Cond := u_ws RJx8e188 TJx8e188 0
theorem nmJx8e188 : ∀ a, a < 0 → ∀ b, b < 0 → a ≠ b → (TJx8e188 a).2.1 ≠ (TJx8e188 b).2.1 := by decide +kernel
theorem tyJx8e188_ok : ∀ k, k < 0 → parseFieldDescriptor (TJx8e188 k).2.2.1 = some (tyJx8e188 k) := by decide +kernel
def RJxb160c : String := "java/lang/Comparable"
def TJxb160c : u_T := fun k => match k with
  | _ => ("", "", "", false)
def tyJxb160c : Nat → FieldType := fun k => match k with
  | _ => .int
abbrev wsJxb160c0 : List Cond := u_ws RJxb160c TJxb160c 0
theorem nmJxb160c : ∀ a, a < 0 → ∀ b, b < 0 → a ≠ b → (TJxb160c a).2.1 ≠ (TJxb160c b).2.1 := by decide +kernel
theorem tyJxb160c_ok : ∀ k, k < 0 → parseFieldDescriptor (TJxb160c k).2.2.1 = some (tyJxb160c k) := by decide +kernel
def RJ9 : String := "java/lang/Math"
def TJ9 : u_T := fun k => match k with
  | _ => ("", "", "", false)
def tyJ9 : Nat → FieldType := fun k => match k with
  | _ => .int
abbrev wsJ90 : List Cond := u_ws RJ9 TJ9 0
theorem nmJ9 : ∀ a, a < 0 → ∀ b, b < 0 → a ≠ b → (TJ9 a).2.1 ≠ (TJ9 b).2.1 := by decide +kernel
theorem tyJ9_ok : ∀ k, k < 0 → parseFieldDescriptor (TJ9 k).2.2.1 = some (tyJ9 k) := by decide +kernel
abbrev cJ9_max_7cf53 : ByteArray := prog_16_method_65_code
def yJ9_max_7cf53 : MethodName := ⟨RJ9, "max", "(II)I"⟩
abbrev cJ9_min_7cf53 : ByteArray := prog_16_method_69_code
def yJ9_min_7cf53 : MethodName := ⟨RJ9, "min", "(II)I"⟩
def RJ0 : String := "java/lang/String"
def TJ0 : u_T := fun k => match k with
  | _ => ("", "", "", false)
def tyJ0 : Nat → FieldType := fun k => match k with
  | _ => .int
abbrev wsJ00 : List Cond := u_ws RJ0 TJ0 0
theorem nmJ0 : ∀ a, a < 0 → ∀ b, b < 0 → a ≠ b → (TJ0 a).2.1 ≠ (TJ0 b).2.1 := by decide +kernel
theorem tyJ0_ok : ∀ k, k < 0 → parseFieldDescriptor (TJ0 k).2.2.1 = some (tyJ0 k) := by decide +kernel
abbrev cJ0_length_8abf5 : ByteArray := prog_17_method_54_code
def yJ0_length_8abf5 : MethodName := ⟨RJ0, "length", "()I"⟩
abbrev cJ0_charAt_5068e : ByteArray := prog_17_method_56_code
def yJ0_charAt_5068e : MethodName := ⟨RJ0, "charAt", "(I)C"⟩
abbrev cJ0_indexOf_0f7a4 : ByteArray := prog_17_method_79_code
def yJ0_indexOf_0f7a4 : MethodName := ⟨RJ0, "indexOf", "(I)I"⟩
abbrev cJ0_indexOf_7cf53 : ByteArray := prog_17_method_80_code
def yJ0_indexOf_7cf53 : MethodName := ⟨RJ0, "indexOf", "(II)I"⟩
abbrev cJ0_coder_7d493 : ByteArray := prog_17_method_152_code
def yJ0_coder_7d493 : MethodName := ⟨RJ0, "coder", "()B"⟩
abbrev cJ0_isLatin1_aae02 : ByteArray := prog_17_method_154_code
def yJ0_isLatin1_aae02 : MethodName := ⟨RJ0, "isLatin1", "()Z"⟩
abbrev cJ0_checkIndex_df160 : ByteArray := prog_17_method_155_code
def yJ0_checkIndex_df160 : MethodName := ⟨RJ0, "checkIndex", "(II)V"⟩
abbrev cJ0_checkBoundsBeginEnd_23922 : ByteArray := prog_17_method_158_code
def yJ0_checkBoundsBeginEnd_23922 : MethodName := ⟨RJ0, "checkBoundsBeginEnd", "(III)V"⟩
def RJ1 : String := "java/lang/StringLatin1"
def TJ1 : u_T := fun k => match k with
  | _ => ("", "", "", false)
def tyJ1 : Nat → FieldType := fun k => match k with
  | _ => .int
abbrev wsJ10 : List Cond := u_ws RJ1 TJ1 0
theorem nmJ1 : ∀ a, a < 0 → ∀ b, b < 0 → a ≠ b → (TJ1 a).2.1 ≠ (TJ1 b).2.1 := by decide +kernel
theorem tyJ1_ok : ∀ k, k < 0 → parseFieldDescriptor (TJ1 k).2.2.1 = some (tyJ1 k) := by decide +kernel
abbrev cJ1_charAt_3b067 : ByteArray := prog_18_method_2_code
def yJ1_charAt_3b067 : MethodName := ⟨RJ1, "charAt", "([BI)C"⟩
abbrev cJ1_canEncode_9a6ad : ByteArray := prog_18_method_4_code
def yJ1_canEncode_9a6ad : MethodName := ⟨RJ1, "canEncode", "(I)Z"⟩
abbrev cJ1_indexOf_4cfef : ByteArray := prog_18_method_22_code
def yJ1_indexOf_4cfef : MethodName := ⟨RJ1, "indexOf", "([BIII)I"⟩
abbrev cJ1_indexOfChar_4cfef : ByteArray := prog_18_method_23_code
def yJ1_indexOfChar_4cfef : MethodName := ⟨RJ1, "indexOfChar", "([BIII)I"⟩
def RJ2 : String := "java/lang/StringUTF16"
def TJ2 : u_T := fun k => match k with
  | _ => ("", "", "", false)
def tyJ2 : Nat → FieldType := fun k => match k with
  | _ => .int
abbrev wsJ20 : List Cond := u_ws RJ2 TJ2 0
theorem nmJ2 : ∀ a, a < 0 → ∀ b, b < 0 → a ≠ b → (TJ2 a).2.1 ≠ (TJ2 b).2.1 := by decide +kernel
theorem tyJ2_ok : ∀ k, k < 0 → parseFieldDescriptor (TJ2 k).2.2.1 = some (tyJ2 k) := by decide +kernel
abbrev cJ2_getChar_3b067 : ByteArray := prog_19_method_5_code
def yJ2_getChar_3b067 : MethodName := ⟨RJ2, "getChar", "([BI)C"⟩
abbrev cJ2_length_9d52b : ByteArray := prog_19_method_6_code
def yJ2_length_9d52b : MethodName := ⟨RJ2, "length", "([B)I"⟩
abbrev cJ2_indexOf_4cfef : ByteArray := prog_19_method_40_code
def yJ2_indexOf_4cfef : MethodName := ⟨RJ2, "indexOf", "([BIII)I"⟩
abbrev cJ2_indexOfChar_4cfef : ByteArray := prog_19_method_47_code
def yJ2_indexOfChar_4cfef : MethodName := ⟨RJ2, "indexOfChar", "([BIII)I"⟩
abbrev cJ2_indexOfCharUnsafe_4cfef : ByteArray := prog_19_method_48_code
def yJ2_indexOfCharUnsafe_4cfef : MethodName := ⟨RJ2, "indexOfCharUnsafe", "([BIII)I"⟩
abbrev cJ2_indexOfSupplementary_4cfef : ByteArray := prog_19_method_49_code
def yJ2_indexOfSupplementary_4cfef : MethodName := ⟨RJ2, "indexOfSupplementary", "([BIII)I"⟩
abbrev cJ2_charAt_3b067 : ByteArray := prog_19_method_83_code
def yJ2_charAt_3b067 : MethodName := ⟨RJ2, "charAt", "([BI)C"⟩
abbrev cJ2_checkIndex_2214a : ByteArray := prog_19_method_91_code
def yJ2_checkIndex_2214a : MethodName := ⟨RJ2, "checkIndex", "(I[B)V"⟩
abbrev cJ2_checkBoundsBeginEnd_d044e : ByteArray := prog_19_method_93_code
def yJ2_checkBoundsBeginEnd_d044e : MethodName := ⟨RJ2, "checkBoundsBeginEnd", "(II[B)V"⟩
def RJ10 : String := "java/lang/System"
def TJ10 : u_T := fun k => match k with
  | _ => ("", "", "", false)
def tyJ10 : Nat → FieldType := fun k => match k with
  | _ => .int
abbrev wsJ100 : List Cond := u_ws RJ10 TJ10 0
theorem nmJ10 : ∀ a, a < 0 → ∀ b, b < 0 → a ≠ b → (TJ10 a).2.1 ≠ (TJ10 b).2.1 := by decide +kernel
theorem tyJ10_ok : ∀ k, k < 0 → parseFieldDescriptor (TJ10 k).2.2.1 = some (tyJ10 k) := by decide +kernel
def RJxfd54e : String := "java/lang/constant/Constable"
def TJxfd54e : u_T := fun k => match k with
  | _ => ("", "", "", false)
def tyJxfd54e : Nat → FieldType := fun k => match k with
  | _ => .int
abbrev wsJxfd54e0 : List Cond := u_ws RJxfd54e TJxfd54e 0
theorem nmJxfd54e : ∀ a, a < 0 → ∀ b, b < 0 → a ≠ b → (TJxfd54e a).2.1 ≠ (TJxfd54e b).2.1 := by decide +kernel
theorem tyJxfd54e_ok : ∀ k, k < 0 → parseFieldDescriptor (TJxfd54e k).2.2.1 = some (tyJxfd54e k) := by decide +kernel
def RJx3cf43 : String := "java/lang/constant/ConstantDesc"
def TJx3cf43 : u_T := fun k => match k with
  | _ => ("", "", "", false)
def tyJx3cf43 : Nat → FieldType := fun k => match k with
  | _ => .int
abbrev wsJx3cf430 : List Cond := u_ws RJx3cf43 TJx3cf43 0
theorem nmJx3cf43 : ∀ a, a < 0 → ∀ b, b < 0 → a ≠ b → (TJx3cf43 a).2.1 ≠ (TJx3cf43 b).2.1 := by decide +kernel
theorem tyJx3cf43_ok : ∀ k, k < 0 → parseFieldDescriptor (TJx3cf43 k).2.2.1 = some (tyJx3cf43 k) := by decide +kernel
def RJ7 : String := "java/util/Arrays"
def TJ7 : u_T := fun k => match k with
  | _ => ("", "", "", false)
def tyJ7 : Nat → FieldType := fun k => match k with
  | _ => .int
abbrev wsJ70 : List Cond := u_ws RJ7 TJ7 0
theorem nmJ7 : ∀ a, a < 0 → ∀ b, b < 0 → a ≠ b → (TJ7 a).2.1 ≠ (TJ7 b).2.1 := by decide +kernel
theorem tyJ7_ok : ∀ k, k < 0 → parseFieldDescriptor (TJ7 k).2.2.1 = some (tyJ7 k) := by decide +kernel
abbrev cJ7_checkLength_df160 : ByteArray := prog_21_method_131_code
def yJ7_checkLength_df160 : MethodName := ⟨RJ7, "checkLength", "(II)V"⟩
abbrev cJ7_copyOfRange_feecc : ByteArray := prog_21_method_136_code
def yJ7_copyOfRange_feecc : MethodName := ⟨RJ7, "copyOfRange", "([III)[I"⟩
abbrev cJ7_copyOfRangeInt_feecc : ByteArray := prog_21_method_137_code
def yJ7_copyOfRangeInt_feecc : MethodName := ⟨RJ7, "copyOfRangeInt", "([III)[I"⟩
def RJ3 : String := "jdk/internal/util/Preconditions"
def TJ3 : u_T := fun k => match k with
  | _ => ("", "", "", false)
def tyJ3 : Nat → FieldType := fun k => match k with
  | _ => .int
abbrev wsJ30 : List Cond := u_ws RJ3 TJ3 0
theorem nmJ3 : ∀ a, a < 0 → ∀ b, b < 0 → a ≠ b → (TJ3 a).2.1 ≠ (TJ3 b).2.1 := by decide +kernel
theorem tyJ3_ok : ∀ k, k < 0 → parseFieldDescriptor (TJ3 k).2.2.1 = some (tyJ3 k) := by decide +kernel
abbrev cJ3_checkIndex_8e157 : ByteArray := prog_22_method_11_code
def yJ3_checkIndex_8e157 : MethodName := ⟨RJ3, "checkIndex", "(IILjava/util/function/BiFunction;)I"⟩
abbrev cJ3_checkFromToIndex_8c36e : ByteArray := prog_22_method_12_code
def yJ3_checkFromToIndex_8c36e : MethodName := ⟨RJ3, "checkFromToIndex", "(IIILjava/util/function/BiFunction;)I"⟩
def RL : String := "FlexTermsLaw"
abbrev cL_law : ByteArray := code
def yL_law : MethodName := ⟨RL, "law", "([I)Z"⟩
