/-! ===== BEGIN words of one list among another's, by their places ===== -/
theorem goodIn_r {big : List Cond} (ws : List Cond) (ps : List Nat) (hp : ws = ps.filterMap (fun i => big[i]?)) (h : ws.all goodWord = true) : GoodIn big ws := by
  intro w hw
  have h1 := List.all_eq_true.mp h w hw
  rw [hp] at hw
  obtain ⟨i, -, hi⟩ := List.mem_filterMap.mp hw
  have hm : w ∈ big := by first | exact List.mem_of_getElem? hi | exact List.getElem?_mem hi
  exact ⟨hm, good_of_word h1⟩
theorem goodIn_app {big a b : List Cond} (ha : GoodIn big a) (hb : GoodIn big b) : GoodIn big (a ++ b) := fun w h => (List.mem_append.mp h).elim (ha w) (hb w)
theorem goodIn_ca {big a b : List Cond} {c : Cond} (ha : GoodIn big (c :: a)) (hb : GoodIn big b) : GoodIn big (c :: (a ++ b)) := fun w h => (List.mem_cons.mp h).elim (fun e => ha w (List.mem_cons.mpr (Or.inl e))) (fun h => (List.mem_append.mp h).elim (fun h => ha w (List.mem_cons.mpr (Or.inr h))) (hb w))
theorem goodIn_sub {big ws : List Cond} (hm : ∀ w ∈ ws, w ∈ big) (h : ws.all goodWord = true) : GoodIn big ws := fun w hw => ⟨hm w hw, good_of_word (List.all_eq_true.mp h w hw)⟩
/-! ===== END ===== -/

/-! ===== BEGIN printed: names, fields, word lists, decode rows ===== -/
def RX0 : String := "ChordGrammars$Chart"
def TX0 : u_T := fun k => match k with
  | 0 => ("ChordGrammars$Chart", "grammar", "LChordGrammars$Grammar;", true)
  | 1 => ("ChordGrammars$Chart", "symbols", "LChordGrammars$Symbols;", true)
  | 2 => ("ChordGrammars$Chart", "pitches", "[I", true)
  | 3 => ("ChordGrammars$Chart", "counts", "[J", true)
  | 4 => ("ChordGrammars$Chart", "sizes", "[I", true)
  | 5 => ("ChordGrammars$Chart", "least", "[J", true)
  | _ => ("ChordGrammars$Chart", "slots", "I", false)
def tyX0 : Nat → FieldType := fun k => match k with
  | 0 => .object "ChordGrammars$Grammar"
  | 1 => .object "ChordGrammars$Symbols"
  | 2 => .array .int
  | 3 => .array .long
  | 4 => .array .int
  | 5 => .array .long
  | _ => .int
abbrev wsX00 : List Cond := u_ws RX0 TX0 7
theorem nmX0 : ∀ a, a < 7 → ∀ b, b < 7 → a ≠ b → (TX0 a).2.1 ≠ (TX0 b).2.1 := by decide +kernel
theorem tyX0_ok : ∀ k, k < 7 → parseFieldDescriptor (TX0 k).2.2.1 = some (tyX0 k) := by decide +kernel
abbrev cX0_init : ByteArray := prog_2_method_1_code
def yX0_init : MethodName := ⟨RX0, "<init>", "()V"⟩
abbrev cX0_listAll : ByteArray := prog_2_method_2_code
def yX0_listAll : MethodName := ⟨RX0, "listAll", "(LChordGrammars$Grammar;LChordGrammars$Slots;LChordGrammars$Key;LChordGrammars$Tariff;)V"⟩
abbrev cX0_fillSpan : ByteArray := prog_2_method_3_code
def yX0_fillSpan : MethodName := ⟨RX0, "fillSpan", "(II)V"⟩
abbrev cX0_addWhole : ByteArray := prog_2_method_4_code
def yX0_addWhole : MethodName := ⟨RX0, "addWhole", "(III)V"⟩
abbrev cX0_addParts : ByteArray := prog_2_method_5_code
def yX0_addParts : MethodName := ⟨RX0, "addParts", "(IIII)V"⟩
abbrev cX0_offer : ByteArray := prog_2_method_6_code
def yX0_offer : MethodName := ⟨RX0, "offer", "(IJ)Z"⟩
abbrev cX0_listed : ByteArray := prog_2_method_7_code
def yX0_listed : MethodName := ⟨RX0, "listed", "()I"⟩
abbrev cX0_countOfAll : ByteArray := prog_2_method_8_code
def yX0_countOfAll : MethodName := ⟨RX0, "countOfAll", "()J"⟩
abbrev cX0_priceOfWhole : ByteArray := prog_2_method_9_code
def yX0_priceOfWhole : MethodName := ⟨RX0, "priceOfWhole", "(I)I"⟩
abbrev cX0_wholeRow : ByteArray := prog_2_method_10_code
def yX0_wholeRow : MethodName := ⟨RX0, "wholeRow", "()I"⟩
abbrev cX0_pitchAt : ByteArray := prog_2_method_11_code
def yX0_pitchAt : MethodName := ⟨RX0, "pitchAt", "(I)I"⟩
abbrev cX0_hasSlot : ByteArray := prog_2_method_12_code
def yX0_hasSlot : MethodName := ⟨RX0, "hasSlot", "(I)Z"⟩
abbrev cX0_sizeOf : ByteArray := prog_2_method_13_code
def yX0_sizeOf : MethodName := ⟨RX0, "sizeOf", "(III)I"⟩
abbrev cX0_countOf : ByteArray := prog_2_method_14_code
def yX0_countOf : MethodName := ⟨RX0, "countOf", "(III)J"⟩
abbrev cX0_priceOf : ByteArray := prog_2_method_15_code
def yX0_priceOf : MethodName := ⟨RX0, "priceOf", "(IIII)I"⟩
abbrev cX0_chordOf : ByteArray := prog_2_method_16_code
def yX0_chordOf : MethodName := ⟨RX0, "chordOf", "(II)I"⟩
abbrev cX0_entryAt : ByteArray := prog_2_method_17_code
def yX0_entryAt : MethodName := ⟨RX0, "entryAt", "(IIII)J"⟩
abbrev cX0_rowOf : ByteArray := prog_2_method_18_code
def yX0_rowOf : MethodName := ⟨RX0, "rowOf", "(III)I"⟩
abbrev cX0_entryOf : ByteArray := prog_2_method_19_code
def yX0_entryOf : MethodName := ⟨RX0, "entryOf", "(IIIII)J"⟩
abbrev cX0_ruleOf : ByteArray := prog_2_method_20_code
def yX0_ruleOf : MethodName := ⟨RX0, "ruleOf", "(J)I"⟩
abbrev cX0_partOf : ByteArray := prog_2_method_21_code
def yX0_partOf : MethodName := ⟨RX0, "partOf", "(J)I"⟩
abbrev cX0_rankOneOf : ByteArray := prog_2_method_22_code
def yX0_rankOneOf : MethodName := ⟨RX0, "rankOneOf", "(J)I"⟩
abbrev cX0_rankTwoOf : ByteArray := prog_2_method_23_code
def yX0_rankTwoOf : MethodName := ⟨RX0, "rankTwoOf", "(J)I"⟩
def RX1 : String := "ChordGrammars$Draft"
def TX1 : u_T := fun k => match k with
  | 0 => ("ChordGrammars$Draft", "octets", "[B", true)
  | _ => ("ChordGrammars$Draft", "size", "I", false)
def tyX1 : Nat → FieldType := fun k => match k with
  | 0 => .array .byte
  | _ => .int
abbrev wsX10 : List Cond := u_ws RX1 TX1 2
theorem nmX1 : ∀ a, a < 2 → ∀ b, b < 2 → a ≠ b → (TX1 a).2.1 ≠ (TX1 b).2.1 := by decide +kernel
theorem tyX1_ok : ∀ k, k < 2 → parseFieldDescriptor (TX1 k).2.2.1 = some (tyX1 k) := by decide +kernel
abbrev cX1_init : ByteArray := prog_3_method_1_code
def yX1_init : MethodName := ⟨RX1, "<init>", "()V"⟩
abbrev cX1_extend : ByteArray := prog_3_method_2_code
def yX1_extend : MethodName := ⟨RX1, "extend", "(IJ)I"⟩
abbrev cX1_octetAt : ByteArray := prog_3_method_3_code
def yX1_octetAt : MethodName := ⟨RX1, "octetAt", "(I)I"⟩
def RX2 : String := "ChordGrammars$Grammar"
def TX2 : u_T := fun k => match k with
  | 0 => ("ChordGrammars$Grammar", "lefts", "[I", true)
  | 1 => ("ChordGrammars$Grammar", "ones", "[I", true)
  | 2 => ("ChordGrammars$Grammar", "twos", "[I", true)
  | 3 => ("ChordGrammars$Grammar", "costs", "[I", true)
  | 4 => ("ChordGrammars$Grammar", "order", "[I", true)
  | _ => ("ChordGrammars$Grammar", "rules", "I", false)
def tyX2 : Nat → FieldType := fun k => match k with
  | 0 => .array .int
  | 1 => .array .int
  | 2 => .array .int
  | 3 => .array .int
  | 4 => .array .int
  | _ => .int
abbrev wsX20 : List Cond := u_ws RX2 TX2 6
theorem nmX2 : ∀ a, a < 6 → ∀ b, b < 6 → a ≠ b → (TX2 a).2.1 ≠ (TX2 b).2.1 := by decide +kernel
theorem tyX2_ok : ∀ k, k < 6 → parseFieldDescriptor (TX2 k).2.2.1 = some (tyX2 k) := by decide +kernel
abbrev cX2_init : ByteArray := prog_4_method_1_code
def yX2_init : MethodName := ⟨RX2, "<init>", "()V"⟩
abbrev cX2_become : ByteArray := prog_4_method_2_code
def yX2_become : MethodName := ⟨RX2, "become", "(LChordGrammars$Grammar;)V"⟩
abbrev cX2_renames : ByteArray := prog_4_method_3_code
def yX2_renames : MethodName := ⟨RX2, "renames", "(I)Z"⟩
def RX3 : String := "ChordGrammars$Key"
def TX3 : u_T := fun k => match k with
  | 0 => ("ChordGrammars$Key", "tonic", "I", false)
  | _ => ("ChordGrammars$Key", "isMinor", "Z", false)
def tyX3 : Nat → FieldType := fun k => match k with
  | 0 => .int
  | _ => .boolean
abbrev wsX30 : List Cond := u_ws RX3 TX3 2
theorem nmX3 : ∀ a, a < 2 → ∀ b, b < 2 → a ≠ b → (TX3 a).2.1 ≠ (TX3 b).2.1 := by decide +kernel
theorem tyX3_ok : ∀ k, k < 2 → parseFieldDescriptor (TX3 k).2.2.1 = some (tyX3 k) := by decide +kernel
abbrev cX3_init : ByteArray := prog_5_method_1_code
def yX3_init : MethodName := ⟨RX3, "<init>", "()V"⟩
abbrev cX3_change : ByteArray := prog_5_method_2_code
def yX3_change : MethodName := ⟨RX3, "change", "(IZ)Z"⟩
abbrev cX3_rootOf : ByteArray := prog_5_method_3_code
def yX3_rootOf : MethodName := ⟨RX3, "rootOf", "(I)I"⟩
def RX4 : String := "ChordGrammars$Reader"
def TX4 : u_T := fun k => match k with
  | 0 => ("ChordGrammars$Reader", "found", "LChordGrammars$Grammar;", true)
  | 1 => ("ChordGrammars$Reader", "leftPlaces", "[I", true)
  | 2 => ("ChordGrammars$Reader", "reach", "[I", true)
  | _ => ("ChordGrammars$Reader", "place", "I", false)
def tyX4 : Nat → FieldType := fun k => match k with
  | 0 => .object "ChordGrammars$Grammar"
  | 1 => .array .int
  | 2 => .array .int
  | _ => .int
abbrev wsX40 : List Cond := u_ws RX4 TX4 4
theorem nmX4 : ∀ a, a < 4 → ∀ b, b < 4 → a ≠ b → (TX4 a).2.1 ≠ (TX4 b).2.1 := by decide +kernel
theorem tyX4_ok : ∀ k, k < 4 → parseFieldDescriptor (TX4 k).2.2.1 = some (tyX4 k) := by decide +kernel
abbrev cX4_init : ByteArray := prog_6_method_1_code
def yX4_init : MethodName := ⟨RX4, "<init>", "()V"⟩
abbrev cX4_readAll : ByteArray := prog_6_method_2_code
def yX4_readAll : MethodName := ⟨RX4, "readAll", "(LChordGrammars$Draft;)I"⟩
abbrev cX4_readRule : ByteArray := prog_6_method_3_code
def yX4_readRule : MethodName := ⟨RX4, "readRule", "(LChordGrammars$Draft;)Z"⟩
abbrev cX4_readItem : ByteArray := prog_6_method_4_code
def yX4_readItem : MethodName := ⟨RX4, "readItem", "(LChordGrammars$Draft;)I"⟩
abbrev cX4_readCost : ByteArray := prog_6_method_5_code
def yX4_readCost : MethodName := ⟨RX4, "readCost", "(LChordGrammars$Draft;)I"⟩
abbrev cX4_takes : ByteArray := prog_6_method_6_code
def yX4_takes : MethodName := ⟨RX4, "takes", "(LChordGrammars$Draft;I)Z"⟩
abbrev cX4_nextOctet : ByteArray := prog_6_method_7_code
def yX4_nextOctet : MethodName := ⟨RX4, "nextOctet", "(LChordGrammars$Draft;)I"⟩
abbrev cX4_isName : ByteArray := prog_6_method_8_code
def yX4_isName : MethodName := ⟨RX4, "isName", "(I)Z"⟩
abbrev cX4_isFigure : ByteArray := prog_6_method_9_code
def yX4_isFigure : MethodName := ⟨RX4, "isFigure", "(I)Z"⟩
abbrev cX4_kindOf : ByteArray := prog_6_method_10_code
def yX4_kindOf : MethodName := ⟨RX4, "kindOf", "(I)I"⟩
abbrev cX4_findReach : ByteArray := prog_6_method_11_code
def yX4_findReach : MethodName := ⟨RX4, "findReach", "()V"⟩
abbrev cX4_reaches : ByteArray := prog_6_method_12_code
def yX4_reaches : MethodName := ⟨RX4, "reaches", "(II)Z"⟩
abbrev cX4_ringPlace : ByteArray := prog_6_method_13_code
def yX4_ringPlace : MethodName := ⟨RX4, "ringPlace", "()I"⟩
abbrev cX4_arrange : ByteArray := prog_6_method_14_code
def yX4_arrange : MethodName := ⟨RX4, "arrange", "()V"⟩
def RX5 : String := "ChordGrammars$Slots"
def TX5 : u_T := fun k => match k with
  | 0 => ("ChordGrammars$Slots", "sets", "[I", true)
  | 1 => ("ChordGrammars$Slots", "basses", "[I", true)
  | 2 => ("ChordGrammars$Slots", "pitches", "[I", true)
  | _ => ("ChordGrammars$Slots", "count", "I", false)
def tyX5 : Nat → FieldType := fun k => match k with
  | 0 => .array .int
  | 1 => .array .int
  | 2 => .array .int
  | _ => .int
abbrev wsX50 : List Cond := u_ws RX5 TX5 4
theorem nmX5 : ∀ a, a < 4 → ∀ b, b < 4 → a ≠ b → (TX5 a).2.1 ≠ (TX5 b).2.1 := by decide +kernel
theorem tyX5_ok : ∀ k, k < 4 → parseFieldDescriptor (TX5 k).2.2.1 = some (tyX5 k) := by decide +kernel
abbrev cX5_init : ByteArray := prog_7_method_1_code
def yX5_init : MethodName := ⟨RX5, "<init>", "()V"⟩
abbrev cX5_has : ByteArray := prog_7_method_2_code
def yX5_has : MethodName := ⟨RX5, "has", "(I)Z"⟩
abbrev cX5_add : ByteArray := prog_7_method_3_code
def yX5_add : MethodName := ⟨RX5, "add", "(III)I"⟩
def RX6 : String := "ChordGrammars$Symbols"
def TX6 : u_T := fun k => match k with
  | 0 => ("ChordGrammars$Symbols", "chords", "[I", true)
  | _ => ("ChordGrammars$Symbols", "prices", "[I", true)
def tyX6 : Nat → FieldType := fun k => match k with
  | 0 => .array .int
  | _ => .array .int
abbrev wsX60 : List Cond := u_ws RX6 TX6 2
theorem nmX6 : ∀ a, a < 2 → ∀ b, b < 2 → a ≠ b → (TX6 a).2.1 ≠ (TX6 b).2.1 := by decide +kernel
theorem tyX6_ok : ∀ k, k < 2 → parseFieldDescriptor (TX6 k).2.2.1 = some (tyX6 k) := by decide +kernel
abbrev cX6_init : ByteArray := prog_8_method_1_code
def yX6_init : MethodName := ⟨RX6, "<init>", "()V"⟩
abbrev cX6_fill : ByteArray := prog_8_method_2_code
def yX6_fill : MethodName := ⟨RX6, "fill", "(LChordGrammars$Slots;LChordGrammars$Key;LChordGrammars$Tariff;)V"⟩
abbrev cX6_fillDegree : ByteArray := prog_8_method_3_code
def yX6_fillDegree : MethodName := ⟨RX6, "fillDegree", "(LChordGrammars$Slots;IIILChordGrammars$Tariff;)V"⟩
def RX7 : String := "ChordGrammars$Tariff"
def TX7 : u_T := fun k => match k with
  | _ => ("ChordGrammars$Tariff", "costs", "[I", true)
def tyX7 : Nat → FieldType := fun k => match k with
  | _ => .array .int
abbrev wsX70 : List Cond := u_ws RX7 TX7 1
theorem nmX7 : ∀ a, a < 1 → ∀ b, b < 1 → a ≠ b → (TX7 a).2.1 ≠ (TX7 b).2.1 := by decide +kernel
theorem tyX7_ok : ∀ k, k < 1 → parseFieldDescriptor (TX7 k).2.2.1 = some (tyX7 k) := by decide +kernel
abbrev cX7_init : ByteArray := prog_9_method_1_code
def yX7_init : MethodName := ⟨RX7, "<init>", "()V"⟩
abbrev cX7_change : ByteArray := prog_9_method_2_code
def yX7_change : MethodName := ⟨RX7, "change", "(II)Z"⟩
abbrev cX7_ofFit : ByteArray := prog_9_method_3_code
def yX7_ofFit : MethodName := ⟨RX7, "ofFit", "(IIII)I"⟩
abbrev cX7_ofBass : ByteArray := prog_9_method_4_code
def yX7_ofBass : MethodName := ⟨RX7, "ofBass", "(III)I"⟩
abbrev cX7_cheapest : ByteArray := prog_9_method_5_code
def yX7_cheapest : MethodName := ⟨RX7, "cheapest", "(II)I"⟩
def RX8 : String := "ChordGrammars$Tree"
def TX8 : u_T := fun k => match k with
  | 0 => ("ChordGrammars$Tree", "reading", "I", false)
  | 1 => ("ChordGrammars$Tree", "count", "I", false)
  | 2 => ("ChordGrammars$Tree", "rules", "[I", true)
  | 3 => ("ChordGrammars$Tree", "firsts", "[I", true)
  | 4 => ("ChordGrammars$Tree", "lasts", "[I", true)
  | 5 => ("ChordGrammars$Tree", "chords", "[I", true)
  | 6 => ("ChordGrammars$Tree", "slotChords", "[I", true)
  | 7 => ("ChordGrammars$Tree", "slotDegrees", "[I", true)
  | 8 => ("ChordGrammars$Tree", "waitingItems", "[I", true)
  | 9 => ("ChordGrammars$Tree", "waitingFirsts", "[I", true)
  | 10 => ("ChordGrammars$Tree", "waitingLasts", "[I", true)
  | 11 => ("ChordGrammars$Tree", "waitingRanks", "[I", true)
  | _ => ("ChordGrammars$Tree", "waiting", "I", false)
def tyX8 : Nat → FieldType := fun k => match k with
  | 0 => .int
  | 1 => .int
  | 2 => .array .int
  | 3 => .array .int
  | 4 => .array .int
  | 5 => .array .int
  | 6 => .array .int
  | 7 => .array .int
  | 8 => .array .int
  | 9 => .array .int
  | 10 => .array .int
  | 11 => .array .int
  | _ => .int
abbrev wsX80 : List Cond := u_ws RX8 TX8 13
theorem nmX8 : ∀ a, a < 13 → ∀ b, b < 13 → a ≠ b → (TX8 a).2.1 ≠ (TX8 b).2.1 := by decide +kernel
theorem tyX8_ok : ∀ k, k < 13 → parseFieldDescriptor (TX8 k).2.2.1 = some (tyX8 k) := by decide +kernel
abbrev cX8_init : ByteArray := prog_10_method_1_code
def yX8_init : MethodName := ⟨RX8, "<init>", "()V"⟩
abbrev cX8_walk : ByteArray := prog_10_method_2_code
def yX8_walk : MethodName := ⟨RX8, "walk", "(LChordGrammars$Chart;I)V"⟩
abbrev cX8_visit : ByteArray := prog_10_method_3_code
def yX8_visit : MethodName := ⟨RX8, "visit", "(LChordGrammars$Chart;II)V"⟩
abbrev cX8_pushParts : ByteArray := prog_10_method_4_code
def yX8_pushParts : MethodName := ⟨RX8, "pushParts", "(LChordGrammars$Grammar;JII)V"⟩
abbrev cX8_push : ByteArray := prog_10_method_5_code
def yX8_push : MethodName := ⟨RX8, "push", "(IIII)V"⟩
abbrev cX8_degreeAt : ByteArray := prog_10_method_6_code
def yX8_degreeAt : MethodName := ⟨RX8, "degreeAt", "(I)I"⟩
def RX9 : String := "ChordGrammars"
def TX9 : u_T := fun k => match k with
  | 0 => ("ChordGrammars", "key", "LChordGrammars$Key;", true)
  | 1 => ("ChordGrammars", "tariff", "LChordGrammars$Tariff;", true)
  | 2 => ("ChordGrammars", "slots", "LChordGrammars$Slots;", true)
  | 3 => ("ChordGrammars", "draft", "LChordGrammars$Draft;", true)
  | 4 => ("ChordGrammars", "grammar", "LChordGrammars$Grammar;", true)
  | 5 => ("ChordGrammars", "reader", "LChordGrammars$Reader;", true)
  | 6 => ("ChordGrammars", "chart", "LChordGrammars$Chart;", true)
  | _ => ("ChordGrammars", "tree", "LChordGrammars$Tree;", true)
def tyX9 : Nat → FieldType := fun k => match k with
  | 0 => .object "ChordGrammars$Key"
  | 1 => .object "ChordGrammars$Tariff"
  | 2 => .object "ChordGrammars$Slots"
  | 3 => .object "ChordGrammars$Draft"
  | 4 => .object "ChordGrammars$Grammar"
  | 5 => .object "ChordGrammars$Reader"
  | 6 => .object "ChordGrammars$Chart"
  | _ => .object "ChordGrammars$Tree"
abbrev wsX90 : List Cond := u_ws RX9 TX9 8
theorem nmX9 : ∀ a, a < 8 → ∀ b, b < 8 → a ≠ b → (TX9 a).2.1 ≠ (TX9 b).2.1 := by decide +kernel
theorem tyX9_ok : ∀ k, k < 8 → parseFieldDescriptor (TX9 k).2.2.1 = some (tyX9 k) := by decide +kernel
abbrev cX9_init : ByteArray := prog_1_method_1_code
def yX9_init : MethodName := ⟨RX9, "<init>", "()V"⟩
abbrev cX9_key : ByteArray := prog_1_method_2_code
def yX9_key : MethodName := ⟨RX9, "key", "(IZ)Z"⟩
abbrev cX9_cost : ByteArray := prog_1_method_3_code
def yX9_cost : MethodName := ⟨RX9, "cost", "(II)Z"⟩
abbrev cX9_draft : ByteArray := prog_1_method_4_code
def yX9_draft : MethodName := ⟨RX9, "draft", "(IJ)I"⟩
abbrev cX9_grammar : ByteArray := prog_1_method_5_code
def yX9_grammar : MethodName := ⟨RX9, "grammar", "()I"⟩
abbrev cX9_slot : ByteArray := prog_1_method_6_code
def yX9_slot : MethodName := ⟨RX9, "slot", "(III)I"⟩
abbrev cX9_clear : ByteArray := prog_1_method_7_code
def yX9_clear : MethodName := ⟨RX9, "clear", "()I"⟩
abbrev cX9_fit : ByteArray := prog_1_method_8_code
def yX9_fit : MethodName := ⟨RX9, "fit", "(III)I"⟩
abbrev cX9_best : ByteArray := prog_1_method_9_code
def yX9_best : MethodName := ⟨RX9, "best", "(I)I"⟩
abbrev cX9_parse : ByteArray := prog_1_method_10_code
def yX9_parse : MethodName := ⟨RX9, "parse", "()I"⟩
abbrev cX9_readings : ByteArray := prog_1_method_11_code
def yX9_readings : MethodName := ⟨RX9, "readings", "()J"⟩
abbrev cX9_price : ByteArray := prog_1_method_12_code
def yX9_price : MethodName := ⟨RX9, "price", "(I)I"⟩
abbrev cX9_node : ByteArray := prog_1_method_13_code
def yX9_node : MethodName := ⟨RX9, "node", "(III)I"⟩
abbrev cX9_nodes : ByteArray := prog_1_method_14_code
def yX9_nodes : MethodName := ⟨RX9, "nodes", "(I)I"⟩
abbrev cX9_chord : ByteArray := prog_1_method_15_code
def yX9_chord : MethodName := ⟨RX9, "chord", "(II)I"⟩
abbrev cX9_cadence : ByteArray := prog_1_method_16_code
def yX9_cadence : MethodName := ⟨RX9, "cadence", "(I)I"⟩
abbrev cX9_melody : ByteArray := prog_1_method_17_code
def yX9_melody : MethodName := ⟨RX9, "melody", "(II)I"⟩
abbrev cX9_cell : ByteArray := prog_1_method_18_code
def yX9_cell : MethodName := ⟨RX9, "cell", "(III)J"⟩
abbrev cX9_told : ByteArray := prog_1_method_19_code
def yX9_told : MethodName := ⟨RX9, "told", "(I)I"⟩
abbrev cX9_isListed : ByteArray := prog_1_method_20_code
def yX9_isListed : MethodName := ⟨RX9, "isListed", "(I)Z"⟩
abbrev cX9_treeOf : ByteArray := prog_1_method_21_code
def yX9_treeOf : MethodName := ⟨RX9, "treeOf", "(I)LChordGrammars$Tree;"⟩
abbrev cX9_chordSet : ByteArray := prog_1_method_22_code
def yX9_chordSet : MethodName := ⟨RX9, "chordSet", "(II)I"⟩
abbrev cX9_ending : ByteArray := prog_1_method_23_code
def yX9_ending : MethodName := ⟨RX9, "ending", "(II)I"⟩
abbrev cX9_strangerNote : ByteArray := prog_1_method_24_code
def yX9_strangerNote : MethodName := ⟨RX9, "strangerNote", "(III)I"⟩
abbrev cX9_isStep : ByteArray := prog_1_method_25_code
def yX9_isStep : MethodName := ⟨RX9, "isStep", "(I)Z"⟩
abbrev cX9_isLeap : ByteArray := prog_1_method_26_code
def yX9_isLeap : MethodName := ⟨RX9, "isLeap", "(I)Z"⟩
def RX10 : String := "ChordGrammarsModel"
def TX10 : u_T := fun k => match k with
  | 0 => ("ChordGrammarsModel", "thrown", "I", false)
  | 1 => ("ChordGrammarsModel", "tonic", "I", false)
  | 2 => ("ChordGrammarsModel", "minor", "Z", false)
  | 3 => ("ChordGrammarsModel", "costs", "[I", true)
  | 4 => ("ChordGrammarsModel", "draft", "[I", true)
  | 5 => ("ChordGrammarsModel", "drafted", "I", false)
  | 6 => ("ChordGrammarsModel", "slots", "I", false)
  | 7 => ("ChordGrammarsModel", "sets", "[I", true)
  | 8 => ("ChordGrammarsModel", "basses", "[I", true)
  | 9 => ("ChordGrammarsModel", "melodies", "[I", true)
  | 10 => ("ChordGrammarsModel", "rules", "I", false)
  | 11 => ("ChordGrammarsModel", "left", "[I", true)
  | 12 => ("ChordGrammarsModel", "first", "[I", true)
  | 13 => ("ChordGrammarsModel", "second", "[I", true)
  | 14 => ("ChordGrammarsModel", "ruleCost", "[I", true)
  | 15 => ("ChordGrammarsModel", "newRules", "I", false)
  | 16 => ("ChordGrammarsModel", "newLeft", "[I", true)
  | 17 => ("ChordGrammarsModel", "newFirst", "[I", true)
  | 18 => ("ChordGrammarsModel", "newSecond", "[I", true)
  | 19 => ("ChordGrammarsModel", "newCost", "[I", true)
  | 20 => ("ChordGrammarsModel", "newPlace", "[I", true)
  | 21 => ("ChordGrammarsModel", "place", "I", false)
  | 22 => ("ChordGrammarsModel", "fault", "I", false)
  | 23 => ("ChordGrammarsModel", "leads", "[Z", true)
  | 24 => ("ChordGrammarsModel", "n", "I", false)
  | 25 => ("ChordGrammarsModel", "parsedRules", "I", false)
  | 26 => ("ChordGrammarsModel", "pLeft", "[I", true)
  | 27 => ("ChordGrammarsModel", "pFirst", "[I", true)
  | 28 => ("ChordGrammarsModel", "pSecond", "[I", true)
  | 29 => ("ChordGrammarsModel", "pCost", "[I", true)
  | 30 => ("ChordGrammarsModel", "pMelody", "[I", true)
  | 31 => ("ChordGrammarsModel", "symbolChord", "[I", true)
  | 32 => ("ChordGrammarsModel", "symbolCost", "[I", true)
  | 33 => ("ChordGrammarsModel", "sizes", "[I", true)
  | 34 => ("ChordGrammarsModel", "counts", "[J", true)
  | 35 => ("ChordGrammarsModel", "listCost", "[I", true)
  | 36 => ("ChordGrammarsModel", "listKey", "[I", true)
  | 37 => ("ChordGrammarsModel", "turn", "[I", true)
  | 38 => ("ChordGrammarsModel", "parsed", "Z", false)
  | 39 => ("ChordGrammarsModel", "toItem", "[I", true)
  | 40 => ("ChordGrammarsModel", "toFrom", "[I", true)
  | 41 => ("ChordGrammarsModel", "toLast", "[I", true)
  | 42 => ("ChordGrammarsModel", "toRank", "[I", true)
  | 43 => ("ChordGrammarsModel", "waiting", "I", false)
  | 44 => ("ChordGrammarsModel", "nodeItem", "I", false)
  | 45 => ("ChordGrammarsModel", "nodeFrom", "I", false)
  | 46 => ("ChordGrammarsModel", "nodeLast", "I", false)
  | _ => ("ChordGrammarsModel", "nodeRule", "I", false)
def tyX10 : Nat → FieldType := fun k => match k with
  | 0 => .int
  | 1 => .int
  | 2 => .boolean
  | 3 => .array .int
  | 4 => .array .int
  | 5 => .int
  | 6 => .int
  | 7 => .array .int
  | 8 => .array .int
  | 9 => .array .int
  | 10 => .int
  | 11 => .array .int
  | 12 => .array .int
  | 13 => .array .int
  | 14 => .array .int
  | 15 => .int
  | 16 => .array .int
  | 17 => .array .int
  | 18 => .array .int
  | 19 => .array .int
  | 20 => .array .int
  | 21 => .int
  | 22 => .int
  | 23 => .array .boolean
  | 24 => .int
  | 25 => .int
  | 26 => .array .int
  | 27 => .array .int
  | 28 => .array .int
  | 29 => .array .int
  | 30 => .array .int
  | 31 => .array .int
  | 32 => .array .int
  | 33 => .array .int
  | 34 => .array .long
  | 35 => .array .int
  | 36 => .array .int
  | 37 => .array .int
  | 38 => .boolean
  | 39 => .array .int
  | 40 => .array .int
  | 41 => .array .int
  | 42 => .array .int
  | 43 => .int
  | 44 => .int
  | 45 => .int
  | 46 => .int
  | _ => .int
abbrev wsX100 : List Cond := u_ws RX10 TX10 48
theorem nmX10 : ∀ a, a < 48 → ∀ b, b < 48 → a ≠ b → (TX10 a).2.1 ≠ (TX10 b).2.1 := by decide +kernel
theorem tyX10_ok : ∀ k, k < 48 → parseFieldDescriptor (TX10 k).2.2.1 = some (tyX10 k) := by decide +kernel
abbrev cX10_init : ByteArray := prog_12_method_1_code
def yX10_init : MethodName := ⟨RX10, "<init>", "()V"⟩
abbrev cX10_thrown : ByteArray := prog_12_method_2_code
def yX10_thrown : MethodName := ⟨RX10, "thrown", "()I"⟩
abbrev cX10_key : ByteArray := prog_12_method_3_code
def yX10_key : MethodName := ⟨RX10, "key", "(IZ)Z"⟩
abbrev cX10_cost : ByteArray := prog_12_method_4_code
def yX10_cost : MethodName := ⟨RX10, "cost", "(II)Z"⟩
abbrev cX10_draft : ByteArray := prog_12_method_5_code
def yX10_draft : MethodName := ⟨RX10, "draft", "(IJ)I"⟩
abbrev cX10_here : ByteArray := prog_12_method_6_code
def yX10_here : MethodName := ⟨RX10, "here", "()I"⟩
abbrev cX10_blanks : ByteArray := prog_12_method_7_code
def yX10_blanks : MethodName := ⟨RX10, "blanks", "()V"⟩
abbrev cX10_stop : ByteArray := prog_12_method_8_code
def yX10_stop : MethodName := ⟨RX10, "stop", "(I)V"⟩
abbrev cX10_isName : ByteArray := prog_12_method_9_code
def yX10_isName : MethodName := ⟨RX10, "isName", "(I)Z"⟩
abbrev cX10_isDegree : ByteArray := prog_12_method_10_code
def yX10_isDegree : MethodName := ⟨RX10, "isDegree", "(I)Z"⟩
abbrev cX10_kindOf : ByteArray := prog_12_method_11_code
def yX10_kindOf : MethodName := ⟨RX10, "kindOf", "(I)I"⟩
abbrev cX10_item : ByteArray := prog_12_method_12_code
def yX10_item : MethodName := ⟨RX10, "item", "()I"⟩
abbrev cX10_isItem : ByteArray := prog_12_method_13_code
def yX10_isItem : MethodName := ⟨RX10, "isItem", "()Z"⟩
abbrev cX10_figures : ByteArray := prog_12_method_14_code
def yX10_figures : MethodName := ⟨RX10, "figures", "()I"⟩
abbrev cX10_rule : ByteArray := prog_12_method_15_code
def yX10_rule : MethodName := ⟨RX10, "rule", "()V"⟩
abbrev cX10_isUnary : ByteArray := prog_12_method_16_code
def yX10_isUnary : MethodName := ⟨RX10, "isUnary", "(I)Z"⟩
abbrev cX10_findRings : ByteArray := prog_12_method_17_code
def yX10_findRings : MethodName := ⟨RX10, "findRings", "()V"⟩
abbrev cX10_grammar : ByteArray := prog_12_method_18_code
def yX10_grammar : MethodName := ⟨RX10, "grammar", "()I"⟩
abbrev cX10_slot : ByteArray := prog_12_method_19_code
def yX10_slot : MethodName := ⟨RX10, "slot", "(III)I"⟩
abbrev cX10_clear : ByteArray := prog_12_method_20_code
def yX10_clear : MethodName := ⟨RX10, "clear", "()I"⟩
abbrev cX10_shape : ByteArray := prog_12_method_21_code
def yX10_shape : MethodName := ⟨RX10, "shape", "(I)I"⟩
abbrev cX10_classes : ByteArray := prog_12_method_22_code
def yX10_classes : MethodName := ⟨RX10, "classes", "(II)I"⟩
abbrev cX10_many : ByteArray := prog_12_method_23_code
def yX10_many : MethodName := ⟨RX10, "many", "(I)I"⟩
abbrev cX10_fits : ByteArray := prog_12_method_24_code
def yX10_fits : MethodName := ⟨RX10, "fits", "(III)I"⟩
abbrev cX10_fit : ByteArray := prog_12_method_25_code
def yX10_fit : MethodName := ⟨RX10, "fit", "(III)I"⟩
abbrev cX10_best : ByteArray := prog_12_method_26_code
def yX10_best : MethodName := ⟨RX10, "best", "(I)I"⟩
abbrev cX10_degree : ByteArray := prog_12_method_27_code
def yX10_degree : MethodName := ⟨RX10, "degree", "(I)I"⟩
abbrev cX10_readSymbols : ByteArray := prog_12_method_28_code
def yX10_readSymbols : MethodName := ⟨RX10, "readSymbols", "()V"⟩
abbrev cX10_cellOf : ByteArray := prog_12_method_29_code
def yX10_cellOf : MethodName := ⟨RX10, "cellOf", "(III)I"⟩
abbrev cX10_itemSize : ByteArray := prog_12_method_30_code
def yX10_itemSize : MethodName := ⟨RX10, "itemSize", "(III)I"⟩
abbrev cX10_itemCount : ByteArray := prog_12_method_31_code
def yX10_itemCount : MethodName := ⟨RX10, "itemCount", "(III)J"⟩
abbrev cX10_itemCost : ByteArray := prog_12_method_32_code
def yX10_itemCost : MethodName := ⟨RX10, "itemCost", "(IIII)I"⟩
abbrev cX10_comes : ByteArray := prog_12_method_33_code
def yX10_comes : MethodName := ⟨RX10, "comes", "(III)Z"⟩
abbrev cX10_one : ByteArray := prog_12_method_34_code
def yX10_one : MethodName := ⟨RX10, "one", "(IIII)V"⟩
abbrev cX10_two : ByteArray := prog_12_method_35_code
def yX10_two : MethodName := ⟨RX10, "two", "(IIII)V"⟩
abbrev cX10_order : ByteArray := prog_12_method_36_code
def yX10_order : MethodName := ⟨RX10, "order", "()V"⟩
abbrev cX10_nameAt : ByteArray := prog_12_method_37_code
def yX10_nameAt : MethodName := ⟨RX10, "nameAt", "(I)I"⟩
abbrev cX10_parse : ByteArray := prog_12_method_38_code
def yX10_parse : MethodName := ⟨RX10, "parse", "()I"⟩
abbrev cX10_topCell : ByteArray := prog_12_method_39_code
def yX10_topCell : MethodName := ⟨RX10, "topCell", "()I"⟩
abbrev cX10_listed : ByteArray := prog_12_method_40_code
def yX10_listed : MethodName := ⟨RX10, "listed", "()I"⟩
abbrev cX10_noReading : ByteArray := prog_12_method_41_code
def yX10_noReading : MethodName := ⟨RX10, "noReading", "(I)Z"⟩
abbrev cX10_readings : ByteArray := prog_12_method_42_code
def yX10_readings : MethodName := ⟨RX10, "readings", "()J"⟩
abbrev cX10_price : ByteArray := prog_12_method_43_code
def yX10_price : MethodName := ⟨RX10, "price", "(I)I"⟩
abbrev cX10_later : ByteArray := prog_12_method_44_code
def yX10_later : MethodName := ⟨RX10, "later", "(IIII)V"⟩
abbrev cX10_begin : ByteArray := prog_12_method_45_code
def yX10_begin : MethodName := ⟨RX10, "begin", "(I)V"⟩
abbrev cX10_next : ByteArray := prog_12_method_46_code
def yX10_next : MethodName := ⟨RX10, "next", "()Z"⟩
abbrev cX10_nodeChord : ByteArray := prog_12_method_47_code
def yX10_nodeChord : MethodName := ⟨RX10, "nodeChord", "()I"⟩
abbrev cX10_node : ByteArray := prog_12_method_48_code
def yX10_node : MethodName := ⟨RX10, "node", "(III)I"⟩
abbrev cX10_nodes : ByteArray := prog_12_method_49_code
def yX10_nodes : MethodName := ⟨RX10, "nodes", "(I)I"⟩
abbrev cX10_symbolAt : ByteArray := prog_12_method_50_code
def yX10_symbolAt : MethodName := ⟨RX10, "symbolAt", "(II)I"⟩
abbrev cX10_chord : ByteArray := prog_12_method_51_code
def yX10_chord : MethodName := ⟨RX10, "chord", "(II)I"⟩
abbrev cX10_cadence : ByteArray := prog_12_method_52_code
def yX10_cadence : MethodName := ⟨RX10, "cadence", "(I)I"⟩
abbrev cX10_isStep : ByteArray := prog_12_method_53_code
def yX10_isStep : MethodName := ⟨RX10, "isStep", "(I)Z"⟩
abbrev cX10_isMore : ByteArray := prog_12_method_54_code
def yX10_isMore : MethodName := ⟨RX10, "isMore", "(I)Z"⟩
abbrev cX10_isTurned : ByteArray := prog_12_method_55_code
def yX10_isTurned : MethodName := ⟨RX10, "isTurned", "(II)Z"⟩
abbrev cX10_melody : ByteArray := prog_12_method_56_code
def yX10_melody : MethodName := ⟨RX10, "melody", "(II)I"⟩
abbrev cX10_cell : ByteArray := prog_12_method_57_code
def yX10_cell : MethodName := ⟨RX10, "cell", "(III)J"⟩
abbrev cX10_told : ByteArray := prog_12_method_58_code
def yX10_told : MethodName := ⟨RX10, "told", "(I)I"⟩
def RJx00060 : String := "java/lang/ArrayIndexOutOfBoundsException"
def TJx00060 : u_T := fun k => match k with
  | 0 => ("java/lang/Throwable", "cause", "Ljava/lang/Throwable;", false)
  | 1 => ("java/lang/Throwable", "stackTrace", "[Ljava/lang/StackTraceElement;", false)
  | 2 => ("java/lang/Throwable", "suppressedExceptions", "Ljava/util/List;", false)
  | 3 => ("java/lang/Throwable", "detailMessage", "Ljava/lang/String;", false)
  | 4 => ("java/lang/Throwable", "backtrace", "Ljava/lang/Object;", false)
  | _ => ("java/lang/Throwable", "depth", "I", false)
def tyJx00060 : Nat → FieldType := fun k => match k with
  | 0 => .object "java/lang/Throwable"
  | 1 => .array (.object "java/lang/StackTraceElement")
  | 2 => .object "java/util/List"
  | 3 => .object "java/lang/String"
  | 4 => .object "java/lang/Object"
  | _ => .int
abbrev wsJx000600 : List Cond := u_ws RJx00060 TJx00060 6
theorem nmJx00060 : ∀ a, a < 6 → ∀ b, b < 6 → a ≠ b → (TJx00060 a).2.1 ≠ (TJx00060 b).2.1 := by decide +kernel
theorem tyJx00060_ok : ∀ k, k < 6 → parseFieldDescriptor (TJx00060 k).2.2.1 = some (tyJx00060 k) := by decide +kernel
abbrev cJx00060_init_a7421 : ByteArray := prog_13_method_2_code
def yJx00060_init_a7421 : MethodName := ⟨RJx00060, "<init>", "(Ljava/lang/String;)V"⟩
def RJ11 : String := "java/lang/Character"
def TJ11 : u_T := fun k => match k with
  | _ => ("", "", "", false)
def tyJ11 : Nat → FieldType := fun k => match k with
  | _ => .int
abbrev wsJ110 : List Cond := u_ws RJ11 TJ11 0
theorem nmJ11 : ∀ a, a < 0 → ∀ b, b < 0 → a ≠ b → (TJ11 a).2.1 ≠ (TJ11 b).2.1 := by decide +kernel
theorem tyJ11_ok : ∀ k, k < 0 → parseFieldDescriptor (TJ11 k).2.2.1 = some (tyJ11 k) := by decide +kernel
abbrev cJ11_isValidCodePoint_9a6ad : ByteArray := prog_14_method_11_code
def yJ11_isValidCodePoint_9a6ad : MethodName := ⟨RJ11, "isValidCodePoint", "(I)Z"⟩
abbrev cJ11_highSurrogate_5068e : ByteArray := prog_14_method_28_code
def yJ11_highSurrogate_5068e : MethodName := ⟨RJ11, "highSurrogate", "(I)C"⟩
abbrev cJ11_lowSurrogate_5068e : ByteArray := prog_14_method_29_code
def yJ11_lowSurrogate_5068e : MethodName := ⟨RJ11, "lowSurrogate", "(I)C"⟩
def RJ6 : String := "java/lang/Integer"
def TJ6 : u_T := fun k => match k with
  | _ => ("", "", "", false)
def tyJ6 : Nat → FieldType := fun k => match k with
  | _ => .int
abbrev wsJ60 : List Cond := u_ws RJ6 TJ6 0
theorem nmJ6 : ∀ a, a < 0 → ∀ b, b < 0 → a ≠ b → (TJ6 a).2.1 ≠ (TJ6 b).2.1 := by decide +kernel
theorem tyJ6_ok : ∀ k, k < 0 → parseFieldDescriptor (TJ6 k).2.2.1 = some (tyJ6 k) := by decide +kernel
abbrev cJ6_bitCount_0f7a4 : ByteArray := prog_17_method_49_code
def yJ6_bitCount_0f7a4 : MethodName := ⟨RJ6, "bitCount", "(I)I"⟩
def RJ9 : String := "java/lang/Math"
def TJ9 : u_T := fun k => match k with
  | _ => ("", "", "", false)
def tyJ9 : Nat → FieldType := fun k => match k with
  | _ => .int
abbrev wsJ90 : List Cond := u_ws RJ9 TJ9 0
theorem nmJ9 : ∀ a, a < 0 → ∀ b, b < 0 → a ≠ b → (TJ9 a).2.1 ≠ (TJ9 b).2.1 := by decide +kernel
theorem tyJ9_ok : ∀ k, k < 0 → parseFieldDescriptor (TJ9 k).2.2.1 = some (tyJ9 k) := by decide +kernel
abbrev cJ9_max_7cf53 : ByteArray := prog_18_method_65_code
def yJ9_max_7cf53 : MethodName := ⟨RJ9, "max", "(II)I"⟩
abbrev cJ9_min_7cf53 : ByteArray := prog_18_method_69_code
def yJ9_min_7cf53 : MethodName := ⟨RJ9, "min", "(II)I"⟩
def RJ0 : String := "java/lang/String"
def TJ0 : u_T := fun k => match k with
  | _ => ("", "", "", false)
def tyJ0 : Nat → FieldType := fun k => match k with
  | _ => .int
abbrev wsJ00 : List Cond := u_ws RJ0 TJ0 0
theorem nmJ0 : ∀ a, a < 0 → ∀ b, b < 0 → a ≠ b → (TJ0 a).2.1 ≠ (TJ0 b).2.1 := by decide +kernel
theorem tyJ0_ok : ∀ k, k < 0 → parseFieldDescriptor (TJ0 k).2.2.1 = some (tyJ0 k) := by decide +kernel
abbrev cJ0_length_8abf5 : ByteArray := prog_20_method_54_code
def yJ0_length_8abf5 : MethodName := ⟨RJ0, "length", "()I"⟩
abbrev cJ0_indexOf_0f7a4 : ByteArray := prog_20_method_79_code
def yJ0_indexOf_0f7a4 : MethodName := ⟨RJ0, "indexOf", "(I)I"⟩
abbrev cJ0_indexOf_7cf53 : ByteArray := prog_20_method_80_code
def yJ0_indexOf_7cf53 : MethodName := ⟨RJ0, "indexOf", "(II)I"⟩
abbrev cJ0_coder_7d493 : ByteArray := prog_20_method_152_code
def yJ0_coder_7d493 : MethodName := ⟨RJ0, "coder", "()B"⟩
abbrev cJ0_isLatin1_aae02 : ByteArray := prog_20_method_154_code
def yJ0_isLatin1_aae02 : MethodName := ⟨RJ0, "isLatin1", "()Z"⟩
abbrev cJ0_checkBoundsBeginEnd_23922 : ByteArray := prog_20_method_158_code
def yJ0_checkBoundsBeginEnd_23922 : MethodName := ⟨RJ0, "checkBoundsBeginEnd", "(III)V"⟩
def RJ1 : String := "java/lang/StringLatin1"
def TJ1 : u_T := fun k => match k with
  | _ => ("", "", "", false)
def tyJ1 : Nat → FieldType := fun k => match k with
  | _ => .int
abbrev wsJ10 : List Cond := u_ws RJ1 TJ1 0
theorem nmJ1 : ∀ a, a < 0 → ∀ b, b < 0 → a ≠ b → (TJ1 a).2.1 ≠ (TJ1 b).2.1 := by decide +kernel
theorem tyJ1_ok : ∀ k, k < 0 → parseFieldDescriptor (TJ1 k).2.2.1 = some (tyJ1 k) := by decide +kernel
abbrev cJ1_canEncode_9a6ad : ByteArray := prog_21_method_4_code
def yJ1_canEncode_9a6ad : MethodName := ⟨RJ1, "canEncode", "(I)Z"⟩
abbrev cJ1_indexOf_4cfef : ByteArray := prog_21_method_22_code
def yJ1_indexOf_4cfef : MethodName := ⟨RJ1, "indexOf", "([BIII)I"⟩
abbrev cJ1_indexOfChar_4cfef : ByteArray := prog_21_method_23_code
def yJ1_indexOfChar_4cfef : MethodName := ⟨RJ1, "indexOfChar", "([BIII)I"⟩
def RJ2 : String := "java/lang/StringUTF16"
def TJ2 : u_T := fun k => match k with
  | _ => ("", "", "", false)
def tyJ2 : Nat → FieldType := fun k => match k with
  | _ => .int
abbrev wsJ20 : List Cond := u_ws RJ2 TJ2 0
theorem nmJ2 : ∀ a, a < 0 → ∀ b, b < 0 → a ≠ b → (TJ2 a).2.1 ≠ (TJ2 b).2.1 := by decide +kernel
theorem tyJ2_ok : ∀ k, k < 0 → parseFieldDescriptor (TJ2 k).2.2.1 = some (tyJ2 k) := by decide +kernel
abbrev cJ2_getChar_3b067 : ByteArray := prog_22_method_5_code
def yJ2_getChar_3b067 : MethodName := ⟨RJ2, "getChar", "([BI)C"⟩
abbrev cJ2_length_9d52b : ByteArray := prog_22_method_6_code
def yJ2_length_9d52b : MethodName := ⟨RJ2, "length", "([B)I"⟩
abbrev cJ2_indexOf_4cfef : ByteArray := prog_22_method_40_code
def yJ2_indexOf_4cfef : MethodName := ⟨RJ2, "indexOf", "([BIII)I"⟩
abbrev cJ2_indexOfChar_4cfef : ByteArray := prog_22_method_47_code
def yJ2_indexOfChar_4cfef : MethodName := ⟨RJ2, "indexOfChar", "([BIII)I"⟩
abbrev cJ2_indexOfCharUnsafe_4cfef : ByteArray := prog_22_method_48_code
def yJ2_indexOfCharUnsafe_4cfef : MethodName := ⟨RJ2, "indexOfCharUnsafe", "([BIII)I"⟩
abbrev cJ2_indexOfSupplementary_4cfef : ByteArray := prog_22_method_49_code
def yJ2_indexOfSupplementary_4cfef : MethodName := ⟨RJ2, "indexOfSupplementary", "([BIII)I"⟩
abbrev cJ2_checkBoundsBeginEnd_d044e : ByteArray := prog_22_method_93_code
def yJ2_checkBoundsBeginEnd_d044e : MethodName := ⟨RJ2, "checkBoundsBeginEnd", "(II[B)V"⟩
def RJ10 : String := "java/lang/System"
def TJ10 : u_T := fun k => match k with
  | _ => ("", "", "", false)
def tyJ10 : Nat → FieldType := fun k => match k with
  | _ => .int
abbrev wsJ100 : List Cond := u_ws RJ10 TJ10 0
theorem nmJ10 : ∀ a, a < 0 → ∀ b, b < 0 → a ≠ b → (TJ10 a).2.1 ≠ (TJ10 b).2.1 := by decide +kernel
theorem tyJ10_ok : ∀ k, k < 0 → parseFieldDescriptor (TJ10 k).2.2.1 = some (tyJ10 k) := by decide +kernel
def RJ3 : String := "jdk/internal/util/Preconditions"
def TJ3 : u_T := fun k => match k with
  | _ => ("", "", "", false)
def tyJ3 : Nat → FieldType := fun k => match k with
  | _ => .int
abbrev wsJ30 : List Cond := u_ws RJ3 TJ3 0
theorem nmJ3 : ∀ a, a < 0 → ∀ b, b < 0 → a ≠ b → (TJ3 a).2.1 ≠ (TJ3 b).2.1 := by decide +kernel
theorem tyJ3_ok : ∀ k, k < 0 → parseFieldDescriptor (TJ3 k).2.2.1 = some (tyJ3 k) := by decide +kernel
abbrev cJ3_checkFromToIndex_8c36e : ByteArray := prog_25_method_12_code
def yJ3_checkFromToIndex_8c36e : MethodName := ⟨RJ3, "checkFromToIndex", "(IIILjava/util/function/BiFunction;)I"⟩
def RL : String := "ChordGrammarsLaw"
abbrev cL_cell : ByteArray := method_3_code
def yL_cell : MethodName := ⟨RL, "cell", "(LChordGrammars;III[J)I"⟩
abbrev cL_law : ByteArray := code
def yL_law : MethodName := ⟨RL, "law", "([I)Z"⟩
abbrev vwCl : List vw_C := [(RJx00060, TJx00060, 6), (RX0, TX0, 7), (RX1, TX1, 2), (RX2, TX2, 6), (RX3, TX3, 2), (RX4, TX4, 4), (RX5, TX5, 4), (RX6, TX6, 2), (RX7, TX7, 1), (RX8, TX8, 13), (RX9, TX9, 8), (RX10, TX10, 48)]
