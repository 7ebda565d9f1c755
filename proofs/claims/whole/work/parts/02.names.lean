/-! ===== BEGIN words of one list among another's, by their places ===== -/
theorem goodIn_r {big : List Cond} (ws : List Cond) (ps : List Nat) (hp : ws = ps.filterMap (fun i => big[i]?)) (h : ws.all goodWord = true) : GoodIn big ws := by
  intro w hw
  have h1 := List.all_eq_true.mp h w hw
  rw [hp] at hw
  obtain ⟨i, -, hi⟩ := List.mem_filterMap.mp hw
  have hm : w ∈ big := by first | exact List.mem_of_getElem? hi | exact List.getElem?_mem hi
  exact ⟨hm, good_of_word h1⟩
theorem goodIn_app {big a b : List Cond} (ha : GoodIn big a) (hb : GoodIn big b) : GoodIn big (a ++ b) := fun w h => (List.mem_append.mp h).elim (ha w) (hb w)
theorem goodIn_ca {big a b : List Cond} {c : Cond} (ha : GoodIn big (c :: a)) (hb : GoodIn big b) : GoodIn big (c :: (a ++ b)) := fun w h => (List.mem_cons.mp h).elim (fun e => ha w (List.mem_cons.mpr (Or.inl e))) (fun h => (List.mem_append.mp h).elim (fun h => ha w (List.mem_cons.mpr (Or.inr h))) (hb w))
theorem goodIn_sub {big ws : List Cond} (hm : ∀ w ∈ ws, w ∈ big) (h : ws.all goodWord = true) : GoodIn big ws := fun w hw => ⟨hm w hw, good_of_word (List.all_eq_true.mp h w hw)⟩
/-! ===== END ===== -/

/-! ===== BEGIN printed: names, fields, word lists, decode rows ===== -/
def RX0 : String := "HeardWords$Bodies"
def TX0 : u_T := fun k => match k with
  | 0 => ("HeardWords$Bodies", "trace", "[I", true)
  | _ => ("HeardWords$Bodies", "ran", "I", false)
def tyX0 : Nat → FieldType := fun k => match k with
  | 0 => .array .int
  | _ => .int
abbrev wsX00 : List Cond := u_ws RX0 TX0 2
theorem nmX0 : ∀ a, a < 2 → ∀ b, b < 2 → a ≠ b → (TX0 a).2.1 ≠ (TX0 b).2.1 := by decide +kernel
theorem tyX0_ok : ∀ k, k < 2 → parseFieldDescriptor (TX0 k).2.2.1 = some (tyX0 k) := by decide +kernel
abbrev cX0_init : ByteArray := prog_2_method_1_code
def yX0_init : MethodName := ⟨RX0, "<init>", "()V"⟩
abbrev cX0_hears : ByteArray := prog_2_method_2_code
def yX0_hears : MethodName := ⟨RX0, "hears", "(LHeardWords$Word;II)I"⟩
abbrev cX0_keeps : ByteArray := prog_2_method_3_code
def yX0_keeps : MethodName := ⟨RX0, "keeps", "(LHeardWords$Word;II)I"⟩
abbrev cX0_tells : ByteArray := prog_2_method_4_code
def yX0_tells : MethodName := ⟨RX0, "tells", "(LHeardWords$Word;II)I"⟩
abbrev cX0_begin : ByteArray := prog_2_method_5_code
def yX0_begin : MethodName := ⟨RX0, "begin", "(I)V"⟩
abbrev cX0_traced : ByteArray := prog_2_method_6_code
def yX0_traced : MethodName := ⟨RX0, "traced", "(I)I"⟩
def RX1 : String := "HeardWords$Clause"
def TX1 : u_T := fun k => match k with
  | 0 => ("HeardWords$Clause", "sort", "I", true)
  | 1 => ("HeardWords$Clause", "fact", "I", true)
  | _ => ("HeardWords$Clause", "steps", "[I", true)
def tyX1 : Nat → FieldType := fun k => match k with
  | 0 => .int
  | 1 => .int
  | _ => .array .int
abbrev wsX10 : List Cond := u_ws RX1 TX1 3
theorem nmX1 : ∀ a, a < 3 → ∀ b, b < 3 → a ≠ b → (TX1 a).2.1 ≠ (TX1 b).2.1 := by decide +kernel
theorem tyX1_ok : ∀ k, k < 3 → parseFieldDescriptor (TX1 k).2.2.1 = some (tyX1 k) := by decide +kernel
abbrev cX1_init : ByteArray := prog_3_method_1_code
def yX1_init : MethodName := ⟨RX1, "<init>", "(II[I)V"⟩
abbrev cX1_holds : ByteArray := prog_3_method_2_code
def yX1_holds : MethodName := ⟨RX1, "holds", "(LHeardWords$Word;III)Z"⟩
abbrev cX1_passes : ByteArray := prog_3_method_3_code
def yX1_passes : MethodName := ⟨RX1, "passes", "(ILHeardWords$Word;III)Z"⟩
def RX2 : String := "HeardWords$Person"
def TX2 : u_T := fun k => match k with
  | 0 => ("HeardWords$Person", "number", "I", true)
  | 1 => ("HeardWords$Person", "known", "I", false)
  | _ => ("HeardWords$Person", "words", "I", false)
def tyX2 : Nat → FieldType := fun k => match k with
  | 0 => .int
  | 1 => .int
  | _ => .int
abbrev wsX20 : List Cond := u_ws RX2 TX2 3
theorem nmX2 : ∀ a, a < 3 → ∀ b, b < 3 → a ≠ b → (TX2 a).2.1 ≠ (TX2 b).2.1 := by decide +kernel
theorem tyX2_ok : ∀ k, k < 3 → parseFieldDescriptor (TX2 k).2.2.1 = some (tyX2 k) := by decide +kernel
abbrev cX2_init : ByteArray := prog_4_method_1_code
def yX2_init : MethodName := ⟨RX2, "<init>", "(I)V"⟩
def RX3 : String := "HeardWords$Reader"
def TX3 : u_T := fun k => match k with
  | 0 => ("HeardWords$Reader", "text", "[B", true)
  | 1 => ("HeardWords$Reader", "steps", "[I", true)
  | 2 => ("HeardWords$Reader", "length", "I", false)
  | 3 => ("HeardWords$Reader", "place", "I", false)
  | 4 => ("HeardWords$Reader", "faulty", "Z", false)
  | 5 => ("HeardWords$Reader", "stepCount", "I", false)
  | _ => ("HeardWords$Reader", "factsAsked", "I", false)
def tyX3 : Nat → FieldType := fun k => match k with
  | 0 => .array .byte
  | 1 => .array .int
  | 2 => .int
  | 3 => .int
  | 4 => .boolean
  | 5 => .int
  | _ => .int
abbrev wsX30 : List Cond := u_ws RX3 TX3 7
theorem nmX3 : ∀ a, a < 7 → ∀ b, b < 7 → a ≠ b → (TX3 a).2.1 ≠ (TX3 b).2.1 := by decide +kernel
theorem tyX3_ok : ∀ k, k < 7 → parseFieldDescriptor (TX3 k).2.2.1 = some (tyX3 k) := by decide +kernel
abbrev cX3_init : ByteArray := prog_5_method_1_code
def yX3_init : MethodName := ⟨RX3, "<init>", "()V"⟩
abbrev cX3_append : ByteArray := prog_5_method_2_code
def yX3_append : MethodName := ⟨RX3, "append", "(B)V"⟩
abbrev cX3_readRule : ByteArray := prog_5_method_3_code
def yX3_readRule : MethodName := ⟨RX3, "readRule", "(II)LHeardWords$Rule;"⟩
abbrev cX3_readClause : ByteArray := prog_5_method_4_code
def yX3_readClause : MethodName := ⟨RX3, "readClause", "()LHeardWords$Clause;"⟩
abbrev cX3_readSort : ByteArray := prog_5_method_5_code
def yX3_readSort : MethodName := ⟨RX3, "readSort", "()I"⟩
abbrev cX3_readCondition : ByteArray := prog_5_method_6_code
def yX3_readCondition : MethodName := ⟨RX3, "readCondition", "(I)V"⟩
abbrev cX3_readOne : ByteArray := prog_5_method_7_code
def yX3_readOne : MethodName := ⟨RX3, "readOne", "(I)V"⟩
abbrev cX3_readTest : ByteArray := prog_5_method_8_code
def yX3_readTest : MethodName := ⟨RX3, "readTest", "()V"⟩
abbrev cX3_peek : ByteArray := prog_5_method_9_code
def yX3_peek : MethodName := ⟨RX3, "peek", "()I"⟩
abbrev cX3_accept : ByteArray := prog_5_method_10_code
def yX3_accept : MethodName := ⟨RX3, "accept", "(C)Z"⟩
abbrev cX3_expectAll : ByteArray := prog_5_method_11_code
def yX3_expectAll : MethodName := ⟨RX3, "expectAll", "(Ljava/lang/String;)V"⟩
abbrev cX3_pick : ByteArray := prog_5_method_12_code
def yX3_pick : MethodName := ⟨RX3, "pick", "(Ljava/lang/String;)I"⟩
abbrev cX3_put : ByteArray := prog_5_method_13_code
def yX3_put : MethodName := ⟨RX3, "put", "(II)V"⟩
def RX4 : String := "HeardWords$Rule"
def TX4 : u_T := fun k => match k with
  | 0 => ("HeardWords$Rule", "number", "I", true)
  | 1 => ("HeardWords$Rule", "land", "I", true)
  | 2 => ("HeardWords$Rule", "clauses", "Ljava/util/ArrayList;", true)
  | 3 => ("HeardWords$Rule", "outs", "I", false)
  | 4 => ("HeardWords$Rule", "ins", "I", false)
  | 5 => ("HeardWords$Rule", "mays", "I", false)
  | _ => ("HeardWords$Rule", "factsAsked", "I", false)
def tyX4 : Nat → FieldType := fun k => match k with
  | 0 => .int
  | 1 => .int
  | 2 => .object "java/util/ArrayList"
  | 3 => .int
  | 4 => .int
  | 5 => .int
  | _ => .int
abbrev wsX40 : List Cond := u_ws RX4 TX4 7
theorem nmX4 : ∀ a, a < 7 → ∀ b, b < 7 → a ≠ b → (TX4 a).2.1 ≠ (TX4 b).2.1 := by decide +kernel
theorem tyX4_ok : ∀ k, k < 7 → parseFieldDescriptor (TX4 k).2.2.1 = some (tyX4 k) := by decide +kernel
abbrev cX4_init : ByteArray := prog_6_method_1_code
def yX4_init : MethodName := ⟨RX4, "<init>", "(II)V"⟩
abbrev cX4_add : ByteArray := prog_6_method_2_code
def yX4_add : MethodName := ⟨RX4, "add", "(LHeardWords$Clause;)V"⟩
abbrev cX4_holding : ByteArray := prog_6_method_3_code
def yX4_holding : MethodName := ⟨RX4, "holding", "(LHeardWords$Word;ILHeardWords$Stand;)I"⟩
abbrev cX4_keepsOut : ByteArray := prog_6_method_4_code
def yX4_keepsOut : MethodName := ⟨RX4, "keepsOut", "(ILHeardWords$Stand;)Z"⟩
abbrev cX4_unmetNeeds : ByteArray := prog_6_method_5_code
def yX4_unmetNeeds : MethodName := ⟨RX4, "unmetNeeds", "(LHeardWords$Stand;)I"⟩
abbrev cX4_clauseOfWay : ByteArray := prog_6_method_6_code
def yX4_clauseOfWay : MethodName := ⟨RX4, "clauseOfWay", "(I)I"⟩
def RX5 : String := "HeardWords$Stand"
def TX5 : u_T := fun k => match k with
  | 0 => ("HeardWords$Stand", "shown", "I", false)
  | 1 => ("HeardWords$Stand", "letIn", "I", false)
  | _ => ("HeardWords$Stand", "heardBefore", "I", false)
def tyX5 : Nat → FieldType := fun k => match k with
  | 0 => .int
  | 1 => .int
  | _ => .int
abbrev wsX50 : List Cond := u_ws RX5 TX5 3
theorem nmX5 : ∀ a, a < 3 → ∀ b, b < 3 → a ≠ b → (TX5 a).2.1 ≠ (TX5 b).2.1 := by decide +kernel
theorem tyX5_ok : ∀ k, k < 3 → parseFieldDescriptor (TX5 k).2.2.1 = some (tyX5 k) := by decide +kernel
abbrev cX5_init : ByteArray := prog_7_method_1_code
def yX5_init : MethodName := ⟨RX5, "<init>", "()V"⟩
def RX6 : String := "HeardWords$Tape"
def TX6 : u_T := fun k => match k with
  | 0 => ("HeardWords$Tape", "items", "[J", true)
  | 1 => ("HeardWords$Tape", "sort", "I", false)
  | _ => ("HeardWords$Tape", "size", "I", false)
def tyX6 : Nat → FieldType := fun k => match k with
  | 0 => .array .long
  | 1 => .int
  | _ => .int
abbrev wsX60 : List Cond := u_ws RX6 TX6 3
theorem nmX6 : ∀ a, a < 3 → ∀ b, b < 3 → a ≠ b → (TX6 a).2.1 ≠ (TX6 b).2.1 := by decide +kernel
theorem tyX6_ok : ∀ k, k < 3 → parseFieldDescriptor (TX6 k).2.2.1 = some (tyX6 k) := by decide +kernel
abbrev cX6_init : ByteArray := prog_8_method_1_code
def yX6_init : MethodName := ⟨RX6, "<init>", "()V"⟩
abbrev cX6_become : ByteArray := prog_8_method_2_code
def yX6_become : MethodName := ⟨RX6, "become", "(II)V"⟩
abbrev cX6_hasPlace : ByteArray := prog_8_method_3_code
def yX6_hasPlace : MethodName := ⟨RX6, "hasPlace", "(I)Z"⟩
abbrev cX6_hasStretch : ByteArray := prog_8_method_4_code
def yX6_hasStretch : MethodName := ⟨RX6, "hasStretch", "(II)Z"⟩
abbrev cX6_get : ByteArray := prog_8_method_5_code
def yX6_get : MethodName := ⟨RX6, "get", "(I)J"⟩
abbrev cX6_put : ByteArray := prog_8_method_6_code
def yX6_put : MethodName := ⟨RX6, "put", "(IJ)V"⟩
abbrev cX6_fitted : ByteArray := prog_8_method_7_code
def yX6_fitted : MethodName := ⟨RX6, "fitted", "(J)J"⟩
def RX7 : String := "HeardWords$Word"
def TX7 : u_T := fun k => match k with
  | 0 => ("HeardWords$Word", "number", "I", true)
  | 1 => ("HeardWords$Word", "kind", "I", true)
  | 2 => ("HeardWords$Word", "kinds", "I", true)
  | 3 => ("HeardWords$Word", "by", "LHeardWords$Person;", true)
  | 4 => ("HeardWords$Word", "facts", "I", true)
  | 5 => ("HeardWords$Word", "parts", "Ljava/util/ArrayList;", true)
  | _ => ("HeardWords$Word", "partBits", "I", false)
def tyX7 : Nat → FieldType := fun k => match k with
  | 0 => .int
  | 1 => .int
  | 2 => .int
  | 3 => .object "HeardWords$Person"
  | 4 => .int
  | 5 => .object "java/util/ArrayList"
  | _ => .int
abbrev wsX70 : List Cond := u_ws RX7 TX7 7
theorem nmX7 : ∀ a, a < 7 → ∀ b, b < 7 → a ≠ b → (TX7 a).2.1 ≠ (TX7 b).2.1 := by decide +kernel
theorem tyX7_ok : ∀ k, k < 7 → parseFieldDescriptor (TX7 k).2.2.1 = some (tyX7 k) := by decide +kernel
abbrev cX7_init : ByteArray := prog_9_method_1_code
def yX7_init : MethodName := ⟨RX7, "<init>", "(IILHeardWords$Person;I)V"⟩
abbrev cX7_mayHold : ByteArray := prog_9_method_2_code
def yX7_mayHold : MethodName := ⟨RX7, "mayHold", "()I"⟩
abbrev cX7_partAt : ByteArray := prog_9_method_3_code
def yX7_partAt : MethodName := ⟨RX7, "partAt", "(I)LHeardWords$Word;"⟩
abbrev cX7_factsLeft : ByteArray := prog_9_method_4_code
def yX7_factsLeft : MethodName := ⟨RX7, "factsLeft", "(I)I"⟩
def RX8 : String := "HeardWords"
def TX8 : u_T := fun k => match k with
  | 0 => ("HeardWords", "persons", "[LHeardWords$Person;", true)
  | 1 => ("HeardWords", "words", "Ljava/util/ArrayList;", true)
  | 2 => ("HeardWords", "rules", "Ljava/util/ArrayList;", true)
  | 3 => ("HeardWords", "reader", "LHeardWords$Reader;", true)
  | 4 => ("HeardWords", "now", "LHeardWords$Stand;", true)
  | 5 => ("HeardWords", "supposed", "LHeardWords$Stand;", true)
  | 6 => ("HeardWords", "tapes", "[LHeardWords$Tape;", true)
  | 7 => ("HeardWords", "bodies", "LHeardWords$Bodies;", true)
  | 8 => ("HeardWords", "waiting", "Ljava/util/ArrayList;", true)
  | _ => ("HeardWords", "nextInOrder", "[I", true)
def tyX8 : Nat → FieldType := fun k => match k with
  | 0 => .array (.object "HeardWords$Person")
  | 1 => .object "java/util/ArrayList"
  | 2 => .object "java/util/ArrayList"
  | 3 => .object "HeardWords$Reader"
  | 4 => .object "HeardWords$Stand"
  | 5 => .object "HeardWords$Stand"
  | 6 => .array (.object "HeardWords$Tape")
  | 7 => .object "HeardWords$Bodies"
  | 8 => .object "java/util/ArrayList"
  | _ => .array .int
abbrev wsX80 : List Cond := u_ws RX8 TX8 10
theorem nmX8 : ∀ a, a < 10 → ∀ b, b < 10 → a ≠ b → (TX8 a).2.1 ≠ (TX8 b).2.1 := by decide +kernel
theorem tyX8_ok : ∀ k, k < 10 → parseFieldDescriptor (TX8 k).2.2.1 = some (tyX8 k) := by decide +kernel
abbrev cX8_init : ByteArray := prog_1_method_1_code
def yX8_init : MethodName := ⟨RX8, "<init>", "()V"⟩
abbrev cX8_known : ByteArray := prog_1_method_2_code
def yX8_known : MethodName := ⟨RX8, "known", "(II)I"⟩
abbrev cX8_word : ByteArray := prog_1_method_3_code
def yX8_word : MethodName := ⟨RX8, "word", "(III)I"⟩
abbrev cX8_hold : ByteArray := prog_1_method_4_code
def yX8_hold : MethodName := ⟨RX8, "hold", "(II)I"⟩
abbrev cX8_of : ByteArray := prog_1_method_5_code
def yX8_of : MethodName := ⟨RX8, "of", "(II)I"⟩
abbrev cX8_show : ByteArray := prog_1_method_6_code
def yX8_show : MethodName := ⟨RX8, "show", "(I)I"⟩
abbrev cX8_feed : ByteArray := prog_1_method_7_code
def yX8_feed : MethodName := ⟨RX8, "feed", "(II)I"⟩
abbrev cX8_rule : ByteArray := prog_1_method_8_code
def yX8_rule : MethodName := ⟨RX8, "rule", "(I)I"⟩
abbrev cX8_judge : ByteArray := prog_1_method_9_code
def yX8_judge : MethodName := ⟨RX8, "judge", "(I)I"⟩
abbrev cX8_meets : ByteArray := prog_1_method_10_code
def yX8_meets : MethodName := ⟨RX8, "meets", "(IIII)I"⟩
abbrev cX8_heard : ByteArray := prog_1_method_11_code
def yX8_heard : MethodName := ⟨RX8, "heard", "(III)I"⟩
abbrev cX8_why : ByteArray := prog_1_method_12_code
def yX8_why : MethodName := ⟨RX8, "why", "(III)I"⟩
abbrev cX8_least : ByteArray := prog_1_method_13_code
def yX8_least : MethodName := ⟨RX8, "least", "(IIII)I"⟩
abbrev cX8_ends : ByteArray := prog_1_method_14_code
def yX8_ends : MethodName := ⟨RX8, "ends", "(II)I"⟩
abbrev cX8_cut : ByteArray := prog_1_method_15_code
def yX8_cut : MethodName := ⟨RX8, "cut", "(IIII)I"⟩
abbrev cX8_opened : ByteArray := prog_1_method_16_code
def yX8_opened : MethodName := ⟨RX8, "opened", "(II)I"⟩
abbrev cX8_proved : ByteArray := prog_1_method_17_code
def yX8_proved : MethodName := ⟨RX8, "proved", "(I)I"⟩
abbrev cX8_needed : ByteArray := prog_1_method_18_code
def yX8_needed : MethodName := ⟨RX8, "needed", "(II)I"⟩
abbrev cX8_plan : ByteArray := prog_1_method_19_code
def yX8_plan : MethodName := ⟨RX8, "plan", "(III)I"⟩
abbrev cX8_clash : ByteArray := prog_1_method_20_code
def yX8_clash : MethodName := ⟨RX8, "clash", "(III)I"⟩
abbrev cX8_silent : ByteArray := prog_1_method_21_code
def yX8_silent : MethodName := ⟨RX8, "silent", "(II)I"⟩
abbrev cX8_hangs : ByteArray := prog_1_method_22_code
def yX8_hangs : MethodName := ⟨RX8, "hangs", "(I)I"⟩
abbrev cX8_most : ByteArray := prog_1_method_23_code
def yX8_most : MethodName := ⟨RX8, "most", "()I"⟩
abbrev cX8_beside : ByteArray := prog_1_method_24_code
def yX8_beside : MethodName := ⟨RX8, "beside", "(II)I"⟩
abbrev cX8_way : ByteArray := prog_1_method_25_code
def yX8_way : MethodName := ⟨RX8, "way", "(IIIII)I"⟩
abbrev cX8_act : ByteArray := prog_1_method_26_code
def yX8_act : MethodName := ⟨RX8, "act", "(III)I"⟩
abbrev cX8_trace : ByteArray := prog_1_method_27_code
def yX8_trace : MethodName := ⟨RX8, "trace", "(I)I"⟩
abbrev cX8_taken : ByteArray := prog_1_method_28_code
def yX8_taken : MethodName := ⟨RX8, "taken", "(II)I"⟩
abbrev cX8_count : ByteArray := prog_1_method_29_code
def yX8_count : MethodName := ⟨RX8, "count", "(I)I"⟩
abbrev cX8_tape : ByteArray := prog_1_method_30_code
def yX8_tape : MethodName := ⟨RX8, "tape", "(III)I"⟩
abbrev cX8_item : ByteArray := prog_1_method_31_code
def yX8_item : MethodName := ⟨RX8, "item", "(IIJ)I"⟩
abbrev cX8_read : ByteArray := prog_1_method_32_code
def yX8_read : MethodName := ⟨RX8, "read", "(II)J"⟩
abbrev cX8_shift : ByteArray := prog_1_method_33_code
def yX8_shift : MethodName := ⟨RX8, "shift", "(IIIII)I"⟩
abbrev cX8_within : ByteArray := prog_1_method_34_code
def yX8_within : MethodName := ⟨RX8, "within", "(II)Z"⟩
abbrev cX8_has : ByteArray := prog_1_method_35_code
def yX8_has : MethodName := ⟨RX8, "has", "(II)Z"⟩
abbrev cX8_isOffer : ByteArray := prog_1_method_36_code
def yX8_isOffer : MethodName := ⟨RX8, "isOffer", "(II)Z"⟩
abbrev cX8_personAt : ByteArray := prog_1_method_37_code
def yX8_personAt : MethodName := ⟨RX8, "personAt", "(I)LHeardWords$Person;"⟩
abbrev cX8_wordAt : ByteArray := prog_1_method_38_code
def yX8_wordAt : MethodName := ⟨RX8, "wordAt", "(I)LHeardWords$Word;"⟩
abbrev cX8_ruleAt : ByteArray := prog_1_method_39_code
def yX8_ruleAt : MethodName := ⟨RX8, "ruleAt", "(I)LHeardWords$Rule;"⟩
abbrev cX8_tapeAt : ByteArray := prog_1_method_40_code
def yX8_tapeAt : MethodName := ⟨RX8, "tapeAt", "(I)LHeardWords$Tape;"⟩
abbrev cX8_allWords : ByteArray := prog_1_method_41_code
def yX8_allWords : MethodName := ⟨RX8, "allWords", "()I"⟩
abbrev cX8_withParts : ByteArray := prog_1_method_42_code
def yX8_withParts : MethodName := ⟨RX8, "withParts", "(I)I"⟩
abbrev cX8_factsOf : ByteArray := prog_1_method_43_code
def yX8_factsOf : MethodName := ⟨RX8, "factsOf", "(I)I"⟩
abbrev cX8_suppose : ByteArray := prog_1_method_44_code
def yX8_suppose : MethodName := ⟨RX8, "suppose", "(III)LHeardWords$Stand;"⟩
abbrev cX8_keeper : ByteArray := prog_1_method_45_code
def yX8_keeper : MethodName := ⟨RX8, "keeper", "(LHeardWords$Word;IILHeardWords$Stand;)I"⟩
abbrev cX8_heardToPartsEnd : ByteArray := prog_1_method_46_code
def yX8_heardToPartsEnd : MethodName := ⟨RX8, "heardToPartsEnd", "(IILHeardWords$Stand;)I"⟩
abbrev cX8_heardTo : ByteArray := prog_1_method_47_code
def yX8_heardTo : MethodName := ⟨RX8, "heardTo", "(IILHeardWords$Stand;I)I"⟩
abbrev cX8_isHeard : ByteArray := prog_1_method_48_code
def yX8_isHeard : MethodName := ⟨RX8, "isHeard", "(LHeardWords$Word;IILHeardWords$Stand;)Z"⟩
abbrev cX8_firstUnheard : ByteArray := prog_1_method_49_code
def yX8_firstUnheard : MethodName := ⟨RX8, "firstUnheard", "(LHeardWords$Word;I)LHeardWords$Word;"⟩
abbrev cX8_unheardPlaces : ByteArray := prog_1_method_50_code
def yX8_unheardPlaces : MethodName := ⟨RX8, "unheardPlaces", "(LHeardWords$Word;I)I"⟩
abbrev cX8_factsAsked : ByteArray := prog_1_method_51_code
def yX8_factsAsked : MethodName := ⟨RX8, "factsAsked", "(I)I"⟩
abbrev cX8_isMet : ByteArray := prog_1_method_52_code
def yX8_isMet : MethodName := ⟨RX8, "isMet", "(LHeardWords$Word;II)Z"⟩
abbrev cX8_rulesOfFirstLand : ByteArray := prog_1_method_53_code
def yX8_rulesOfFirstLand : MethodName := ⟨RX8, "rulesOfFirstLand", "()I"⟩
abbrev cX8_provedWithout : ByteArray := prog_1_method_54_code
def yX8_provedWithout : MethodName := ⟨RX8, "provedWithout", "(II)I"⟩
abbrev cX8_findOrder : ByteArray := prog_1_method_55_code
def yX8_findOrder : MethodName := ⟨RX8, "findOrder", "(II)Z"⟩
abbrev cX8_ordersOn : ByteArray := prog_1_method_56_code
def yX8_ordersOn : MethodName := ⟨RX8, "ordersOn", "(II)Z"⟩
abbrev cX8_wordInOrder : ByteArray := prog_1_method_57_code
def yX8_wordInOrder : MethodName := ⟨RX8, "wordInOrder", "(II)I"⟩
abbrev cX8_wordAtPlace : ByteArray := prog_1_method_58_code
def yX8_wordAtPlace : MethodName := ⟨RX8, "wordAtPlace", "(II)I"⟩
abbrev cX8_wordsAtPlaces : ByteArray := prog_1_method_59_code
def yX8_wordsAtPlaces : MethodName := ⟨RX8, "wordsAtPlaces", "(II)I"⟩
abbrev cX8_hangingOn : ByteArray := prog_1_method_60_code
def yX8_hangingOn : MethodName := ⟨RX8, "hangingOn", "(LHeardWords$Rule;)I"⟩
abbrev cX8_rightlyTold : ByteArray := prog_1_method_61_code
def yX8_rightlyTold : MethodName := ⟨RX8, "rightlyTold", "(LHeardWords$Tape;ILHeardWords$Word;II)I"⟩
abbrev cX8_letPartsWait : ByteArray := prog_1_method_62_code
def yX8_letPartsWait : MethodName := ⟨RX8, "letPartsWait", "(LHeardWords$Word;)V"⟩
abbrev cX8_kindAbove : ByteArray := prog_1_method_63_code
def yX8_kindAbove : MethodName := ⟨RX8, "kindAbove", "(I)I"⟩
def RX9 : String := "HeardWordsModel"
def TX9 : u_T := fun k => match k with
  | 0 => ("HeardWordsModel", "words", "I", false)
  | 1 => ("HeardWordsModel", "shown", "I", false)
  | 2 => ("HeardWordsModel", "judgeIn", "I", false)
  | 3 => ("HeardWordsModel", "knownOf", "[I", true)
  | 4 => ("HeardWordsModel", "kind", "[I", true)
  | 5 => ("HeardWordsModel", "by", "[I", true)
  | 6 => ("HeardWordsModel", "facts", "[I", true)
  | 7 => ("HeardWordsModel", "parts", "[I", true)
  | 8 => ("HeardWordsModel", "part", "[I", true)
  | 9 => ("HeardWordsModel", "rules", "I", false)
  | 10 => ("HeardWordsModel", "fed", "I", false)
  | 11 => ("HeardWordsModel", "at", "I", false)
  | 12 => ("HeardWordsModel", "text", "[I", true)
  | 13 => ("HeardWordsModel", "land", "[I", true)
  | 14 => ("HeardWordsModel", "clauses", "[I", true)
  | 15 => ("HeardWordsModel", "word", "[I", true)
  | 16 => ("HeardWordsModel", "fact", "[I", true)
  | 17 => ("HeardWordsModel", "from", "[I", true)
  | 18 => ("HeardWordsModel", "to", "[I", true)
  | 19 => ("HeardWordsModel", "sign", "[I", true)
  | 20 => ("HeardWordsModel", "signs", "I", false)
  | 21 => ("HeardWordsModel", "waits", "[I", true)
  | 22 => ("HeardWordsModel", "waiting", "I", false)
  | 23 => ("HeardWordsModel", "open", "I", false)
  | 24 => ("HeardWordsModel", "nowShown", "I", false)
  | 25 => ("HeardWordsModel", "nowJudge", "I", false)
  | 26 => ("HeardWordsModel", "banned", "I", false)
  | 27 => ("HeardWordsModel", "before", "[I", true)
  | 28 => ("HeardWordsModel", "pile", "[Z", true)
  | 29 => ("HeardWordsModel", "heardOf", "[Z", true)
  | 30 => ("HeardWordsModel", "row", "[I", true)
  | 31 => ("HeardWordsModel", "places", "[I", true)
  | 32 => ("HeardWordsModel", "was", "[Z", true)
  | 33 => ("HeardWordsModel", "due", "[I", true)
  | 34 => ("HeardWordsModel", "ran", "I", false)
  | 35 => ("HeardWordsModel", "bodies", "[I", true)
  | 36 => ("HeardWordsModel", "sort", "[I", true)
  | 37 => ("HeardWordsModel", "length", "[I", true)
  | 38 => ("HeardWordsModel", "item", "[J", true)
  | _ => ("HeardWordsModel", "aside", "[J", true)
def tyX9 : Nat → FieldType := fun k => match k with
  | 0 => .int
  | 1 => .int
  | 2 => .int
  | 3 => .array .int
  | 4 => .array .int
  | 5 => .array .int
  | 6 => .array .int
  | 7 => .array .int
  | 8 => .array .int
  | 9 => .int
  | 10 => .int
  | 11 => .int
  | 12 => .array .int
  | 13 => .array .int
  | 14 => .array .int
  | 15 => .array .int
  | 16 => .array .int
  | 17 => .array .int
  | 18 => .array .int
  | 19 => .array .int
  | 20 => .int
  | 21 => .array .int
  | 22 => .int
  | 23 => .int
  | 24 => .int
  | 25 => .int
  | 26 => .int
  | 27 => .array .int
  | 28 => .array .boolean
  | 29 => .array .boolean
  | 30 => .array .int
  | 31 => .array .int
  | 32 => .array .boolean
  | 33 => .array .int
  | 34 => .int
  | 35 => .array .int
  | 36 => .array .int
  | 37 => .array .int
  | 38 => .array .long
  | _ => .array .long
abbrev wsX90 : List Cond := u_ws RX9 TX9 40
theorem nmX9 : ∀ a, a < 40 → ∀ b, b < 40 → a ≠ b → (TX9 a).2.1 ≠ (TX9 b).2.1 := by decide +kernel
theorem tyX9_ok : ∀ k, k < 40 → parseFieldDescriptor (TX9 k).2.2.1 = some (tyX9 k) := by decide +kernel
abbrev cX9_init : ByteArray := prog_11_method_1_code
def yX9_init : MethodName := ⟨RX9, "<init>", "()V"⟩
abbrev cX9_in : ByteArray := prog_11_method_2_code
def yX9_in : MethodName := ⟨RX9, "in", "(III)Z"⟩
abbrev cX9_ones : ByteArray := prog_11_method_3_code
def yX9_ones : MethodName := ⟨RX9, "ones", "(I)I"⟩
abbrev cX9_has : ByteArray := prog_11_method_4_code
def yX9_has : MethodName := ⟨RX9, "has", "(II)Z"⟩
abbrev cX9_isWord : ByteArray := prog_11_method_5_code
def yX9_isWord : MethodName := ⟨RX9, "isWord", "(I)Z"⟩
abbrev cX9_isLand : ByteArray := prog_11_method_6_code
def yX9_isLand : MethodName := ⟨RX9, "isLand", "(I)Z"⟩
abbrev cX9_isEnd : ByteArray := prog_11_method_7_code
def yX9_isEnd : MethodName := ⟨RX9, "isEnd", "(I)Z"⟩
abbrev cX9_isUnder : ByteArray := prog_11_method_8_code
def yX9_isUnder : MethodName := ⟨RX9, "isUnder", "(II)Z"⟩
abbrev cX9_known : ByteArray := prog_11_method_9_code
def yX9_known : MethodName := ⟨RX9, "known", "(II)I"⟩
abbrev cX9_word : ByteArray := prog_11_method_10_code
def yX9_word : MethodName := ⟨RX9, "word", "(III)I"⟩
abbrev cX9_roomOf : ByteArray := prog_11_method_11_code
def yX9_roomOf : MethodName := ⟨RX9, "roomOf", "(I)I"⟩
abbrev cX9_hold : ByteArray := prog_11_method_12_code
def yX9_hold : MethodName := ⟨RX9, "hold", "(II)I"⟩
abbrev cX9_of : ByteArray := prog_11_method_13_code
def yX9_of : MethodName := ⟨RX9, "of", "(II)I"⟩
abbrev cX9_show : ByteArray := prog_11_method_14_code
def yX9_show : MethodName := ⟨RX9, "show", "(I)I"⟩
abbrev cX9_isRule : ByteArray := prog_11_method_15_code
def yX9_isRule : MethodName := ⟨RX9, "isRule", "(I)Z"⟩
abbrev cX9_feed : ByteArray := prog_11_method_16_code
def yX9_feed : MethodName := ⟨RX9, "feed", "(II)I"⟩
abbrev cX9_next : ByteArray := prog_11_method_17_code
def yX9_next : MethodName := ⟨RX9, "next", "()I"⟩
abbrev cX9_takes : ByteArray := prog_11_method_18_code
def yX9_takes : MethodName := ⟨RX9, "takes", "(I)Z"⟩
abbrev cX9_takesWord : ByteArray := prog_11_method_19_code
def yX9_takesWord : MethodName := ⟨RX9, "takesWord", "(II)Z"⟩
abbrev cX9_put : ByteArray := prog_11_method_20_code
def yX9_put : MethodName := ⟨RX9, "put", "(I)V"⟩
abbrev cX9_whole : ByteArray := prog_11_method_21_code
def yX9_whole : MethodName := ⟨RX9, "whole", "()V"⟩
abbrev cX9_settle : ByteArray := prog_11_method_22_code
def yX9_settle : MethodName := ⟨RX9, "settle", "(I)V"⟩
abbrev cX9_takesTest : ByteArray := prog_11_method_23_code
def yX9_takesTest : MethodName := ⟨RX9, "takesTest", "()Z"⟩
abbrev cX9_takesE : ByteArray := prog_11_method_24_code
def yX9_takesE : MethodName := ⟨RX9, "takesE", "()Z"⟩
abbrev cX9_takesHead : ByteArray := prog_11_method_25_code
def yX9_takesHead : MethodName := ⟨RX9, "takesHead", "(I)Z"⟩
abbrev cX9_goes : ByteArray := prog_11_method_26_code
def yX9_goes : MethodName := ⟨RX9, "goes", "(I)Z"⟩
abbrev cX9_rule : ByteArray := prog_11_method_27_code
def yX9_rule : MethodName := ⟨RX9, "rule", "(I)I"⟩
abbrev cX9_judge : ByteArray := prog_11_method_28_code
def yX9_judge : MethodName := ⟨RX9, "judge", "(I)I"⟩
abbrev cX9_asItIs : ByteArray := prog_11_method_29_code
def yX9_asItIs : MethodName := ⟨RX9, "asItIs", "()V"⟩
abbrev cX9_compares : ByteArray := prog_11_method_30_code
def yX9_compares : MethodName := ⟨RX9, "compares", "(III)Z"⟩
abbrev cX9_test : ByteArray := prog_11_method_31_code
def yX9_test : MethodName := ⟨RX9, "test", "(III)Z"⟩
abbrev cX9_holds : ByteArray := prog_11_method_32_code
def yX9_holds : MethodName := ⟨RX9, "holds", "(III)Z"⟩
abbrev cX9_firstOf : ByteArray := prog_11_method_33_code
def yX9_firstOf : MethodName := ⟨RX9, "firstOf", "(IIII)I"⟩
abbrev cX9_lacks : ByteArray := prog_11_method_34_code
def yX9_lacks : MethodName := ⟨RX9, "lacks", "(III)Z"⟩
abbrev cX9_keepsOut : ByteArray := prog_11_method_35_code
def yX9_keepsOut : MethodName := ⟨RX9, "keepsOut", "(III)Z"⟩
abbrev cX9_wayOf : ByteArray := prog_11_method_36_code
def yX9_wayOf : MethodName := ⟨RX9, "wayOf", "(III)I"⟩
abbrev cX9_meetsIt : ByteArray := prog_11_method_37_code
def yX9_meetsIt : MethodName := ⟨RX9, "meetsIt", "(III)Z"⟩
abbrev cX9_meets : ByteArray := prog_11_method_38_code
def yX9_meets : MethodName := ⟨RX9, "meets", "(IIII)I"⟩
abbrev cX9_keeper : ByteArray := prog_11_method_39_code
def yX9_keeper : MethodName := ⟨RX9, "keeper", "(III)I"⟩
abbrev cX9_arePartsHeard : ByteArray := prog_11_method_40_code
def yX9_arePartsHeard : MethodName := ⟨RX9, "arePartsHeard", "(II)Z"⟩
abbrev cX9_findHeard : ByteArray := prog_11_method_41_code
def yX9_findHeard : MethodName := ⟨RX9, "findHeard", "(II)V"⟩
abbrev cX9_isHeard : ByteArray := prog_11_method_42_code
def yX9_isHeard : MethodName := ⟨RX9, "isHeard", "(III)Z"⟩
abbrev cX9_isLayer : ByteArray := prog_11_method_43_code
def yX9_isLayer : MethodName := ⟨RX9, "isLayer", "(III)Z"⟩
abbrev cX9_heard : ByteArray := prog_11_method_44_code
def yX9_heard : MethodName := ⟨RX9, "heard", "(III)I"⟩
abbrev cX9_why : ByteArray := prog_11_method_45_code
def yX9_why : MethodName := ⟨RX9, "why", "(III)I"⟩
abbrev cX9_least : ByteArray := prog_11_method_46_code
def yX9_least : MethodName := ⟨RX9, "least", "(IIII)I"⟩
abbrev cX9_ends : ByteArray := prog_11_method_47_code
def yX9_ends : MethodName := ⟨RX9, "ends", "(II)I"⟩
abbrev cX9_cut : ByteArray := prog_11_method_48_code
def yX9_cut : MethodName := ⟨RX9, "cut", "(IIII)I"⟩
abbrev cX9_opened : ByteArray := prog_11_method_49_code
def yX9_opened : MethodName := ⟨RX9, "opened", "(II)I"⟩
abbrev cX9_provedOf : ByteArray := prog_11_method_50_code
def yX9_provedOf : MethodName := ⟨RX9, "provedOf", "(I)I"⟩
abbrev cX9_proved : ByteArray := prog_11_method_51_code
def yX9_proved : MethodName := ⟨RX9, "proved", "(I)I"⟩
abbrev cX9_needed : ByteArray := prog_11_method_52_code
def yX9_needed : MethodName := ⟨RX9, "needed", "(II)I"⟩
abbrev cX9_isPlan : ByteArray := prog_11_method_53_code
def yX9_isPlan : MethodName := ⟨RX9, "isPlan", "(II)Z"⟩
abbrev cX9_isOrder : ByteArray := prog_11_method_54_code
def yX9_isOrder : MethodName := ⟨RX9, "isOrder", "(II)Z"⟩
abbrev cX9_plan : ByteArray := prog_11_method_55_code
def yX9_plan : MethodName := ⟨RX9, "plan", "(III)I"⟩
abbrev cX9_clash : ByteArray := prog_11_method_56_code
def yX9_clash : MethodName := ⟨RX9, "clash", "(III)I"⟩
abbrev cX9_silent : ByteArray := prog_11_method_57_code
def yX9_silent : MethodName := ⟨RX9, "silent", "(II)I"⟩
abbrev cX9_hangsOf : ByteArray := prog_11_method_58_code
def yX9_hangsOf : MethodName := ⟨RX9, "hangsOf", "(I)I"⟩
abbrev cX9_hangs : ByteArray := prog_11_method_59_code
def yX9_hangs : MethodName := ⟨RX9, "hangs", "(I)I"⟩
abbrev cX9_most : ByteArray := prog_11_method_60_code
def yX9_most : MethodName := ⟨RX9, "most", "()I"⟩
abbrev cX9_beside : ByteArray := prog_11_method_61_code
def yX9_beside : MethodName := ⟨RX9, "beside", "(II)I"⟩
abbrev cX9_way : ByteArray := prog_11_method_62_code
def yX9_way : MethodName := ⟨RX9, "way", "(IIIII)I"⟩
abbrev cX9_body : ByteArray := prog_11_method_63_code
def yX9_body : MethodName := ⟨RX9, "body", "(I)V"⟩
abbrev cX9_plainHears : ByteArray := prog_11_method_64_code
def yX9_plainHears : MethodName := ⟨RX9, "plainHears", "(II)I"⟩
abbrev cX9_writtenHears : ByteArray := prog_11_method_65_code
def yX9_writtenHears : MethodName := ⟨RX9, "writtenHears", "(II)I"⟩
abbrev cX9_hears : ByteArray := prog_11_method_66_code
def yX9_hears : MethodName := ⟨RX9, "hears", "(II)I"⟩
abbrev cX9_plainKeeps : ByteArray := prog_11_method_67_code
def yX9_plainKeeps : MethodName := ⟨RX9, "plainKeeps", "(II)I"⟩
abbrev cX9_saidKeeps : ByteArray := prog_11_method_68_code
def yX9_saidKeeps : MethodName := ⟨RX9, "saidKeeps", "(II)I"⟩
abbrev cX9_keeps : ByteArray := prog_11_method_69_code
def yX9_keeps : MethodName := ⟨RX9, "keeps", "(II)I"⟩
abbrev cX9_plainTells : ByteArray := prog_11_method_70_code
def yX9_plainTells : MethodName := ⟨RX9, "plainTells", "(II)I"⟩
abbrev cX9_tells : ByteArray := prog_11_method_71_code
def yX9_tells : MethodName := ⟨RX9, "tells", "(II)I"⟩
abbrev cX9_act : ByteArray := prog_11_method_72_code
def yX9_act : MethodName := ⟨RX9, "act", "(III)I"⟩
abbrev cX9_trace : ByteArray := prog_11_method_73_code
def yX9_trace : MethodName := ⟨RX9, "trace", "(I)I"⟩
abbrev cX9_taken : ByteArray := prog_11_method_74_code
def yX9_taken : MethodName := ⟨RX9, "taken", "(II)I"⟩
abbrev cX9_count : ByteArray := prog_11_method_75_code
def yX9_count : MethodName := ⟨RX9, "count", "(I)I"⟩
abbrev cX9_isTape : ByteArray := prog_11_method_76_code
def yX9_isTape : MethodName := ⟨RX9, "isTape", "(I)Z"⟩
abbrev cX9_tape : ByteArray := prog_11_method_77_code
def yX9_tape : MethodName := ⟨RX9, "tape", "(III)I"⟩
abbrev cX9_narrow : ByteArray := prog_11_method_78_code
def yX9_narrow : MethodName := ⟨RX9, "narrow", "(IJ)J"⟩
abbrev cX9_item : ByteArray := prog_11_method_79_code
def yX9_item : MethodName := ⟨RX9, "item", "(IIJ)I"⟩
abbrev cX9_read : ByteArray := prog_11_method_80_code
def yX9_read : MethodName := ⟨RX9, "read", "(II)J"⟩
abbrev cX9_shift : ByteArray := prog_11_method_81_code
def yX9_shift : MethodName := ⟨RX9, "shift", "(IIIII)I"⟩
def RJx145de : String := "java/io/Serializable"
def TJx145de : u_T := fun k => match k with
  | _ => ("", "", "", false)
def tyJx145de : Nat → FieldType := fun k => match k with
  | _ => .int
abbrev wsJx145de0 : List Cond := u_ws RJx145de TJx145de 0
theorem nmJx145de : ∀ a, a < 0 → ∀ b, b < 0 → a ≠ b → (TJx145de a).2.1 ≠ (TJx145de b).2.1 := by decide +kernel
theorem tyJx145de_ok : ∀ k, k < 0 → parseFieldDescriptor (TJx145de k).2.2.1 = some (tyJx145de k) := by decide +kernel
def RJx9f9b0 : String := "java/lang/CharSequence"
def TJx9f9b0 : u_T := fun k => match k with
  | _ => ("", "", "", false)
def tyJx9f9b0 : Nat → FieldType := fun k => match k with
  | _ => .int
abbrev wsJx9f9b00 : List Cond := u_ws RJx9f9b0 TJx9f9b0 0
theorem nmJx9f9b0 : ∀ a, a < 0 → ∀ b, b < 0 → a ≠ b → (TJx9f9b0 a).2.1 ≠ (TJx9f9b0 b).2.1 := by decide +kernel
theorem tyJx9f9b0_ok : ∀ k, k < 0 → parseFieldDescriptor (TJx9f9b0 k).2.2.1 = some (tyJx9f9b0 k) := by decide +kernel
def RJ11 : String := "java/lang/Character"
def TJ11 : u_T := fun k => match k with
  | _ => ("", "", "", false)
def tyJ11 : Nat → FieldType := fun k => match k with
  | _ => .int
abbrev wsJ110 : List Cond := u_ws RJ11 TJ11 0
theorem nmJ11 : ∀ a, a < 0 → ∀ b, b < 0 → a ≠ b → (TJ11 a).2.1 ≠ (TJ11 b).2.1 := by decide +kernel
theorem tyJ11_ok : ∀ k, k < 0 → parseFieldDescriptor (TJ11 k).2.2.1 = some (tyJ11 k) := by decide +kernel
abbrev cJ11_isValidCodePoint_9a6ad : ByteArray := prog_14_method_11_code
def yJ11_isValidCodePoint_9a6ad : MethodName := ⟨RJ11, "isValidCodePoint", "(I)Z"⟩
abbrev cJ11_highSurrogate_5068e : ByteArray := prog_14_method_28_code
def yJ11_highSurrogate_5068e : MethodName := ⟨RJ11, "highSurrogate", "(I)C"⟩
abbrev cJ11_lowSurrogate_5068e : ByteArray := prog_14_method_29_code
def yJ11_lowSurrogate_5068e : MethodName := ⟨RJ11, "lowSurrogate", "(I)C"⟩
def RJx8e188 : String := "java/lang/Cloneable"
def TJx8e188 : u_T := fun k => match k with
  | _ => ("", "", "", false)
def tyJx8e188 : Nat → FieldType := fun k => match k with
  | _ => .int
abbrev wsJx8e1880 : List Cond := u_ws RJx8e188 TJx8e188 0
theorem nmJx8e188 : ∀ a, a < 0 → ∀ b, b < 0 → a ≠ b → (TJx8e188 a).2.1 ≠ (TJx8e188 b).2.1 := by decide +kernel
theorem tyJx8e188_ok : ∀ k, k < 0 → parseFieldDescriptor (TJx8e188 k).2.2.1 = some (tyJx8e188 k) := by decide +kernel
def RJxb160c : String := "java/lang/Comparable"
def TJxb160c : u_T := fun k => match k with
  | _ => ("", "", "", false)
def tyJxb160c : Nat → FieldType := fun k => match k with
  | _ => .int
abbrev wsJxb160c0 : List Cond := u_ws RJxb160c TJxb160c 0
theorem nmJxb160c : ∀ a, a < 0 → ∀ b, b < 0 → a ≠ b → (TJxb160c a).2.1 ≠ (TJxb160c b).2.1 := by decide +kernel
theorem tyJxb160c_ok : ∀ k, k < 0 → parseFieldDescriptor (TJxb160c k).2.2.1 = some (tyJxb160c k) := by decide +kernel
def RJ6 : String := "java/lang/Integer"
def TJ6 : u_T := fun k => match k with
  | _ => ("", "", "", false)
def tyJ6 : Nat → FieldType := fun k => match k with
  | _ => .int
abbrev wsJ60 : List Cond := u_ws RJ6 TJ6 0
theorem nmJ6 : ∀ a, a < 0 → ∀ b, b < 0 → a ≠ b → (TJ6 a).2.1 ≠ (TJ6 b).2.1 := by decide +kernel
theorem tyJ6_ok : ∀ k, k < 0 → parseFieldDescriptor (TJ6 k).2.2.1 = some (tyJ6 k) := by decide +kernel
abbrev cJ6_numberOfTrailingZeros_0f7a4 : ByteArray := prog_17_method_48_code
def yJ6_numberOfTrailingZeros_0f7a4 : MethodName := ⟨RJ6, "numberOfTrailingZeros", "(I)I"⟩
abbrev cJ6_bitCount_0f7a4 : ByteArray := prog_17_method_49_code
def yJ6_bitCount_0f7a4 : MethodName := ⟨RJ6, "bitCount", "(I)I"⟩
def RJxab1ab : String := "java/lang/Iterable"
def TJxab1ab : u_T := fun k => match k with
  | _ => ("", "", "", false)
def tyJxab1ab : Nat → FieldType := fun k => match k with
  | _ => .int
abbrev wsJxab1ab0 : List Cond := u_ws RJxab1ab TJxab1ab 0
theorem nmJxab1ab : ∀ a, a < 0 → ∀ b, b < 0 → a ≠ b → (TJxab1ab a).2.1 ≠ (TJxab1ab b).2.1 := by decide +kernel
theorem tyJxab1ab_ok : ∀ k, k < 0 → parseFieldDescriptor (TJxab1ab k).2.2.1 = some (tyJxab1ab k) := by decide +kernel
def RJ9 : String := "java/lang/Math"
def TJ9 : u_T := fun k => match k with
  | _ => ("", "", "", false)
def tyJ9 : Nat → FieldType := fun k => match k with
  | _ => .int
abbrev wsJ90 : List Cond := u_ws RJ9 TJ9 0
theorem nmJ9 : ∀ a, a < 0 → ∀ b, b < 0 → a ≠ b → (TJ9 a).2.1 ≠ (TJ9 b).2.1 := by decide +kernel
theorem tyJ9_ok : ∀ k, k < 0 → parseFieldDescriptor (TJ9 k).2.2.1 = some (tyJ9 k) := by decide +kernel
abbrev cJ9_max_7cf53 : ByteArray := prog_19_method_65_code
def yJ9_max_7cf53 : MethodName := ⟨RJ9, "max", "(II)I"⟩
abbrev cJ9_min_7cf53 : ByteArray := prog_19_method_69_code
def yJ9_min_7cf53 : MethodName := ⟨RJ9, "min", "(II)I"⟩
def RJ0 : String := "java/lang/String"
def TJ0 : u_T := fun k => match k with
  | _ => ("", "", "", false)
def tyJ0 : Nat → FieldType := fun k => match k with
  | _ => .int
abbrev wsJ00 : List Cond := u_ws RJ0 TJ0 0
theorem nmJ0 : ∀ a, a < 0 → ∀ b, b < 0 → a ≠ b → (TJ0 a).2.1 ≠ (TJ0 b).2.1 := by decide +kernel
theorem tyJ0_ok : ∀ k, k < 0 → parseFieldDescriptor (TJ0 k).2.2.1 = some (tyJ0 k) := by decide +kernel
abbrev cJ0_length_8abf5 : ByteArray := prog_20_method_54_code
def yJ0_length_8abf5 : MethodName := ⟨RJ0, "length", "()I"⟩
abbrev cJ0_charAt_5068e : ByteArray := prog_20_method_56_code
def yJ0_charAt_5068e : MethodName := ⟨RJ0, "charAt", "(I)C"⟩
abbrev cJ0_indexOf_0f7a4 : ByteArray := prog_20_method_79_code
def yJ0_indexOf_0f7a4 : MethodName := ⟨RJ0, "indexOf", "(I)I"⟩
abbrev cJ0_indexOf_7cf53 : ByteArray := prog_20_method_80_code
def yJ0_indexOf_7cf53 : MethodName := ⟨RJ0, "indexOf", "(II)I"⟩
abbrev cJ0_coder_7d493 : ByteArray := prog_20_method_152_code
def yJ0_coder_7d493 : MethodName := ⟨RJ0, "coder", "()B"⟩
abbrev cJ0_isLatin1_aae02 : ByteArray := prog_20_method_154_code
def yJ0_isLatin1_aae02 : MethodName := ⟨RJ0, "isLatin1", "()Z"⟩
abbrev cJ0_checkIndex_df160 : ByteArray := prog_20_method_155_code
def yJ0_checkIndex_df160 : MethodName := ⟨RJ0, "checkIndex", "(II)V"⟩
abbrev cJ0_checkBoundsBeginEnd_23922 : ByteArray := prog_20_method_158_code
def yJ0_checkBoundsBeginEnd_23922 : MethodName := ⟨RJ0, "checkBoundsBeginEnd", "(III)V"⟩
def RJ1 : String := "java/lang/StringLatin1"
def TJ1 : u_T := fun k => match k with
  | _ => ("", "", "", false)
def tyJ1 : Nat → FieldType := fun k => match k with
  | _ => .int
abbrev wsJ10 : List Cond := u_ws RJ1 TJ1 0
theorem nmJ1 : ∀ a, a < 0 → ∀ b, b < 0 → a ≠ b → (TJ1 a).2.1 ≠ (TJ1 b).2.1 := by decide +kernel
theorem tyJ1_ok : ∀ k, k < 0 → parseFieldDescriptor (TJ1 k).2.2.1 = some (tyJ1 k) := by decide +kernel
abbrev cJ1_charAt_3b067 : ByteArray := prog_21_method_2_code
def yJ1_charAt_3b067 : MethodName := ⟨RJ1, "charAt", "([BI)C"⟩
abbrev cJ1_canEncode_9a6ad : ByteArray := prog_21_method_4_code
def yJ1_canEncode_9a6ad : MethodName := ⟨RJ1, "canEncode", "(I)Z"⟩
abbrev cJ1_indexOf_4cfef : ByteArray := prog_21_method_22_code
def yJ1_indexOf_4cfef : MethodName := ⟨RJ1, "indexOf", "([BIII)I"⟩
abbrev cJ1_indexOfChar_4cfef : ByteArray := prog_21_method_23_code
def yJ1_indexOfChar_4cfef : MethodName := ⟨RJ1, "indexOfChar", "([BIII)I"⟩
def RJ2 : String := "java/lang/StringUTF16"
def TJ2 : u_T := fun k => match k with
  | _ => ("", "", "", false)
def tyJ2 : Nat → FieldType := fun k => match k with
  | _ => .int
abbrev wsJ20 : List Cond := u_ws RJ2 TJ2 0
theorem nmJ2 : ∀ a, a < 0 → ∀ b, b < 0 → a ≠ b → (TJ2 a).2.1 ≠ (TJ2 b).2.1 := by decide +kernel
theorem tyJ2_ok : ∀ k, k < 0 → parseFieldDescriptor (TJ2 k).2.2.1 = some (tyJ2 k) := by decide +kernel
abbrev cJ2_getChar_3b067 : ByteArray := prog_22_method_5_code
def yJ2_getChar_3b067 : MethodName := ⟨RJ2, "getChar", "([BI)C"⟩
abbrev cJ2_length_9d52b : ByteArray := prog_22_method_6_code
def yJ2_length_9d52b : MethodName := ⟨RJ2, "length", "([B)I"⟩
abbrev cJ2_indexOf_4cfef : ByteArray := prog_22_method_40_code
def yJ2_indexOf_4cfef : MethodName := ⟨RJ2, "indexOf", "([BIII)I"⟩
abbrev cJ2_indexOfChar_4cfef : ByteArray := prog_22_method_47_code
def yJ2_indexOfChar_4cfef : MethodName := ⟨RJ2, "indexOfChar", "([BIII)I"⟩
abbrev cJ2_indexOfCharUnsafe_4cfef : ByteArray := prog_22_method_48_code
def yJ2_indexOfCharUnsafe_4cfef : MethodName := ⟨RJ2, "indexOfCharUnsafe", "([BIII)I"⟩
abbrev cJ2_indexOfSupplementary_4cfef : ByteArray := prog_22_method_49_code
def yJ2_indexOfSupplementary_4cfef : MethodName := ⟨RJ2, "indexOfSupplementary", "([BIII)I"⟩
abbrev cJ2_charAt_3b067 : ByteArray := prog_22_method_83_code
def yJ2_charAt_3b067 : MethodName := ⟨RJ2, "charAt", "([BI)C"⟩
abbrev cJ2_checkIndex_2214a : ByteArray := prog_22_method_91_code
def yJ2_checkIndex_2214a : MethodName := ⟨RJ2, "checkIndex", "(I[B)V"⟩
abbrev cJ2_checkBoundsBeginEnd_d044e : ByteArray := prog_22_method_93_code
def yJ2_checkBoundsBeginEnd_d044e : MethodName := ⟨RJ2, "checkBoundsBeginEnd", "(II[B)V"⟩
def RJ10 : String := "java/lang/System"
def TJ10 : u_T := fun k => match k with
  | _ => ("", "", "", false)
def tyJ10 : Nat → FieldType := fun k => match k with
  | _ => .int
abbrev wsJ100 : List Cond := u_ws RJ10 TJ10 0
theorem nmJ10 : ∀ a, a < 0 → ∀ b, b < 0 → a ≠ b → (TJ10 a).2.1 ≠ (TJ10 b).2.1 := by decide +kernel
theorem tyJ10_ok : ∀ k, k < 0 → parseFieldDescriptor (TJ10 k).2.2.1 = some (tyJ10 k) := by decide +kernel
def RJxfd54e : String := "java/lang/constant/Constable"
def TJxfd54e : u_T := fun k => match k with
  | _ => ("", "", "", false)
def tyJxfd54e : Nat → FieldType := fun k => match k with
  | _ => .int
abbrev wsJxfd54e0 : List Cond := u_ws RJxfd54e TJxfd54e 0
theorem nmJxfd54e : ∀ a, a < 0 → ∀ b, b < 0 → a ≠ b → (TJxfd54e a).2.1 ≠ (TJxfd54e b).2.1 := by decide +kernel
theorem tyJxfd54e_ok : ∀ k, k < 0 → parseFieldDescriptor (TJxfd54e k).2.2.1 = some (tyJxfd54e k) := by decide +kernel
def RJx3cf43 : String := "java/lang/constant/ConstantDesc"
def TJx3cf43 : u_T := fun k => match k with
  | _ => ("", "", "", false)
def tyJx3cf43 : Nat → FieldType := fun k => match k with
  | _ => .int
abbrev wsJx3cf430 : List Cond := u_ws RJx3cf43 TJx3cf43 0
theorem nmJx3cf43 : ∀ a, a < 0 → ∀ b, b < 0 → a ≠ b → (TJx3cf43 a).2.1 ≠ (TJx3cf43 b).2.1 := by decide +kernel
theorem tyJx3cf43_ok : ∀ k, k < 0 → parseFieldDescriptor (TJx3cf43 k).2.2.1 = some (tyJx3cf43 k) := by decide +kernel
def RJxa1e45 : String := "java/util/AbstractCollection"
def TJxa1e45 : u_T := fun k => match k with
  | _ => ("", "", "", false)
def tyJxa1e45 : Nat → FieldType := fun k => match k with
  | _ => .int
abbrev wsJxa1e450 : List Cond := u_ws RJxa1e45 TJxa1e45 0
theorem nmJxa1e45 : ∀ a, a < 0 → ∀ b, b < 0 → a ≠ b → (TJxa1e45 a).2.1 ≠ (TJxa1e45 b).2.1 := by decide +kernel
theorem tyJxa1e45_ok : ∀ k, k < 0 → parseFieldDescriptor (TJxa1e45 k).2.2.1 = some (tyJxa1e45 k) := by decide +kernel
abbrev cJxa1e45_init_da8c8 : ByteArray := prog_26_method_1_code
def yJxa1e45_init_da8c8 : MethodName := ⟨RJxa1e45, "<init>", "()V"⟩
def RJxc12de : String := "java/util/AbstractList"
def TJxc12de : u_T := fun k => match k with
  | _ => ("", "", "", false)
def tyJxc12de : Nat → FieldType := fun k => match k with
  | _ => .int
abbrev wsJxc12de0 : List Cond := u_ws RJxc12de TJxc12de 0
theorem nmJxc12de : ∀ a, a < 0 → ∀ b, b < 0 → a ≠ b → (TJxc12de a).2.1 ≠ (TJxc12de b).2.1 := by decide +kernel
theorem tyJxc12de_ok : ∀ k, k < 0 → parseFieldDescriptor (TJxc12de k).2.2.1 = some (tyJxc12de k) := by decide +kernel
abbrev cJxc12de_init_da8c8 : ByteArray := prog_27_method_1_code
def yJxc12de_init_da8c8 : MethodName := ⟨RJxc12de, "<init>", "()V"⟩
def RJx4a65c : String := "java/util/ArrayList"
def TJx4a65c : u_T := fun k => match k with
  | 0 => ("java/util/AbstractList", "modCount", "I", false)
  | 1 => ("java/util/ArrayList", "elementData", "[Ljava/lang/Object;", false)
  | _ => ("java/util/ArrayList", "size", "I", false)
def tyJx4a65c : Nat → FieldType := fun k => match k with
  | 0 => .int
  | 1 => .array (.object "java/lang/Object")
  | _ => .int
abbrev wsJx4a65c0 : List Cond := u_ws RJx4a65c TJx4a65c 3
theorem nmJx4a65c : ∀ a, a < 3 → ∀ b, b < 3 → a ≠ b → (TJx4a65c a).2.1 ≠ (TJx4a65c b).2.1 := by decide +kernel
theorem tyJx4a65c_ok : ∀ k, k < 3 → parseFieldDescriptor (TJx4a65c k).2.2.1 = some (tyJx4a65c k) := by decide +kernel
abbrev cJx4a65c_init_da8c8 : ByteArray := prog_28_method_2_code
def yJx4a65c_init_da8c8 : MethodName := ⟨RJx4a65c, "<init>", "()V"⟩
abbrev cJx4a65c_grow_92f84 : ByteArray := prog_28_method_6_code
def yJx4a65c_grow_92f84 : MethodName := ⟨RJx4a65c, "grow", "(I)[Ljava/lang/Object;"⟩
abbrev cJx4a65c_grow_d5877 : ByteArray := prog_28_method_7_code
def yJx4a65c_grow_d5877 : MethodName := ⟨RJx4a65c, "grow", "()[Ljava/lang/Object;"⟩
abbrev cJx4a65c_size_8abf5 : ByteArray := prog_28_method_8_code
def yJx4a65c_size_8abf5 : MethodName := ⟨RJx4a65c, "size", "()I"⟩
abbrev cJx4a65c_isEmpty_aae02 : ByteArray := prog_28_method_9_code
def yJx4a65c_isEmpty_aae02 : MethodName := ⟨RJx4a65c, "isEmpty", "()Z"⟩
abbrev cJx4a65c_elementData_915e3 : ByteArray := prog_28_method_18_code
def yJx4a65c_elementData_915e3 : MethodName := ⟨RJx4a65c, "elementData", "(I)Ljava/lang/Object;"⟩
abbrev cJx4a65c_get_915e3 : ByteArray := prog_28_method_20_code
def yJx4a65c_get_915e3 : MethodName := ⟨RJx4a65c, "get", "(I)Ljava/lang/Object;"⟩
abbrev cJx4a65c_add_72be8 : ByteArray := prog_28_method_24_code
def yJx4a65c_add_72be8 : MethodName := ⟨RJx4a65c, "add", "(Ljava/lang/Object;[Ljava/lang/Object;I)V"⟩
abbrev cJx4a65c_add_9ea2d : ByteArray := prog_28_method_25_code
def yJx4a65c_add_9ea2d : MethodName := ⟨RJx4a65c, "add", "(Ljava/lang/Object;)Z"⟩
abbrev cJx4a65c_remove_915e3 : ByteArray := prog_28_method_29_code
def yJx4a65c_remove_915e3 : MethodName := ⟨RJx4a65c, "remove", "(I)Ljava/lang/Object;"⟩
abbrev cJx4a65c_fastRemove_b59b0 : ByteArray := prog_28_method_39_code
def yJx4a65c_fastRemove_b59b0 : MethodName := ⟨RJx4a65c, "fastRemove", "([Ljava/lang/Object;I)V"⟩
abbrev cJx4a65c_clear_da8c8 : ByteArray := prog_28_method_40_code
def yJx4a65c_clear_da8c8 : MethodName := ⟨RJx4a65c, "clear", "()V"⟩
def RJ7 : String := "java/util/Arrays"
def TJ7 : u_T := fun k => match k with
  | _ => ("", "", "", false)
def tyJ7 : Nat → FieldType := fun k => match k with
  | _ => .int
abbrev wsJ70 : List Cond := u_ws RJ7 TJ7 0
theorem nmJ7 : ∀ a, a < 0 → ∀ b, b < 0 → a ≠ b → (TJ7 a).2.1 ≠ (TJ7 b).2.1 := by decide +kernel
theorem tyJ7_ok : ∀ k, k < 0 → parseFieldDescriptor (TJ7 k).2.2.1 = some (tyJ7 k) := by decide +kernel
abbrev cJ7_fill_d0a16 : ByteArray := prog_29_method_101_code
def yJ7_fill_d0a16 : MethodName := ⟨RJ7, "fill", "([JJ)V"⟩
abbrev cJ7_copyOf_1904c : ByteArray := prog_29_method_119_code
def yJ7_copyOf_1904c : MethodName := ⟨RJ7, "copyOf", "([Ljava/lang/Object;I)[Ljava/lang/Object;"⟩
abbrev cJ7_copyOf_6403c : ByteArray := prog_29_method_120_code
def yJ7_copyOf_6403c : MethodName := ⟨RJ7, "copyOf", "([Ljava/lang/Object;ILjava/lang/Class;)[Ljava/lang/Object;"⟩
abbrev cJ7_copyOf_59c91 : ByteArray := prog_29_method_123_code
def yJ7_copyOf_59c91 : MethodName := ⟨RJ7, "copyOf", "([II)[I"⟩
def RJx5ef63 : String := "java/util/Collection"
def TJx5ef63 : u_T := fun k => match k with
  | _ => ("", "", "", false)
def tyJx5ef63 : Nat → FieldType := fun k => match k with
  | _ => .int
abbrev wsJx5ef630 : List Cond := u_ws RJx5ef63 TJx5ef63 0
theorem nmJx5ef63 : ∀ a, a < 0 → ∀ b, b < 0 → a ≠ b → (TJx5ef63 a).2.1 ≠ (TJx5ef63 b).2.1 := by decide +kernel
theorem tyJx5ef63_ok : ∀ k, k < 0 → parseFieldDescriptor (TJx5ef63 k).2.2.1 = some (tyJx5ef63 k) := by decide +kernel
def RJxbd725 : String := "java/util/List"
def TJxbd725 : u_T := fun k => match k with
  | _ => ("", "", "", false)
def tyJxbd725 : Nat → FieldType := fun k => match k with
  | _ => .int
abbrev wsJxbd7250 : List Cond := u_ws RJxbd725 TJxbd725 0
theorem nmJxbd725 : ∀ a, a < 0 → ∀ b, b < 0 → a ≠ b → (TJxbd725 a).2.1 ≠ (TJxbd725 b).2.1 := by decide +kernel
theorem tyJxbd725_ok : ∀ k, k < 0 → parseFieldDescriptor (TJxbd725 k).2.2.1 = some (tyJxbd725 k) := by decide +kernel
def RJ15 : String := "java/util/Objects"
def TJ15 : u_T := fun k => match k with
  | _ => ("", "", "", false)
def tyJ15 : Nat → FieldType := fun k => match k with
  | _ => .int
abbrev wsJ150 : List Cond := u_ws RJ15 TJ15 0
theorem nmJ15 : ∀ a, a < 0 → ∀ b, b < 0 → a ≠ b → (TJ15 a).2.1 ≠ (TJ15 b).2.1 := by decide +kernel
theorem tyJ15_ok : ∀ k, k < 0 → parseFieldDescriptor (TJ15 k).2.2.1 = some (tyJ15 k) := by decide +kernel
abbrev cJ15_checkIndex_7cf53 : ByteArray := prog_32_method_17_code
def yJ15_checkIndex_7cf53 : MethodName := ⟨RJ15, "checkIndex", "(II)I"⟩
def RJxf0a74 : String := "java/util/RandomAccess"
def TJxf0a74 : u_T := fun k => match k with
  | _ => ("", "", "", false)
def tyJxf0a74 : Nat → FieldType := fun k => match k with
  | _ => .int
abbrev wsJxf0a740 : List Cond := u_ws RJxf0a74 TJxf0a74 0
theorem nmJxf0a74 : ∀ a, a < 0 → ∀ b, b < 0 → a ≠ b → (TJxf0a74 a).2.1 ≠ (TJxf0a74 b).2.1 := by decide +kernel
theorem tyJxf0a74_ok : ∀ k, k < 0 → parseFieldDescriptor (TJxf0a74 k).2.2.1 = some (tyJxf0a74 k) := by decide +kernel
def RJxa66e6 : String := "java/util/SequencedCollection"
def TJxa66e6 : u_T := fun k => match k with
  | _ => ("", "", "", false)
def tyJxa66e6 : Nat → FieldType := fun k => match k with
  | _ => .int
abbrev wsJxa66e60 : List Cond := u_ws RJxa66e6 TJxa66e6 0
theorem nmJxa66e6 : ∀ a, a < 0 → ∀ b, b < 0 → a ≠ b → (TJxa66e6 a).2.1 ≠ (TJxa66e6 b).2.1 := by decide +kernel
theorem tyJxa66e6_ok : ∀ k, k < 0 → parseFieldDescriptor (TJxa66e6 k).2.2.1 = some (tyJxa66e6 k) := by decide +kernel
def RJ8 : String := "jdk/internal/util/ArraysSupport"
def TJ8 : u_T := fun k => match k with
  | _ => ("", "", "", false)
def tyJ8 : Nat → FieldType := fun k => match k with
  | _ => .int
abbrev wsJ80 : List Cond := u_ws RJ8 TJ8 0
theorem nmJ8 : ∀ a, a < 0 → ∀ b, b < 0 → a ≠ b → (TJ8 a).2.1 ≠ (TJ8 b).2.1 := by decide +kernel
theorem tyJ8_ok : ∀ k, k < 0 → parseFieldDescriptor (TJ8 k).2.2.1 = some (tyJ8 k) := by decide +kernel
abbrev cJ8_newLength_cabcc : ByteArray := prog_35_method_27_code
def yJ8_newLength_cabcc : MethodName := ⟨RJ8, "newLength", "(III)I"⟩
abbrev cJ8_hugeLength_7cf53 : ByteArray := prog_35_method_28_code
def yJ8_hugeLength_7cf53 : MethodName := ⟨RJ8, "hugeLength", "(II)I"⟩
def RJ3 : String := "jdk/internal/util/Preconditions"
def TJ3 : u_T := fun k => match k with
  | _ => ("", "", "", false)
def tyJ3 : Nat → FieldType := fun k => match k with
  | _ => .int
abbrev wsJ30 : List Cond := u_ws RJ3 TJ3 0
theorem nmJ3 : ∀ a, a < 0 → ∀ b, b < 0 → a ≠ b → (TJ3 a).2.1 ≠ (TJ3 b).2.1 := by decide +kernel
theorem tyJ3_ok : ∀ k, k < 0 → parseFieldDescriptor (TJ3 k).2.2.1 = some (tyJ3 k) := by decide +kernel
abbrev cJ3_checkIndex_8e157 : ByteArray := prog_36_method_11_code
def yJ3_checkIndex_8e157 : MethodName := ⟨RJ3, "checkIndex", "(IILjava/util/function/BiFunction;)I"⟩
abbrev cJ3_checkFromToIndex_8c36e : ByteArray := prog_36_method_12_code
def yJ3_checkFromToIndex_8c36e : MethodName := ⟨RJ3, "checkFromToIndex", "(IIILjava/util/function/BiFunction;)I"⟩
def RL : String := "HeardWordsLaw"
abbrev cL_law : ByteArray := code
def yL_law : MethodName := ⟨RL, "law", "([I)Z"⟩
def wsL_law_r1 : List Cond := [Cond.classLink RL 7 RX8, Cond.instantiable RX8 10, Cond.initialized RX8, Cond.classLink RL 10 RX9, Cond.instantiable RX9 40, Cond.initialized RX9, Cond.constantLong RL 135 (4294967295), Cond.methodLink RL 9 yX8_init, Cond.instanceMethod yX8_init, Cond.code yX8_init cX8_init 2 none, Cond.methodLink RX8 3 objectInit, Cond.instanceMethod objectInit, Cond.code objectInit ⟨#[0xb1]⟩ 1 none, Cond.classLink RX8 11 RX2, Cond.fieldLink RX8 13 "HeardWords" "persons" "[LHeardWords$Person;", Cond.classLink RX8 17 RJx4a65c, Cond.instantiable RJx4a65c 3, Cond.initialized RJx4a65c, Cond.fieldLink RX8 20 "HeardWords" "words" "Ljava/util/ArrayList;", Cond.fieldLink RX8 24 "HeardWords" "rules" "Ljava/util/ArrayList;", Cond.classLink RX8 27 RX3, Cond.instantiable RX3 7, Cond.initialized RX3, Cond.fieldLink RX8 30 "HeardWords" "reader" "LHeardWords$Reader;"]
def wsL_law_r2 : List Cond := [Cond.classLink RX8 34 RX5, Cond.instantiable RX5 3, Cond.initialized RX5, Cond.fieldLink RX8 37 "HeardWords" "now" "LHeardWords$Stand;", Cond.fieldLink RX8 41 "HeardWords" "supposed" "LHeardWords$Stand;", Cond.classLink RX8 44 RX6, Cond.fieldLink RX8 46 "HeardWords" "tapes" "[LHeardWords$Tape;", Cond.classLink RX8 50 RX0, Cond.instantiable RX0 2, Cond.initialized RX0, Cond.fieldLink RX8 53 "HeardWords" "bodies" "LHeardWords$Bodies;", Cond.fieldLink RX8 57 "HeardWords" "waiting" "Ljava/util/ArrayList;", Cond.arrayClass .int, Cond.fieldLink RX8 60 "HeardWords" "nextInOrder" "[I", Cond.instantiable RX2 3, Cond.initialized RX2, Cond.instantiable RX6 3, Cond.initialized RX6, Cond.methodLink RX8 19 yJx4a65c_init_da8c8, Cond.instanceMethod yJx4a65c_init_da8c8, Cond.code yJx4a65c_init_da8c8 cJx4a65c_init_da8c8 1 none, Cond.fieldLink RJx4a65c 39 "java/util/ArrayList" "DEFAULTCAPACITY_EMPTY_ELEMENTDATA" "[Ljava/lang/Object;", Cond.fieldLink RJx4a65c 9 "java/util/ArrayList" "elementData" "[Ljava/lang/Object;", Cond.methodLink RJx4a65c 1 yJxc12de_init_da8c8]
def wsL_law_r3 : List Cond := [Cond.instanceMethod yJxc12de_init_da8c8, Cond.initialized RJxc12de, Cond.code yJxc12de_init_da8c8 cJxc12de_init_da8c8 1 none, Cond.fieldLink RJxc12de 7 "java/util/AbstractList" "modCount" "I", Cond.methodLink RJxc12de 1 yJxa1e45_init_da8c8, Cond.instanceMethod yJxa1e45_init_da8c8, Cond.initialized RJxa1e45, Cond.code yJxa1e45_init_da8c8 cJxa1e45_init_da8c8 1 none, Cond.methodLink RJxa1e45 1 objectInit, Cond.instanceMethod yX3_init, Cond.code yX3_init cX3_init 1 none, Cond.methodLink RX3 3 objectInit, Cond.arrayClass .byte, Cond.fieldLink RX3 9 "HeardWords$Reader" "text" "[B", Cond.fieldLink RX3 15 "HeardWords$Reader" "steps" "[I", Cond.instanceMethod yX5_init, Cond.code yX5_init cX5_init 1 none, Cond.methodLink RX5 1 objectInit, Cond.instanceMethod yX0_init, Cond.code yX0_init cX0_init 1 none, Cond.methodLink RX0 3 objectInit, Cond.fieldLink RX0 9 "HeardWords$Bodies" "trace" "[I", Cond.methodLink RX8 64 yX2_init, Cond.instanceMethod yX2_init]
def wsL_law_r4 : List Cond := [Cond.code yX2_init cX2_init 2 none, Cond.methodLink RX2 1 objectInit, Cond.fieldLink RX2 7 "HeardWords$Person" "number" "I", Cond.instanceMethod yX6_init, Cond.code yX6_init cX6_init 1 none, Cond.methodLink RX6 3 objectInit, Cond.arrayClass .long, Cond.fieldLink RX6 9 "HeardWords$Tape" "items" "[J", Cond.fieldLink RX6 15 "HeardWords$Tape" "sort" "I", Cond.methodLink RL 12 yX9_init, Cond.instanceMethod yX9_init, Cond.code yX9_init cX9_init 1 none, Cond.methodLink RX9 1 objectInit, Cond.fieldLink RX9 7 "HeardWordsModel" "words" "I", Cond.fieldLink RX9 13 "HeardWordsModel" "shown" "I", Cond.fieldLink RX9 16 "HeardWordsModel" "judgeIn" "I", Cond.fieldLink RX9 19 "HeardWordsModel" "knownOf" "[I", Cond.fieldLink RX9 23 "HeardWordsModel" "kind" "[I", Cond.fieldLink RX9 26 "HeardWordsModel" "by" "[I", Cond.fieldLink RX9 29 "HeardWordsModel" "facts" "[I", Cond.fieldLink RX9 32 "HeardWordsModel" "parts" "[I", Cond.fieldLink RX9 35 "HeardWordsModel" "part" "[I", Cond.fieldLink RX9 38 "HeardWordsModel" "rules" "I", Cond.fieldLink RX9 41 "HeardWordsModel" "fed" "I"]
def wsL_law_r5 : List Cond := [Cond.fieldLink RX9 44 "HeardWordsModel" "at" "I", Cond.fieldLink RX9 47 "HeardWordsModel" "text" "[I", Cond.fieldLink RX9 50 "HeardWordsModel" "land" "[I", Cond.fieldLink RX9 53 "HeardWordsModel" "clauses" "[I", Cond.fieldLink RX9 56 "HeardWordsModel" "word" "[I", Cond.fieldLink RX9 59 "HeardWordsModel" "fact" "[I", Cond.fieldLink RX9 62 "HeardWordsModel" "from" "[I", Cond.fieldLink RX9 65 "HeardWordsModel" "to" "[I", Cond.fieldLink RX9 68 "HeardWordsModel" "sign" "[I", Cond.fieldLink RX9 71 "HeardWordsModel" "signs" "I", Cond.fieldLink RX9 74 "HeardWordsModel" "waits" "[I", Cond.fieldLink RX9 77 "HeardWordsModel" "waiting" "I", Cond.fieldLink RX9 80 "HeardWordsModel" "open" "I", Cond.fieldLink RX9 83 "HeardWordsModel" "nowShown" "I", Cond.fieldLink RX9 86 "HeardWordsModel" "nowJudge" "I", Cond.fieldLink RX9 89 "HeardWordsModel" "banned" "I", Cond.fieldLink RX9 92 "HeardWordsModel" "before" "[I", Cond.arrayClass .boolean, Cond.fieldLink RX9 95 "HeardWordsModel" "pile" "[Z", Cond.fieldLink RX9 99 "HeardWordsModel" "heardOf" "[Z", Cond.fieldLink RX9 102 "HeardWordsModel" "row" "[I", Cond.fieldLink RX9 105 "HeardWordsModel" "places" "[I", Cond.fieldLink RX9 108 "HeardWordsModel" "was" "[Z", Cond.fieldLink RX9 111 "HeardWordsModel" "due" "[I"]
def wsL_law_r6 : List Cond := [Cond.fieldLink RX9 114 "HeardWordsModel" "ran" "I", Cond.fieldLink RX9 117 "HeardWordsModel" "bodies" "[I", Cond.fieldLink RX9 120 "HeardWordsModel" "sort" "[I", Cond.fieldLink RX9 123 "HeardWordsModel" "length" "[I", Cond.fieldLink RX9 126 "HeardWordsModel" "item" "[J", Cond.fieldLink RX9 130 "HeardWordsModel" "aside" "[J", Cond.methodLink RL 13 yX8_known, Cond.instanceMethod yX8_known, Cond.selects RX8 yX8_known yX8_known, Cond.code yX8_known cX8_known 5 (some .int), Cond.fieldLink RX8 76 "HeardWords$Person" "known" "I", Cond.methodLink RX8 68 yX8_personAt, Cond.instanceMethod yX8_personAt, Cond.selects RX8 yX8_personAt yX8_personAt, Cond.code yX8_personAt cX8_personAt 2 (some (.object "HeardWords$Person")), Cond.methodLink RX8 72 yX8_within, Cond.static yX8_within, Cond.code yX8_within cX8_within 2 (some .boolean), Cond.methodLink RL 17 yX9_known, Cond.instanceMethod yX9_known, Cond.selects RX9 yX9_known yX9_known, Cond.code yX9_known cX9_known 4 (some .int), Cond.methodLink RX9 133 yX9_in, Cond.instanceMethod yX9_in]
def wsL_law_r7 : List Cond := [Cond.selects RX9 yX9_in yX9_in, Cond.code yX9_in cX9_in 4 (some .boolean), Cond.methodLink RL 18 yX8_word, Cond.instanceMethod yX8_word, Cond.selects RX8 yX8_word yX8_word, Cond.code yX8_word cX8_word 6 (some .int), Cond.classLink RX8 84 RX7, Cond.instantiable RX7 7, Cond.initialized RX7, Cond.fieldLink RX8 93 "HeardWords$Person" "words" "I", Cond.methodLink RX8 80 yJx4a65c_size_8abf5, Cond.instanceMethod yJx4a65c_size_8abf5, Cond.selects RJx4a65c yJx4a65c_size_8abf5 yJx4a65c_size_8abf5, Cond.code yJx4a65c_size_8abf5 cJx4a65c_size_8abf5 1 (some .int), Cond.fieldLink RJx4a65c 48 "java/util/ArrayList" "size" "I", Cond.methodLink RX8 86 yX7_init, Cond.instanceMethod yX7_init, Cond.code yX7_init cX7_init 5 none, Cond.methodLink RX7 3 objectInit, Cond.classLink RX7 9 RJx4a65c, Cond.fieldLink RX7 12 "HeardWords$Word" "parts" "Ljava/util/ArrayList;", Cond.fieldLink RX7 18 "HeardWords$Word" "number" "I", Cond.fieldLink RX7 22 "HeardWords$Word" "kind" "I", Cond.fieldLink RX7 25 "HeardWords$Word" "by" "LHeardWords$Person;"]
def wsL_law_r8 : List Cond := [Cond.fieldLink RX7 29 "HeardWords$Word" "facts" "I", Cond.fieldLink RX7 36 "HeardWords$Word" "kinds" "I", Cond.methodLink RX7 11 yJx4a65c_init_da8c8, Cond.static yX8_kindAbove, Cond.code yX8_kindAbove cX8_kindAbove 1 (some .int), Cond.methodLink RX8 89 yJx4a65c_add_9ea2d, Cond.instanceMethod yJx4a65c_add_9ea2d, Cond.selects RJx4a65c yJx4a65c_add_9ea2d yJx4a65c_add_9ea2d, Cond.code yJx4a65c_add_9ea2d cJx4a65c_add_9ea2d 2 (some .boolean), Cond.fieldLink RJx4a65c 63 "java/util/ArrayList" "modCount" "I", Cond.sameField "java/util/ArrayList" "java/util/AbstractList" "modCount" "I", Cond.methodLink RJx4a65c 131 yJx4a65c_add_72be8, Cond.instanceMethod yJx4a65c_add_72be8, Cond.selects RJx4a65c yJx4a65c_add_72be8 yJx4a65c_add_72be8, Cond.code yJx4a65c_add_72be8 cJx4a65c_add_72be8 4 none, Cond.methodLink RJx4a65c 129 yJx4a65c_grow_d5877, Cond.instanceMethod yJx4a65c_grow_d5877, Cond.selects RJx4a65c yJx4a65c_grow_d5877 yJx4a65c_grow_d5877, Cond.code yJx4a65c_grow_d5877 cJx4a65c_grow_d5877 1 (some (.array (.object "java/lang/Object"))), Cond.methodLink RJx4a65c 69 yJx4a65c_grow_92f84, Cond.instanceMethod yJx4a65c_grow_92f84, Cond.selects RJx4a65c yJx4a65c_grow_92f84 yJx4a65c_grow_92f84, Cond.code yJx4a65c_grow_92f84 cJx4a65c_grow_92f84 4 (some (.array (.object "java/lang/Object"))), Cond.methodLink RJx4a65c 79 Lib.Math.max.name]
def wsL_law_r9 : List Cond := [Cond.static Lib.Math.max.name, Cond.initialized "java/lang/Math", Cond.code Lib.Math.max.name Lib.Math.max.code 2 (some .int), Cond.classLink RJx4a65c 7 "java/lang/Object", Cond.methodLink RJx4a65c 73 yJ8_newLength_cabcc, Cond.static yJ8_newLength_cabcc, Cond.initialized RJ8, Cond.code yJ8_newLength_cabcc cJ8_newLength_cabcc 4 (some .int), Cond.methodLink RJ8 194 Lib.Math.max.name, Cond.constant RJ8 200 (2147483639), Cond.methodLink RJ8 201 yJ8_hugeLength_7cf53, Cond.static yJ8_hugeLength_7cf53, Cond.code yJ8_hugeLength_7cf53 cJ8_hugeLength_7cf53 3 (some .int), Cond.methodLink RJx4a65c 66 yJ7_copyOf_1904c, Cond.static yJ7_copyOf_1904c, Cond.initialized RJ7, Cond.code yJ7_copyOf_1904c cJ7_copyOf_1904c 2 (some (.array (.object "java/lang/Object"))), Cond.methodLink RJ7 86 ⟨"java/lang/Object", "getClass", "()Ljava/lang/Class;"⟩, Cond.selects "[Ljava/lang/Object;" ⟨"java/lang/Object", "getClass", "()Ljava/lang/Class;"⟩ ⟨"java/lang/Object", "getClass", "()Ljava/lang/Class;"⟩, Cond.instanceMethod ⟨"java/lang/Object", "getClass", "()Ljava/lang/Class;"⟩, Cond.native ⟨"java/lang/Object", "getClass", "()Ljava/lang/Class;"⟩, Cond.methodLink RJ7 300 yJ7_copyOf_6403c, Cond.static yJ7_copyOf_6403c, Cond.code yJ7_copyOf_6403c cJ7_copyOf_6403c 4 (some (.array (.object "java/lang/Object")))]
def wsL_law_r10 : List Cond := [Cond.classLink RJ7 110 "[Ljava/lang/Object;", Cond.classLink RJ7 2 "java/lang/Object", Cond.methodLink RJ7 304 Lib.Math.min.name, Cond.static Lib.Math.min.name, Cond.code Lib.Math.min.name Lib.Math.min.code 2 (some .int), Cond.methodLink RJ7 150 arraycopyName, Cond.native arraycopyName, Cond.static arraycopyName, Cond.initialized "java/lang/System", Cond.methodLink RL 22 yX9_word, Cond.instanceMethod yX9_word, Cond.selects RX9 yX9_word yX9_word, Cond.code yX9_word cX9_word 4 (some .int), Cond.methodLink RL 23 yX8_hold, Cond.instanceMethod yX8_hold, Cond.selects RX8 yX8_hold yX8_hold, Cond.code yX8_hold cX8_hold 5 (some .int), Cond.fieldLink RX8 102 "HeardWords$Word" "partBits" "I", Cond.fieldLink RX8 108 "HeardWords$Word" "parts" "Ljava/util/ArrayList;", Cond.methodLink RX8 95 yX8_wordAt, Cond.instanceMethod yX8_wordAt, Cond.selects RX8 yX8_wordAt yX8_wordAt, Cond.code yX8_wordAt cX8_wordAt 2 (some (.object "HeardWords$Word")), Cond.classLink RX8 84 "HeardWords$Word"]
def wsL_law_r11 : List Cond := [Cond.methodLink RX8 220 yJx4a65c_get_915e3, Cond.instanceMethod yJx4a65c_get_915e3, Cond.selects RJx4a65c yJx4a65c_get_915e3 yJx4a65c_get_915e3, Cond.code yJx4a65c_get_915e3 cJx4a65c_get_915e3 2 (some (.object "java/lang/Object")), Cond.methodLink RJx4a65c 118 yJ15_checkIndex_7cf53, Cond.static yJ15_checkIndex_7cf53, Cond.initialized RJ15, Cond.code yJ15_checkIndex_7cf53 cJ15_checkIndex_7cf53 2 (some .int), Cond.methodLink RJ15 105 yJ3_checkIndex_8e157, Cond.static yJ3_checkIndex_8e157, Cond.initialized RJ3, Cond.code yJ3_checkIndex_8e157 cJ3_checkIndex_8e157 3 (some .int), Cond.methodLink RJx4a65c 123 yJx4a65c_elementData_915e3, Cond.instanceMethod yJx4a65c_elementData_915e3, Cond.selects RJx4a65c yJx4a65c_elementData_915e3 yJx4a65c_elementData_915e3, Cond.code yJx4a65c_elementData_915e3 cJx4a65c_elementData_915e3 2 (some (.object "java/lang/Object")), Cond.methodLink RX8 99 yX7_mayHold, Cond.instanceMethod yX7_mayHold, Cond.selects RX7 yX7_mayHold yX7_mayHold, Cond.code yX7_mayHold cX7_mayHold 1 (some .int), Cond.methodLink RX8 105 yX8_has, Cond.static yX8_has, Cond.code yX8_has cX8_has 2 (some .boolean), Cond.methodLink RL 26 yX9_hold]
def wsL_law_r12 : List Cond := [Cond.instanceMethod yX9_hold, Cond.selects RX9 yX9_hold yX9_hold, Cond.code yX9_hold cX9_hold 4 (some .int), Cond.methodLink RX9 137 yX9_isWord, Cond.instanceMethod yX9_isWord, Cond.selects RX9 yX9_isWord yX9_isWord, Cond.code yX9_isWord cX9_isWord 2 (some .boolean), Cond.methodLink RX9 141 yX9_roomOf, Cond.instanceMethod yX9_roomOf, Cond.selects RX9 yX9_roomOf yX9_roomOf, Cond.code yX9_roomOf cX9_roomOf 2 (some .int), Cond.methodLink RL 27 yX8_of, Cond.instanceMethod yX8_of, Cond.selects RX8 yX8_of yX8_of, Cond.code yX8_of cX8_of 5 (some .int), Cond.fieldLink RX8 111 "HeardWords$Word" "kind" "I", Cond.fieldLink RX8 114 "HeardWords$Word" "by" "LHeardWords$Person;", Cond.fieldLink RX8 118 "HeardWords$Person" "number" "I", Cond.fieldLink RX8 121 "HeardWords$Word" "facts" "I", Cond.fieldLink RX8 127 "HeardWords$Word" "number" "I", Cond.methodLink RX8 124 yX7_partAt, Cond.instanceMethod yX7_partAt, Cond.selects RX7 yX7_partAt yX7_partAt, Cond.code yX7_partAt cX7_partAt 2 (some (.object "HeardWords$Word"))]
def wsL_law_r13 : List Cond := [Cond.classLink RX7 13 "HeardWords$Word", Cond.methodLink RX7 39 yJx4a65c_size_8abf5, Cond.methodLink RX7 43 yJx4a65c_get_915e3, Cond.methodLink RL 30 yX9_of, Cond.instanceMethod yX9_of, Cond.selects RX9 yX9_of yX9_of, Cond.code yX9_of cX9_of 3 (some .int), Cond.methodLink RL 31 yX8_show, Cond.instanceMethod yX8_show, Cond.selects RX8 yX8_show yX8_show, Cond.code yX8_show cX8_show 3 (some .int), Cond.fieldLink RX8 128 "HeardWords$Stand" "shown" "I", Cond.methodLink RL 35 yX9_show, Cond.instanceMethod yX9_show, Cond.selects RX9 yX9_show yX9_show, Cond.code yX9_show cX9_show 3 (some .int), Cond.methodLink RL 36 yX8_feed, Cond.instanceMethod yX8_feed, Cond.selects RX8 yX8_feed yX8_feed, Cond.code yX8_feed cX8_feed 4 (some .int), Cond.instanceMethod yX3_append, Cond.selects RX3 yX3_append yX3_append, Cond.code yX3_append cX3_append 2 none, Cond.fieldLink RX3 19 "HeardWords$Reader" "length" "I"]
def wsL_law_r14 : List Cond := [Cond.methodLink RL 39 yX9_feed, Cond.instanceMethod yX9_feed, Cond.selects RX9 yX9_feed yX9_feed, Cond.code yX9_feed cX9_feed 4 (some .int), Cond.methodLink RL 40 yX8_rule, Cond.instanceMethod yX8_rule, Cond.selects RX8 yX8_rule yX8_rule, Cond.code yX8_rule cX8_rule 4 (some .int), Cond.instanceMethod yX3_readRule, Cond.selects RX3 yX3_readRule yX3_readRule, Cond.code yX3_readRule cX3_readRule 6 (some (.object "HeardWords$Rule")), Cond.fieldLink RX3 23 "HeardWords$Reader" "place" "I", Cond.fieldLink RX3 26 "HeardWords$Reader" "faulty" "Z", Cond.fieldLink RX3 30 "HeardWords$Reader" "factsAsked" "I", Cond.classLink RX3 33 RX4, Cond.instantiable RX4 7, Cond.initialized RX4, Cond.fieldLink RX3 50 "HeardWords$Rule" "factsAsked" "I", Cond.methodLink RX3 35 yX4_init, Cond.instanceMethod yX4_init, Cond.code yX4_init cX4_init 3 none, Cond.methodLink RX4 3 objectInit, Cond.classLink RX4 9 RJx4a65c, Cond.fieldLink RX4 12 "HeardWords$Rule" "clauses" "Ljava/util/ArrayList;"]
def wsL_law_r15 : List Cond := [Cond.fieldLink RX4 18 "HeardWords$Rule" "number" "I", Cond.fieldLink RX4 22 "HeardWords$Rule" "land" "I", Cond.methodLink RX4 11 yJx4a65c_init_da8c8, Cond.methodLink RX3 38 yX3_readClause, Cond.instanceMethod yX3_readClause, Cond.selects RX3 yX3_readClause yX3_readClause, Cond.code yX3_readClause cX3_readClause 3 (some (.object "HeardWords$Clause")), Cond.fieldLink RX3 67 "HeardWords$Reader" "stepCount" "I", Cond.classLink RX3 74 RX1, Cond.instantiable RX1 3, Cond.initialized RX1, Cond.methodLink RX3 76 Lib.Math.max.name, Cond.methodLink RX3 51 yX3_readSort, Cond.instanceMethod yX3_readSort, Cond.selects RX3 yX3_readSort yX3_readSort, Cond.code yX3_readSort cX3_readSort 2 (some .int), Cond.methodLink RX3 57 yX3_pick, Cond.instanceMethod yX3_pick, Cond.selects RX3 yX3_pick yX3_pick, Cond.code yX3_pick cX3_pick 4 (some .int), Cond.methodLink RX3 118 yX3_peek, Cond.instanceMethod yX3_peek, Cond.selects RX3 yX3_peek yX3_peek, Cond.code yX3_peek cX3_peek 2 (some .int)]
def wsL_law_r16 : List Cond := [Cond.methodLink RX3 129 yJ0_indexOf_0f7a4, Cond.instanceMethod yJ0_indexOf_0f7a4, Cond.selects RJ0 yJ0_indexOf_0f7a4 yJ0_indexOf_0f7a4, Cond.initialized RJ0, Cond.code yJ0_indexOf_0f7a4 cJ0_indexOf_0f7a4 2 (some .int), Cond.methodLink RJ0 633 yJ0_indexOf_7cf53, Cond.instanceMethod yJ0_indexOf_7cf53, Cond.selects RJ0 yJ0_indexOf_7cf53 yJ0_indexOf_7cf53, Cond.code yJ0_indexOf_7cf53 cJ0_indexOf_7cf53 3 (some .int), Cond.fieldLink RJ0 9 "java/lang/String" "value" "[B", Cond.methodLink RJ0 492 yJ0_isLatin1_aae02, Cond.instanceMethod yJ0_isLatin1_aae02, Cond.selects RJ0 yJ0_isLatin1_aae02 yJ0_isLatin1_aae02, Cond.code yJ0_isLatin1_aae02 cJ0_isLatin1_aae02 1 (some .boolean), Cond.fieldLink RJ0 38 "java/lang/String" "COMPACT_STRINGS" "Z", Cond.fieldLink RJ0 15 "java/lang/String" "coder" "B", Cond.methodLink RJ0 505 yJ0_length_8abf5, Cond.instanceMethod yJ0_length_8abf5, Cond.selects RJ0 yJ0_length_8abf5 yJ0_length_8abf5, Cond.code yJ0_length_8abf5 cJ0_length_8abf5 1 (some .int), Cond.methodLink RJ0 335 yJ0_coder_7d493, Cond.instanceMethod yJ0_coder_7d493, Cond.selects RJ0 yJ0_coder_7d493 yJ0_coder_7d493, Cond.code yJ0_coder_7d493 cJ0_coder_7d493 1 (some .byte)]
def wsL_law_r17 : List Cond := [Cond.methodLink RJ0 637 yJ1_indexOf_4cfef, Cond.static yJ1_indexOf_4cfef, Cond.initialized RJ1, Cond.code yJ1_indexOf_4cfef cJ1_indexOf_4cfef 4 (some .int), Cond.methodLink RJ1 92 Lib.Math.max.name, Cond.methodLink RJ1 38 Lib.Math.min.name, Cond.methodLink RJ1 88 yJ1_canEncode_9a6ad, Cond.static yJ1_canEncode_9a6ad, Cond.code yJ1_canEncode_9a6ad cJ1_canEncode_9a6ad 1 (some .boolean), Cond.methodLink RJ1 95 yJ1_indexOfChar_4cfef, Cond.static yJ1_indexOfChar_4cfef, Cond.code yJ1_indexOfChar_4cfef cJ1_indexOfChar_4cfef 6 (some .int), Cond.methodLink RJ0 640 yJ2_indexOf_4cfef, Cond.static yJ2_indexOf_4cfef, Cond.initialized RJ2, Cond.code yJ2_indexOf_4cfef cJ2_indexOf_4cfef 4 (some .int), Cond.methodLink RJ2 224 Lib.Math.max.name, Cond.methodLink RJ2 183 Lib.Math.min.name, Cond.constant RJ2 227 (65536), Cond.methodLink RJ2 228 yJ2_indexOfChar_4cfef, Cond.static yJ2_indexOfChar_4cfef, Cond.code yJ2_indexOfChar_4cfef cJ2_indexOfChar_4cfef 4 (some .int), Cond.methodLink RJ2 96 yJ2_checkBoundsBeginEnd_d044e, Cond.static yJ2_checkBoundsBeginEnd_d044e]
def wsL_law_r18 : List Cond := [Cond.code yJ2_checkBoundsBeginEnd_d044e cJ2_checkBoundsBeginEnd_d044e 3 none, Cond.methodLink RJ2 48 yJ2_length_9d52b, Cond.static yJ2_length_9d52b, Cond.code yJ2_length_9d52b cJ2_length_9d52b 1 (some .int), Cond.methodLink RJ2 241 yJ0_checkBoundsBeginEnd_23922, Cond.static yJ0_checkBoundsBeginEnd_23922, Cond.code yJ0_checkBoundsBeginEnd_23922 cJ0_checkBoundsBeginEnd_23922 3 none, Cond.fieldLink RJ0 1053 "jdk/internal/util/Preconditions" "SIOOBE_FORMATTER" "Ljava/util/function/BiFunction;", Cond.methodLink RJ0 1062 yJ3_checkFromToIndex_8c36e, Cond.static yJ3_checkFromToIndex_8c36e, Cond.code yJ3_checkFromToIndex_8c36e cJ3_checkFromToIndex_8c36e 4 (some .int), Cond.methodLink RJ2 244 yJ2_indexOfCharUnsafe_4cfef, Cond.static yJ2_indexOfCharUnsafe_4cfef, Cond.code yJ2_indexOfCharUnsafe_4cfef cJ2_indexOfCharUnsafe_4cfef 5 (some .int), Cond.methodLink RJ2 71 yJ2_getChar_3b067, Cond.static yJ2_getChar_3b067, Cond.code yJ2_getChar_3b067 cJ2_getChar_3b067 2 (some .char), Cond.fieldLink RJ2 44 "java/lang/StringUTF16" "$assertionsDisabled" "Z", Cond.fieldLink RJ2 59 "java/lang/StringUTF16" "HI_BYTE_SHIFT" "I", Cond.fieldLink RJ2 63 "java/lang/StringUTF16" "LO_BYTE_SHIFT" "I", Cond.methodLink RJ2 232 yJ2_indexOfSupplementary_4cfef, Cond.static yJ2_indexOfSupplementary_4cfef, Cond.code yJ2_indexOfSupplementary_4cfef cJ2_indexOfSupplementary_4cfef 7 (some .int), Cond.methodLink RJ2 164 yJ11_isValidCodePoint_9a6ad]
def wsL_law_r19 : List Cond := [Cond.static yJ11_isValidCodePoint_9a6ad, Cond.initialized RJ11, Cond.code yJ11_isValidCodePoint_9a6ad cJ11_isValidCodePoint_9a6ad 2 (some .boolean), Cond.methodLink RJ2 157 yJ11_highSurrogate_5068e, Cond.static yJ11_highSurrogate_5068e, Cond.code yJ11_highSurrogate_5068e cJ11_highSurrogate_5068e 1 (some .char), Cond.constant RJ11 110 (55232), Cond.methodLink RJ2 161 yJ11_lowSurrogate_5068e, Cond.static yJ11_lowSurrogate_5068e, Cond.code yJ11_lowSurrogate_5068e cJ11_lowSurrogate_5068e 1 (some .char), Cond.constant RJ11 76 (56320), Cond.methodLink RX3 63 yX3_expectAll, Cond.instanceMethod yX3_expectAll, Cond.selects RX3 yX3_expectAll yX3_expectAll, Cond.code yX3_expectAll cX3_expectAll 3 none, Cond.methodLink RX3 121 yJ0_length_8abf5, Cond.methodLink RX3 125 yJ0_charAt_5068e, Cond.instanceMethod yJ0_charAt_5068e, Cond.selects RJ0 yJ0_charAt_5068e yJ0_charAt_5068e, Cond.code yJ0_charAt_5068e cJ0_charAt_5068e 2 (some .char), Cond.methodLink RJ0 495 yJ1_charAt_3b067, Cond.static yJ1_charAt_3b067, Cond.code yJ1_charAt_3b067 cJ1_charAt_3b067 2 (some .char), Cond.methodLink RJ1 9 yJ0_checkIndex_df160]
def wsL_law_r20 : List Cond := [Cond.static yJ0_checkIndex_df160, Cond.code yJ0_checkIndex_df160 cJ0_checkIndex_df160 2 none, Cond.methodLink RJ0 1059 yJ3_checkIndex_8e157, Cond.methodLink RJ0 498 yJ2_charAt_3b067, Cond.static yJ2_charAt_3b067, Cond.code yJ2_charAt_3b067 cJ2_charAt_3b067 2 (some .char), Cond.methodLink RJ2 67 yJ2_checkIndex_2214a, Cond.static yJ2_checkIndex_2214a, Cond.code yJ2_checkIndex_2214a cJ2_checkIndex_2214a 2 none, Cond.methodLink RJ2 414 yJ0_checkIndex_df160, Cond.methodLink RX3 46 yX3_accept, Cond.instanceMethod yX3_accept, Cond.selects RX3 yX3_accept yX3_accept, Cond.code yX3_accept cX3_accept 2 (some .boolean), Cond.methodLink RX3 70 yX3_readCondition, Cond.instanceMethod yX3_readCondition, Cond.selects RX3 yX3_readCondition yX3_readCondition, Cond.code yX3_readCondition cX3_readCondition 5 none, Cond.methodLink RX3 101 yX3_readOne, Cond.instanceMethod yX3_readOne, Cond.selects RX3 yX3_readOne yX3_readOne, Cond.methodLink RX3 104 yX3_put, Cond.instanceMethod yX3_put, Cond.selects RX3 yX3_put yX3_put]
def wsL_law_r21 : List Cond := [Cond.code yX3_put cX3_put 3 none, Cond.code yX3_readOne cX3_readOne 2 none, Cond.methodLink RX3 109 yX3_readTest, Cond.instanceMethod yX3_readTest, Cond.selects RX3 yX3_readTest yX3_readTest, Cond.code yX3_readTest cX3_readTest 5 none, Cond.methodLink RX3 82 yJ7_copyOf_59c91, Cond.static yJ7_copyOf_59c91, Cond.code yJ7_copyOf_59c91 cJ7_copyOf_59c91 3 (some (.array .int)), Cond.methodLink RJ7 316 ⟨"[I", "clone", "()Ljava/lang/Object;"⟩, Cond.sameMethod "[I" "java/lang/Object" "clone" "()Ljava/lang/Object;", Cond.native ⟨"java/lang/Object", "clone", "()Ljava/lang/Object;"⟩, Cond.instanceMethod ⟨"java/lang/Object", "clone", "()Ljava/lang/Object;"⟩, Cond.selects "[I" ⟨"[I", "clone", "()Ljava/lang/Object;"⟩ ⟨"java/lang/Object", "clone", "()Ljava/lang/Object;"⟩, Cond.classLink RJ7 317 "[I", Cond.methodLink RX3 88 yX1_init, Cond.instanceMethod yX1_init, Cond.code yX1_init cX1_init 4 none, Cond.methodLink RX1 3 objectInit, Cond.fieldLink RX1 9 "HeardWords$Clause" "sort" "I", Cond.fieldLink RX1 15 "HeardWords$Clause" "fact" "I", Cond.fieldLink RX1 18 "HeardWords$Clause" "steps" "[I", Cond.methodLink RX3 42 yX4_add, Cond.instanceMethod yX4_add]
def wsL_law_r22 : List Cond := [Cond.selects RX4 yX4_add yX4_add, Cond.code yX4_add cX4_add 3 none, Cond.fieldLink RX4 33 "HeardWords$Clause" "sort" "I", Cond.fieldLink RX4 38 "HeardWords$Rule" "outs" "I", Cond.fieldLink RX4 41 "HeardWords$Rule" "ins" "I", Cond.fieldLink RX4 44 "HeardWords$Rule" "mays" "I", Cond.methodLink RX4 25 yJx4a65c_size_8abf5, Cond.methodLink RX4 29 yJx4a65c_add_9ea2d, Cond.methodLink RL 43 yX9_rule, Cond.instanceMethod yX9_rule, Cond.selects RX9 yX9_rule yX9_rule, Cond.code yX9_rule cX9_rule 3 (some .int), Cond.methodLink RX9 177 yX9_isLand, Cond.instanceMethod yX9_isLand, Cond.selects RX9 yX9_isLand yX9_isLand, Cond.code yX9_isLand cX9_isLand 2 (some .boolean), Cond.methodLink RX9 180 yX9_goes, Cond.instanceMethod yX9_goes, Cond.selects RX9 yX9_goes yX9_goes, Cond.code yX9_goes cX9_goes 4 (some .boolean), Cond.methodLink RX9 171 yX9_takesHead, Cond.instanceMethod yX9_takesHead, Cond.selects RX9 yX9_takesHead yX9_takesHead, Cond.code yX9_takesHead cX9_takesHead 2 (some .boolean)]
def wsL_law_r23 : List Cond := [Cond.constant RX9 170 (464036), Cond.methodLink RX9 145 yX9_next, Cond.instanceMethod yX9_next, Cond.selects RX9 yX9_next yX9_next, Cond.code yX9_next cX9_next 1 (some .int), Cond.methodLink RX9 166 yX9_takesWord, Cond.instanceMethod yX9_takesWord, Cond.selects RX9 yX9_takesWord yX9_takesWord, Cond.code yX9_takesWord cX9_takesWord 4 (some .boolean), Cond.methodLink RX9 149 yX9_takes, Cond.instanceMethod yX9_takes, Cond.selects RX9 yX9_takes yX9_takes, Cond.code yX9_takes cX9_takes 2 (some .boolean), Cond.methodLink RX9 174 yX9_takesE, Cond.instanceMethod yX9_takesE, Cond.selects RX9 yX9_takesE yX9_takesE, Cond.code yX9_takesE cX9_takesE 3 (some .boolean), Cond.methodLink RX9 159 yX9_takesTest, Cond.instanceMethod yX9_takesTest, Cond.selects RX9 yX9_takesTest yX9_takesTest, Cond.code yX9_takesTest cX9_takesTest 5 (some .boolean), Cond.methodLink RX9 152 yX9_put, Cond.instanceMethod yX9_put, Cond.selects RX9 yX9_put yX9_put]
def wsL_law_r24 : List Cond := [Cond.code yX9_put cX9_put 2 none, Cond.methodLink RX9 156 yX9_whole, Cond.instanceMethod yX9_whole, Cond.selects RX9 yX9_whole yX9_whole, Cond.code yX9_whole cX9_whole 1 none, Cond.methodLink RX9 163 yX9_settle, Cond.instanceMethod yX9_settle, Cond.selects RX9 yX9_settle yX9_settle, Cond.code yX9_settle cX9_settle 2 none, Cond.methodLink RL 44 yX8_judge, Cond.instanceMethod yX8_judge, Cond.selects RX8 yX8_judge yX8_judge, Cond.code yX8_judge cX8_judge 3 (some .int), Cond.fieldLink RX8 145 "HeardWords$Stand" "letIn" "I", Cond.methodLink RL 47 yX9_judge, Cond.instanceMethod yX9_judge, Cond.selects RX9 yX9_judge yX9_judge, Cond.code yX9_judge cX9_judge 3 (some .int), Cond.methodLink RL 48 yX8_meets, Cond.instanceMethod yX8_meets, Cond.selects RX8 yX8_meets yX8_meets, Cond.code yX8_meets cX8_meets 9 (some .int), Cond.methodLink RX8 148 yX8_ruleAt, Cond.instanceMethod yX8_ruleAt]
def wsL_law_r25 : List Cond := [Cond.selects RX8 yX8_ruleAt yX8_ruleAt, Cond.code yX8_ruleAt cX8_ruleAt 2 (some (.object "HeardWords$Rule")), Cond.classLink RX8 153 "HeardWords$Rule", Cond.methodLink RX8 152 yX4_holding, Cond.instanceMethod yX4_holding, Cond.selects RX4 yX4_holding yX4_holding, Cond.code yX4_holding cX4_holding 7 (some .int), Cond.fieldLink RX4 47 "HeardWords$Word" "by" "LHeardWords$Person;", Cond.fieldLink RX4 53 "HeardWords$Person" "words" "I", Cond.fieldLink RX4 58 "HeardWords$Stand" "heardBefore" "I", Cond.classLink RX4 34 "HeardWords$Clause", Cond.fieldLink RX4 73 "HeardWords$Stand" "shown" "I", Cond.methodLink RX4 63 yJ6_bitCount_0f7a4, Cond.static yJ6_bitCount_0f7a4, Cond.initialized RJ6, Cond.code yJ6_bitCount_0f7a4 cJ6_bitCount_0f7a4 1 (some .int), Cond.constant RJ6 265 (1431655765), Cond.constant RJ6 266 (858993459), Cond.constant RJ6 267 (252645135), Cond.methodLink RX4 69 yJx4a65c_get_915e3, Cond.methodLink RX4 76 yX1_holds, Cond.instanceMethod yX1_holds, Cond.selects RX1 yX1_holds yX1_holds, Cond.code yX1_holds cX1_holds 11 (some .boolean)]
def wsL_law_r26 : List Cond := [Cond.methodLink RX1 22 yX1_passes, Cond.static yX1_passes, Cond.code yX1_passes cX1_passes 6 (some .boolean), Cond.fieldLink RX1 26 "HeardWords$Word" "kind" "I", Cond.fieldLink RX1 31 "HeardWords$Word" "kinds" "I", Cond.fieldLink RX1 34 "HeardWords$Word" "by" "LHeardWords$Person;", Cond.fieldLink RX1 38 "HeardWords$Person" "number" "I", Cond.fieldLink RX1 43 "HeardWords$Person" "known" "I", Cond.methodLink RX8 158 yX4_keepsOut, Cond.instanceMethod yX4_keepsOut, Cond.selects RX4 yX4_keepsOut yX4_keepsOut, Cond.code yX4_keepsOut cX4_keepsOut 3 (some .boolean), Cond.fieldLink RX4 80 "HeardWords$Stand" "letIn" "I", Cond.methodLink RX4 87 yX4_unmetNeeds, Cond.instanceMethod yX4_unmetNeeds, Cond.selects RX4 yX4_unmetNeeds yX4_unmetNeeds, Cond.code yX4_unmetNeeds cX4_unmetNeeds 5 (some .int), Cond.fieldLink RX4 91 "HeardWords$Clause" "fact" "I", Cond.methodLink RX8 162 yX4_clauseOfWay, Cond.instanceMethod yX4_clauseOfWay, Cond.selects RX4 yX4_clauseOfWay yX4_clauseOfWay, Cond.code yX4_clauseOfWay cX4_clauseOfWay 2 (some .int), Cond.methodLink RX4 94 yJ6_numberOfTrailingZeros_0f7a4, Cond.static yJ6_numberOfTrailingZeros_0f7a4]
def wsL_law_r27 : List Cond := [Cond.code yJ6_numberOfTrailingZeros_0f7a4 cJ6_numberOfTrailingZeros_0f7a4 2 (some .int), Cond.constant RJ6 264 (65536), Cond.methodLink RL 52 yX9_meets, Cond.instanceMethod yX9_meets, Cond.selects RX9 yX9_meets yX9_meets, Cond.code yX9_meets cX9_meets 5 (some .int), Cond.methodLink RX9 205 yX9_isRule, Cond.instanceMethod yX9_isRule, Cond.selects RX9 yX9_isRule yX9_isRule, Cond.code yX9_isRule cX9_isRule 2 (some .boolean), Cond.methodLink RX9 208 yX9_isEnd, Cond.instanceMethod yX9_isEnd, Cond.selects RX9 yX9_isEnd yX9_isEnd, Cond.code yX9_isEnd cX9_isEnd 2 (some .boolean), Cond.methodLink RX9 211 yX9_asItIs, Cond.instanceMethod yX9_asItIs, Cond.selects RX9 yX9_asItIs yX9_asItIs, Cond.code yX9_asItIs cX9_asItIs 2 none, Cond.methodLink RX9 214 yX9_meetsIt, Cond.instanceMethod yX9_meetsIt, Cond.selects RX9 yX9_meetsIt yX9_meetsIt, Cond.code yX9_meetsIt cX9_meetsIt 5 (some .boolean), Cond.methodLink RX9 195 yX9_holds, Cond.instanceMethod yX9_holds]
def wsL_law_r28 : List Cond := [Cond.selects RX9 yX9_holds yX9_holds, Cond.code yX9_holds cX9_holds 7 (some .boolean), Cond.methodLink RX9 192 yX9_test, Cond.instanceMethod yX9_test, Cond.selects RX9 yX9_test yX9_test, Cond.code yX9_test cX9_test 6 (some .boolean), Cond.methodLink RX9 183 yX9_compares, Cond.instanceMethod yX9_compares, Cond.selects RX9 yX9_compares yX9_compares, Cond.code yX9_compares cX9_compares 4 (some .boolean), Cond.methodLink RX9 186 yX9_isUnder, Cond.instanceMethod yX9_isUnder, Cond.selects RX9 yX9_isUnder yX9_isUnder, Cond.code yX9_isUnder cX9_isUnder 3 (some .boolean), Cond.methodLink RX9 189 yX9_has, Cond.instanceMethod yX9_has, Cond.selects RX9 yX9_has yX9_has, Cond.code yX9_has cX9_has 3 (some .boolean), Cond.methodLink RX9 217 yX9_keepsOut, Cond.instanceMethod yX9_keepsOut, Cond.selects RX9 yX9_keepsOut yX9_keepsOut, Cond.code yX9_keepsOut cX9_keepsOut 4 (some .boolean), Cond.methodLink RX9 198 yX9_firstOf, Cond.instanceMethod yX9_firstOf]
def wsL_law_r29 : List Cond := [Cond.selects RX9 yX9_firstOf yX9_firstOf, Cond.code yX9_firstOf cX9_firstOf 6 (some .int), Cond.methodLink RX9 202 yX9_lacks, Cond.instanceMethod yX9_lacks, Cond.selects RX9 yX9_lacks yX9_lacks, Cond.code yX9_lacks cX9_lacks 5 (some .boolean), Cond.methodLink RX9 220 yX9_wayOf, Cond.instanceMethod yX9_wayOf, Cond.selects RX9 yX9_wayOf yX9_wayOf, Cond.code yX9_wayOf cX9_wayOf 4 (some .int), Cond.methodLink RL 53 yX8_heard, Cond.instanceMethod yX8_heard, Cond.selects RX8 yX8_heard yX8_heard, Cond.code yX8_heard cX8_heard 5 (some .int), Cond.methodLink RX8 166 yX8_isOffer, Cond.static yX8_isOffer, Cond.code yX8_isOffer cX8_isOffer 2 (some .boolean), Cond.methodLink RX8 169 yX8_isHeard, Cond.instanceMethod yX8_isHeard, Cond.selects RX8 yX8_isHeard yX8_isHeard, Cond.code yX8_isHeard cX8_isHeard 7 (some .boolean), Cond.methodLink RX8 173 yX8_keeper, Cond.instanceMethod yX8_keeper, Cond.selects RX8 yX8_keeper yX8_keeper]
def wsL_law_r30 : List Cond := [Cond.code yX8_keeper cX8_keeper 7 (some .int), Cond.fieldLink RX8 224 "HeardWords$Rule" "land" "I", Cond.methodLink RX8 177 yX8_withParts, Cond.instanceMethod yX8_withParts, Cond.selects RX8 yX8_withParts yX8_withParts, Cond.code yX8_withParts cX8_withParts 4 (some .int), Cond.methodLink RL 56 yX9_heard, Cond.instanceMethod yX9_heard, Cond.selects RX9 yX9_heard yX9_heard, Cond.code yX9_heard cX9_heard 4 (some .int), Cond.methodLink RX9 234 yX9_isLayer, Cond.instanceMethod yX9_isLayer, Cond.selects RX9 yX9_isLayer yX9_isLayer, Cond.code yX9_isLayer cX9_isLayer 4 (some .boolean), Cond.methodLink RX9 237 yX9_isHeard, Cond.instanceMethod yX9_isHeard, Cond.selects RX9 yX9_isHeard yX9_isHeard, Cond.code yX9_isHeard cX9_isHeard 4 (some .boolean), Cond.methodLink RX9 227 yX9_keeper, Cond.instanceMethod yX9_keeper, Cond.selects RX9 yX9_keeper yX9_keeper, Cond.code yX9_keeper cX9_keeper 5 (some .int), Cond.methodLink RX9 230 yX9_findHeard, Cond.instanceMethod yX9_findHeard]
def wsL_law_r31 : List Cond := [Cond.selects RX9 yX9_findHeard yX9_findHeard, Cond.code yX9_findHeard cX9_findHeard 4 none, Cond.methodLink RX9 224 yX9_arePartsHeard, Cond.instanceMethod yX9_arePartsHeard, Cond.selects RX9 yX9_arePartsHeard yX9_arePartsHeard, Cond.code yX9_arePartsHeard cX9_arePartsHeard 4 (some .boolean), Cond.methodLink RL 57 yX8_why, Cond.instanceMethod yX8_why, Cond.selects RX8 yX8_why yX8_why, Cond.code yX8_why cX8_why 8 (some .int), Cond.methodLink RX8 180 yX8_heardToPartsEnd, Cond.instanceMethod yX8_heardToPartsEnd, Cond.selects RX8 yX8_heardToPartsEnd yX8_heardToPartsEnd, Cond.code yX8_heardToPartsEnd cX8_heardToPartsEnd 7 (some .int), Cond.methodLink RX8 184 yX8_firstUnheard, Cond.static yX8_firstUnheard, Cond.code yX8_firstUnheard cX8_firstUnheard 4 (some (.object "HeardWords$Word")), Cond.methodLink RL 60 yX9_why, Cond.instanceMethod yX9_why, Cond.selects RX9 yX9_why yX9_why, Cond.code yX9_why cX9_why 8 (some .int), Cond.methodLink RL 61 yX8_least, Cond.instanceMethod yX8_least, Cond.selects RX8 yX8_least yX8_least]
def wsL_law_r32 : List Cond := [Cond.code yX8_least cX8_least 12 (some .int), Cond.methodLink RX8 188 yX8_factsAsked, Cond.instanceMethod yX8_factsAsked, Cond.selects RX8 yX8_factsAsked yX8_factsAsked, Cond.code yX8_factsAsked cX8_factsAsked 5 (some .int), Cond.fieldLink RX8 308 "HeardWords$Rule" "factsAsked" "I", Cond.methodLink RX8 191 yJ6_bitCount_0f7a4, Cond.methodLink RX8 196 yX8_suppose, Cond.instanceMethod yX8_suppose, Cond.selects RX8 yX8_suppose yX8_suppose, Cond.code yX8_suppose cX8_suppose 4 (some (.object "HeardWords$Stand")), Cond.fieldLink RX8 305 "HeardWords$Stand" "heardBefore" "I", Cond.methodLink RL 64 yX9_least, Cond.instanceMethod yX9_least, Cond.selects RX9 yX9_least yX9_least, Cond.code yX9_least cX9_least 9 (some .int), Cond.methodLink RX9 240 yX9_ones, Cond.instanceMethod yX9_ones, Cond.selects RX9 yX9_ones yX9_ones, Cond.code yX9_ones cX9_ones 4 (some .int), Cond.methodLink RL 65 yX8_ends, Cond.instanceMethod yX8_ends, Cond.selects RX8 yX8_ends yX8_ends, Cond.code yX8_ends cX8_ends 6 (some .int)]
def wsL_law_r33 : List Cond := [Cond.methodLink RL 68 yX9_ends, Cond.instanceMethod yX9_ends, Cond.selects RX9 yX9_ends yX9_ends, Cond.code yX9_ends cX9_ends 5 (some .int), Cond.methodLink RL 69 yX8_cut, Cond.instanceMethod yX8_cut, Cond.selects RX8 yX8_cut yX8_cut, Cond.code yX8_cut cX8_cut 8 (some .int), Cond.methodLink RX8 200 yX8_unheardPlaces, Cond.static yX8_unheardPlaces, Cond.code yX8_unheardPlaces cX8_unheardPlaces 4 (some .int), Cond.methodLink RX8 204 yX7_factsLeft, Cond.instanceMethod yX7_factsLeft, Cond.selects RX7 yX7_factsLeft yX7_factsLeft, Cond.code yX7_factsLeft cX7_factsLeft 4 (some .int), Cond.methodLink RL 72 yX9_cut, Cond.instanceMethod yX9_cut, Cond.selects RX9 yX9_cut yX9_cut, Cond.code yX9_cut cX9_cut 8 (some .int), Cond.methodLink RL 73 yX8_opened, Cond.instanceMethod yX8_opened, Cond.selects RX8 yX8_opened yX8_opened, Cond.code yX8_opened cX8_opened 6 (some .int), Cond.methodLink RX8 207 yX8_allWords]
def wsL_law_r34 : List Cond := [Cond.instanceMethod yX8_allWords, Cond.selects RX8 yX8_allWords yX8_allWords, Cond.code yX8_allWords cX8_allWords 1 (some .int), Cond.methodLink RL 76 yX9_opened, Cond.instanceMethod yX9_opened, Cond.selects RX9 yX9_opened yX9_opened, Cond.code yX9_opened cX9_opened 6 (some .int), Cond.methodLink RL 77 yX8_proved, Cond.instanceMethod yX8_proved, Cond.selects RX8 yX8_proved yX8_proved, Cond.code yX8_proved cX8_proved 2 (some .int), Cond.methodLink RX8 210 yX8_provedWithout, Cond.instanceMethod yX8_provedWithout, Cond.selects RX8 yX8_provedWithout yX8_provedWithout, Cond.code yX8_provedWithout cX8_provedWithout 8 (some .int), Cond.methodLink RX8 310 yX8_factsOf, Cond.instanceMethod yX8_factsOf, Cond.selects RX8 yX8_factsOf yX8_factsOf, Cond.code yX8_factsOf cX8_factsOf 4 (some .int), Cond.methodLink RL 80 yX9_proved, Cond.instanceMethod yX9_proved, Cond.selects RX9 yX9_proved yX9_proved, Cond.code yX9_proved cX9_proved 2 (some .int), Cond.methodLink RX9 243 yX9_provedOf]
def wsL_law_r35 : List Cond := [Cond.instanceMethod yX9_provedOf, Cond.selects RX9 yX9_provedOf yX9_provedOf, Cond.code yX9_provedOf cX9_provedOf 4 (some .int), Cond.methodLink RL 81 yX8_needed, Cond.instanceMethod yX8_needed, Cond.selects RX8 yX8_needed yX8_needed, Cond.code yX8_needed cX8_needed 5 (some .int), Cond.methodLink RL 84 yX9_needed, Cond.instanceMethod yX9_needed, Cond.selects RX9 yX9_needed yX9_needed, Cond.code yX9_needed cX9_needed 5 (some .int), Cond.methodLink RL 85 yX8_plan, Cond.instanceMethod yX8_plan, Cond.selects RX8 yX8_plan yX8_plan, Cond.code yX8_plan cX8_plan 6 (some .int), Cond.methodLink RX8 214 yX8_findOrder, Cond.instanceMethod yX8_findOrder, Cond.selects RX8 yX8_findOrder yX8_findOrder, Cond.code yX8_findOrder cX8_findOrder 12 (some .boolean), Cond.methodLink RX8 313 yX8_wordsAtPlaces, Cond.static yX8_wordsAtPlaces, Cond.code yX8_wordsAtPlaces cX8_wordsAtPlaces 5 (some .int), Cond.methodLink RX8 316 yX8_wordAtPlace, Cond.static yX8_wordAtPlace]
def wsL_law_r36 : List Cond := [Cond.code yX8_wordAtPlace cX8_wordAtPlace 4 (some .int), Cond.methodLink RX8 319 yX8_ordersOn, Cond.instanceMethod yX8_ordersOn, Cond.selects RX8 yX8_ordersOn yX8_ordersOn, Cond.code yX8_ordersOn cX8_ordersOn 3 (some .boolean), Cond.methodLink RX8 217 yX8_wordInOrder, Cond.instanceMethod yX8_wordInOrder, Cond.selects RX8 yX8_wordInOrder yX8_wordInOrder, Cond.code yX8_wordInOrder cX8_wordInOrder 6 (some .int), Cond.methodLink RL 88 yX9_plan, Cond.instanceMethod yX9_plan, Cond.selects RX9 yX9_plan yX9_plan, Cond.code yX9_plan cX9_plan 7 (some .int), Cond.methodLink RX9 246 yX9_isOrder, Cond.instanceMethod yX9_isOrder, Cond.selects RX9 yX9_isOrder yX9_isOrder, Cond.code yX9_isOrder cX9_isOrder 6 (some .boolean), Cond.methodLink RX9 249 yX9_isPlan, Cond.instanceMethod yX9_isPlan, Cond.selects RX9 yX9_isPlan yX9_isPlan, Cond.code yX9_isPlan cX9_isPlan 5 (some .boolean), Cond.methodLink RL 89 yX8_clash, Cond.instanceMethod yX8_clash, Cond.selects RX8 yX8_clash yX8_clash]
def wsL_law_r37 : List Cond := [Cond.code yX8_clash cX8_clash 10 (some .int), Cond.fieldLink RX8 227 "HeardWords$Rule" "ins" "I", Cond.methodLink RL 92 yX9_clash, Cond.instanceMethod yX9_clash, Cond.selects RX9 yX9_clash yX9_clash, Cond.code yX9_clash cX9_clash 8 (some .int), Cond.methodLink RL 93 yX8_silent, Cond.instanceMethod yX8_silent, Cond.selects RX8 yX8_silent yX8_silent, Cond.code yX8_silent cX8_silent 5 (some .int), Cond.methodLink RX8 230 yX8_isMet, Cond.instanceMethod yX8_isMet, Cond.selects RX8 yX8_isMet yX8_isMet, Cond.code yX8_isMet cX8_isMet 6 (some .boolean), Cond.methodLink RL 96 yX9_silent, Cond.instanceMethod yX9_silent, Cond.selects RX9 yX9_silent yX9_silent, Cond.code yX9_silent cX9_silent 7 (some .int), Cond.methodLink RL 97 yX8_hangs, Cond.instanceMethod yX8_hangs, Cond.selects RX8 yX8_hangs yX8_hangs, Cond.code yX8_hangs cX8_hangs 3 (some .int), Cond.methodLink RX8 234 yX8_hangingOn, Cond.instanceMethod yX8_hangingOn]
def wsL_law_r38 : List Cond := [Cond.selects RX8 yX8_hangingOn yX8_hangingOn, Cond.code yX8_hangingOn cX8_hangingOn 10 (some .int), Cond.fieldLink RX8 322 "HeardWords$Rule" "mays" "I", Cond.fieldLink RX8 325 "HeardWords$Rule" "number" "I", Cond.methodLink RX8 238 yX8_heardTo, Cond.instanceMethod yX8_heardTo, Cond.selects RX8 yX8_heardTo yX8_heardTo, Cond.code yX8_heardTo cX8_heardTo 9 (some .int), Cond.methodLink RL 100 yX9_hangs, Cond.instanceMethod yX9_hangs, Cond.selects RX9 yX9_hangs yX9_hangs, Cond.code yX9_hangs cX9_hangs 2 (some .int), Cond.methodLink RX9 252 yX9_hangsOf, Cond.instanceMethod yX9_hangsOf, Cond.selects RX9 yX9_hangsOf yX9_hangsOf, Cond.code yX9_hangsOf cX9_hangsOf 8 (some .int), Cond.methodLink RL 101 yX8_most, Cond.instanceMethod yX8_most, Cond.selects RX8 yX8_most yX8_most, Cond.code yX8_most cX8_most 5 (some .int), Cond.methodLink RL 105 yX9_most, Cond.instanceMethod yX9_most, Cond.selects RX9 yX9_most yX9_most, Cond.code yX9_most cX9_most 5 (some .int)]
def wsL_law_r39 : List Cond := [Cond.methodLink RL 106 yX8_beside, Cond.instanceMethod yX8_beside, Cond.selects RX8 yX8_beside yX8_beside, Cond.code yX8_beside cX8_beside 5 (some .int), Cond.methodLink RL 109 yX9_beside, Cond.instanceMethod yX9_beside, Cond.selects RX9 yX9_beside yX9_beside, Cond.code yX9_beside cX9_beside 7 (some .int), Cond.methodLink RL 110 yX8_way, Cond.instanceMethod yX8_way, Cond.selects RX8 yX8_way yX8_way, Cond.code yX8_way cX8_way 8 (some .int), Cond.methodLink RX8 242 yX8_tapeAt, Cond.instanceMethod yX8_tapeAt, Cond.selects RX8 yX8_tapeAt yX8_tapeAt, Cond.code yX8_tapeAt cX8_tapeAt 2 (some (.object "HeardWords$Tape")), Cond.methodLink RX8 249 yX8_rightlyTold, Cond.instanceMethod yX8_rightlyTold, Cond.selects RX8 yX8_rightlyTold yX8_rightlyTold, Cond.code yX8_rightlyTold cX8_rightlyTold 12 (some .int), Cond.methodLink RX8 326 yJx4a65c_clear_da8c8, Cond.instanceMethod yJx4a65c_clear_da8c8, Cond.selects RJx4a65c yJx4a65c_clear_da8c8 yJx4a65c_clear_da8c8, Cond.code yJx4a65c_clear_da8c8 cJx4a65c_clear_da8c8 4 none]
def wsL_law_r40 : List Cond := [Cond.methodLink RX8 329 yJx4a65c_isEmpty_aae02, Cond.instanceMethod yJx4a65c_isEmpty_aae02, Cond.selects RJx4a65c yJx4a65c_isEmpty_aae02 yJx4a65c_isEmpty_aae02, Cond.code yJx4a65c_isEmpty_aae02 cJx4a65c_isEmpty_aae02 1 (some .boolean), Cond.methodLink RX8 333 yJx4a65c_remove_915e3, Cond.instanceMethod yJx4a65c_remove_915e3, Cond.selects RJx4a65c yJx4a65c_remove_915e3 yJx4a65c_remove_915e3, Cond.code yJx4a65c_remove_915e3 cJx4a65c_remove_915e3 4 (some (.object "java/lang/Object")), Cond.methodLink RJx4a65c 144 yJx4a65c_fastRemove_b59b0, Cond.instanceMethod yJx4a65c_fastRemove_b59b0, Cond.selects RJx4a65c yJx4a65c_fastRemove_b59b0 yJx4a65c_fastRemove_b59b0, Cond.code yJx4a65c_fastRemove_b59b0 cJx4a65c_fastRemove_b59b0 4 none, Cond.methodLink RJx4a65c 112 arraycopyName, Cond.instanceMethod yX6_hasPlace, Cond.selects RX6 yX6_hasPlace yX6_hasPlace, Cond.code yX6_hasPlace cX6_hasPlace 2 (some .boolean), Cond.fieldLink RX6 19 "HeardWords$Tape" "size" "I", Cond.instanceMethod yX6_get, Cond.selects RX6 yX6_get yX6_get, Cond.code yX6_get cX6_get 2 (some .long), Cond.constantLong RX6 32 (-9223372036854775808), Cond.methodLink RX6 28 yX6_hasPlace, Cond.methodLink RX8 336 yX8_letPartsWait, Cond.instanceMethod yX8_letPartsWait]
def wsL_law_r41 : List Cond := [Cond.selects RX8 yX8_letPartsWait yX8_letPartsWait, Cond.code yX8_letPartsWait cX8_letPartsWait 3 none, Cond.methodLink RL 114 yX9_way, Cond.instanceMethod yX9_way, Cond.selects RX9 yX9_way yX9_way, Cond.code yX9_way cX9_way 11 (some .int), Cond.methodLink RX9 255 yX9_isTape, Cond.instanceMethod yX9_isTape, Cond.selects RX9 yX9_isTape yX9_isTape, Cond.code yX9_isTape cX9_isTape 2 (some .boolean), Cond.methodLink RL 115 yX8_act, Cond.instanceMethod yX8_act, Cond.selects RX8 yX8_act yX8_act, Cond.code yX8_act cX8_act 5 (some .int), Cond.instanceMethod yX0_hears, Cond.selects RX0 yX0_hears yX0_hears, Cond.code yX0_hears cX0_hears 4 (some .int), Cond.fieldLink RX0 19 "HeardWords$Word" "number" "I", Cond.fieldLink RX0 33 "HeardWords$Word" "by" "LHeardWords$Person;", Cond.fieldLink RX0 37 "HeardWords$Person" "number" "I", Cond.methodLink RX0 15 yX0_begin, Cond.instanceMethod yX0_begin, Cond.selects RX0 yX0_begin yX0_begin, Cond.code yX0_begin cX0_begin 2 none]
def wsL_law_r42 : List Cond := [Cond.fieldLink RX0 49 "HeardWords$Bodies" "ran" "I", Cond.methodLink RX0 29 yX0_hears, Cond.instanceMethod yX0_keeps, Cond.selects RX0 yX0_keeps yX0_keeps, Cond.code yX0_keeps cX0_keeps 4 (some .int), Cond.fieldLink RX0 40 "HeardWords$Word" "kind" "I", Cond.methodLink RX0 43 yX0_keeps, Cond.instanceMethod yX0_tells, Cond.selects RX0 yX0_tells yX0_tells, Cond.code yX0_tells cX0_tells 4 (some .int), Cond.methodLink RX0 46 yX0_tells, Cond.methodLink RL 118 yX9_act, Cond.instanceMethod yX9_act, Cond.selects RX9 yX9_act yX9_act, Cond.code yX9_act cX9_act 4 (some .int), Cond.methodLink RX9 268 yX9_hears, Cond.instanceMethod yX9_hears, Cond.selects RX9 yX9_hears yX9_hears, Cond.code yX9_hears cX9_hears 3 (some .int), Cond.methodLink RX9 265 yX9_writtenHears, Cond.instanceMethod yX9_writtenHears, Cond.selects RX9 yX9_writtenHears yX9_writtenHears, Cond.code yX9_writtenHears cX9_writtenHears 3 (some .int), Cond.methodLink RX9 258 yX9_body]
def wsL_law_r43 : List Cond := [Cond.instanceMethod yX9_body, Cond.selects RX9 yX9_body yX9_body, Cond.code yX9_body cX9_body 2 none, Cond.methodLink RX9 261 yX9_plainHears, Cond.instanceMethod yX9_plainHears, Cond.selects RX9 yX9_plainHears yX9_plainHears, Cond.code yX9_plainHears cX9_plainHears 3 (some .int), Cond.methodLink RX9 277 yX9_keeps, Cond.instanceMethod yX9_keeps, Cond.selects RX9 yX9_keeps yX9_keeps, Cond.code yX9_keeps cX9_keeps 4 (some .int), Cond.methodLink RX9 274 yX9_saidKeeps, Cond.instanceMethod yX9_saidKeeps, Cond.selects RX9 yX9_saidKeeps yX9_saidKeeps, Cond.code yX9_saidKeeps cX9_saidKeeps 3 (some .int), Cond.methodLink RX9 271 yX9_plainKeeps, Cond.instanceMethod yX9_plainKeeps, Cond.selects RX9 yX9_plainKeeps yX9_plainKeeps, Cond.code yX9_plainKeeps cX9_plainKeeps 3 (some .int), Cond.methodLink RX9 283 yX9_tells, Cond.instanceMethod yX9_tells, Cond.selects RX9 yX9_tells yX9_tells, Cond.code yX9_tells cX9_tells 5 (some .int), Cond.methodLink RX9 280 yX9_plainTells]
def wsL_law_r44 : List Cond := [Cond.instanceMethod yX9_plainTells, Cond.selects RX9 yX9_plainTells yX9_plainTells, Cond.code yX9_plainTells cX9_plainTells 3 (some .int), Cond.methodLink RL 119 yX8_trace, Cond.instanceMethod yX8_trace, Cond.selects RX8 yX8_trace yX8_trace, Cond.code yX8_trace cX8_trace 2 (some .int), Cond.instanceMethod yX0_traced, Cond.selects RX0 yX0_traced yX0_traced, Cond.code yX0_traced cX0_traced 2 (some .int), Cond.methodLink RL 122 yX9_trace, Cond.instanceMethod yX9_trace, Cond.selects RX9 yX9_trace yX9_trace, Cond.code yX9_trace cX9_trace 2 (some .int), Cond.methodLink RL 123 yX8_taken, Cond.instanceMethod yX8_taken, Cond.selects RX8 yX8_taken yX8_taken, Cond.code yX8_taken cX8_taken 4 (some .int), Cond.fieldLink RX8 269 "HeardWords$Word" "kinds" "I", Cond.methodLink RL 126 yX9_taken, Cond.instanceMethod yX9_taken, Cond.selects RX9 yX9_taken yX9_taken, Cond.code yX9_taken cX9_taken 3 (some .int), Cond.methodLink RL 127 yX8_count]
def wsL_law_r45 : List Cond := [Cond.instanceMethod yX8_count, Cond.selects RX8 yX8_count yX8_count, Cond.code yX8_count cX8_count 2 (some .int), Cond.methodLink RX8 272 yX8_rulesOfFirstLand, Cond.instanceMethod yX8_rulesOfFirstLand, Cond.selects RX8 yX8_rulesOfFirstLand yX8_rulesOfFirstLand, Cond.code yX8_rulesOfFirstLand cX8_rulesOfFirstLand 3 (some .int), Cond.methodLink RL 130 yX9_count, Cond.instanceMethod yX9_count, Cond.selects RX9 yX9_count yX9_count, Cond.code yX9_count cX9_count 4 (some .int), Cond.methodLink RL 131 yX8_tape, Cond.instanceMethod yX8_tape, Cond.selects RX8 yX8_tape yX8_tape, Cond.code yX8_tape cX8_tape 5 (some .int), Cond.instanceMethod yX6_become, Cond.selects RX6 yX6_become yX6_become, Cond.code yX6_become cX6_become 3 none, Cond.methodLink RX6 22 yJ7_fill_d0a16, Cond.static yJ7_fill_d0a16, Cond.code yJ7_fill_d0a16 cJ7_fill_d0a16 5 none, Cond.methodLink RL 134 yX9_tape, Cond.instanceMethod yX9_tape, Cond.selects RX9 yX9_tape yX9_tape]
def wsL_law_r46 : List Cond := [Cond.code yX9_tape cX9_tape 5 (some .int), Cond.methodLink RL 137 yX8_item, Cond.instanceMethod yX8_item, Cond.selects RX8 yX8_item yX8_item, Cond.code yX8_item cX8_item 6 (some .int), Cond.instanceMethod yX6_put, Cond.selects RX6 yX6_put yX6_put, Cond.code yX6_put cX6_put 4 none, Cond.methodLink RX6 34 yX6_fitted, Cond.instanceMethod yX6_fitted, Cond.selects RX6 yX6_fitted yX6_fitted, Cond.code yX6_fitted cX6_fitted 3 (some .long), Cond.methodLink RL 141 yX9_item, Cond.instanceMethod yX9_item, Cond.selects RX9 yX9_item yX9_item, Cond.code yX9_item cX9_item 5 (some .int), Cond.methodLink RX9 286 yX9_narrow, Cond.instanceMethod yX9_narrow, Cond.selects RX9 yX9_narrow yX9_narrow, Cond.code yX9_narrow cX9_narrow 4 (some .long), Cond.methodLink RL 142 yX8_read, Cond.instanceMethod yX8_read, Cond.selects RX8 yX8_read yX8_read, Cond.code yX8_read cX8_read 4 (some .long)]
def wsL_law_r47 : List Cond := [Cond.constantLong RX8 287 (-9223372036854775808), Cond.methodLink RL 146 yX9_read, Cond.instanceMethod yX9_read, Cond.selects RX9 yX9_read yX9_read, Cond.code yX9_read cX9_read 3 (some .long), Cond.constantLong RX9 290 (-9223372036854775808), Cond.methodLink RL 147 yX8_shift, Cond.instanceMethod yX8_shift, Cond.selects RX8 yX8_shift yX8_shift, Cond.code yX8_shift cX8_shift 8 (some .int), Cond.methodLink RX8 299 arraycopyName, Cond.instanceMethod yX6_hasStretch, Cond.selects RX6 yX6_hasStretch yX6_hasStretch, Cond.code yX6_hasStretch cX6_hasStretch 3 (some .boolean), Cond.methodLink RL 150 yX9_shift, Cond.instanceMethod yX9_shift, Cond.selects RX9 yX9_shift yX9_shift, Cond.code yX9_shift cX9_shift 7 (some .int)]
def wsL_law : List Cond := (wsL_law_r1 ++ (wsL_law_r2 ++ (wsL_law_r3 ++ (wsL_law_r4 ++ (wsL_law_r5 ++ (wsL_law_r6 ++ (wsL_law_r7 ++ (wsL_law_r8 ++ (wsL_law_r9 ++ (wsL_law_r10 ++ (wsL_law_r11 ++ (wsL_law_r12 ++ (wsL_law_r13 ++ (wsL_law_r14 ++ (wsL_law_r15 ++ (wsL_law_r16 ++ (wsL_law_r17 ++ (wsL_law_r18 ++ (wsL_law_r19 ++ (wsL_law_r20 ++ (wsL_law_r21 ++ (wsL_law_r22 ++ (wsL_law_r23 ++ (wsL_law_r24 ++ (wsL_law_r25 ++ (wsL_law_r26 ++ (wsL_law_r27 ++ (wsL_law_r28 ++ (wsL_law_r29 ++ (wsL_law_r30 ++ (wsL_law_r31 ++ (wsL_law_r32 ++ (wsL_law_r33 ++ (wsL_law_r34 ++ (wsL_law_r35 ++ (wsL_law_r36 ++ (wsL_law_r37 ++ (wsL_law_r38 ++ (wsL_law_r39 ++ (wsL_law_r40 ++ (wsL_law_r41 ++ (wsL_law_r42 ++ (wsL_law_r43 ++ (wsL_law_r44 ++ (wsL_law_r45 ++ (wsL_law_r46 ++ wsL_law_r47)))))))))))))))))))))))))))))))))))))))))))))) ++ wsX80 ++ wsX90 ++ wsJx4a65c0 ++ wsX30 ++ wsX50 ++ wsX00 ++ wsX20 ++ wsX60 ++ wsX70 ++ wsX40 ++ wsX10 ++ ([] : List Cond)
abbrev vwCl : List vw_C := [(RJx4a65c, TJx4a65c, 3), (RX0, TX0, 2), (RX1, TX1, 3), (RX2, TX2, 3), (RX3, TX3, 7), (RX4, TX4, 7), (RX5, TX5, 3), (RX6, TX6, 3), (RX7, TX7, 7), (RX8, TX8, 10), (RX9, TX9, 40)]
theorem inlX0 : ∀ w ∈ wsX00, w ∈ wsL_law := fun _ h => List.mem_append_left _ (List.mem_append_left _ (List.mem_append_left _ (List.mem_append_left _ (List.mem_append_left _ (List.mem_append_left _ (List.mem_append_right _ h))))))
theorem inlX1 : ∀ w ∈ wsX10, w ∈ wsL_law := fun _ h => List.mem_append_left _ (List.mem_append_right _ h)
theorem inlX2 : ∀ w ∈ wsX20, w ∈ wsL_law := fun _ h => List.mem_append_left _ (List.mem_append_left _ (List.mem_append_left _ (List.mem_append_left _ (List.mem_append_left _ (List.mem_append_right _ h)))))
theorem inlX3 : ∀ w ∈ wsX30, w ∈ wsL_law := fun _ h => List.mem_append_left _ (List.mem_append_left _ (List.mem_append_left _ (List.mem_append_left _ (List.mem_append_left _ (List.mem_append_left _ (List.mem_append_left _ (List.mem_append_left _ (List.mem_append_right _ h))))))))
theorem inlX4 : ∀ w ∈ wsX40, w ∈ wsL_law := fun _ h => List.mem_append_left _ (List.mem_append_left _ (List.mem_append_right _ h))
theorem inlX5 : ∀ w ∈ wsX50, w ∈ wsL_law := fun _ h => List.mem_append_left _ (List.mem_append_left _ (List.mem_append_left _ (List.mem_append_left _ (List.mem_append_left _ (List.mem_append_left _ (List.mem_append_left _ (List.mem_append_right _ h)))))))
theorem inlX6 : ∀ w ∈ wsX60, w ∈ wsL_law := fun _ h => List.mem_append_left _ (List.mem_append_left _ (List.mem_append_left _ (List.mem_append_left _ (List.mem_append_right _ h))))
theorem inlX7 : ∀ w ∈ wsX70, w ∈ wsL_law := fun _ h => List.mem_append_left _ (List.mem_append_left _ (List.mem_append_left _ (List.mem_append_right _ h)))
theorem inlX8 : ∀ w ∈ wsX80, w ∈ wsL_law := fun _ h => List.mem_append_left _ (List.mem_append_left _ (List.mem_append_left _ (List.mem_append_left _ (List.mem_append_left _ (List.mem_append_left _ (List.mem_append_left _ (List.mem_append_left _ (List.mem_append_left _ (List.mem_append_left _ (List.mem_append_left _ (List.mem_append_right _ h)))))))))))
theorem inlX9 : ∀ w ∈ wsX90, w ∈ wsL_law := fun _ h => List.mem_append_left _ (List.mem_append_left _ (List.mem_append_left _ (List.mem_append_left _ (List.mem_append_left _ (List.mem_append_left _ (List.mem_append_left _ (List.mem_append_left _ (List.mem_append_left _ (List.mem_append_left _ (List.mem_append_right _ h))))))))))
theorem inlJx4a65c : ∀ w ∈ wsJx4a65c0, w ∈ wsL_law := fun _ h => List.mem_append_left _ (List.mem_append_left _ (List.mem_append_left _ (List.mem_append_left _ (List.mem_append_left _ (List.mem_append_left _ (List.mem_append_left _ (List.mem_append_left _ (List.mem_append_left _ (List.mem_append_right _ h)))))))))
