def RX0 : String := "TideQuarter$Harbour"
def TX0 : u_T := fun k => match k with
  | 0 => ("TideQuarter$Harbour", "known", "Z", false)
  | 1 => ("TideQuarter$Harbour", "leastSum", "I", false)
  | 2 => ("TideQuarter$Harbour", "order", "[I", true)
  | 3 => ("TideQuarter$Harbour", "waits", "[I", true)
  | 4 => ("TideQuarter$Harbour", "fronts", "[I", true)
  | 5 => ("TideQuarter$Harbour", "first", "[I", true)
  | 6 => ("TideQuarter$Harbour", "tried", "[I", true)
  | 7 => ("TideQuarter$Harbour", "tryWaits", "[I", true)
  | 8 => ("TideQuarter$Harbour", "tryFronts", "[I", true)
  | _ => ("TideQuarter$Harbour", "inside", "I", false)
def tyX0 : Nat → FieldType := fun k => match k with
  | 0 => .boolean
  | 1 => .int
  | 2 => .array .int
  | 3 => .array .int
  | 4 => .array .int
  | 5 => .array .int
  | 6 => .array .int
  | 7 => .array .int
  | 8 => .array .int
  | _ => .int
theorem nmX0 : ∀ a, a < 10 → ∀ b, b < 10 → a ≠ b → (TX0 a).2.1 ≠ (TX0 b).2.1 := by decide +kernel
theorem tyX0_ok : ∀ k, k < 10 → parseFieldDescriptor (TX0 k).2.2.1 = some (tyX0 k) := by decide +kernel
abbrev cX0_init : ByteArray := prog_2_method_1_code
def yX0_init : MethodName := ⟨RX0, "<init>", "()V"⟩
abbrev cX0_forget : ByteArray := prog_2_method_2_code
def yX0_forget : MethodName := ⟨RX0, "forget", "()V"⟩
abbrev cX0_find : ByteArray := prog_2_method_3_code
def yX0_find : MethodName := ⟨RX0, "find", "(LTideQuarter$Isle;)V"⟩
abbrev cX0_search : ByteArray := prog_2_method_4_code
def yX0_search : MethodName := ⟨RX0, "search", "(LTideQuarter$Harbour;LTideQuarter$Isle;III)V"⟩
abbrev cX0_keep : ByteArray := prog_2_method_5_code
def yX0_keep : MethodName := ⟨RX0, "keep", "(II)V"⟩
abbrev cX0_place : ByteArray := prog_2_method_6_code
def yX0_place : MethodName := ⟨RX0, "place", "(LTideQuarter$Isle;II)V"⟩
abbrev cX0_freeFrom : ByteArray := prog_2_method_7_code
def yX0_freeFrom : MethodName := ⟨RX0, "freeFrom", "(LTideQuarter$Isle;IIII)I"⟩
def RX1 : String := "TideQuarter$Isle"
def TX1 : u_T := fun k => match k with
  | 0 => ("TideQuarter$Isle", "tides", "LTideQuarter$Tides;", true)
  | 1 => ("TideQuarter$Isle", "blowsFrom", "I", false)
  | 2 => ("TideQuarter$Isle", "force", "I", false)
  | 3 => ("TideQuarter$Isle", "houses", "I", false)
  | 4 => ("TideQuarter$Isle", "kinds", "[I", true)
  | 5 => ("TideQuarter$Isle", "fronts", "[I", true)
  | 6 => ("TideQuarter$Isle", "ships", "I", false)
  | 7 => ("TideQuarter$Isle", "courses", "[I", true)
  | 8 => ("TideQuarter$Isle", "comes", "[I", true)
  | 9 => ("TideQuarter$Isle", "stays", "[I", true)
  | _ => ("TideQuarter$Isle", "quays", "[I", true)
def tyX1 : Nat → FieldType := fun k => match k with
  | 0 => .object "TideQuarter$Tides"
  | 1 => .int
  | 2 => .int
  | 3 => .int
  | 4 => .array .int
  | 5 => .array .int
  | 6 => .int
  | 7 => .array .int
  | 8 => .array .int
  | 9 => .array .int
  | _ => .array .int
theorem nmX1 : ∀ a, a < 11 → ∀ b, b < 11 → a ≠ b → (TX1 a).2.1 ≠ (TX1 b).2.1 := by decide +kernel
theorem tyX1_ok : ∀ k, k < 11 → parseFieldDescriptor (TX1 k).2.2.1 = some (tyX1 k) := by decide +kernel
abbrev cX1_init : ByteArray := prog_3_method_1_code
def yX1_init : MethodName := ⟨RX1, "<init>", "()V"⟩
abbrev cX1_become : ByteArray := prog_3_method_2_code
def yX1_become : MethodName := ⟨RX1, "become", "(LTideQuarter$Isle;)V"⟩
abbrev cX1_isKind : ByteArray := prog_3_method_3_code
def yX1_isKind : MethodName := ⟨RX1, "isKind", "(I)Z"⟩
abbrev cX1_isUnder : ByteArray := prog_3_method_4_code
def yX1_isUnder : MethodName := ⟨RX1, "isUnder", "(II)Z"⟩
abbrev cX1_addHouse : ByteArray := prog_3_method_5_code
def yX1_addHouse : MethodName := ⟨RX1, "addHouse", "(II)I"⟩
abbrev cX1_addShip : ByteArray := prog_3_method_6_code
def yX1_addShip : MethodName := ⟨RX1, "addShip", "(IIII)I"⟩
abbrev cX1_sun : ByteArray := prog_3_method_7_code
def yX1_sun : MethodName := ⟨RX1, "sun", "(II)I"⟩
abbrev cX1_innGain : ByteArray := prog_3_method_8_code
def yX1_innGain : MethodName := ⟨RX1, "innGain", "(II)I"⟩
abbrev cX1_millGain : ByteArray := prog_3_method_9_code
def yX1_millGain : MethodName := ⟨RX1, "millGain", "(I)I"⟩
abbrev cX1_gainOf : ByteArray := prog_3_method_10_code
def yX1_gainOf : MethodName := ⟨RX1, "gainOf", "(III)I"⟩
abbrev cX1_frontAt : ByteArray := prog_3_method_11_code
def yX1_frontAt : MethodName := ⟨RX1, "frontAt", "(II)I"⟩
abbrev cX1_firstBerth : ByteArray := prog_3_method_12_code
def yX1_firstBerth : MethodName := ⟨RX1, "firstBerth", "(II)I"⟩
def RX2 : String := "TideQuarter$Sheet"
def TX2 : u_T := fun k => match k with
  | 0 => ("TideQuarter$Sheet", "bits", "I", false)
  | 1 => ("TideQuarter$Sheet", "many", "I", false)
  | _ => ("TideQuarter$Sheet", "numbers", "[J", true)
def tyX2 : Nat → FieldType := fun k => match k with
  | 0 => .int
  | 1 => .int
  | _ => .array .long
theorem nmX2 : ∀ a, a < 3 → ∀ b, b < 3 → a ≠ b → (TX2 a).2.1 ≠ (TX2 b).2.1 := by decide +kernel
theorem tyX2_ok : ∀ k, k < 3 → parseFieldDescriptor (TX2 k).2.2.1 = some (tyX2 k) := by decide +kernel
abbrev cX2_init : ByteArray := prog_4_method_1_code
def yX2_init : MethodName := ⟨RX2, "<init>", "()V"⟩
abbrev cX2_mayBe : ByteArray := prog_4_method_2_code
def yX2_mayBe : MethodName := ⟨RX2, "mayBe", "(I)Z"⟩
abbrev cX2_isMissing : ByteArray := prog_4_method_3_code
def yX2_isMissing : MethodName := ⟨RX2, "isMissing", "()Z"⟩
abbrev cX2_lay : ByteArray := prog_4_method_4_code
def yX2_lay : MethodName := ⟨RX2, "lay", "(II)I"⟩
abbrev cX2_has : ByteArray := prog_4_method_5_code
def yX2_has : MethodName := ⟨RX2, "has", "(II)Z"⟩
abbrev cX2_put : ByteArray := prog_4_method_6_code
def yX2_put : MethodName := ⟨RX2, "put", "(IJ)V"⟩
def RX3 : String := "TideQuarter$Tally"
def TX3 : u_T := fun k => match k with
  | 0 => ("TideQuarter$Tally", "seen", "[I", true)
  | _ => ("TideQuarter$Tally", "sums", "[I", true)
def tyX3 : Nat → FieldType := fun k => match k with
  | 0 => .array .int
  | _ => .array .int
theorem nmX3 : ∀ a, a < 2 → ∀ b, b < 2 → a ≠ b → (TX3 a).2.1 ≠ (TX3 b).2.1 := by decide +kernel
theorem tyX3_ok : ∀ k, k < 2 → parseFieldDescriptor (TX3 k).2.2.1 = some (tyX3 k) := by decide +kernel
abbrev cX3_init : ByteArray := prog_5_method_1_code
def yX3_init : MethodName := ⟨RX3, "<init>", "()V"⟩
abbrev cX3_watch : ByteArray := prog_5_method_2_code
def yX3_watch : MethodName := ⟨RX3, "watch", "(LTideQuarter$Tides;II)V"⟩
abbrev cX3_sumOf : ByteArray := prog_5_method_3_code
def yX3_sumOf : MethodName := ⟨RX3, "sumOf", "(LTideQuarter$Isle;II)I"⟩
abbrev cX3_reckonAll : ByteArray := prog_5_method_4_code
def yX3_reckonAll : MethodName := ⟨RX3, "reckonAll", "(LTideQuarter$Isle;)V"⟩
def RX4 : String := "TideQuarter$Tape"
def TX4 : u_T := fun k => match k with
  | 0 => ("TideQuarter$Tape", "bytes", "[B", true)
  | 1 => ("TideQuarter$Tape", "used", "I", false)
  | 2 => ("TideQuarter$Tape", "type", "I", false)
  | 3 => ("TideQuarter$Tape", "from", "I", false)
  | _ => ("TideQuarter$Tape", "till", "I", false)
def tyX4 : Nat → FieldType := fun k => match k with
  | 0 => .array .byte
  | 1 => .int
  | 2 => .int
  | 3 => .int
  | _ => .int
theorem nmX4 : ∀ a, a < 5 → ∀ b, b < 5 → a ≠ b → (TX4 a).2.1 ≠ (TX4 b).2.1 := by decide +kernel
theorem tyX4_ok : ∀ k, k < 5 → parseFieldDescriptor (TX4 k).2.2.1 = some (tyX4 k) := by decide +kernel
abbrev cX4_init : ByteArray := prog_6_method_1_code
def yX4_init : MethodName := ⟨RX4, "<init>", "()V"⟩
abbrev cX4_add : ByteArray := prog_6_method_2_code
def yX4_add : MethodName := ⟨RX4, "add", "(B)V"⟩
abbrev cX4_rewind : ByteArray := prog_6_method_3_code
def yX4_rewind : MethodName := ⟨RX4, "rewind", "()V"⟩
abbrev cX4_step : ByteArray := prog_6_method_4_code
def yX4_step : MethodName := ⟨RX4, "step", "()V"⟩
abbrev cX4_typeAt : ByteArray := prog_6_method_5_code
def yX4_typeAt : MethodName := ⟨RX4, "typeAt", "(I)I"⟩
abbrev cX4_value : ByteArray := prog_6_method_6_code
def yX4_value : MethodName := ⟨RX4, "value", "()I"⟩
abbrev cX4_isWord : ByteArray := prog_6_method_7_code
def yX4_isWord : MethodName := ⟨RX4, "isWord", "(Ljava/lang/String;)Z"⟩
def RX5 : String := "TideQuarter$Teller"
def TX5 : u_T := fun k => match k with
  | 0 => ("TideQuarter$Teller", "tape", "LTideQuarter$Tape;", true)
  | _ => ("TideQuarter$Teller", "taken", "I", false)
def tyX5 : Nat → FieldType := fun k => match k with
  | 0 => .object "TideQuarter$Tape"
  | _ => .int
theorem nmX5 : ∀ a, a < 2 → ∀ b, b < 2 → a ≠ b → (TX5 a).2.1 ≠ (TX5 b).2.1 := by decide +kernel
theorem tyX5_ok : ∀ k, k < 2 → parseFieldDescriptor (TX5 k).2.2.1 = some (tyX5 k) := by decide +kernel
abbrev cX5_init : ByteArray := prog_7_method_1_code
def yX5_init : MethodName := ⟨RX5, "<init>", "()V"⟩
abbrev cX5_tell : ByteArray := prog_7_method_2_code
def yX5_tell : MethodName := ⟨RX5, "tell", "(LTideQuarter$Isle;)I"⟩
abbrev cX5_item : ByteArray := prog_7_method_3_code
def yX5_item : MethodName := ⟨RX5, "item", "(LTideQuarter$Isle;)Z"⟩
abbrev cX5_namedKind : ByteArray := prog_7_method_4_code
def yX5_namedKind : MethodName := ⟨RX5, "namedKind", "()I"⟩
abbrev cX5_nameOf : ByteArray := prog_7_method_5_code
def yX5_nameOf : MethodName := ⟨RX5, "nameOf", "(I)Ljava/lang/String;"⟩
abbrev cX5_word : ByteArray := prog_7_method_6_code
def yX5_word : MethodName := ⟨RX5, "word", "(Ljava/lang/String;)Z"⟩
abbrev cX5_number : ByteArray := prog_7_method_7_code
def yX5_number : MethodName := ⟨RX5, "number", "(II)Z"⟩
abbrev cX5_floodItem : ByteArray := prog_7_method_8_code
def yX5_floodItem : MethodName := ⟨RX5, "floodItem", "(LTideQuarter$Tides;)Z"⟩
abbrev cX5_setItem : ByteArray := prog_7_method_9_code
def yX5_setItem : MethodName := ⟨RX5, "setItem", "(LTideQuarter$Tides;I)Z"⟩
abbrev cX5_houseItem : ByteArray := prog_7_method_10_code
def yX5_houseItem : MethodName := ⟨RX5, "houseItem", "(LTideQuarter$Isle;I)Z"⟩
abbrev cX5_shipItem : ByteArray := prog_7_method_11_code
def yX5_shipItem : MethodName := ⟨RX5, "shipItem", "(LTideQuarter$Isle;)Z"⟩
abbrev cX5_windItem : ByteArray := prog_7_method_12_code
def yX5_windItem : MethodName := ⟨RX5, "windItem", "(LTideQuarter$Isle;)Z"⟩
def RX6 : String := "TideQuarter$Tides"
def TX6 : u_T := fun k => match k with
  | 0 => ("TideQuarter$Tides", "told", "[I", true)
  | 1 => ("TideQuarter$Tides", "listed", "[I", true)
  | 2 => ("TideQuarter$Tides", "ended", "I", false)
  | 3 => ("TideQuarter$Tides", "quarters", "I", false)
  | _ => ("TideQuarter$Tides", "isBetween", "Z", false)
def tyX6 : Nat → FieldType := fun k => match k with
  | 0 => .array .int
  | 1 => .array .int
  | 2 => .int
  | 3 => .int
  | _ => .boolean
theorem nmX6 : ∀ a, a < 5 → ∀ b, b < 5 → a ≠ b → (TX6 a).2.1 ≠ (TX6 b).2.1 := by decide +kernel
theorem tyX6_ok : ∀ k, k < 5 → parseFieldDescriptor (TX6 k).2.2.1 = some (tyX6 k) := by decide +kernel
abbrev cX6_init : ByteArray := prog_8_method_1_code
def yX6_init : MethodName := ⟨RX6, "<init>", "()V"⟩
abbrev cX6_mayBe : ByteArray := prog_8_method_2_code
def yX6_mayBe : MethodName := ⟨RX6, "mayBe", "(II)Z"⟩
abbrev cX6_become : ByteArray := prog_8_method_3_code
def yX6_become : MethodName := ⟨RX6, "become", "(LTideQuarter$Tides;)V"⟩
abbrev cX6_isIn : ByteArray := prog_8_method_4_code
def yX6_isIn : MethodName := ⟨RX6, "isIn", "(II)Z"⟩
abbrev cX6_begins : ByteArray := prog_8_method_5_code
def yX6_begins : MethodName := ⟨RX6, "begins", "(I)I"⟩
abbrev cX6_ends : ByteArray := prog_8_method_6_code
def yX6_ends : MethodName := ⟨RX6, "ends", "(I)I"⟩
abbrev cX6_at : ByteArray := prog_8_method_7_code
def yX6_at : MethodName := ⟨RX6, "at", "(I)V"⟩
abbrev cX6_turnsWhole : ByteArray := prog_8_method_8_code
def yX6_turnsWhole : MethodName := ⟨RX6, "turnsWhole", "(I)Z"⟩
abbrev cX6_below : ByteArray := prog_8_method_9_code
def yX6_below : MethodName := ⟨RX6, "below", "(I)I"⟩
abbrev cX6_sideOf : ByteArray := prog_8_method_10_code
def yX6_sideOf : MethodName := ⟨RX6, "sideOf", "(I)I"⟩
abbrev cX6_frontTo : ByteArray := prog_8_method_11_code
def yX6_frontTo : MethodName := ⟨RX6, "frontTo", "(I)I"⟩
abbrev cX6_rightAt : ByteArray := prog_8_method_12_code
def yX6_rightAt : MethodName := ⟨RX6, "rightAt", "()I"⟩
abbrev cX6_calmTill : ByteArray := prog_8_method_13_code
def yX6_calmTill : MethodName := ⟨RX6, "calmTill", "()I"⟩
def RX7 : String := "TideQuarter"
def TX7 : u_T := fun k => match k with
  | 0 => ("TideQuarter", "now", "LTideQuarter$Isle;", true)
  | 1 => ("TideQuarter", "draft", "LTideQuarter$Isle;", true)
  | 2 => ("TideQuarter", "kept", "LTideQuarter$Isle;", true)
  | 3 => ("TideQuarter", "hasImage", "Z", false)
  | 4 => ("TideQuarter", "tally", "LTideQuarter$Tally;", true)
  | 5 => ("TideQuarter", "harbour", "LTideQuarter$Harbour;", true)
  | 6 => ("TideQuarter", "teller", "LTideQuarter$Teller;", true)
  | 7 => ("TideQuarter", "tape", "LTideQuarter$Tape;", true)
  | 8 => ("TideQuarter", "sheets", "[LTideQuarter$Sheet;", true)
  | _ => ("TideQuarter", "found", "[I", true)
def tyX7 : Nat → FieldType := fun k => match k with
  | 0 => .object "TideQuarter$Isle"
  | 1 => .object "TideQuarter$Isle"
  | 2 => .object "TideQuarter$Isle"
  | 3 => .boolean
  | 4 => .object "TideQuarter$Tally"
  | 5 => .object "TideQuarter$Harbour"
  | 6 => .object "TideQuarter$Teller"
  | 7 => .object "TideQuarter$Tape"
  | 8 => .array (.object "TideQuarter$Sheet")
  | _ => .array .int
theorem nmX7 : ∀ a, a < 10 → ∀ b, b < 10 → a ≠ b → (TX7 a).2.1 ≠ (TX7 b).2.1 := by decide +kernel
theorem tyX7_ok : ∀ k, k < 10 → parseFieldDescriptor (TX7 k).2.2.1 = some (tyX7 k) := by decide +kernel
abbrev cX7_init : ByteArray := prog_1_method_1_code
def yX7_init : MethodName := ⟨RX7, "<init>", "()V"⟩
abbrev cX7_tides : ByteArray := prog_1_method_2_code
def yX7_tides : MethodName := ⟨RX7, "tides", "(II)I"⟩
abbrev cX7_sets : ByteArray := prog_1_method_3_code
def yX7_sets : MethodName := ⟨RX7, "sets", "(II)I"⟩
abbrev cX7_wind : ByteArray := prog_1_method_4_code
def yX7_wind : MethodName := ⟨RX7, "wind", "(II)I"⟩
abbrev cX7_tide : ByteArray := prog_1_method_5_code
def yX7_tide : MethodName := ⟨RX7, "tide", "(II)I"⟩
abbrev cX7_turned : ByteArray := prog_1_method_6_code
def yX7_turned : MethodName := ⟨RX7, "turned", "(I)I"⟩
abbrev cX7_between : ByteArray := prog_1_method_7_code
def yX7_between : MethodName := ⟨RX7, "between", "(I)I"⟩
abbrev cX7_looks : ByteArray := prog_1_method_8_code
def yX7_looks : MethodName := ⟨RX7, "looks", "(II)I"⟩
abbrev cX7_front : ByteArray := prog_1_method_9_code
def yX7_front : MethodName := ⟨RX7, "front", "(II)I"⟩
abbrev cX7_when : ByteArray := prog_1_method_10_code
def yX7_when : MethodName := ⟨RX7, "when", "(III)I"⟩
abbrev cX7_house : ByteArray := prog_1_method_11_code
def yX7_house : MethodName := ⟨RX7, "house", "(II)I"⟩
abbrev cX7_houseOf : ByteArray := prog_1_method_12_code
def yX7_houseOf : MethodName := ⟨RX7, "houseOf", "(II)I"⟩
abbrev cX7_turn : ByteArray := prog_1_method_13_code
def yX7_turn : MethodName := ⟨RX7, "turn", "(II)I"⟩
abbrev cX7_as : ByteArray := prog_1_method_14_code
def yX7_as : MethodName := ⟨RX7, "as", "(II)I"⟩
abbrev cX7_gain : ByteArray := prog_1_method_15_code
def yX7_gain : MethodName := ⟨RX7, "gain", "(II)I"⟩
abbrev cX7_sum : ByteArray := prog_1_method_16_code
def yX7_sum : MethodName := ⟨RX7, "sum", "(III)I"⟩
abbrev cX7_best : ByteArray := prog_1_method_17_code
def yX7_best : MethodName := ⟨RX7, "best", "(III)I"⟩
abbrev cX7_sunniest : ByteArray := prog_1_method_18_code
def yX7_sunniest : MethodName := ⟨RX7, "sunniest", "(II)I"⟩
abbrev cX7_days : ByteArray := prog_1_method_19_code
def yX7_days : MethodName := ⟨RX7, "days", "(IIII)I"⟩
abbrev cX7_exchange : ByteArray := prog_1_method_20_code
def yX7_exchange : MethodName := ⟨RX7, "exchange", "(II)I"⟩
abbrev cX7_ship : ByteArray := prog_1_method_21_code
def yX7_ship : MethodName := ⟨RX7, "ship", "(III)I"⟩
abbrev cX7_shipOf : ByteArray := prog_1_method_22_code
def yX7_shipOf : MethodName := ⟨RX7, "shipOf", "(II)I"⟩
abbrev cX7_quay : ByteArray := prog_1_method_23_code
def yX7_quay : MethodName := ⟨RX7, "quay", "(II)I"⟩
abbrev cX7_clear : ByteArray := prog_1_method_24_code
def yX7_clear : MethodName := ⟨RX7, "clear", "()I"⟩
abbrev cX7_lies : ByteArray := prog_1_method_25_code
def yX7_lies : MethodName := ⟨RX7, "lies", "(III)I"⟩
abbrev cX7_entry : ByteArray := prog_1_method_26_code
def yX7_entry : MethodName := ⟨RX7, "entry", "(II)I"⟩
abbrev cX7_order : ByteArray := prog_1_method_27_code
def yX7_order : MethodName := ⟨RX7, "order", "(I)I"⟩
abbrev cX7_waits : ByteArray := prog_1_method_28_code
def yX7_waits : MethodName := ⟨RX7, "waits", "(II)I"⟩
abbrev cX7_fast : ByteArray := prog_1_method_29_code
def yX7_fast : MethodName := ⟨RX7, "fast", "(I)I"⟩
abbrev cX7_off : ByteArray := prog_1_method_30_code
def yX7_off : MethodName := ⟨RX7, "off", "(II)I"⟩
abbrev cX7_feed : ByteArray := prog_1_method_31_code
def yX7_feed : MethodName := ⟨RX7, "feed", "(II)I"⟩
abbrev cX7_wipe : ByteArray := prog_1_method_32_code
def yX7_wipe : MethodName := ⟨RX7, "wipe", "()I"⟩
abbrev cX7_island : ByteArray := prog_1_method_33_code
def yX7_island : MethodName := ⟨RX7, "island", "()I"⟩
abbrev cX7_sheet : ByteArray := prog_1_method_34_code
def yX7_sheet : MethodName := ⟨RX7, "sheet", "(III)I"⟩
abbrev cX7_write : ByteArray := prog_1_method_35_code
def yX7_write : MethodName := ⟨RX7, "write", "(IIJ)J"⟩
abbrev cX7_copy : ByteArray := prog_1_method_36_code
def yX7_copy : MethodName := ⟨RX7, "copy", "(IIIII)I"⟩
abbrev cX7_lays : ByteArray := prog_1_method_37_code
def yX7_lays : MethodName := ⟨RX7, "lays", "(I)I"⟩
abbrev cX7_calendar : ByteArray := prog_1_method_38_code
def yX7_calendar : MethodName := ⟨RX7, "calendar", "(IIII)I"⟩
abbrev cX7_read : ByteArray := prog_1_method_39_code
def yX7_read : MethodName := ⟨RX7, "read", "(IIII)I"⟩
abbrev cX7_image : ByteArray := prog_1_method_40_code
def yX7_image : MethodName := ⟨RX7, "image", "()I"⟩
abbrev cX7_undo : ByteArray := prog_1_method_41_code
def yX7_undo : MethodName := ⟨RX7, "undo", "()I"⟩
abbrev cX7_tear : ByteArray := prog_1_method_42_code
def yX7_tear : MethodName := ⟨RX7, "tear", "()I"⟩
abbrev cX7_count : ByteArray := prog_1_method_43_code
def yX7_count : MethodName := ⟨RX7, "count", "(I)I"⟩
abbrev cX7_status : ByteArray := prog_1_method_44_code
def yX7_status : MethodName := ⟨RX7, "status", "(I)I"⟩
abbrev cX7_refuse : ByteArray := prog_1_method_45_code
def yX7_refuse : MethodName := ⟨RX7, "refuse", "(I)I"⟩
abbrev cX7_allFound : ByteArray := prog_1_method_46_code
def yX7_allFound : MethodName := ⟨RX7, "allFound", "()I"⟩
abbrev cX7_isSide : ByteArray := prog_1_method_47_code
def yX7_isSide : MethodName := ⟨RX7, "isSide", "(I)Z"⟩
abbrev cX7_isTick : ByteArray := prog_1_method_48_code
def yX7_isTick : MethodName := ⟨RX7, "isTick", "(I)Z"⟩
abbrev cX7_isSpan : ByteArray := prog_1_method_49_code
def yX7_isSpan : MethodName := ⟨RX7, "isSpan", "(II)Z"⟩
abbrev cX7_isSheet : ByteArray := prog_1_method_50_code
def yX7_isSheet : MethodName := ⟨RX7, "isSheet", "(I)Z"⟩
abbrev cX7_isHouse : ByteArray := prog_1_method_51_code
def yX7_isHouse : MethodName := ⟨RX7, "isHouse", "(I)Z"⟩
abbrev cX7_isShip : ByteArray := prog_1_method_52_code
def yX7_isShip : MethodName := ⟨RX7, "isShip", "(I)Z"⟩
abbrev cX7_hourOf : ByteArray := prog_1_method_53_code
def yX7_hourOf : MethodName := ⟨RX7, "hourOf", "(I)I"⟩
abbrev cX7_looksInHour : ByteArray := prog_1_method_54_code
def yX7_looksInHour : MethodName := ⟨RX7, "looksInHour", "(III)Z"⟩
abbrev cX7_moreByExchange : ByteArray := prog_1_method_55_code
def yX7_moreByExchange : MethodName := ⟨RX7, "moreByExchange", "(II)I"⟩
abbrev cX7_calendarRefusal : ByteArray := prog_1_method_56_code
def yX7_calendarRefusal : MethodName := ⟨RX7, "calendarRefusal", "(IIII)I"⟩
def RX8 : String := "TideQuarterModel"
def TX8 : u_T := fun k => match k with
  | 0 => ("TideQuarterModel", "now", "[I", true)
  | 1 => ("TideQuarterModel", "kept", "[I", true)
  | 2 => ("TideQuarterModel", "isKept", "Z", false)
  | 3 => ("TideQuarterModel", "found", "[I", true)
  | 4 => ("TideQuarterModel", "least", "[I", true)
  | 5 => ("TideQuarterModel", "most", "[I", true)
  | 6 => ("TideQuarterModel", "turns", "[I", true)
  | 7 => ("TideQuarterModel", "still", "[I", true)
  | 8 => ("TideQuarterModel", "isFound", "Z", false)
  | 9 => ("TideQuarterModel", "sums", "[I", true)
  | 10 => ("TideQuarterModel", "tried", "[I", true)
  | 11 => ("TideQuarterModel", "best", "[I", true)
  | 12 => ("TideQuarterModel", "liesFrom", "[I", true)
  | 13 => ("TideQuarterModel", "liesAt", "[I", true)
  | 14 => ("TideQuarterModel", "bestWait", "[I", true)
  | 15 => ("TideQuarterModel", "bestAt", "[I", true)
  | 16 => ("TideQuarterModel", "bestSum", "I", false)
  | 17 => ("TideQuarterModel", "tape", "[I", true)
  | 18 => ("TideQuarterModel", "taped", "I", false)
  | 19 => ("TideQuarterModel", "begins", "I", false)
  | 20 => ("TideQuarterModel", "ends", "I", false)
  | 21 => ("TideQuarterModel", "sort", "I", false)
  | 22 => ("TideQuarterModel", "value", "I", false)
  | 23 => ("TideQuarterModel", "isWrong", "Z", false)
  | 24 => ("TideQuarterModel", "kinds", "[Ljava/lang/String;", true)
  | 25 => ("TideQuarterModel", "sets", "[Ljava/lang/String;", true)
  | 26 => ("TideQuarterModel", "items", "[I", true)
  | 27 => ("TideQuarterModel", "itemMany", "I", false)
  | 28 => ("TideQuarterModel", "houseMany", "I", false)
  | 29 => ("TideQuarterModel", "shipMany", "I", false)
  | 30 => ("TideQuarterModel", "widths", "[I", true)
  | 31 => ("TideQuarterModel", "sizes", "[I", true)
  | 32 => ("TideQuarterModel", "numbers", "[J", true)
  | _ => ("TideQuarterModel", "moved", "[J", true)
def tyX8 : Nat → FieldType := fun k => match k with
  | 0 => .array .int
  | 1 => .array .int
  | 2 => .boolean
  | 3 => .array .int
  | 4 => .array .int
  | 5 => .array .int
  | 6 => .array .int
  | 7 => .array .int
  | 8 => .boolean
  | 9 => .array .int
  | 10 => .array .int
  | 11 => .array .int
  | 12 => .array .int
  | 13 => .array .int
  | 14 => .array .int
  | 15 => .array .int
  | 16 => .int
  | 17 => .array .int
  | 18 => .int
  | 19 => .int
  | 20 => .int
  | 21 => .int
  | 22 => .int
  | 23 => .boolean
  | 24 => .array (.object "java/lang/String")
  | 25 => .array (.object "java/lang/String")
  | 26 => .array .int
  | 27 => .int
  | 28 => .int
  | 29 => .int
  | 30 => .array .int
  | 31 => .array .int
  | 32 => .array .long
  | _ => .array .long
theorem nmX8 : ∀ a, a < 34 → ∀ b, b < 34 → a ≠ b → (TX8 a).2.1 ≠ (TX8 b).2.1 := by decide +kernel
theorem tyX8_ok : ∀ k, k < 34 → parseFieldDescriptor (TX8 k).2.2.1 = some (tyX8 k) := by decide +kernel
abbrev cX8_init : ByteArray := prog_10_method_1_code
def yX8_init : MethodName := ⟨RX8, "<init>", "()V"⟩
abbrev cX8_finding : ByteArray := prog_10_method_2_code
def yX8_finding : MethodName := ⟨RX8, "finding", "(I)I"⟩
abbrev cX8_within : ByteArray := prog_10_method_3_code
def yX8_within : MethodName := ⟨RX8, "within", "(III)Z"⟩
abbrev cX8_has : ByteArray := prog_10_method_4_code
def yX8_has : MethodName := ⟨RX8, "has", "(II)Z"⟩
abbrev cX8_become : ByteArray := prog_10_method_5_code
def yX8_become : MethodName := ⟨RX8, "become", "(II)I"⟩
abbrev cX8_beginOf : ByteArray := prog_10_method_6_code
def yX8_beginOf : MethodName := ⟨RX8, "beginOf", "(I)I"⟩
abbrev cX8_isIn : ByteArray := prog_10_method_7_code
def yX8_isIn : MethodName := ⟨RX8, "isIn", "(II)Z"⟩
abbrev cX8_findTides : ByteArray := prog_10_method_8_code
def yX8_findTides : MethodName := ⟨RX8, "findTides", "()V"⟩
abbrev cX8_fills : ByteArray := prog_10_method_9_code
def yX8_fills : MethodName := ⟨RX8, "fills", "(IIIZ)I"⟩
abbrev cX8_turnedAt : ByteArray := prog_10_method_10_code
def yX8_turnedAt : MethodName := ⟨RX8, "turnedAt", "(I)I"⟩
abbrev cX8_stillAt : ByteArray := prog_10_method_11_code
def yX8_stillAt : MethodName := ⟨RX8, "stillAt", "(I)I"⟩
abbrev cX8_tides : ByteArray := prog_10_method_12_code
def yX8_tides : MethodName := ⟨RX8, "tides", "(II)I"⟩
abbrev cX8_sets : ByteArray := prog_10_method_13_code
def yX8_sets : MethodName := ⟨RX8, "sets", "(II)I"⟩
abbrev cX8_isSide : ByteArray := prog_10_method_14_code
def yX8_isSide : MethodName := ⟨RX8, "isSide", "(I)Z"⟩
abbrev cX8_isTick : ByteArray := prog_10_method_15_code
def yX8_isTick : MethodName := ⟨RX8, "isTick", "(I)Z"⟩
abbrev cX8_isSpan : ByteArray := prog_10_method_16_code
def yX8_isSpan : MethodName := ⟨RX8, "isSpan", "(I)Z"⟩
abbrev cX8_wind : ByteArray := prog_10_method_17_code
def yX8_wind : MethodName := ⟨RX8, "wind", "(II)I"⟩
abbrev cX8_tide : ByteArray := prog_10_method_18_code
def yX8_tide : MethodName := ⟨RX8, "tide", "(II)I"⟩
abbrev cX8_turned : ByteArray := prog_10_method_19_code
def yX8_turned : MethodName := ⟨RX8, "turned", "(I)I"⟩
abbrev cX8_between : ByteArray := prog_10_method_20_code
def yX8_between : MethodName := ⟨RX8, "between", "(I)I"⟩
abbrev cX8_sideOf : ByteArray := prog_10_method_21_code
def yX8_sideOf : MethodName := ⟨RX8, "sideOf", "(II)I"⟩
abbrev cX8_frontTo : ByteArray := prog_10_method_22_code
def yX8_frontTo : MethodName := ⟨RX8, "frontTo", "(II)I"⟩
abbrev cX8_looks : ByteArray := prog_10_method_23_code
def yX8_looks : MethodName := ⟨RX8, "looks", "(II)I"⟩
abbrev cX8_front : ByteArray := prog_10_method_24_code
def yX8_front : MethodName := ⟨RX8, "front", "(II)I"⟩
abbrev cX8_when : ByteArray := prog_10_method_25_code
def yX8_when : MethodName := ⟨RX8, "when", "(III)I"⟩
abbrev cX8_isHouse : ByteArray := prog_10_method_26_code
def yX8_isHouse : MethodName := ⟨RX8, "isHouse", "(I)Z"⟩
abbrev cX8_kindOf : ByteArray := prog_10_method_27_code
def yX8_kindOf : MethodName := ⟨RX8, "kindOf", "(I)I"⟩
abbrev cX8_frontOf : ByteArray := prog_10_method_28_code
def yX8_frontOf : MethodName := ⟨RX8, "frontOf", "(I)I"⟩
abbrev cX8_built : ByteArray := prog_10_method_29_code
def yX8_built : MethodName := ⟨RX8, "built", "(II)I"⟩
abbrev cX8_house : ByteArray := prog_10_method_30_code
def yX8_house : MethodName := ⟨RX8, "house", "(II)I"⟩
abbrev cX8_houseOf : ByteArray := prog_10_method_31_code
def yX8_houseOf : MethodName := ⟨RX8, "houseOf", "(II)I"⟩
abbrev cX8_turn : ByteArray := prog_10_method_32_code
def yX8_turn : MethodName := ⟨RX8, "turn", "(II)I"⟩
abbrev cX8_above : ByteArray := prog_10_method_33_code
def yX8_above : MethodName := ⟨RX8, "above", "(I)I"⟩
abbrev cX8_as : ByteArray := prog_10_method_34_code
def yX8_as : MethodName := ⟨RX8, "as", "(II)I"⟩
abbrev cX8_hourOf : ByteArray := prog_10_method_35_code
def yX8_hourOf : MethodName := ⟨RX8, "hourOf", "(I)I"⟩
abbrev cX8_sun : ByteArray := prog_10_method_36_code
def yX8_sun : MethodName := ⟨RX8, "sun", "(II)I"⟩
abbrev cX8_gainOf : ByteArray := prog_10_method_37_code
def yX8_gainOf : MethodName := ⟨RX8, "gainOf", "(III)I"⟩
abbrev cX8_gain : ByteArray := prog_10_method_38_code
def yX8_gain : MethodName := ⟨RX8, "gain", "(II)I"⟩
abbrev cX8_sumOf : ByteArray := prog_10_method_39_code
def yX8_sumOf : MethodName := ⟨RX8, "sumOf", "(IIII)I"⟩
abbrev cX8_sum : ByteArray := prog_10_method_40_code
def yX8_sum : MethodName := ⟨RX8, "sum", "(III)I"⟩
abbrev cX8_best : ByteArray := prog_10_method_41_code
def yX8_best : MethodName := ⟨RX8, "best", "(III)I"⟩
abbrev cX8_sunniest : ByteArray := prog_10_method_42_code
def yX8_sunniest : MethodName := ⟨RX8, "sunniest", "(II)I"⟩
abbrev cX8_days : ByteArray := prog_10_method_43_code
def yX8_days : MethodName := ⟨RX8, "days", "(IIII)I"⟩
abbrev cX8_exchange : ByteArray := prog_10_method_44_code
def yX8_exchange : MethodName := ⟨RX8, "exchange", "(II)I"⟩
abbrev cX8_isShip : ByteArray := prog_10_method_45_code
def yX8_isShip : MethodName := ⟨RX8, "isShip", "(I)Z"⟩
abbrev cX8_shipIs : ByteArray := prog_10_method_46_code
def yX8_shipIs : MethodName := ⟨RX8, "shipIs", "(II)I"⟩
abbrev cX8_sails : ByteArray := prog_10_method_47_code
def yX8_sails : MethodName := ⟨RX8, "sails", "(IIII)I"⟩
abbrev cX8_ship : ByteArray := prog_10_method_48_code
def yX8_ship : MethodName := ⟨RX8, "ship", "(III)I"⟩
abbrev cX8_shipOf : ByteArray := prog_10_method_49_code
def yX8_shipOf : MethodName := ⟨RX8, "shipOf", "(II)I"⟩
abbrev cX8_quay : ByteArray := prog_10_method_50_code
def yX8_quay : MethodName := ⟨RX8, "quay", "(II)I"⟩
abbrev cX8_clear : ByteArray := prog_10_method_51_code
def yX8_clear : MethodName := ⟨RX8, "clear", "()I"⟩
abbrev cX8_canLie : ByteArray := prog_10_method_52_code
def yX8_canLie : MethodName := ⟨RX8, "canLie", "(III)Z"⟩
abbrev cX8_lies : ByteArray := prog_10_method_53_code
def yX8_lies : MethodName := ⟨RX8, "lies", "(III)I"⟩
abbrev cX8_quayAt : ByteArray := prog_10_method_54_code
def yX8_quayAt : MethodName := ⟨RX8, "quayAt", "(II)I"⟩
abbrev cX8_entry : ByteArray := prog_10_method_55_code
def yX8_entry : MethodName := ⟨RX8, "entry", "(II)I"⟩
abbrev cX8_isTaken : ByteArray := prog_10_method_56_code
def yX8_isTaken : MethodName := ⟨RX8, "isTaken", "(IIII)Z"⟩
abbrev cX8_goesIn : ByteArray := prog_10_method_57_code
def yX8_goesIn : MethodName := ⟨RX8, "goesIn", "(II)I"⟩
abbrev cX8_tries : ByteArray := prog_10_method_58_code
def yX8_tries : MethodName := ⟨RX8, "tries", "(III)V"⟩
abbrev cX8_findOrder : ByteArray := prog_10_method_59_code
def yX8_findOrder : MethodName := ⟨RX8, "findOrder", "()V"⟩
abbrev cX8_order : ByteArray := prog_10_method_60_code
def yX8_order : MethodName := ⟨RX8, "order", "(I)I"⟩
abbrev cX8_waits : ByteArray := prog_10_method_61_code
def yX8_waits : MethodName := ⟨RX8, "waits", "(II)I"⟩
abbrev cX8_fast : ByteArray := prog_10_method_62_code
def yX8_fast : MethodName := ⟨RX8, "fast", "(I)I"⟩
abbrev cX8_off : ByteArray := prog_10_method_63_code
def yX8_off : MethodName := ⟨RX8, "off", "(II)I"⟩
abbrev cX8_feed : ByteArray := prog_10_method_64_code
def yX8_feed : MethodName := ⟨RX8, "feed", "(II)I"⟩
abbrev cX8_wipe : ByteArray := prog_10_method_65_code
def yX8_wipe : MethodName := ⟨RX8, "wipe", "()I"⟩
abbrev cX8_byteAt : ByteArray := prog_10_method_66_code
def yX8_byteAt : MethodName := ⟨RX8, "byteAt", "(I)I"⟩
abbrev cX8_next : ByteArray := prog_10_method_67_code
def yX8_next : MethodName := ⟨RX8, "next", "()V"⟩
abbrev cX8_isWord : ByteArray := prog_10_method_68_code
def yX8_isWord : MethodName := ⟨RX8, "isWord", "(Ljava/lang/String;)Z"⟩
abbrev cX8_must : ByteArray := prog_10_method_69_code
def yX8_must : MethodName := ⟨RX8, "must", "(Z)V"⟩
abbrev cX8_number : ByteArray := prog_10_method_70_code
def yX8_number : MethodName := ⟨RX8, "number", "(II)I"⟩
abbrev cX8_item : ByteArray := prog_10_method_71_code
def yX8_item : MethodName := ⟨RX8, "item", "(IIIII)V"⟩
abbrev cX8_which : ByteArray := prog_10_method_72_code
def yX8_which : MethodName := ⟨RX8, "which", "([Ljava/lang/String;)I"⟩
abbrev cX8_perhaps : ByteArray := prog_10_method_73_code
def yX8_perhaps : MethodName := ⟨RX8, "perhaps", "(Ljava/lang/String;III)I"⟩
abbrev cX8_readItem : ByteArray := prog_10_method_74_code
def yX8_readItem : MethodName := ⟨RX8, "readItem", "()V"⟩
abbrev cX8_readSet : ByteArray := prog_10_method_75_code
def yX8_readSet : MethodName := ⟨RX8, "readSet", "(I)V"⟩
abbrev cX8_readShip : ByteArray := prog_10_method_76_code
def yX8_readShip : MethodName := ⟨RX8, "readShip", "()V"⟩
abbrev cX8_isSo : ByteArray := prog_10_method_77_code
def yX8_isSo : MethodName := ⟨RX8, "isSo", "(I)V"⟩
abbrev cX8_island : ByteArray := prog_10_method_78_code
def yX8_island : MethodName := ⟨RX8, "island", "()I"⟩
abbrev cX8_isSheet : ByteArray := prog_10_method_79_code
def yX8_isSheet : MethodName := ⟨RX8, "isSheet", "(I)Z"⟩
abbrev cX8_cutTo : ByteArray := prog_10_method_80_code
def yX8_cutTo : MethodName := ⟨RX8, "cutTo", "(JI)J"⟩
abbrev cX8_sheet : ByteArray := prog_10_method_81_code
def yX8_sheet : MethodName := ⟨RX8, "sheet", "(III)I"⟩
abbrev cX8_write : ByteArray := prog_10_method_82_code
def yX8_write : MethodName := ⟨RX8, "write", "(IIJ)J"⟩
abbrev cX8_copy : ByteArray := prog_10_method_83_code
def yX8_copy : MethodName := ⟨RX8, "copy", "(IIIII)I"⟩
abbrev cX8_lays : ByteArray := prog_10_method_84_code
def yX8_lays : MethodName := ⟨RX8, "lays", "(I)I"⟩
abbrev cX8_refuses : ByteArray := prog_10_method_85_code
def yX8_refuses : MethodName := ⟨RX8, "refuses", "(IIII)I"⟩
abbrev cX8_calendar : ByteArray := prog_10_method_86_code
def yX8_calendar : MethodName := ⟨RX8, "calendar", "(IIII)I"⟩
abbrev cX8_read : ByteArray := prog_10_method_87_code
def yX8_read : MethodName := ⟨RX8, "read", "(IIII)I"⟩
abbrev cX8_copyRow : ByteArray := prog_10_method_88_code
def yX8_copyRow : MethodName := ⟨RX8, "copyRow", "([I[I)V"⟩
abbrev cX8_image : ByteArray := prog_10_method_89_code
def yX8_image : MethodName := ⟨RX8, "image", "()I"⟩
abbrev cX8_undo : ByteArray := prog_10_method_90_code
def yX8_undo : MethodName := ⟨RX8, "undo", "()I"⟩
abbrev cX8_tear : ByteArray := prog_10_method_91_code
def yX8_tear : MethodName := ⟨RX8, "tear", "()I"⟩
abbrev cX8_count : ByteArray := prog_10_method_92_code
def yX8_count : MethodName := ⟨RX8, "count", "(I)I"⟩
abbrev cX8_status : ByteArray := prog_10_method_93_code
def yX8_status : MethodName := ⟨RX8, "status", "(I)I"⟩
def RJx145de : String := "java/io/Serializable"
def TJx145de : u_T := fun k => match k with
  | _ => ("", "", "", false)
def tyJx145de : Nat → FieldType := fun k => match k with
  | _ => .int
theorem nmJx145de : ∀ a, a < 0 → ∀ b, b < 0 → a ≠ b → (TJx145de a).2.1 ≠ (TJx145de b).2.1 := by decide +kernel
theorem tyJx145de_ok : ∀ k, k < 0 → parseFieldDescriptor (TJx145de k).2.2.1 = some (tyJx145de k) := by decide +kernel
def RJx9f9b0 : String := "java/lang/CharSequence"
def TJx9f9b0 : u_T := fun k => match k with
  | _ => ("", "", "", false)
def tyJx9f9b0 : Nat → FieldType := fun k => match k with
  | _ => .int
theorem nmJx9f9b0 : ∀ a, a < 0 → ∀ b, b < 0 → a ≠ b → (TJx9f9b0 a).2.1 ≠ (TJx9f9b0 b).2.1 := by decide +kernel
theorem tyJx9f9b0_ok : ∀ k, k < 0 → parseFieldDescriptor (TJx9f9b0 k).2.2.1 = some (tyJx9f9b0 k) := by decide +kernel
def RJxb160c : String := "java/lang/Comparable"
def TJxb160c : u_T := fun k => match k with
  | _ => ("", "", "", false)
def tyJxb160c : Nat → FieldType := fun k => match k with
  | _ => .int
theorem nmJxb160c : ∀ a, a < 0 → ∀ b, b < 0 → a ≠ b → (TJxb160c a).2.1 ≠ (TJxb160c b).2.1 := by decide +kernel
theorem tyJxb160c_ok : ∀ k, k < 0 → parseFieldDescriptor (TJxb160c k).2.2.1 = some (tyJxb160c k) := by decide +kernel
def RJ6 : String := "java/lang/Integer"
def TJ6 : u_T := fun k => match k with
  | _ => ("", "", "", false)
def tyJ6 : Nat → FieldType := fun k => match k with
  | _ => .int
theorem nmJ6 : ∀ a, a < 0 → ∀ b, b < 0 → a ≠ b → (TJ6 a).2.1 ≠ (TJ6 b).2.1 := by decide +kernel
theorem tyJ6_ok : ∀ k, k < 0 → parseFieldDescriptor (TJ6 k).2.2.1 = some (tyJ6 k) := by decide +kernel
abbrev cJ6_bitCount_0f7a4 : ByteArray := prog_11_method_49_code
def yJ6_bitCount_0f7a4 : MethodName := ⟨RJ6, "bitCount", "(I)I"⟩
def RJ9 : String := "java/lang/Math"
def TJ9 : u_T := fun k => match k with
  | _ => ("", "", "", false)
def tyJ9 : Nat → FieldType := fun k => match k with
  | _ => .int
theorem nmJ9 : ∀ a, a < 0 → ∀ b, b < 0 → a ≠ b → (TJ9 a).2.1 ≠ (TJ9 b).2.1 := by decide +kernel
theorem tyJ9_ok : ∀ k, k < 0 → parseFieldDescriptor (TJ9 k).2.2.1 = some (tyJ9 k) := by decide +kernel
abbrev cJ9_max_7cf53 : ByteArray := prog_12_method_65_code
def yJ9_max_7cf53 : MethodName := ⟨RJ9, "max", "(II)I"⟩
abbrev cJ9_min_7cf53 : ByteArray := prog_12_method_69_code
def yJ9_min_7cf53 : MethodName := ⟨RJ9, "min", "(II)I"⟩
def RJ0 : String := "java/lang/String"
def TJ0 : u_T := fun k => match k with
  | _ => ("", "", "", false)
def tyJ0 : Nat → FieldType := fun k => match k with
  | _ => .int
theorem nmJ0 : ∀ a, a < 0 → ∀ b, b < 0 → a ≠ b → (TJ0 a).2.1 ≠ (TJ0 b).2.1 := by decide +kernel
theorem tyJ0_ok : ∀ k, k < 0 → parseFieldDescriptor (TJ0 k).2.2.1 = some (tyJ0 k) := by decide +kernel
abbrev cJ0_length_8abf5 : ByteArray := prog_13_method_54_code
def yJ0_length_8abf5 : MethodName := ⟨RJ0, "length", "()I"⟩
abbrev cJ0_charAt_5068e : ByteArray := prog_13_method_56_code
def yJ0_charAt_5068e : MethodName := ⟨RJ0, "charAt", "(I)C"⟩
abbrev cJ0_coder_7d493 : ByteArray := prog_13_method_152_code
def yJ0_coder_7d493 : MethodName := ⟨RJ0, "coder", "()B"⟩
abbrev cJ0_isLatin1_aae02 : ByteArray := prog_13_method_154_code
def yJ0_isLatin1_aae02 : MethodName := ⟨RJ0, "isLatin1", "()Z"⟩
abbrev cJ0_checkIndex_df160 : ByteArray := prog_13_method_155_code
def yJ0_checkIndex_df160 : MethodName := ⟨RJ0, "checkIndex", "(II)V"⟩
def RJ1 : String := "java/lang/StringLatin1"
def TJ1 : u_T := fun k => match k with
  | _ => ("", "", "", false)
def tyJ1 : Nat → FieldType := fun k => match k with
  | _ => .int
theorem nmJ1 : ∀ a, a < 0 → ∀ b, b < 0 → a ≠ b → (TJ1 a).2.1 ≠ (TJ1 b).2.1 := by decide +kernel
theorem tyJ1_ok : ∀ k, k < 0 → parseFieldDescriptor (TJ1 k).2.2.1 = some (tyJ1 k) := by decide +kernel
abbrev cJ1_charAt_3b067 : ByteArray := prog_14_method_2_code
def yJ1_charAt_3b067 : MethodName := ⟨RJ1, "charAt", "([BI)C"⟩
def RJ2 : String := "java/lang/StringUTF16"
def TJ2 : u_T := fun k => match k with
  | _ => ("", "", "", false)
def tyJ2 : Nat → FieldType := fun k => match k with
  | _ => .int
theorem nmJ2 : ∀ a, a < 0 → ∀ b, b < 0 → a ≠ b → (TJ2 a).2.1 ≠ (TJ2 b).2.1 := by decide +kernel
theorem tyJ2_ok : ∀ k, k < 0 → parseFieldDescriptor (TJ2 k).2.2.1 = some (tyJ2 k) := by decide +kernel
abbrev cJ2_getChar_3b067 : ByteArray := prog_15_method_5_code
def yJ2_getChar_3b067 : MethodName := ⟨RJ2, "getChar", "([BI)C"⟩
abbrev cJ2_length_9d52b : ByteArray := prog_15_method_6_code
def yJ2_length_9d52b : MethodName := ⟨RJ2, "length", "([B)I"⟩
abbrev cJ2_charAt_3b067 : ByteArray := prog_15_method_83_code
def yJ2_charAt_3b067 : MethodName := ⟨RJ2, "charAt", "([BI)C"⟩
abbrev cJ2_checkIndex_2214a : ByteArray := prog_15_method_91_code
def yJ2_checkIndex_2214a : MethodName := ⟨RJ2, "checkIndex", "(I[B)V"⟩
def RJ10 : String := "java/lang/System"
def TJ10 : u_T := fun k => match k with
  | _ => ("", "", "", false)
def tyJ10 : Nat → FieldType := fun k => match k with
  | _ => .int
theorem nmJ10 : ∀ a, a < 0 → ∀ b, b < 0 → a ≠ b → (TJ10 a).2.1 ≠ (TJ10 b).2.1 := by decide +kernel
theorem tyJ10_ok : ∀ k, k < 0 → parseFieldDescriptor (TJ10 k).2.2.1 = some (tyJ10 k) := by decide +kernel
def RJxfd54e : String := "java/lang/constant/Constable"
def TJxfd54e : u_T := fun k => match k with
  | _ => ("", "", "", false)
def tyJxfd54e : Nat → FieldType := fun k => match k with
  | _ => .int
theorem nmJxfd54e : ∀ a, a < 0 → ∀ b, b < 0 → a ≠ b → (TJxfd54e a).2.1 ≠ (TJxfd54e b).2.1 := by decide +kernel
theorem tyJxfd54e_ok : ∀ k, k < 0 → parseFieldDescriptor (TJxfd54e k).2.2.1 = some (tyJxfd54e k) := by decide +kernel
def RJx3cf43 : String := "java/lang/constant/ConstantDesc"
def TJx3cf43 : u_T := fun k => match k with
  | _ => ("", "", "", false)
def tyJx3cf43 : Nat → FieldType := fun k => match k with
  | _ => .int
theorem nmJx3cf43 : ∀ a, a < 0 → ∀ b, b < 0 → a ≠ b → (TJx3cf43 a).2.1 ≠ (TJx3cf43 b).2.1 := by decide +kernel
theorem tyJx3cf43_ok : ∀ k, k < 0 → parseFieldDescriptor (TJx3cf43 k).2.2.1 = some (tyJx3cf43 k) := by decide +kernel
def RJ7 : String := "java/util/Arrays"
def TJ7 : u_T := fun k => match k with
  | _ => ("", "", "", false)
def tyJ7 : Nat → FieldType := fun k => match k with
  | _ => .int
theorem nmJ7 : ∀ a, a < 0 → ∀ b, b < 0 → a ≠ b → (TJ7 a).2.1 ≠ (TJ7 b).2.1 := by decide +kernel
theorem tyJ7_ok : ∀ k, k < 0 → parseFieldDescriptor (TJ7 k).2.2.1 = some (tyJ7 k) := by decide +kernel
abbrev cJ7_fill_d0a16 : ByteArray := prog_17_method_101_code
def yJ7_fill_d0a16 : MethodName := ⟨RJ7, "fill", "([JJ)V"⟩
abbrev cJ7_fill_53178 : ByteArray := prog_17_method_103_code
def yJ7_fill_53178 : MethodName := ⟨RJ7, "fill", "([II)V"⟩
def RJ3 : String := "jdk/internal/util/Preconditions"
def TJ3 : u_T := fun k => match k with
  | _ => ("", "", "", false)
def tyJ3 : Nat → FieldType := fun k => match k with
  | _ => .int
theorem nmJ3 : ∀ a, a < 0 → ∀ b, b < 0 → a ≠ b → (TJ3 a).2.1 ≠ (TJ3 b).2.1 := by decide +kernel
theorem tyJ3_ok : ∀ k, k < 0 → parseFieldDescriptor (TJ3 k).2.2.1 = some (tyJ3 k) := by decide +kernel
abbrev cJ3_checkIndex_8e157 : ByteArray := prog_18_method_11_code
def yJ3_checkIndex_8e157 : MethodName := ⟨RJ3, "checkIndex", "(IILjava/util/function/BiFunction;)I"⟩
def RL : String := "TideQuarterLaw"
abbrev cL_law : ByteArray := code
def yL_law : MethodName := ⟨RL, "law", "([I)Z"⟩
theorem dX0_init_0 : decode cX0_init 0 = .ok (.aload_n 0, 1) := by decide +kernel
theorem dX0_init_1 : decode cX0_init 1 = .ok (.invokespecial 3, 3) := by decide +kernel
theorem dX0_init_4 : decode cX0_init 4 = .ok (.aload_n 0, 1) := by decide +kernel
theorem dX0_init_5 : decode cX0_init 5 = .ok (.iconst 0, 1) := by decide +kernel
theorem dX0_init_6 : decode cX0_init 6 = .ok (.putfield 9, 3) := by decide +kernel
theorem dX0_init_9 : decode cX0_init 9 = .ok (.aload_n 0, 1) := by decide +kernel
theorem dX0_init_10 : decode cX0_init 10 = .ok (.iconst 0, 1) := by decide +kernel
theorem dX0_init_11 : decode cX0_init 11 = .ok (.putfield 15, 3) := by decide +kernel
theorem dX0_init_14 : decode cX0_init 14 = .ok (.aload_n 0, 1) := by decide +kernel
theorem dX0_init_15 : decode cX0_init 15 = .ok (.bipush 6, 2) := by decide +kernel
theorem dX0_init_17 : decode cX0_init 17 = .ok (.newarray .int, 2) := by decide +kernel
theorem dX0_init_19 : decode cX0_init 19 = .ok (.putfield 19, 3) := by decide +kernel
theorem dX0_init_22 : decode cX0_init 22 = .ok (.aload_n 0, 1) := by decide +kernel
theorem dX0_init_23 : decode cX0_init 23 = .ok (.bipush 6, 2) := by decide +kernel
theorem dX0_init_25 : decode cX0_init 25 = .ok (.newarray .int, 2) := by decide +kernel
theorem dX0_init_27 : decode cX0_init 27 = .ok (.putfield 23, 3) := by decide +kernel
theorem dX0_init_30 : decode cX0_init 30 = .ok (.aload_n 0, 1) := by decide +kernel
theorem dX0_init_31 : decode cX0_init 31 = .ok (.bipush 6, 2) := by decide +kernel
theorem dX0_init_33 : decode cX0_init 33 = .ok (.newarray .int, 2) := by decide +kernel
theorem dX0_init_35 : decode cX0_init 35 = .ok (.putfield 26, 3) := by decide +kernel
theorem dX0_init_38 : decode cX0_init 38 = .ok (.aload_n 0, 1) := by decide +kernel
theorem dX0_init_39 : decode cX0_init 39 = .ok (.bipush 6, 2) := by decide +kernel
theorem dX0_init_41 : decode cX0_init 41 = .ok (.newarray .int, 2) := by decide +kernel
theorem dX0_init_43 : decode cX0_init 43 = .ok (.putfield 29, 3) := by decide +kernel
theorem dX0_init_46 : decode cX0_init 46 = .ok (.aload_n 0, 1) := by decide +kernel
theorem dX0_init_47 : decode cX0_init 47 = .ok (.bipush 6, 2) := by decide +kernel
theorem dX0_init_49 : decode cX0_init 49 = .ok (.newarray .int, 2) := by decide +kernel
theorem dX0_init_51 : decode cX0_init 51 = .ok (.putfield 32, 3) := by decide +kernel
theorem dX0_init_54 : decode cX0_init 54 = .ok (.aload_n 0, 1) := by decide +kernel
theorem dX0_init_55 : decode cX0_init 55 = .ok (.bipush 6, 2) := by decide +kernel
theorem dX0_init_57 : decode cX0_init 57 = .ok (.newarray .int, 2) := by decide +kernel
theorem dX0_init_59 : decode cX0_init 59 = .ok (.putfield 35, 3) := by decide +kernel
theorem dX0_init_62 : decode cX0_init 62 = .ok (.aload_n 0, 1) := by decide +kernel
theorem dX0_init_63 : decode cX0_init 63 = .ok (.bipush 6, 2) := by decide +kernel
theorem dX0_init_65 : decode cX0_init 65 = .ok (.newarray .int, 2) := by decide +kernel
theorem dX0_init_67 : decode cX0_init 67 = .ok (.putfield 38, 3) := by decide +kernel
theorem dX0_init_70 : decode cX0_init 70 = .ok (.aload_n 0, 1) := by decide +kernel
theorem dX0_init_71 : decode cX0_init 71 = .ok (.iconst 0, 1) := by decide +kernel
theorem dX0_init_72 : decode cX0_init 72 = .ok (.putfield 41, 3) := by decide +kernel
theorem dX0_init_75 : decode cX0_init 75 = .ok (.return_, 1) := by decide +kernel
theorem dX0_forget_0 : decode cX0_forget 0 = .ok (.aload_n 0, 1) := by decide +kernel
theorem dX0_forget_1 : decode cX0_forget 1 = .ok (.iconst 0, 1) := by decide +kernel
theorem dX0_forget_2 : decode cX0_forget 2 = .ok (.putfield 9, 3) := by decide +kernel
theorem dX0_forget_5 : decode cX0_forget 5 = .ok (.return_, 1) := by decide +kernel
theorem dX0_find_0 : decode cX0_find 0 = .ok (.aload_n 0, 1) := by decide +kernel
theorem dX0_find_1 : decode cX0_find 1 = .ok (.getfield 9, 3) := by decide +kernel
theorem dX0_find_4 : decode cX0_find 4 = .ok (.ifCond .eq 4, 3) := by decide +kernel
theorem dX0_find_7 : decode cX0_find 7 = .ok (.return_, 1) := by decide +kernel
theorem dX0_find_8 : decode cX0_find 8 = .ok (.iconst 0, 1) := by decide +kernel
theorem dX0_find_9 : decode cX0_find 9 = .ok (.istore_n 2, 1) := by decide +kernel
theorem dX0_find_10 : decode cX0_find 10 = .ok (.iconst 0, 1) := by decide +kernel
theorem dX0_find_11 : decode cX0_find 11 = .ok (.istore_n 3, 1) := by decide +kernel
theorem dX0_find_12 : decode cX0_find 12 = .ok (.iload_n 3, 1) := by decide +kernel
theorem dX0_find_13 : decode cX0_find 13 = .ok (.aload_n 1, 1) := by decide +kernel
theorem dX0_find_14 : decode cX0_find 14 = .ok (.getfield 44, 3) := by decide +kernel
theorem dX0_find_17 : decode cX0_find 17 = .ok (.if_icmp .ge 42, 3) := by decide +kernel
theorem dX0_find_20 : decode cX0_find 20 = .ok (.aload_n 0, 1) := by decide +kernel
theorem dX0_find_21 : decode cX0_find 21 = .ok (.getfield 29, 3) := by decide +kernel
theorem dX0_find_24 : decode cX0_find 24 = .ok (.iload_n 3, 1) := by decide +kernel
theorem dX0_find_25 : decode cX0_find 25 = .ok (.aload_n 1, 1) := by decide +kernel
theorem dX0_find_26 : decode cX0_find 26 = .ok (.iload_n 3, 1) := by decide +kernel
theorem dX0_find_27 : decode cX0_find 27 = .ok (.aload_n 1, 1) := by decide +kernel
theorem dX0_find_28 : decode cX0_find 28 = .ok (.getfield 49, 3) := by decide +kernel
theorem dX0_find_31 : decode cX0_find 31 = .ok (.iload_n 3, 1) := by decide +kernel
theorem dX0_find_32 : decode cX0_find 32 = .ok (.iaload, 1) := by decide +kernel
theorem dX0_find_33 : decode cX0_find 33 = .ok (.invokevirtual 52, 3) := by decide +kernel
theorem dX0_find_36 : decode cX0_find 36 = .ok (.iastore, 1) := by decide +kernel
theorem dX0_find_37 : decode cX0_find 37 = .ok (.iload_n 2, 1) := by decide +kernel
theorem dX0_find_38 : decode cX0_find 38 = .ok (.aload_n 0, 1) := by decide +kernel
theorem dX0_find_39 : decode cX0_find 39 = .ok (.getfield 29, 3) := by decide +kernel
theorem dX0_find_42 : decode cX0_find 42 = .ok (.iload_n 3, 1) := by decide +kernel
theorem dX0_find_43 : decode cX0_find 43 = .ok (.iaload, 1) := by decide +kernel
theorem dX0_find_44 : decode cX0_find 44 = .ok (.aload_n 1, 1) := by decide +kernel
theorem dX0_find_45 : decode cX0_find 45 = .ok (.getfield 49, 3) := by decide +kernel
theorem dX0_find_48 : decode cX0_find 48 = .ok (.iload_n 3, 1) := by decide +kernel
theorem dX0_find_49 : decode cX0_find 49 = .ok (.iaload, 1) := by decide +kernel
theorem dX0_find_50 : decode cX0_find 50 = .ok (.isub, 1) := by decide +kernel
theorem dX0_find_51 : decode cX0_find 51 = .ok (.iadd, 1) := by decide +kernel
theorem dX0_find_52 : decode cX0_find 52 = .ok (.istore_n 2, 1) := by decide +kernel
theorem dX0_find_53 : decode cX0_find 53 = .ok (.iinc 3 1, 3) := by decide +kernel
theorem dX0_find_56 : decode cX0_find 56 = .ok (.goto (-44), 3) := by decide +kernel
theorem dX0_find_59 : decode cX0_find 59 = .ok (.aload_n 0, 1) := by decide +kernel
theorem dX0_find_60 : decode cX0_find 60 = .ok (.sipush 5761, 3) := by decide +kernel
theorem dX0_find_63 : decode cX0_find 63 = .ok (.putfield 15, 3) := by decide +kernel
theorem dX0_find_66 : decode cX0_find 66 = .ok (.aload_n 0, 1) := by decide +kernel
theorem dX0_find_67 : decode cX0_find 67 = .ok (.iconst 0, 1) := by decide +kernel
theorem dX0_find_68 : decode cX0_find 68 = .ok (.putfield 41, 3) := by decide +kernel
theorem dX0_find_71 : decode cX0_find 71 = .ok (.aload_n 0, 1) := by decide +kernel
theorem dX0_find_72 : decode cX0_find 72 = .ok (.aload_n 1, 1) := by decide +kernel
theorem dX0_find_73 : decode cX0_find 73 = .ok (.iconst 0, 1) := by decide +kernel
theorem dX0_find_74 : decode cX0_find 74 = .ok (.iconst 0, 1) := by decide +kernel
theorem dX0_find_75 : decode cX0_find 75 = .ok (.iload_n 2, 1) := by decide +kernel
theorem dX0_find_76 : decode cX0_find 76 = .ok (.invokestatic 56, 3) := by decide +kernel
theorem dX0_find_79 : decode cX0_find 79 = .ok (.aload_n 0, 1) := by decide +kernel
theorem dX0_find_80 : decode cX0_find 80 = .ok (.iconst 1, 1) := by decide +kernel
theorem dX0_find_81 : decode cX0_find 81 = .ok (.putfield 9, 3) := by decide +kernel
theorem dX0_find_84 : decode cX0_find 84 = .ok (.return_, 1) := by decide +kernel
theorem dX0_search_0 : decode cX0_search 0 = .ok (.iload_n 3, 1) := by decide +kernel
theorem dX0_search_1 : decode cX0_search 1 = .ok (.iload 4, 2) := by decide +kernel
theorem dX0_search_3 : decode cX0_search 3 = .ok (.iadd, 1) := by decide +kernel
theorem dX0_search_4 : decode cX0_search 4 = .ok (.aload_n 0, 1) := by decide +kernel
theorem dX0_search_5 : decode cX0_search 5 = .ok (.getfield 15, 3) := by decide +kernel
theorem dX0_search_8 : decode cX0_search 8 = .ok (.if_icmp .lt 4, 3) := by decide +kernel
theorem dX0_search_11 : decode cX0_search 11 = .ok (.return_, 1) := by decide +kernel
theorem dX0_search_12 : decode cX0_search 12 = .ok (.iload_n 2, 1) := by decide +kernel
theorem dX0_search_13 : decode cX0_search 13 = .ok (.aload_n 1, 1) := by decide +kernel
theorem dX0_search_14 : decode cX0_search 14 = .ok (.getfield 44, 3) := by decide +kernel
theorem dX0_search_17 : decode cX0_search 17 = .ok (.if_icmp .ge 9, 3) := by decide +kernel
theorem dX0_search_20 : decode cX0_search 20 = .ok (.iload_n 2, 1) := by decide +kernel
theorem dX0_search_21 : decode cX0_search 21 = .ok (.bipush 6, 2) := by decide +kernel
theorem dX0_search_23 : decode cX0_search 23 = .ok (.if_icmp .lt 13, 3) := by decide +kernel
theorem dX0_search_26 : decode cX0_search 26 = .ok (.aload_n 0, 1) := by decide +kernel
theorem dX0_search_27 : decode cX0_search 27 = .ok (.aload_n 1, 1) := by decide +kernel
theorem dX0_search_28 : decode cX0_search 28 = .ok (.getfield 44, 3) := by decide +kernel
theorem dX0_search_31 : decode cX0_search 31 = .ok (.iload_n 3, 1) := by decide +kernel
theorem dX0_search_32 : decode cX0_search 32 = .ok (.invokevirtual 60, 3) := by decide +kernel
theorem dX0_search_35 : decode cX0_search 35 = .ok (.return_, 1) := by decide +kernel
theorem dX0_search_36 : decode cX0_search 36 = .ok (.iconst 0, 1) := by decide +kernel
theorem dX0_search_37 : decode cX0_search 37 = .ok (.istore 5, 2) := by decide +kernel
theorem dX0_search_39 : decode cX0_search 39 = .ok (.iload 5, 2) := by decide +kernel
theorem dX0_search_41 : decode cX0_search 41 = .ok (.aload_n 1, 1) := by decide +kernel
theorem dX0_search_42 : decode cX0_search 42 = .ok (.getfield 44, 3) := by decide +kernel
theorem dX0_search_45 : decode cX0_search 45 = .ok (.if_icmp .ge 104, 3) := by decide +kernel
theorem dX0_search_48 : decode cX0_search 48 = .ok (.aload_n 0, 1) := by decide +kernel
theorem dX0_search_49 : decode cX0_search 49 = .ok (.getfield 41, 3) := by decide +kernel
theorem dX0_search_52 : decode cX0_search 52 = .ok (.iload 5, 2) := by decide +kernel
theorem dX0_search_54 : decode cX0_search 54 = .ok (.ishr, 1) := by decide +kernel
theorem dX0_search_55 : decode cX0_search 55 = .ok (.iconst 1, 1) := by decide +kernel
theorem dX0_search_56 : decode cX0_search 56 = .ok (.iand, 1) := by decide +kernel
theorem dX0_search_57 : decode cX0_search 57 = .ok (.ifCond .ne 86, 3) := by decide +kernel
theorem dX0_search_60 : decode cX0_search 60 = .ok (.aload_n 0, 1) := by decide +kernel
theorem dX0_search_61 : decode cX0_search 61 = .ok (.aload_n 1, 1) := by decide +kernel
theorem dX0_search_62 : decode cX0_search 62 = .ok (.iload 5, 2) := by decide +kernel
theorem dX0_search_64 : decode cX0_search 64 = .ok (.iload_n 2, 1) := by decide +kernel
theorem dX0_search_65 : decode cX0_search 65 = .ok (.invokevirtual 64, 3) := by decide +kernel
theorem dX0_search_68 : decode cX0_search 68 = .ok (.aload_n 0, 1) := by decide +kernel
theorem dX0_search_69 : decode cX0_search 69 = .ok (.getfield 32, 3) := by decide +kernel
theorem dX0_search_72 : decode cX0_search 72 = .ok (.iload_n 2, 1) := by decide +kernel
theorem dX0_search_73 : decode cX0_search 73 = .ok (.iload 5, 2) := by decide +kernel
theorem dX0_search_75 : decode cX0_search 75 = .ok (.iastore, 1) := by decide +kernel
theorem dX0_search_76 : decode cX0_search 76 = .ok (.aload_n 0, 1) := by decide +kernel
theorem dX0_search_77 : decode cX0_search 77 = .ok (.dup, 1) := by decide +kernel
theorem dX0_search_78 : decode cX0_search 78 = .ok (.getfield 41, 3) := by decide +kernel
theorem dX0_search_81 : decode cX0_search 81 = .ok (.iconst 1, 1) := by decide +kernel
theorem dX0_search_82 : decode cX0_search 82 = .ok (.iload 5, 2) := by decide +kernel
theorem dX0_search_84 : decode cX0_search 84 = .ok (.ishl, 1) := by decide +kernel
theorem dX0_search_85 : decode cX0_search 85 = .ok (.ior, 1) := by decide +kernel
theorem dX0_search_86 : decode cX0_search 86 = .ok (.putfield 41, 3) := by decide +kernel
theorem dX0_search_89 : decode cX0_search 89 = .ok (.aload_n 0, 1) := by decide +kernel
theorem dX0_search_90 : decode cX0_search 90 = .ok (.getfield 29, 3) := by decide +kernel
theorem dX0_search_93 : decode cX0_search 93 = .ok (.iload 5, 2) := by decide +kernel
theorem dX0_search_95 : decode cX0_search 95 = .ok (.iaload, 1) := by decide +kernel
theorem dX0_search_96 : decode cX0_search 96 = .ok (.aload_n 1, 1) := by decide +kernel
theorem dX0_search_97 : decode cX0_search 97 = .ok (.getfield 49, 3) := by decide +kernel
theorem dX0_search_100 : decode cX0_search 100 = .ok (.iload 5, 2) := by decide +kernel
theorem dX0_search_102 : decode cX0_search 102 = .ok (.iaload, 1) := by decide +kernel
theorem dX0_search_103 : decode cX0_search 103 = .ok (.isub, 1) := by decide +kernel
theorem dX0_search_104 : decode cX0_search 104 = .ok (.istore 6, 2) := by decide +kernel
theorem dX0_search_106 : decode cX0_search 106 = .ok (.aload_n 0, 1) := by decide +kernel
theorem dX0_search_107 : decode cX0_search 107 = .ok (.aload_n 1, 1) := by decide +kernel
theorem dX0_search_108 : decode cX0_search 108 = .ok (.iload_n 2, 1) := by decide +kernel
theorem dX0_search_109 : decode cX0_search 109 = .ok (.iconst 1, 1) := by decide +kernel
theorem dX0_search_110 : decode cX0_search 110 = .ok (.iadd, 1) := by decide +kernel
theorem dX0_search_111 : decode cX0_search 111 = .ok (.iload_n 3, 1) := by decide +kernel
theorem dX0_search_112 : decode cX0_search 112 = .ok (.aload_n 0, 1) := by decide +kernel
theorem dX0_search_113 : decode cX0_search 113 = .ok (.getfield 35, 3) := by decide +kernel
theorem dX0_search_116 : decode cX0_search 116 = .ok (.iload 5, 2) := by decide +kernel
theorem dX0_search_118 : decode cX0_search 118 = .ok (.iaload, 1) := by decide +kernel
theorem dX0_search_119 : decode cX0_search 119 = .ok (.iadd, 1) := by decide +kernel
theorem dX0_search_120 : decode cX0_search 120 = .ok (.iload 4, 2) := by decide +kernel
theorem dX0_search_122 : decode cX0_search 122 = .ok (.iload 6, 2) := by decide +kernel
theorem dX0_search_124 : decode cX0_search 124 = .ok (.isub, 1) := by decide +kernel
theorem dX0_search_125 : decode cX0_search 125 = .ok (.invokestatic 56, 3) := by decide +kernel
theorem dX0_search_128 : decode cX0_search 128 = .ok (.aload_n 0, 1) := by decide +kernel
theorem dX0_search_129 : decode cX0_search 129 = .ok (.dup, 1) := by decide +kernel
theorem dX0_search_130 : decode cX0_search 130 = .ok (.getfield 41, 3) := by decide +kernel
theorem dX0_search_133 : decode cX0_search 133 = .ok (.iconst 1, 1) := by decide +kernel
theorem dX0_search_134 : decode cX0_search 134 = .ok (.iload 5, 2) := by decide +kernel
theorem dX0_search_136 : decode cX0_search 136 = .ok (.ishl, 1) := by decide +kernel
theorem dX0_search_137 : decode cX0_search 137 = .ok (.iconst (-1), 1) := by decide +kernel
theorem dX0_search_138 : decode cX0_search 138 = .ok (.ixor, 1) := by decide +kernel
theorem dX0_search_139 : decode cX0_search 139 = .ok (.iand, 1) := by decide +kernel
theorem dX0_search_140 : decode cX0_search 140 = .ok (.putfield 41, 3) := by decide +kernel
theorem dX0_search_143 : decode cX0_search 143 = .ok (.iinc 5 1, 3) := by decide +kernel
theorem dX0_search_146 : decode cX0_search 146 = .ok (.goto (-107), 3) := by decide +kernel
theorem dX0_search_149 : decode cX0_search 149 = .ok (.return_, 1) := by decide +kernel
theorem dX0_keep_0 : decode cX0_keep 0 = .ok (.aload_n 0, 1) := by decide +kernel
theorem dX0_keep_1 : decode cX0_keep 1 = .ok (.iload_n 2, 1) := by decide +kernel
theorem dX0_keep_2 : decode cX0_keep 2 = .ok (.putfield 15, 3) := by decide +kernel
theorem dX0_keep_5 : decode cX0_keep 5 = .ok (.aload_n 0, 1) := by decide +kernel
theorem dX0_keep_6 : decode cX0_keep 6 = .ok (.getfield 32, 3) := by decide +kernel
theorem dX0_keep_9 : decode cX0_keep 9 = .ok (.iconst 0, 1) := by decide +kernel
theorem dX0_keep_10 : decode cX0_keep 10 = .ok (.aload_n 0, 1) := by decide +kernel
theorem dX0_keep_11 : decode cX0_keep 11 = .ok (.getfield 19, 3) := by decide +kernel
theorem dX0_keep_14 : decode cX0_keep 14 = .ok (.iconst 0, 1) := by decide +kernel
theorem dX0_keep_15 : decode cX0_keep 15 = .ok (.iload_n 1, 1) := by decide +kernel
theorem dX0_keep_16 : decode cX0_keep 16 = .ok (.invokestatic 68, 3) := by decide +kernel
theorem dX0_keep_19 : decode cX0_keep 19 = .ok (.aload_n 0, 1) := by decide +kernel
theorem dX0_keep_20 : decode cX0_keep 20 = .ok (.getfield 35, 3) := by decide +kernel
theorem dX0_keep_23 : decode cX0_keep 23 = .ok (.iconst 0, 1) := by decide +kernel
theorem dX0_keep_24 : decode cX0_keep 24 = .ok (.aload_n 0, 1) := by decide +kernel
theorem dX0_keep_25 : decode cX0_keep 25 = .ok (.getfield 23, 3) := by decide +kernel
theorem dX0_keep_28 : decode cX0_keep 28 = .ok (.iconst 0, 1) := by decide +kernel
theorem dX0_keep_29 : decode cX0_keep 29 = .ok (.iload_n 1, 1) := by decide +kernel
theorem dX0_keep_30 : decode cX0_keep 30 = .ok (.invokestatic 68, 3) := by decide +kernel
theorem dX0_keep_33 : decode cX0_keep 33 = .ok (.aload_n 0, 1) := by decide +kernel
theorem dX0_keep_34 : decode cX0_keep 34 = .ok (.getfield 38, 3) := by decide +kernel
theorem dX0_keep_37 : decode cX0_keep 37 = .ok (.iconst 0, 1) := by decide +kernel
theorem dX0_keep_38 : decode cX0_keep 38 = .ok (.aload_n 0, 1) := by decide +kernel
theorem dX0_keep_39 : decode cX0_keep 39 = .ok (.getfield 26, 3) := by decide +kernel
theorem dX0_keep_42 : decode cX0_keep 42 = .ok (.iconst 0, 1) := by decide +kernel
theorem dX0_keep_43 : decode cX0_keep 43 = .ok (.iload_n 1, 1) := by decide +kernel
theorem dX0_keep_44 : decode cX0_keep 44 = .ok (.invokestatic 68, 3) := by decide +kernel
theorem dX0_keep_47 : decode cX0_keep 47 = .ok (.return_, 1) := by decide +kernel
theorem dX0_place_0 : decode cX0_place 0 = .ok (.aload_n 1, 1) := by decide +kernel
theorem dX0_place_1 : decode cX0_place 1 = .ok (.getfield 49, 3) := by decide +kernel
theorem dX0_place_4 : decode cX0_place 4 = .ok (.iload_n 2, 1) := by decide +kernel
theorem dX0_place_5 : decode cX0_place 5 = .ok (.iaload, 1) := by decide +kernel
theorem dX0_place_6 : decode cX0_place 6 = .ok (.sipush 960, 3) := by decide +kernel
theorem dX0_place_9 : decode cX0_place 9 = .ok (.iadd, 1) := by decide +kernel
theorem dX0_place_10 : decode cX0_place 10 = .ok (.istore 4, 2) := by decide +kernel
theorem dX0_place_12 : decode cX0_place 12 = .ok (.aload_n 0, 1) := by decide +kernel
theorem dX0_place_13 : decode cX0_place 13 = .ok (.getfield 29, 3) := by decide +kernel
theorem dX0_place_16 : decode cX0_place 16 = .ok (.iload_n 2, 1) := by decide +kernel
theorem dX0_place_17 : decode cX0_place 17 = .ok (.iaload, 1) := by decide +kernel
theorem dX0_place_18 : decode cX0_place 18 = .ok (.istore 5, 2) := by decide +kernel
theorem dX0_place_20 : decode cX0_place 20 = .ok (.iconst 0, 1) := by decide +kernel
theorem dX0_place_21 : decode cX0_place 21 = .ok (.istore 6, 2) := by decide +kernel
theorem dX0_place_23 : decode cX0_place 23 = .ok (.iload 6, 2) := by decide +kernel
theorem dX0_place_25 : decode cX0_place 25 = .ok (.iload_n 3, 1) := by decide +kernel
theorem dX0_place_26 : decode cX0_place 26 = .ok (.if_icmp .gt 83, 3) := by decide +kernel
theorem dX0_place_29 : decode cX0_place 29 = .ok (.iload 5, 2) := by decide +kernel
theorem dX0_place_31 : decode cX0_place 31 = .ok (.iload 4, 2) := by decide +kernel
theorem dX0_place_33 : decode cX0_place 33 = .ok (.if_icmp .ge 76, 3) := by decide +kernel
theorem dX0_place_36 : decode cX0_place 36 = .ok (.aload_n 1, 1) := by decide +kernel
theorem dX0_place_37 : decode cX0_place 37 = .ok (.iload_n 2, 1) := by decide +kernel
theorem dX0_place_38 : decode cX0_place 38 = .ok (.iload 5, 2) := by decide +kernel
theorem dX0_place_40 : decode cX0_place 40 = .ok (.invokevirtual 74, 3) := by decide +kernel
theorem dX0_place_43 : decode cX0_place 43 = .ok (.istore 7, 2) := by decide +kernel
theorem dX0_place_45 : decode cX0_place 45 = .ok (.aload_n 0, 1) := by decide +kernel
theorem dX0_place_46 : decode cX0_place 46 = .ok (.aload_n 1, 1) := by decide +kernel
theorem dX0_place_47 : decode cX0_place 47 = .ok (.iload 7, 2) := by decide +kernel
theorem dX0_place_49 : decode cX0_place 49 = .ok (.iload 5, 2) := by decide +kernel
theorem dX0_place_51 : decode cX0_place 51 = .ok (.aload_n 1, 1) := by decide +kernel
theorem dX0_place_52 : decode cX0_place 52 = .ok (.getfield 77, 3) := by decide +kernel
theorem dX0_place_55 : decode cX0_place 55 = .ok (.iload_n 2, 1) := by decide +kernel
theorem dX0_place_56 : decode cX0_place 56 = .ok (.iaload, 1) := by decide +kernel
theorem dX0_place_57 : decode cX0_place 57 = .ok (.iload_n 3, 1) := by decide +kernel
theorem dX0_place_58 : decode cX0_place 58 = .ok (.invokevirtual 80, 3) := by decide +kernel
theorem dX0_place_61 : decode cX0_place 61 = .ok (.istore 8, 2) := by decide +kernel
theorem dX0_place_63 : decode cX0_place 63 = .ok (.iload 8, 2) := by decide +kernel
theorem dX0_place_65 : decode cX0_place 65 = .ok (.iload 5, 2) := by decide +kernel
theorem dX0_place_67 : decode cX0_place 67 = .ok (.if_icmp .ne 27, 3) := by decide +kernel
theorem dX0_place_70 : decode cX0_place 70 = .ok (.aload_n 0, 1) := by decide +kernel
theorem dX0_place_71 : decode cX0_place 71 = .ok (.getfield 35, 3) := by decide +kernel
theorem dX0_place_74 : decode cX0_place 74 = .ok (.iload_n 2, 1) := by decide +kernel
theorem dX0_place_75 : decode cX0_place 75 = .ok (.iload 5, 2) := by decide +kernel
theorem dX0_place_77 : decode cX0_place 77 = .ok (.aload_n 1, 1) := by decide +kernel
theorem dX0_place_78 : decode cX0_place 78 = .ok (.getfield 49, 3) := by decide +kernel
theorem dX0_place_81 : decode cX0_place 81 = .ok (.iload_n 2, 1) := by decide +kernel
theorem dX0_place_82 : decode cX0_place 82 = .ok (.iaload, 1) := by decide +kernel
theorem dX0_place_83 : decode cX0_place 83 = .ok (.isub, 1) := by decide +kernel
theorem dX0_place_84 : decode cX0_place 84 = .ok (.iastore, 1) := by decide +kernel
theorem dX0_place_85 : decode cX0_place 85 = .ok (.aload_n 0, 1) := by decide +kernel
theorem dX0_place_86 : decode cX0_place 86 = .ok (.getfield 38, 3) := by decide +kernel
theorem dX0_place_89 : decode cX0_place 89 = .ok (.iload_n 2, 1) := by decide +kernel
theorem dX0_place_90 : decode cX0_place 90 = .ok (.iload 7, 2) := by decide +kernel
theorem dX0_place_92 : decode cX0_place 92 = .ok (.iastore, 1) := by decide +kernel
theorem dX0_place_93 : decode cX0_place 93 = .ok (.return_, 1) := by decide +kernel
theorem dX0_place_94 : decode cX0_place 94 = .ok (.aload_n 1, 1) := by decide +kernel
theorem dX0_place_95 : decode cX0_place 95 = .ok (.iload_n 2, 1) := by decide +kernel
theorem dX0_place_96 : decode cX0_place 96 = .ok (.iload 8, 2) := by decide +kernel
theorem dX0_place_98 : decode cX0_place 98 = .ok (.invokevirtual 52, 3) := by decide +kernel
theorem dX0_place_101 : decode cX0_place 101 = .ok (.istore 5, 2) := by decide +kernel
theorem dX0_place_103 : decode cX0_place 103 = .ok (.iinc 6 1, 3) := by decide +kernel
theorem dX0_place_106 : decode cX0_place 106 = .ok (.goto (-83), 3) := by decide +kernel
theorem dX0_place_109 : decode cX0_place 109 = .ok (.aload_n 0, 1) := by decide +kernel
theorem dX0_place_110 : decode cX0_place 110 = .ok (.getfield 35, 3) := by decide +kernel
theorem dX0_place_113 : decode cX0_place 113 = .ok (.iload_n 2, 1) := by decide +kernel
theorem dX0_place_114 : decode cX0_place 114 = .ok (.sipush 960, 3) := by decide +kernel
theorem dX0_place_117 : decode cX0_place 117 = .ok (.iastore, 1) := by decide +kernel
theorem dX0_place_118 : decode cX0_place 118 = .ok (.aload_n 0, 1) := by decide +kernel
theorem dX0_place_119 : decode cX0_place 119 = .ok (.getfield 38, 3) := by decide +kernel
theorem dX0_place_122 : decode cX0_place 122 = .ok (.iload_n 2, 1) := by decide +kernel
theorem dX0_place_123 : decode cX0_place 123 = .ok (.iconst (-1), 1) := by decide +kernel
theorem dX0_place_124 : decode cX0_place 124 = .ok (.iastore, 1) := by decide +kernel
theorem dX0_place_125 : decode cX0_place 125 = .ok (.return_, 1) := by decide +kernel
theorem dX0_freeFrom_0 : decode cX0_freeFrom 0 = .ok (.iload_n 3, 1) := by decide +kernel
theorem dX0_freeFrom_1 : decode cX0_freeFrom 1 = .ok (.istore 6, 2) := by decide +kernel
theorem dX0_freeFrom_3 : decode cX0_freeFrom 3 = .ok (.iconst 0, 1) := by decide +kernel
theorem dX0_freeFrom_4 : decode cX0_freeFrom 4 = .ok (.istore 7, 2) := by decide +kernel
theorem dX0_freeFrom_6 : decode cX0_freeFrom 6 = .ok (.iload 7, 2) := by decide +kernel
theorem dX0_freeFrom_8 : decode cX0_freeFrom 8 = .ok (.iload 5, 2) := by decide +kernel
theorem dX0_freeFrom_10 : decode cX0_freeFrom 10 = .ok (.if_icmp .ge 82, 3) := by decide +kernel
theorem dX0_freeFrom_13 : decode cX0_freeFrom 13 = .ok (.aload_n 0, 1) := by decide +kernel
theorem dX0_freeFrom_14 : decode cX0_freeFrom 14 = .ok (.getfield 32, 3) := by decide +kernel
theorem dX0_freeFrom_17 : decode cX0_freeFrom 17 = .ok (.iload 7, 2) := by decide +kernel
theorem dX0_freeFrom_19 : decode cX0_freeFrom 19 = .ok (.iaload, 1) := by decide +kernel
theorem dX0_freeFrom_20 : decode cX0_freeFrom 20 = .ok (.istore 8, 2) := by decide +kernel
theorem dX0_freeFrom_22 : decode cX0_freeFrom 22 = .ok (.aload_n 1, 1) := by decide +kernel
theorem dX0_freeFrom_23 : decode cX0_freeFrom 23 = .ok (.getfield 49, 3) := by decide +kernel
theorem dX0_freeFrom_26 : decode cX0_freeFrom 26 = .ok (.iload 8, 2) := by decide +kernel
theorem dX0_freeFrom_28 : decode cX0_freeFrom 28 = .ok (.iaload, 1) := by decide +kernel
theorem dX0_freeFrom_29 : decode cX0_freeFrom 29 = .ok (.aload_n 0, 1) := by decide +kernel
theorem dX0_freeFrom_30 : decode cX0_freeFrom 30 = .ok (.getfield 35, 3) := by decide +kernel
theorem dX0_freeFrom_33 : decode cX0_freeFrom 33 = .ok (.iload 8, 2) := by decide +kernel
theorem dX0_freeFrom_35 : decode cX0_freeFrom 35 = .ok (.iaload, 1) := by decide +kernel
theorem dX0_freeFrom_36 : decode cX0_freeFrom 36 = .ok (.iadd, 1) := by decide +kernel
theorem dX0_freeFrom_37 : decode cX0_freeFrom 37 = .ok (.istore 9, 2) := by decide +kernel
theorem dX0_freeFrom_39 : decode cX0_freeFrom 39 = .ok (.iload 9, 2) := by decide +kernel
theorem dX0_freeFrom_41 : decode cX0_freeFrom 41 = .ok (.aload_n 1, 1) := by decide +kernel
theorem dX0_freeFrom_42 : decode cX0_freeFrom 42 = .ok (.getfield 77, 3) := by decide +kernel
theorem dX0_freeFrom_45 : decode cX0_freeFrom 45 = .ok (.iload 8, 2) := by decide +kernel
theorem dX0_freeFrom_47 : decode cX0_freeFrom 47 = .ok (.iaload, 1) := by decide +kernel
theorem dX0_freeFrom_48 : decode cX0_freeFrom 48 = .ok (.iadd, 1) := by decide +kernel
theorem dX0_freeFrom_49 : decode cX0_freeFrom 49 = .ok (.istore 10, 2) := by decide +kernel
theorem dX0_freeFrom_51 : decode cX0_freeFrom 51 = .ok (.aload_n 0, 1) := by decide +kernel
theorem dX0_freeFrom_52 : decode cX0_freeFrom 52 = .ok (.getfield 38, 3) := by decide +kernel
theorem dX0_freeFrom_55 : decode cX0_freeFrom 55 = .ok (.iload 8, 2) := by decide +kernel
theorem dX0_freeFrom_57 : decode cX0_freeFrom 57 = .ok (.iaload, 1) := by decide +kernel
theorem dX0_freeFrom_58 : decode cX0_freeFrom 58 = .ok (.iload_n 2, 1) := by decide +kernel
theorem dX0_freeFrom_59 : decode cX0_freeFrom 59 = .ok (.if_icmp .ne 27, 3) := by decide +kernel
theorem dX0_freeFrom_62 : decode cX0_freeFrom 62 = .ok (.iload 9, 2) := by decide +kernel
theorem dX0_freeFrom_64 : decode cX0_freeFrom 64 = .ok (.iload_n 3, 1) := by decide +kernel
theorem dX0_freeFrom_65 : decode cX0_freeFrom 65 = .ok (.iload 4, 2) := by decide +kernel
theorem dX0_freeFrom_67 : decode cX0_freeFrom 67 = .ok (.iadd, 1) := by decide +kernel
theorem dX0_freeFrom_68 : decode cX0_freeFrom 68 = .ok (.if_icmp .ge 18, 3) := by decide +kernel
theorem dX0_freeFrom_71 : decode cX0_freeFrom 71 = .ok (.iload 10, 2) := by decide +kernel
theorem dX0_freeFrom_73 : decode cX0_freeFrom 73 = .ok (.iload_n 3, 1) := by decide +kernel
theorem dX0_freeFrom_74 : decode cX0_freeFrom 74 = .ok (.if_icmp .le 12, 3) := by decide +kernel
theorem dX0_freeFrom_77 : decode cX0_freeFrom 77 = .ok (.iload 6, 2) := by decide +kernel
theorem dX0_freeFrom_79 : decode cX0_freeFrom 79 = .ok (.iload 10, 2) := by decide +kernel
theorem dX0_freeFrom_81 : decode cX0_freeFrom 81 = .ok (.invokestatic 84, 3) := by decide +kernel
theorem dX0_freeFrom_84 : decode cX0_freeFrom 84 = .ok (.istore 6, 2) := by decide +kernel
theorem dX0_freeFrom_86 : decode cX0_freeFrom 86 = .ok (.iinc 7 1, 3) := by decide +kernel
theorem dX0_freeFrom_89 : decode cX0_freeFrom 89 = .ok (.goto (-83), 3) := by decide +kernel
theorem dX0_freeFrom_92 : decode cX0_freeFrom 92 = .ok (.iload 6, 2) := by decide +kernel
theorem dX0_freeFrom_94 : decode cX0_freeFrom 94 = .ok (.ireturn, 1) := by decide +kernel
theorem dX1_init_0 : decode cX1_init 0 = .ok (.aload_n 0, 1) := by decide +kernel
theorem dX1_init_1 : decode cX1_init 1 = .ok (.invokespecial 3, 3) := by decide +kernel
theorem dX1_init_4 : decode cX1_init 4 = .ok (.aload_n 0, 1) := by decide +kernel
theorem dX1_init_5 : decode cX1_init 5 = .ok (.new 9, 3) := by decide +kernel
theorem dX1_init_8 : decode cX1_init 8 = .ok (.dup, 1) := by decide +kernel
theorem dX1_init_9 : decode cX1_init 9 = .ok (.invokespecial 11, 3) := by decide +kernel
theorem dX1_init_12 : decode cX1_init 12 = .ok (.putfield 12, 3) := by decide +kernel
theorem dX1_init_15 : decode cX1_init 15 = .ok (.aload_n 0, 1) := by decide +kernel
theorem dX1_init_16 : decode cX1_init 16 = .ok (.iconst 0, 1) := by decide +kernel
theorem dX1_init_17 : decode cX1_init 17 = .ok (.putfield 18, 3) := by decide +kernel
theorem dX1_init_20 : decode cX1_init 20 = .ok (.aload_n 0, 1) := by decide +kernel
theorem dX1_init_21 : decode cX1_init 21 = .ok (.iconst 3, 1) := by decide +kernel
theorem dX1_init_22 : decode cX1_init 22 = .ok (.putfield 22, 3) := by decide +kernel
theorem dX1_init_25 : decode cX1_init 25 = .ok (.aload_n 0, 1) := by decide +kernel
theorem dX1_init_26 : decode cX1_init 26 = .ok (.iconst 0, 1) := by decide +kernel
theorem dX1_init_27 : decode cX1_init 27 = .ok (.putfield 25, 3) := by decide +kernel
theorem dX1_init_30 : decode cX1_init 30 = .ok (.aload_n 0, 1) := by decide +kernel
theorem dX1_init_31 : decode cX1_init 31 = .ok (.bipush 8, 2) := by decide +kernel
theorem dX1_init_33 : decode cX1_init 33 = .ok (.newarray .int, 2) := by decide +kernel
theorem dX1_init_35 : decode cX1_init 35 = .ok (.putfield 28, 3) := by decide +kernel
theorem dX1_init_38 : decode cX1_init 38 = .ok (.aload_n 0, 1) := by decide +kernel
theorem dX1_init_39 : decode cX1_init 39 = .ok (.bipush 8, 2) := by decide +kernel
theorem dX1_init_41 : decode cX1_init 41 = .ok (.newarray .int, 2) := by decide +kernel
theorem dX1_init_43 : decode cX1_init 43 = .ok (.putfield 32, 3) := by decide +kernel
theorem dX1_init_46 : decode cX1_init 46 = .ok (.aload_n 0, 1) := by decide +kernel
theorem dX1_init_47 : decode cX1_init 47 = .ok (.iconst 0, 1) := by decide +kernel
theorem dX1_init_48 : decode cX1_init 48 = .ok (.putfield 35, 3) := by decide +kernel
theorem dX1_init_51 : decode cX1_init 51 = .ok (.aload_n 0, 1) := by decide +kernel
theorem dX1_init_52 : decode cX1_init 52 = .ok (.bipush 6, 2) := by decide +kernel
theorem dX1_init_54 : decode cX1_init 54 = .ok (.newarray .int, 2) := by decide +kernel
theorem dX1_init_56 : decode cX1_init 56 = .ok (.putfield 38, 3) := by decide +kernel
theorem dX1_init_59 : decode cX1_init 59 = .ok (.aload_n 0, 1) := by decide +kernel
theorem dX1_init_60 : decode cX1_init 60 = .ok (.bipush 6, 2) := by decide +kernel
theorem dX1_init_62 : decode cX1_init 62 = .ok (.newarray .int, 2) := by decide +kernel
theorem dX1_init_64 : decode cX1_init 64 = .ok (.putfield 41, 3) := by decide +kernel
theorem dX1_init_67 : decode cX1_init 67 = .ok (.aload_n 0, 1) := by decide +kernel
theorem dX1_init_68 : decode cX1_init 68 = .ok (.bipush 6, 2) := by decide +kernel
theorem dX1_init_70 : decode cX1_init 70 = .ok (.newarray .int, 2) := by decide +kernel
theorem dX1_init_72 : decode cX1_init 72 = .ok (.putfield 44, 3) := by decide +kernel
theorem dX1_init_75 : decode cX1_init 75 = .ok (.aload_n 0, 1) := by decide +kernel
theorem dX1_init_76 : decode cX1_init 76 = .ok (.bipush 6, 2) := by decide +kernel
theorem dX1_init_78 : decode cX1_init 78 = .ok (.newarray .int, 2) := by decide +kernel
theorem dX1_init_80 : decode cX1_init 80 = .ok (.putfield 47, 3) := by decide +kernel
theorem dX1_init_83 : decode cX1_init 83 = .ok (.return_, 1) := by decide +kernel
theorem dX1_become_0 : decode cX1_become 0 = .ok (.aload_n 0, 1) := by decide +kernel
theorem dX1_become_1 : decode cX1_become 1 = .ok (.getfield 12, 3) := by decide +kernel
theorem dX1_become_4 : decode cX1_become 4 = .ok (.aload_n 1, 1) := by decide +kernel
theorem dX1_become_5 : decode cX1_become 5 = .ok (.getfield 12, 3) := by decide +kernel
theorem dX1_become_8 : decode cX1_become 8 = .ok (.invokevirtual 50, 3) := by decide +kernel
theorem dX1_become_11 : decode cX1_become 11 = .ok (.aload_n 0, 1) := by decide +kernel
theorem dX1_become_12 : decode cX1_become 12 = .ok (.aload_n 1, 1) := by decide +kernel
theorem dX1_become_13 : decode cX1_become 13 = .ok (.getfield 18, 3) := by decide +kernel
theorem dX1_become_16 : decode cX1_become 16 = .ok (.putfield 18, 3) := by decide +kernel
theorem dX1_become_19 : decode cX1_become 19 = .ok (.aload_n 0, 1) := by decide +kernel
theorem dX1_become_20 : decode cX1_become 20 = .ok (.aload_n 1, 1) := by decide +kernel
theorem dX1_become_21 : decode cX1_become 21 = .ok (.getfield 22, 3) := by decide +kernel
theorem dX1_become_24 : decode cX1_become 24 = .ok (.putfield 22, 3) := by decide +kernel
theorem dX1_become_27 : decode cX1_become 27 = .ok (.aload_n 0, 1) := by decide +kernel
theorem dX1_become_28 : decode cX1_become 28 = .ok (.aload_n 1, 1) := by decide +kernel
theorem dX1_become_29 : decode cX1_become 29 = .ok (.getfield 25, 3) := by decide +kernel
theorem dX1_become_32 : decode cX1_become 32 = .ok (.putfield 25, 3) := by decide +kernel
theorem dX1_become_35 : decode cX1_become 35 = .ok (.aload_n 1, 1) := by decide +kernel
theorem dX1_become_36 : decode cX1_become 36 = .ok (.getfield 28, 3) := by decide +kernel
theorem dX1_become_39 : decode cX1_become 39 = .ok (.iconst 0, 1) := by decide +kernel
theorem dX1_become_40 : decode cX1_become 40 = .ok (.aload_n 0, 1) := by decide +kernel
theorem dX1_become_41 : decode cX1_become 41 = .ok (.getfield 28, 3) := by decide +kernel
theorem dX1_become_44 : decode cX1_become 44 = .ok (.iconst 0, 1) := by decide +kernel
theorem dX1_become_45 : decode cX1_become 45 = .ok (.bipush 8, 2) := by decide +kernel
theorem dX1_become_47 : decode cX1_become 47 = .ok (.invokestatic 54, 3) := by decide +kernel
theorem dX1_become_50 : decode cX1_become 50 = .ok (.aload_n 1, 1) := by decide +kernel
theorem dX1_become_51 : decode cX1_become 51 = .ok (.getfield 32, 3) := by decide +kernel
theorem dX1_become_54 : decode cX1_become 54 = .ok (.iconst 0, 1) := by decide +kernel
theorem dX1_become_55 : decode cX1_become 55 = .ok (.aload_n 0, 1) := by decide +kernel
theorem dX1_become_56 : decode cX1_become 56 = .ok (.getfield 32, 3) := by decide +kernel
theorem dX1_become_59 : decode cX1_become 59 = .ok (.iconst 0, 1) := by decide +kernel
theorem dX1_become_60 : decode cX1_become 60 = .ok (.bipush 8, 2) := by decide +kernel
theorem dX1_become_62 : decode cX1_become 62 = .ok (.invokestatic 54, 3) := by decide +kernel
theorem dX1_become_65 : decode cX1_become 65 = .ok (.aload_n 0, 1) := by decide +kernel
theorem dX1_become_66 : decode cX1_become 66 = .ok (.aload_n 1, 1) := by decide +kernel
theorem dX1_become_67 : decode cX1_become 67 = .ok (.getfield 35, 3) := by decide +kernel
theorem dX1_become_70 : decode cX1_become 70 = .ok (.putfield 35, 3) := by decide +kernel
theorem dX1_become_73 : decode cX1_become 73 = .ok (.aload_n 1, 1) := by decide +kernel
theorem dX1_become_74 : decode cX1_become 74 = .ok (.getfield 38, 3) := by decide +kernel
theorem dX1_become_77 : decode cX1_become 77 = .ok (.iconst 0, 1) := by decide +kernel
theorem dX1_become_78 : decode cX1_become 78 = .ok (.aload_n 0, 1) := by decide +kernel
theorem dX1_become_79 : decode cX1_become 79 = .ok (.getfield 38, 3) := by decide +kernel
theorem dX1_become_82 : decode cX1_become 82 = .ok (.iconst 0, 1) := by decide +kernel
theorem dX1_become_83 : decode cX1_become 83 = .ok (.bipush 6, 2) := by decide +kernel
theorem dX1_become_85 : decode cX1_become 85 = .ok (.invokestatic 54, 3) := by decide +kernel
theorem dX1_become_88 : decode cX1_become 88 = .ok (.aload_n 1, 1) := by decide +kernel
theorem dX1_become_89 : decode cX1_become 89 = .ok (.getfield 41, 3) := by decide +kernel
theorem dX1_become_92 : decode cX1_become 92 = .ok (.iconst 0, 1) := by decide +kernel
theorem dX1_become_93 : decode cX1_become 93 = .ok (.aload_n 0, 1) := by decide +kernel
theorem dX1_become_94 : decode cX1_become 94 = .ok (.getfield 41, 3) := by decide +kernel
theorem dX1_become_97 : decode cX1_become 97 = .ok (.iconst 0, 1) := by decide +kernel
theorem dX1_become_98 : decode cX1_become 98 = .ok (.bipush 6, 2) := by decide +kernel
theorem dX1_become_100 : decode cX1_become 100 = .ok (.invokestatic 54, 3) := by decide +kernel
theorem dX1_become_103 : decode cX1_become 103 = .ok (.aload_n 1, 1) := by decide +kernel
theorem dX1_become_104 : decode cX1_become 104 = .ok (.getfield 44, 3) := by decide +kernel
theorem dX1_become_107 : decode cX1_become 107 = .ok (.iconst 0, 1) := by decide +kernel
theorem dX1_become_108 : decode cX1_become 108 = .ok (.aload_n 0, 1) := by decide +kernel
theorem dX1_become_109 : decode cX1_become 109 = .ok (.getfield 44, 3) := by decide +kernel
theorem dX1_become_112 : decode cX1_become 112 = .ok (.iconst 0, 1) := by decide +kernel
theorem dX1_become_113 : decode cX1_become 113 = .ok (.bipush 6, 2) := by decide +kernel
theorem dX1_become_115 : decode cX1_become 115 = .ok (.invokestatic 54, 3) := by decide +kernel
theorem dX1_become_118 : decode cX1_become 118 = .ok (.aload_n 1, 1) := by decide +kernel
theorem dX1_become_119 : decode cX1_become 119 = .ok (.getfield 47, 3) := by decide +kernel
theorem dX1_become_122 : decode cX1_become 122 = .ok (.iconst 0, 1) := by decide +kernel
theorem dX1_become_123 : decode cX1_become 123 = .ok (.aload_n 0, 1) := by decide +kernel
theorem dX1_become_124 : decode cX1_become 124 = .ok (.getfield 47, 3) := by decide +kernel
theorem dX1_become_127 : decode cX1_become 127 = .ok (.iconst 0, 1) := by decide +kernel
theorem dX1_become_128 : decode cX1_become 128 = .ok (.bipush 6, 2) := by decide +kernel
theorem dX1_become_130 : decode cX1_become 130 = .ok (.invokestatic 54, 3) := by decide +kernel
theorem dX1_become_133 : decode cX1_become 133 = .ok (.return_, 1) := by decide +kernel
theorem dX1_isKind_0 : decode cX1_isKind 0 = .ok (.iload_n 0, 1) := by decide +kernel
theorem dX1_isKind_1 : decode cX1_isKind 1 = .ok (.ifCond .lt 13, 3) := by decide +kernel
theorem dX1_isKind_4 : decode cX1_isKind 4 = .ok (.iload_n 0, 1) := by decide +kernel
theorem dX1_isKind_5 : decode cX1_isKind 5 = .ok (.bipush 6, 2) := by decide +kernel
theorem dX1_isKind_7 : decode cX1_isKind 7 = .ok (.if_icmp .ge 7, 3) := by decide +kernel
theorem dX1_isKind_10 : decode cX1_isKind 10 = .ok (.iconst 1, 1) := by decide +kernel
theorem dX1_isKind_11 : decode cX1_isKind 11 = .ok (.goto 4, 3) := by decide +kernel
theorem dX1_isKind_14 : decode cX1_isKind 14 = .ok (.iconst 0, 1) := by decide +kernel
theorem dX1_isKind_15 : decode cX1_isKind 15 = .ok (.ireturn, 1) := by decide +kernel
theorem dX1_isUnder_0 : decode cX1_isUnder 0 = .ok (.iload_n 0, 1) := by decide +kernel
theorem dX1_isUnder_1 : decode cX1_isUnder 1 = .ok (.istore_n 2, 1) := by decide +kernel
theorem dX1_isUnder_2 : decode cX1_isUnder 2 = .ok (.iconst 0, 1) := by decide +kernel
theorem dX1_isUnder_3 : decode cX1_isUnder 3 = .ok (.istore_n 3, 1) := by decide +kernel
theorem dX1_isUnder_4 : decode cX1_isUnder 4 = .ok (.iload_n 3, 1) := by decide +kernel
theorem dX1_isUnder_5 : decode cX1_isUnder 5 = .ok (.bipush 6, 2) := by decide +kernel
theorem dX1_isUnder_7 : decode cX1_isUnder 7 = .ok (.if_icmp .ge 29, 3) := by decide +kernel
theorem dX1_isUnder_10 : decode cX1_isUnder 10 = .ok (.iload_n 2, 1) := by decide +kernel
theorem dX1_isUnder_11 : decode cX1_isUnder 11 = .ok (.invokestatic 60, 3) := by decide +kernel
theorem dX1_isUnder_14 : decode cX1_isUnder 14 = .ok (.ifCond .eq 22, 3) := by decide +kernel
theorem dX1_isUnder_17 : decode cX1_isUnder 17 = .ok (.iload_n 2, 1) := by decide +kernel
theorem dX1_isUnder_18 : decode cX1_isUnder 18 = .ok (.iload_n 1, 1) := by decide +kernel
theorem dX1_isUnder_19 : decode cX1_isUnder 19 = .ok (.if_icmp .ne 5, 3) := by decide +kernel
theorem dX1_isUnder_22 : decode cX1_isUnder 22 = .ok (.iconst 1, 1) := by decide +kernel
theorem dX1_isUnder_23 : decode cX1_isUnder 23 = .ok (.ireturn, 1) := by decide +kernel
theorem dX1_isUnder_24 : decode cX1_isUnder 24 = .ok (.getstatic 64, 3) := by decide +kernel
theorem dX1_isUnder_27 : decode cX1_isUnder 27 = .ok (.iload_n 2, 1) := by decide +kernel
theorem dX1_isUnder_28 : decode cX1_isUnder 28 = .ok (.iaload, 1) := by decide +kernel
theorem dX1_isUnder_29 : decode cX1_isUnder 29 = .ok (.istore_n 2, 1) := by decide +kernel
theorem dX1_isUnder_30 : decode cX1_isUnder 30 = .ok (.iinc 3 1, 3) := by decide +kernel
theorem dX1_isUnder_33 : decode cX1_isUnder 33 = .ok (.goto (-29), 3) := by decide +kernel
theorem dX1_isUnder_36 : decode cX1_isUnder 36 = .ok (.iconst 0, 1) := by decide +kernel
theorem dX1_isUnder_37 : decode cX1_isUnder 37 = .ok (.ireturn, 1) := by decide +kernel
theorem dX1_addHouse_0 : decode cX1_addHouse 0 = .ok (.aload_n 0, 1) := by decide +kernel
theorem dX1_addHouse_1 : decode cX1_addHouse 1 = .ok (.getfield 25, 3) := by decide +kernel
theorem dX1_addHouse_4 : decode cX1_addHouse 4 = .ok (.bipush 8, 2) := by decide +kernel
theorem dX1_addHouse_6 : decode cX1_addHouse 6 = .ok (.if_icmp .lt 6, 3) := by decide +kernel
theorem dX1_addHouse_9 : decode cX1_addHouse 9 = .ok (.ldc 67, 2) := by decide +kernel
theorem dX1_addHouse_11 : decode cX1_addHouse 11 = .ok (.ireturn, 1) := by decide +kernel
theorem dX1_addHouse_12 : decode cX1_addHouse 12 = .ok (.aload_n 0, 1) := by decide +kernel
theorem dX1_addHouse_13 : decode cX1_addHouse 13 = .ok (.getfield 28, 3) := by decide +kernel
theorem dX1_addHouse_16 : decode cX1_addHouse 16 = .ok (.aload_n 0, 1) := by decide +kernel
theorem dX1_addHouse_17 : decode cX1_addHouse 17 = .ok (.getfield 25, 3) := by decide +kernel
theorem dX1_addHouse_20 : decode cX1_addHouse 20 = .ok (.iload_n 1, 1) := by decide +kernel
theorem dX1_addHouse_21 : decode cX1_addHouse 21 = .ok (.iastore, 1) := by decide +kernel
theorem dX1_addHouse_22 : decode cX1_addHouse 22 = .ok (.aload_n 0, 1) := by decide +kernel
theorem dX1_addHouse_23 : decode cX1_addHouse 23 = .ok (.getfield 32, 3) := by decide +kernel
theorem dX1_addHouse_26 : decode cX1_addHouse 26 = .ok (.aload_n 0, 1) := by decide +kernel
theorem dX1_addHouse_27 : decode cX1_addHouse 27 = .ok (.getfield 25, 3) := by decide +kernel
theorem dX1_addHouse_30 : decode cX1_addHouse 30 = .ok (.iload_n 2, 1) := by decide +kernel
theorem dX1_addHouse_31 : decode cX1_addHouse 31 = .ok (.iastore, 1) := by decide +kernel
theorem dX1_addHouse_32 : decode cX1_addHouse 32 = .ok (.aload_n 0, 1) := by decide +kernel
theorem dX1_addHouse_33 : decode cX1_addHouse 33 = .ok (.dup, 1) := by decide +kernel
theorem dX1_addHouse_34 : decode cX1_addHouse 34 = .ok (.getfield 25, 3) := by decide +kernel
theorem dX1_addHouse_37 : decode cX1_addHouse 37 = .ok (.dup_x1, 1) := by decide +kernel
theorem dX1_addHouse_38 : decode cX1_addHouse 38 = .ok (.iconst 1, 1) := by decide +kernel
theorem dX1_addHouse_39 : decode cX1_addHouse 39 = .ok (.iadd, 1) := by decide +kernel
theorem dX1_addHouse_40 : decode cX1_addHouse 40 = .ok (.putfield 25, 3) := by decide +kernel
theorem dX1_addHouse_43 : decode cX1_addHouse 43 = .ok (.ireturn, 1) := by decide +kernel
theorem dX1_addShip_0 : decode cX1_addShip 0 = .ok (.aload_n 0, 1) := by decide +kernel
theorem dX1_addShip_1 : decode cX1_addShip 1 = .ok (.getfield 35, 3) := by decide +kernel
theorem dX1_addShip_4 : decode cX1_addShip 4 = .ok (.bipush 6, 2) := by decide +kernel
theorem dX1_addShip_6 : decode cX1_addShip 6 = .ok (.if_icmp .lt 6, 3) := by decide +kernel
theorem dX1_addShip_9 : decode cX1_addShip 9 = .ok (.ldc 67, 2) := by decide +kernel
theorem dX1_addShip_11 : decode cX1_addShip 11 = .ok (.ireturn, 1) := by decide +kernel
theorem dX1_addShip_12 : decode cX1_addShip 12 = .ok (.aload_n 0, 1) := by decide +kernel
theorem dX1_addShip_13 : decode cX1_addShip 13 = .ok (.getfield 38, 3) := by decide +kernel
theorem dX1_addShip_16 : decode cX1_addShip 16 = .ok (.aload_n 0, 1) := by decide +kernel
theorem dX1_addShip_17 : decode cX1_addShip 17 = .ok (.getfield 35, 3) := by decide +kernel
theorem dX1_addShip_20 : decode cX1_addShip 20 = .ok (.iload_n 1, 1) := by decide +kernel
theorem dX1_addShip_21 : decode cX1_addShip 21 = .ok (.iastore, 1) := by decide +kernel
theorem dX1_addShip_22 : decode cX1_addShip 22 = .ok (.aload_n 0, 1) := by decide +kernel
theorem dX1_addShip_23 : decode cX1_addShip 23 = .ok (.getfield 41, 3) := by decide +kernel
theorem dX1_addShip_26 : decode cX1_addShip 26 = .ok (.aload_n 0, 1) := by decide +kernel
theorem dX1_addShip_27 : decode cX1_addShip 27 = .ok (.getfield 35, 3) := by decide +kernel
theorem dX1_addShip_30 : decode cX1_addShip 30 = .ok (.iload_n 2, 1) := by decide +kernel
theorem dX1_addShip_31 : decode cX1_addShip 31 = .ok (.iastore, 1) := by decide +kernel
theorem dX1_addShip_32 : decode cX1_addShip 32 = .ok (.aload_n 0, 1) := by decide +kernel
theorem dX1_addShip_33 : decode cX1_addShip 33 = .ok (.getfield 44, 3) := by decide +kernel
theorem dX1_addShip_36 : decode cX1_addShip 36 = .ok (.aload_n 0, 1) := by decide +kernel
theorem dX1_addShip_37 : decode cX1_addShip 37 = .ok (.getfield 35, 3) := by decide +kernel
theorem dX1_addShip_40 : decode cX1_addShip 40 = .ok (.iload_n 3, 1) := by decide +kernel
theorem dX1_addShip_41 : decode cX1_addShip 41 = .ok (.iastore, 1) := by decide +kernel
theorem dX1_addShip_42 : decode cX1_addShip 42 = .ok (.aload_n 0, 1) := by decide +kernel
theorem dX1_addShip_43 : decode cX1_addShip 43 = .ok (.getfield 47, 3) := by decide +kernel
theorem dX1_addShip_46 : decode cX1_addShip 46 = .ok (.aload_n 0, 1) := by decide +kernel
theorem dX1_addShip_47 : decode cX1_addShip 47 = .ok (.getfield 35, 3) := by decide +kernel
theorem dX1_addShip_50 : decode cX1_addShip 50 = .ok (.iload 4, 2) := by decide +kernel
theorem dX1_addShip_52 : decode cX1_addShip 52 = .ok (.iastore, 1) := by decide +kernel
theorem dX1_addShip_53 : decode cX1_addShip 53 = .ok (.aload_n 0, 1) := by decide +kernel
theorem dX1_addShip_54 : decode cX1_addShip 54 = .ok (.dup, 1) := by decide +kernel
theorem dX1_addShip_55 : decode cX1_addShip 55 = .ok (.getfield 35, 3) := by decide +kernel
theorem dX1_addShip_58 : decode cX1_addShip 58 = .ok (.dup_x1, 1) := by decide +kernel
theorem dX1_addShip_59 : decode cX1_addShip 59 = .ok (.iconst 1, 1) := by decide +kernel
theorem dX1_addShip_60 : decode cX1_addShip 60 = .ok (.iadd, 1) := by decide +kernel
theorem dX1_addShip_61 : decode cX1_addShip 61 = .ok (.putfield 35, 3) := by decide +kernel
theorem dX1_addShip_64 : decode cX1_addShip 64 = .ok (.ireturn, 1) := by decide +kernel
theorem dX1_sun_0 : decode cX1_sun 0 = .ok (.iload_n 0, 1) := by decide +kernel
theorem dX1_sun_1 : decode cX1_sun 1 = .ok (.tableswitch 81 1 3 #[27, 45, 63], 27) := by decide +kernel
theorem dX1_sun_28 : decode cX1_sun 28 = .ok (.iload_n 1, 1) := by decide +kernel
theorem dX1_sun_29 : decode cX1_sun 29 = .ok (.bipush 6, 2) := by decide +kernel
theorem dX1_sun_31 : decode cX1_sun 31 = .ok (.if_icmp .lt 13, 3) := by decide +kernel
theorem dX1_sun_34 : decode cX1_sun 34 = .ok (.iload_n 1, 1) := by decide +kernel
theorem dX1_sun_35 : decode cX1_sun 35 = .ok (.bipush 11, 2) := by decide +kernel
theorem dX1_sun_37 : decode cX1_sun 37 = .ok (.if_icmp .gt 7, 3) := by decide +kernel
theorem dX1_sun_40 : decode cX1_sun 40 = .ok (.iconst 1, 1) := by decide +kernel
theorem dX1_sun_41 : decode cX1_sun 41 = .ok (.goto 4, 3) := by decide +kernel
theorem dX1_sun_44 : decode cX1_sun 44 = .ok (.iconst 0, 1) := by decide +kernel
theorem dX1_sun_45 : decode cX1_sun 45 = .ok (.ireturn, 1) := by decide +kernel
theorem dX1_sun_46 : decode cX1_sun 46 = .ok (.iload_n 1, 1) := by decide +kernel
theorem dX1_sun_47 : decode cX1_sun 47 = .ok (.bipush 9, 2) := by decide +kernel
theorem dX1_sun_49 : decode cX1_sun 49 = .ok (.if_icmp .lt 13, 3) := by decide +kernel
theorem dX1_sun_52 : decode cX1_sun 52 = .ok (.iload_n 1, 1) := by decide +kernel
theorem dX1_sun_53 : decode cX1_sun 53 = .ok (.bipush 15, 2) := by decide +kernel
theorem dX1_sun_55 : decode cX1_sun 55 = .ok (.if_icmp .gt 7, 3) := by decide +kernel
theorem dX1_sun_58 : decode cX1_sun 58 = .ok (.iconst 1, 1) := by decide +kernel
theorem dX1_sun_59 : decode cX1_sun 59 = .ok (.goto 4, 3) := by decide +kernel
theorem dX1_sun_62 : decode cX1_sun 62 = .ok (.iconst 0, 1) := by decide +kernel
theorem dX1_sun_63 : decode cX1_sun 63 = .ok (.ireturn, 1) := by decide +kernel
theorem dX1_sun_64 : decode cX1_sun 64 = .ok (.iload_n 1, 1) := by decide +kernel
theorem dX1_sun_65 : decode cX1_sun 65 = .ok (.bipush 12, 2) := by decide +kernel
theorem dX1_sun_67 : decode cX1_sun 67 = .ok (.if_icmp .lt 13, 3) := by decide +kernel
theorem dX1_sun_70 : decode cX1_sun 70 = .ok (.iload_n 1, 1) := by decide +kernel
theorem dX1_sun_71 : decode cX1_sun 71 = .ok (.bipush 18, 2) := by decide +kernel
theorem dX1_sun_73 : decode cX1_sun 73 = .ok (.if_icmp .gt 7, 3) := by decide +kernel
theorem dX1_sun_76 : decode cX1_sun 76 = .ok (.iconst 1, 1) := by decide +kernel
theorem dX1_sun_77 : decode cX1_sun 77 = .ok (.goto 4, 3) := by decide +kernel
theorem dX1_sun_80 : decode cX1_sun 80 = .ok (.iconst 0, 1) := by decide +kernel
theorem dX1_sun_81 : decode cX1_sun 81 = .ok (.ireturn, 1) := by decide +kernel
theorem dX1_sun_82 : decode cX1_sun 82 = .ok (.iconst 0, 1) := by decide +kernel
theorem dX1_sun_83 : decode cX1_sun 83 = .ok (.ireturn, 1) := by decide +kernel
theorem dX1_innGain_0 : decode cX1_innGain 0 = .ok (.iload_n 0, 1) := by decide +kernel
theorem dX1_innGain_1 : decode cX1_innGain 1 = .ok (.iload_n 1, 1) := by decide +kernel
theorem dX1_innGain_2 : decode cX1_innGain 2 = .ok (.invokestatic 68, 3) := by decide +kernel
theorem dX1_innGain_5 : decode cX1_innGain 5 = .ok (.istore_n 2, 1) := by decide +kernel
theorem dX1_innGain_6 : decode cX1_innGain 6 = .ok (.iload_n 2, 1) := by decide +kernel
theorem dX1_innGain_7 : decode cX1_innGain 7 = .ok (.ifCond .eq 15, 3) := by decide +kernel
theorem dX1_innGain_10 : decode cX1_innGain 10 = .ok (.iload_n 1, 1) := by decide +kernel
theorem dX1_innGain_11 : decode cX1_innGain 11 = .ok (.bipush 12, 2) := by decide +kernel
theorem dX1_innGain_13 : decode cX1_innGain 13 = .ok (.if_icmp .lt 9, 3) := by decide +kernel
theorem dX1_innGain_16 : decode cX1_innGain 16 = .ok (.iload_n 2, 1) := by decide +kernel
theorem dX1_innGain_17 : decode cX1_innGain 17 = .ok (.iconst 1, 1) := by decide +kernel
theorem dX1_innGain_18 : decode cX1_innGain 18 = .ok (.iadd, 1) := by decide +kernel
theorem dX1_innGain_19 : decode cX1_innGain 19 = .ok (.goto 4, 3) := by decide +kernel
theorem dX1_innGain_22 : decode cX1_innGain 22 = .ok (.iload_n 2, 1) := by decide +kernel
theorem dX1_innGain_23 : decode cX1_innGain 23 = .ok (.ireturn, 1) := by decide +kernel
theorem dX1_millGain_0 : decode cX1_millGain 0 = .ok (.iload_n 1, 1) := by decide +kernel
theorem dX1_millGain_1 : decode cX1_millGain 1 = .ok (.aload_n 0, 1) := by decide +kernel
theorem dX1_millGain_2 : decode cX1_millGain 2 = .ok (.getfield 18, 3) := by decide +kernel
theorem dX1_millGain_5 : decode cX1_millGain 5 = .ok (.if_icmp .ne 7, 3) := by decide +kernel
theorem dX1_millGain_8 : decode cX1_millGain 8 = .ok (.iconst 2, 1) := by decide +kernel
theorem dX1_millGain_9 : decode cX1_millGain 9 = .ok (.goto 4, 3) := by decide +kernel
theorem dX1_millGain_12 : decode cX1_millGain 12 = .ok (.iconst 0, 1) := by decide +kernel
theorem dX1_millGain_13 : decode cX1_millGain 13 = .ok (.ireturn, 1) := by decide +kernel
theorem dX1_gainOf_0 : decode cX1_gainOf 0 = .ok (.iload_n 1, 1) := by decide +kernel
theorem dX1_gainOf_1 : decode cX1_gainOf 1 = .ok (.tableswitch 94 0 5 #[39, 45, 51, 59, 65, 76], 39) := by decide +kernel
theorem dX1_gainOf_40 : decode cX1_gainOf 40 = .ok (.iload_n 2, 1) := by decide +kernel
theorem dX1_gainOf_41 : decode cX1_gainOf 41 = .ok (.iload_n 3, 1) := by decide +kernel
theorem dX1_gainOf_42 : decode cX1_gainOf 42 = .ok (.invokestatic 68, 3) := by decide +kernel
theorem dX1_gainOf_45 : decode cX1_gainOf 45 = .ok (.ireturn, 1) := by decide +kernel
theorem dX1_gainOf_46 : decode cX1_gainOf 46 = .ok (.aload_n 0, 1) := by decide +kernel
theorem dX1_gainOf_47 : decode cX1_gainOf 47 = .ok (.iload_n 2, 1) := by decide +kernel
theorem dX1_gainOf_48 : decode cX1_gainOf 48 = .ok (.invokevirtual 72, 3) := by decide +kernel
theorem dX1_gainOf_51 : decode cX1_gainOf 51 = .ok (.ireturn, 1) := by decide +kernel
theorem dX1_gainOf_52 : decode cX1_gainOf 52 = .ok (.iconst 1, 1) := by decide +kernel
theorem dX1_gainOf_53 : decode cX1_gainOf 53 = .ok (.iload_n 2, 1) := by decide +kernel
theorem dX1_gainOf_54 : decode cX1_gainOf 54 = .ok (.iload_n 3, 1) := by decide +kernel
theorem dX1_gainOf_55 : decode cX1_gainOf 55 = .ok (.invokestatic 68, 3) := by decide +kernel
theorem dX1_gainOf_58 : decode cX1_gainOf 58 = .ok (.isub, 1) := by decide +kernel
theorem dX1_gainOf_59 : decode cX1_gainOf 59 = .ok (.ireturn, 1) := by decide +kernel
theorem dX1_gainOf_60 : decode cX1_gainOf 60 = .ok (.iload_n 2, 1) := by decide +kernel
theorem dX1_gainOf_61 : decode cX1_gainOf 61 = .ok (.iload_n 3, 1) := by decide +kernel
theorem dX1_gainOf_62 : decode cX1_gainOf 62 = .ok (.invokestatic 76, 3) := by decide +kernel
theorem dX1_gainOf_65 : decode cX1_gainOf 65 = .ok (.ireturn, 1) := by decide +kernel
theorem dX1_gainOf_66 : decode cX1_gainOf 66 = .ok (.aload_n 0, 1) := by decide +kernel
theorem dX1_gainOf_67 : decode cX1_gainOf 67 = .ok (.getfield 22, 3) := by decide +kernel
theorem dX1_gainOf_70 : decode cX1_gainOf 70 = .ok (.aload_n 0, 1) := by decide +kernel
theorem dX1_gainOf_71 : decode cX1_gainOf 71 = .ok (.iload_n 2, 1) := by decide +kernel
theorem dX1_gainOf_72 : decode cX1_gainOf 72 = .ok (.invokevirtual 72, 3) := by decide +kernel
theorem dX1_gainOf_75 : decode cX1_gainOf 75 = .ok (.imul, 1) := by decide +kernel
theorem dX1_gainOf_76 : decode cX1_gainOf 76 = .ok (.ireturn, 1) := by decide +kernel
theorem dX1_gainOf_77 : decode cX1_gainOf 77 = .ok (.iload_n 3, 1) := by decide +kernel
theorem dX1_gainOf_78 : decode cX1_gainOf 78 = .ok (.bipush 9, 2) := by decide +kernel
theorem dX1_gainOf_80 : decode cX1_gainOf 80 = .ok (.if_icmp .ge 13, 3) := by decide +kernel
theorem dX1_gainOf_83 : decode cX1_gainOf 83 = .ok (.iconst 3, 1) := by decide +kernel
theorem dX1_gainOf_84 : decode cX1_gainOf 84 = .ok (.iload_n 2, 1) := by decide +kernel
theorem dX1_gainOf_85 : decode cX1_gainOf 85 = .ok (.iload_n 3, 1) := by decide +kernel
theorem dX1_gainOf_86 : decode cX1_gainOf 86 = .ok (.invokestatic 76, 3) := by decide +kernel
theorem dX1_gainOf_89 : decode cX1_gainOf 89 = .ok (.imul, 1) := by decide +kernel
theorem dX1_gainOf_90 : decode cX1_gainOf 90 = .ok (.goto 4, 3) := by decide +kernel
theorem dX1_gainOf_93 : decode cX1_gainOf 93 = .ok (.iconst 0, 1) := by decide +kernel
theorem dX1_gainOf_94 : decode cX1_gainOf 94 = .ok (.ireturn, 1) := by decide +kernel
theorem dX1_gainOf_95 : decode cX1_gainOf 95 = .ok (.iconst 0, 1) := by decide +kernel
theorem dX1_gainOf_96 : decode cX1_gainOf 96 = .ok (.ireturn, 1) := by decide +kernel
theorem dX1_frontAt_0 : decode cX1_frontAt 0 = .ok (.aload_n 0, 1) := by decide +kernel
theorem dX1_frontAt_1 : decode cX1_frontAt 1 = .ok (.getfield 12, 3) := by decide +kernel
theorem dX1_frontAt_4 : decode cX1_frontAt 4 = .ok (.iload_n 2, 1) := by decide +kernel
theorem dX1_frontAt_5 : decode cX1_frontAt 5 = .ok (.invokevirtual 79, 3) := by decide +kernel
theorem dX1_frontAt_8 : decode cX1_frontAt 8 = .ok (.aload_n 0, 1) := by decide +kernel
theorem dX1_frontAt_9 : decode cX1_frontAt 9 = .ok (.getfield 12, 3) := by decide +kernel
theorem dX1_frontAt_12 : decode cX1_frontAt 12 = .ok (.aload_n 0, 1) := by decide +kernel
theorem dX1_frontAt_13 : decode cX1_frontAt 13 = .ok (.getfield 38, 3) := by decide +kernel
theorem dX1_frontAt_16 : decode cX1_frontAt 16 = .ok (.iload_n 1, 1) := by decide +kernel
theorem dX1_frontAt_17 : decode cX1_frontAt 17 = .ok (.iaload, 1) := by decide +kernel
theorem dX1_frontAt_18 : decode cX1_frontAt 18 = .ok (.invokevirtual 83, 3) := by decide +kernel
theorem dX1_frontAt_21 : decode cX1_frontAt 21 = .ok (.ireturn, 1) := by decide +kernel
theorem dX1_firstBerth_0 : decode cX1_firstBerth 0 = .ok (.aload_n 0, 1) := by decide +kernel
theorem dX1_firstBerth_1 : decode cX1_firstBerth 1 = .ok (.getfield 41, 3) := by decide +kernel
theorem dX1_firstBerth_4 : decode cX1_firstBerth 4 = .ok (.iload_n 1, 1) := by decide +kernel
theorem dX1_firstBerth_5 : decode cX1_firstBerth 5 = .ok (.iaload, 1) := by decide +kernel
theorem dX1_firstBerth_6 : decode cX1_firstBerth 6 = .ok (.sipush 960, 3) := by decide +kernel
theorem dX1_firstBerth_9 : decode cX1_firstBerth 9 = .ok (.iadd, 1) := by decide +kernel
theorem dX1_firstBerth_10 : decode cX1_firstBerth 10 = .ok (.istore_n 3, 1) := by decide +kernel
theorem dX1_firstBerth_11 : decode cX1_firstBerth 11 = .ok (.iload_n 2, 1) := by decide +kernel
theorem dX1_firstBerth_12 : decode cX1_firstBerth 12 = .ok (.istore 4, 2) := by decide +kernel
theorem dX1_firstBerth_14 : decode cX1_firstBerth 14 = .ok (.iconst 0, 1) := by decide +kernel
theorem dX1_firstBerth_15 : decode cX1_firstBerth 15 = .ok (.istore 5, 2) := by decide +kernel
theorem dX1_firstBerth_17 : decode cX1_firstBerth 17 = .ok (.iload 5, 2) := by decide +kernel
theorem dX1_firstBerth_19 : decode cX1_firstBerth 19 = .ok (.sipush 960, 3) := by decide +kernel
theorem dX1_firstBerth_22 : decode cX1_firstBerth 22 = .ok (.if_icmp .ge 134, 3) := by decide +kernel
theorem dX1_firstBerth_25 : decode cX1_firstBerth 25 = .ok (.iload 4, 2) := by decide +kernel
theorem dX1_firstBerth_27 : decode cX1_firstBerth 27 = .ok (.iload_n 3, 1) := by decide +kernel
theorem dX1_firstBerth_28 : decode cX1_firstBerth 28 = .ok (.if_icmp .ge 128, 3) := by decide +kernel
theorem dX1_firstBerth_31 : decode cX1_firstBerth 31 = .ok (.aload_n 0, 1) := by decide +kernel
theorem dX1_firstBerth_32 : decode cX1_firstBerth 32 = .ok (.getfield 12, 3) := by decide +kernel
theorem dX1_firstBerth_35 : decode cX1_firstBerth 35 = .ok (.iload 4, 2) := by decide +kernel
theorem dX1_firstBerth_37 : decode cX1_firstBerth 37 = .ok (.invokevirtual 79, 3) := by decide +kernel
theorem dX1_firstBerth_40 : decode cX1_firstBerth 40 = .ok (.aload_n 0, 1) := by decide +kernel
theorem dX1_firstBerth_41 : decode cX1_firstBerth 41 = .ok (.getfield 12, 3) := by decide +kernel
theorem dX1_firstBerth_44 : decode cX1_firstBerth 44 = .ok (.getfield 86, 3) := by decide +kernel
theorem dX1_firstBerth_47 : decode cX1_firstBerth 47 = .ok (.ifCond .eq 21, 3) := by decide +kernel
theorem dX1_firstBerth_50 : decode cX1_firstBerth 50 = .ok (.aload_n 0, 1) := by decide +kernel
theorem dX1_firstBerth_51 : decode cX1_firstBerth 51 = .ok (.getfield 12, 3) := by decide +kernel
theorem dX1_firstBerth_54 : decode cX1_firstBerth 54 = .ok (.invokevirtual 90, 3) := by decide +kernel
theorem dX1_firstBerth_57 : decode cX1_firstBerth 57 = .ok (.istore 4, 2) := by decide +kernel
theorem dX1_firstBerth_59 : decode cX1_firstBerth 59 = .ok (.aload_n 0, 1) := by decide +kernel
theorem dX1_firstBerth_60 : decode cX1_firstBerth 60 = .ok (.getfield 12, 3) := by decide +kernel
theorem dX1_firstBerth_63 : decode cX1_firstBerth 63 = .ok (.iload 4, 2) := by decide +kernel
theorem dX1_firstBerth_65 : decode cX1_firstBerth 65 = .ok (.invokevirtual 79, 3) := by decide +kernel
theorem dX1_firstBerth_68 : decode cX1_firstBerth 68 = .ok (.aload_n 0, 1) := by decide +kernel
theorem dX1_firstBerth_69 : decode cX1_firstBerth 69 = .ok (.getfield 12, 3) := by decide +kernel
theorem dX1_firstBerth_72 : decode cX1_firstBerth 72 = .ok (.aload_n 0, 1) := by decide +kernel
theorem dX1_firstBerth_73 : decode cX1_firstBerth 73 = .ok (.getfield 38, 3) := by decide +kernel
theorem dX1_firstBerth_76 : decode cX1_firstBerth 76 = .ok (.iload_n 1, 1) := by decide +kernel
theorem dX1_firstBerth_77 : decode cX1_firstBerth 77 = .ok (.iaload, 1) := by decide +kernel
theorem dX1_firstBerth_78 : decode cX1_firstBerth 78 = .ok (.invokevirtual 83, 3) := by decide +kernel
theorem dX1_firstBerth_81 : decode cX1_firstBerth 81 = .ok (.istore 6, 2) := by decide +kernel
theorem dX1_firstBerth_83 : decode cX1_firstBerth 83 = .ok (.aload_n 0, 1) := by decide +kernel
theorem dX1_firstBerth_84 : decode cX1_firstBerth 84 = .ok (.getfield 12, 3) := by decide +kernel
theorem dX1_firstBerth_87 : decode cX1_firstBerth 87 = .ok (.invokevirtual 94, 3) := by decide +kernel
theorem dX1_firstBerth_90 : decode cX1_firstBerth 90 = .ok (.istore 7, 2) := by decide +kernel
theorem dX1_firstBerth_92 : decode cX1_firstBerth 92 = .ok (.aload_n 0, 1) := by decide +kernel
theorem dX1_firstBerth_93 : decode cX1_firstBerth 93 = .ok (.getfield 47, 3) := by decide +kernel
theorem dX1_firstBerth_96 : decode cX1_firstBerth 96 = .ok (.iload_n 1, 1) := by decide +kernel
theorem dX1_firstBerth_97 : decode cX1_firstBerth 97 = .ok (.iaload, 1) := by decide +kernel
theorem dX1_firstBerth_98 : decode cX1_firstBerth 98 = .ok (.iconst (-1), 1) := by decide +kernel
theorem dX1_firstBerth_99 : decode cX1_firstBerth 99 = .ok (.if_icmp .eq 14, 3) := by decide +kernel
theorem dX1_firstBerth_102 : decode cX1_firstBerth 102 = .ok (.aload_n 0, 1) := by decide +kernel
theorem dX1_firstBerth_103 : decode cX1_firstBerth 103 = .ok (.getfield 47, 3) := by decide +kernel
theorem dX1_firstBerth_106 : decode cX1_firstBerth 106 = .ok (.iload_n 1, 1) := by decide +kernel
theorem dX1_firstBerth_107 : decode cX1_firstBerth 107 = .ok (.iaload, 1) := by decide +kernel
theorem dX1_firstBerth_108 : decode cX1_firstBerth 108 = .ok (.iload 6, 2) := by decide +kernel
theorem dX1_firstBerth_110 : decode cX1_firstBerth 110 = .ok (.if_icmp .ne 7, 3) := by decide +kernel
theorem dX1_firstBerth_113 : decode cX1_firstBerth 113 = .ok (.iconst 1, 1) := by decide +kernel
theorem dX1_firstBerth_114 : decode cX1_firstBerth 114 = .ok (.goto 4, 3) := by decide +kernel
theorem dX1_firstBerth_117 : decode cX1_firstBerth 117 = .ok (.iconst 0, 1) := by decide +kernel
theorem dX1_firstBerth_118 : decode cX1_firstBerth 118 = .ok (.istore 8, 2) := by decide +kernel
theorem dX1_firstBerth_120 : decode cX1_firstBerth 120 = .ok (.iload 8, 2) := by decide +kernel
theorem dX1_firstBerth_122 : decode cX1_firstBerth 122 = .ok (.ifCond .eq 24, 3) := by decide +kernel
theorem dX1_firstBerth_125 : decode cX1_firstBerth 125 = .ok (.iload 7, 2) := by decide +kernel
theorem dX1_firstBerth_127 : decode cX1_firstBerth 127 = .ok (.iload 4, 2) := by decide +kernel
theorem dX1_firstBerth_129 : decode cX1_firstBerth 129 = .ok (.isub, 1) := by decide +kernel
theorem dX1_firstBerth_130 : decode cX1_firstBerth 130 = .ok (.aload_n 0, 1) := by decide +kernel
theorem dX1_firstBerth_131 : decode cX1_firstBerth 131 = .ok (.getfield 44, 3) := by decide +kernel
theorem dX1_firstBerth_134 : decode cX1_firstBerth 134 = .ok (.iload_n 1, 1) := by decide +kernel
theorem dX1_firstBerth_135 : decode cX1_firstBerth 135 = .ok (.iaload, 1) := by decide +kernel
theorem dX1_firstBerth_136 : decode cX1_firstBerth 136 = .ok (.if_icmp .lt 10, 3) := by decide +kernel
theorem dX1_firstBerth_139 : decode cX1_firstBerth 139 = .ok (.iload 4, 2) := by decide +kernel
theorem dX1_firstBerth_141 : decode cX1_firstBerth 141 = .ok (.iload_n 3, 1) := by decide +kernel
theorem dX1_firstBerth_142 : decode cX1_firstBerth 142 = .ok (.invokestatic 97, 3) := by decide +kernel
theorem dX1_firstBerth_145 : decode cX1_firstBerth 145 = .ok (.ireturn, 1) := by decide +kernel
theorem dX1_firstBerth_146 : decode cX1_firstBerth 146 = .ok (.iload 7, 2) := by decide +kernel
theorem dX1_firstBerth_148 : decode cX1_firstBerth 148 = .ok (.istore 4, 2) := by decide +kernel
theorem dX1_firstBerth_150 : decode cX1_firstBerth 150 = .ok (.iinc 5 1, 3) := by decide +kernel
theorem dX1_firstBerth_153 : decode cX1_firstBerth 153 = .ok (.goto (-136), 3) := by decide +kernel
theorem dX1_firstBerth_156 : decode cX1_firstBerth 156 = .ok (.iload_n 3, 1) := by decide +kernel
theorem dX1_firstBerth_157 : decode cX1_firstBerth 157 = .ok (.ireturn, 1) := by decide +kernel
theorem dX2_init_0 : decode cX2_init 0 = .ok (.aload_n 0, 1) := by decide +kernel
theorem dX2_init_1 : decode cX2_init 1 = .ok (.invokespecial 1, 3) := by decide +kernel
theorem dX2_init_4 : decode cX2_init 4 = .ok (.aload_n 0, 1) := by decide +kernel
theorem dX2_init_5 : decode cX2_init 5 = .ok (.iconst 0, 1) := by decide +kernel
theorem dX2_init_6 : decode cX2_init 6 = .ok (.putfield 7, 3) := by decide +kernel
theorem dX2_init_9 : decode cX2_init 9 = .ok (.aload_n 0, 1) := by decide +kernel
theorem dX2_init_10 : decode cX2_init 10 = .ok (.iconst 0, 1) := by decide +kernel
