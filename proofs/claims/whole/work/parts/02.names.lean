/-! ===== BEGIN words of one list among another's, by their places ===== -/
theorem goodIn_r {big : List Cond} (ws : List Cond) (ps : List Nat) (hp : ws = ps.filterMap (fun i => big[i]?)) (h : ws.all goodWord = true) : GoodIn big ws := by
  intro w hw
  have h1 := List.all_eq_true.mp h w hw
  rw [hp] at hw
  obtain ⟨i, -, hi⟩ := List.mem_filterMap.mp hw
  have hm : w ∈ big := by first | exact List.mem_of_getElem? hi | exact List.getElem?_mem hi
  exact ⟨hm, good_of_word h1⟩
theorem goodIn_app {big a b : List Cond} (ha : GoodIn big a) (hb : GoodIn big b) : GoodIn big (a ++ b) := fun w h => (List.mem_append.mp h).elim (ha w) (hb w)
theorem goodIn_ca {big a b : List Cond} {c : Cond} (ha : GoodIn big (c :: a)) (hb : GoodIn big b) : GoodIn big (c :: (a ++ b)) := fun w h => (List.mem_cons.mp h).elim (fun e => ha w (List.mem_cons.mpr (Or.inl e))) (fun h => (List.mem_append.mp h).elim (fun h => ha w (List.mem_cons.mpr (Or.inr h))) (hb w))
theorem goodIn_sub {big ws : List Cond} (hm : ∀ w ∈ ws, w ∈ big) (h : ws.all goodWord = true) : GoodIn big ws := fun w hw => ⟨hm w hw, good_of_word (List.all_eq_true.mp h w hw)⟩
/-! ===== END ===== -/

/-! ===== BEGIN printed: names, fields, word lists, decode rows ===== -/
def RX0 : String := "RoundsPerHour$Climb"
def TX0 : u_T := fun k => match k with
  | _ => ("", "", "", false)
def tyX0 : Nat → FieldType := fun k => match k with
  | _ => .int
abbrev wsX00 : List Cond := u_ws RX0 TX0 0
theorem nmX0 : ∀ a, a < 0 → ∀ b, b < 0 → a ≠ b → (TX0 a).2.1 ≠ (TX0 b).2.1 := by decide +kernel
theorem tyX0_ok : ∀ k, k < 0 → parseFieldDescriptor (TX0 k).2.2.1 = some (tyX0 k) := by decide +kernel
abbrev cX0_init : ByteArray := prog_2_method_1_code
def yX0_init : MethodName := ⟨RX0, "<init>", "()V"⟩
abbrev cX0_takeWays : ByteArray := prog_2_method_3_code
def yX0_takeWays : MethodName := ⟨RX0, "takeWays", "(LRoundsPerHour$Country;)V"⟩
abbrev cX0_runs : ByteArray := prog_2_method_4_code
def yX0_runs : MethodName := ⟨RX0, "runs", "()Z"⟩
abbrev cX0_weigh : ByteArray := prog_2_method_5_code
def yX0_weigh : MethodName := ⟨RX0, "weigh", "(JJ)V"⟩
abbrev cX0_together : ByteArray := prog_2_method_6_code
def yX0_together : MethodName := ⟨RX0, "together", "([JI)J"⟩
def RX1 : String := "RoundsPerHour$Country"
def TX1 : u_T := fun k => match k with
  | 0 => ("RoundsPerHour$Country", "places", "I", false)
  | 1 => ("RoundsPerHour$Country", "weather", "I", false)
  | 2 => ("RoundsPerHour$Country", "ways", "I", false)
  | 3 => ("RoundsPerHour$Country", "kind", "[I", true)
  | 4 => ("RoundsPerHour$Country", "from", "[I", true)
  | 5 => ("RoundsPerHour$Country", "to", "[I", true)
  | 6 => ("RoundsPerHour$Country", "gain", "[I", true)
  | 7 => ("RoundsPerHour$Country", "time", "[I", true)
  | 8 => ("RoundsPerHour$Country", "shut", "[I", true)
  | 9 => ("RoundsPerHour$Country", "things", "I", false)
  | 10 => ("RoundsPerHour$Country", "thingGain", "[I", true)
  | _ => ("RoundsPerHour$Country", "thingTime", "[I", true)
def tyX1 : Nat → FieldType := fun k => match k with
  | 0 => .int
  | 1 => .int
  | 2 => .int
  | 3 => .array .int
  | 4 => .array .int
  | 5 => .array .int
  | 6 => .array .int
  | 7 => .array .int
  | 8 => .array .int
  | 9 => .int
  | 10 => .array .int
  | _ => .array .int
abbrev wsX10 : List Cond := u_ws RX1 TX1 12
theorem nmX1 : ∀ a, a < 12 → ∀ b, b < 12 → a ≠ b → (TX1 a).2.1 ≠ (TX1 b).2.1 := by decide +kernel
theorem tyX1_ok : ∀ k, k < 12 → parseFieldDescriptor (TX1 k).2.2.1 = some (tyX1 k) := by decide +kernel
abbrev cX1_init : ByteArray := prog_3_method_1_code
def yX1_init : MethodName := ⟨RX1, "<init>", "()V"⟩
abbrev cX1_isPlace : ByteArray := prog_3_method_2_code
def yX1_isPlace : MethodName := ⟨RX1, "isPlace", "(I)Z"⟩
abbrev cX1_isWay : ByteArray := prog_3_method_3_code
def yX1_isWay : MethodName := ⟨RX1, "isWay", "(I)Z"⟩
abbrev cX1_isThingOrBase : ByteArray := prog_3_method_4_code
def yX1_isThingOrBase : MethodName := ⟨RX1, "isThingOrBase", "(I)Z"⟩
abbrev cX1_newWay : ByteArray := prog_3_method_5_code
def yX1_newWay : MethodName := ⟨RX1, "newWay", "(IIIII)I"⟩
abbrev cX1_newThing : ByteArray := prog_3_method_6_code
def yX1_newThing : MethodName := ⟨RX1, "newThing", "(II)I"⟩
abbrev cX1_bringsOf : ByteArray := prog_3_method_7_code
def yX1_bringsOf : MethodName := ⟨RX1, "bringsOf", "(I)I"⟩
abbrev cX1_lastsOf : ByteArray := prog_3_method_8_code
def yX1_lastsOf : MethodName := ⟨RX1, "lastsOf", "(I)I"⟩
abbrev cX1_shutWays : ByteArray := prog_3_method_9_code
def yX1_shutWays : MethodName := ⟨RX1, "shutWays", "()I"⟩
abbrev cX1_isOpenSet : ByteArray := prog_3_method_10_code
def yX1_isOpenSet : MethodName := ⟨RX1, "isOpenSet", "(I)Z"⟩
abbrev cX1_isRing : ByteArray := prog_3_method_11_code
def yX1_isRing : MethodName := ⟨RX1, "isRing", "(I)Z"⟩
abbrev cX1_firstFrom : ByteArray := prog_3_method_12_code
def yX1_firstFrom : MethodName := ⟨RX1, "firstFrom", "(II)I"⟩
abbrev cX1_bringTogether : ByteArray := prog_3_method_13_code
def yX1_bringTogether : MethodName := ⟨RX1, "bringTogether", "(I)J"⟩
abbrev cX1_lastTogether : ByteArray := prog_3_method_14_code
def yX1_lastTogether : MethodName := ⟨RX1, "lastTogether", "(I)J"⟩
abbrev cX1_gainTogether : ByteArray := prog_3_method_15_code
def yX1_gainTogether : MethodName := ⟨RX1, "gainTogether", "(I)J"⟩
abbrev cX1_timeTogether : ByteArray := prog_3_method_16_code
def yX1_timeTogether : MethodName := ⟨RX1, "timeTogether", "(I)J"⟩
abbrev cX1_sumWithBase : ByteArray := prog_3_method_17_code
def yX1_sumWithBase : MethodName := ⟨RX1, "sumWithBase", "([II)J"⟩
abbrev cX1_become : ByteArray := prog_3_method_18_code
def yX1_become : MethodName := ⟨RX1, "become", "(LRoundsPerHour$Country;)V"⟩
def RX2 : String := "RoundsPerHour$Joins"
def TX2 : u_T := fun k => match k with
  | _ => ("RoundsPerHour$Joins", "label", "[I", true)
def tyX2 : Nat → FieldType := fun k => match k with
  | _ => .array .int
abbrev wsX20 : List Cond := u_ws RX2 TX2 1
theorem nmX2 : ∀ a, a < 1 → ∀ b, b < 1 → a ≠ b → (TX2 a).2.1 ≠ (TX2 b).2.1 := by decide +kernel
theorem tyX2_ok : ∀ k, k < 1 → parseFieldDescriptor (TX2 k).2.2.1 = some (tyX2 k) := by decide +kernel
abbrev cX2_init : ByteArray := prog_4_method_1_code
def yX2_init : MethodName := ⟨RX2, "<init>", "()V"⟩
abbrev cX2_part : ByteArray := prog_4_method_2_code
def yX2_part : MethodName := ⟨RX2, "part", "()V"⟩
abbrev cX2_apart : ByteArray := prog_4_method_3_code
def yX2_apart : MethodName := ⟨RX2, "apart", "(II)Z"⟩
abbrev cX2_join : ByteArray := prog_4_method_4_code
def yX2_join : MethodName := ⟨RX2, "join", "(II)V"⟩
abbrev cX2_isTree : ByteArray := prog_4_method_5_code
def yX2_isTree : MethodName := ⟨RX2, "isTree", "(LRoundsPerHour$Country;I)Z"⟩
def RX3 : String := "RoundsPerHour$LoadClimb"
def TX3 : u_T := fun k => match k with
  | 0 => ("RoundsPerHour$Climb", "best", "I", false)
  | 1 => ("RoundsPerHour$Climb", "steps", "I", false)
  | 2 => ("RoundsPerHour$Climb", "above", "J", false)
  | 3 => ("RoundsPerHour$Climb", "below", "J", false)
  | 4 => ("RoundsPerHour$Climb", "size", "I", false)
  | 5 => ("RoundsPerHour$Climb", "baseAbove", "J", false)
  | 6 => ("RoundsPerHour$Climb", "baseBelow", "J", false)
  | 7 => ("RoundsPerHour$Climb", "gains", "[J", true)
  | 8 => ("RoundsPerHour$Climb", "times", "[J", true)
  | 9 => ("RoundsPerHour$Climb", "weight", "[J", true)
  | _ => ("RoundsPerHour$LoadClimb", "most", "I", false)
def tyX3 : Nat → FieldType := fun k => match k with
  | 0 => .int
  | 1 => .int
  | 2 => .long
  | 3 => .long
  | 4 => .int
  | 5 => .long
  | 6 => .long
  | 7 => .array .long
  | 8 => .array .long
  | 9 => .array .long
  | _ => .int
abbrev wsX30 : List Cond := u_ws RX3 TX3 11
theorem nmX3 : ∀ a, a < 11 → ∀ b, b < 11 → a ≠ b → (TX3 a).2.1 ≠ (TX3 b).2.1 := by decide +kernel
theorem tyX3_ok : ∀ k, k < 11 → parseFieldDescriptor (TX3 k).2.2.1 = some (tyX3 k) := by decide +kernel
abbrev cX3_init : ByteArray := prog_5_method_1_code
def yX3_init : MethodName := ⟨RX3, "<init>", "()V"⟩
abbrev cX3_climbs : ByteArray := prog_5_method_2_code
def yX3_climbs : MethodName := ⟨RX3, "climbs", "(LRoundsPerHour$Country;I)Z"⟩
abbrev cX3_pick : ByteArray := prog_5_method_3_code
def yX3_pick : MethodName := ⟨RX3, "pick", "()I"⟩
def RX4 : String := "RoundsPerHour$Rings"
def TX4 : u_T := fun k => match k with
  | 0 => ("RoundsPerHour$Rings", "size", "I", false)
  | 1 => ("RoundsPerHour$Rings", "sets", "[I", true)
  | 2 => ("RoundsPerHour$Rings", "above", "[J", true)
  | 3 => ("RoundsPerHour$Rings", "below", "[J", true)
  | 4 => ("RoundsPerHour$Rings", "height", "[J", true)
  | 5 => ("RoundsPerHour$Rings", "reached", "[Z", true)
  | 6 => ("RoundsPerHour$Rings", "leaving", "[I", true)
  | 7 => ("RoundsPerHour$Rings", "wayOut", "[I", true)
  | 8 => ("RoundsPerHour$Rings", "to", "[I", true)
  | 9 => ("RoundsPerHour$Rings", "brings", "[J", true)
  | 10 => ("RoundsPerHour$Rings", "lasts", "[J", true)
  | 11 => ("RoundsPerHour$Rings", "peakAbove", "J", false)
  | _ => ("RoundsPerHour$Rings", "peakBelow", "J", false)
def tyX4 : Nat → FieldType := fun k => match k with
  | 0 => .int
  | 1 => .array .int
  | 2 => .array .long
  | 3 => .array .long
  | 4 => .array .long
  | 5 => .array .boolean
  | 6 => .array .int
  | 7 => .array .int
  | 8 => .array .int
  | 9 => .array .long
  | 10 => .array .long
  | 11 => .long
  | _ => .long
abbrev wsX40 : List Cond := u_ws RX4 TX4 13
theorem nmX4 : ∀ a, a < 13 → ∀ b, b < 13 → a ≠ b → (TX4 a).2.1 ≠ (TX4 b).2.1 := by decide +kernel
theorem tyX4_ok : ∀ k, k < 13 → parseFieldDescriptor (TX4 k).2.2.1 = some (tyX4 k) := by decide +kernel
abbrev cX4_init : ByteArray := prog_6_method_1_code
def yX4_init : MethodName := ⟨RX4, "<init>", "()V"⟩
abbrev cX4_gather : ByteArray := prog_6_method_2_code
def yX4_gather : MethodName := ⟨RX4, "gather", "(LRoundsPerHour$Country;I)V"⟩
abbrev cX4_goOn : ByteArray := prog_6_method_3_code
def yX4_goOn : MethodName := ⟨RX4, "goOn", "(IIIIJJ)V"⟩
abbrev cX4_keep : ByteArray := prog_6_method_4_code
def yX4_keep : MethodName := ⟨RX4, "keep", "(IJJ)V"⟩
abbrev cX4_order : ByteArray := prog_6_method_5_code
def yX4_order : MethodName := ⟨RX4, "order", "(II)I"⟩
abbrev cX4_best : ByteArray := prog_6_method_6_code
def yX4_best : MethodName := ⟨RX4, "best", "(I)I"⟩
abbrev cX4_forget : ByteArray := prog_6_method_7_code
def yX4_forget : MethodName := ⟨RX4, "forget", "()V"⟩
abbrev cX4_rises : ByteArray := prog_6_method_8_code
def yX4_rises : MethodName := ⟨RX4, "rises", "(LRoundsPerHour$Country;)Z"⟩
abbrev cX4_missingTo : ByteArray := prog_6_method_9_code
def yX4_missingTo : MethodName := ⟨RX4, "missingTo", "(IJJ)J"⟩
abbrev cX4_lifts : ByteArray := prog_6_method_10_code
def yX4_lifts : MethodName := ⟨RX4, "lifts", "(LRoundsPerHour$Country;IIJJ)Z"⟩
abbrev cX4_step : ByteArray := prog_6_method_11_code
def yX4_step : MethodName := ⟨RX4, "step", "(IIJ)V"⟩
def RX5 : String := "RoundsPerHour$Sheet"
def TX5 : u_T := fun k => match k with
  | 0 => ("RoundsPerHour$Sheet", "bits", "I", false)
  | 1 => ("RoundsPerHour$Sheet", "size", "I", false)
  | _ => ("RoundsPerHour$Sheet", "numbers", "[J", true)
def tyX5 : Nat → FieldType := fun k => match k with
  | 0 => .int
  | 1 => .int
  | _ => .array .long
abbrev wsX50 : List Cond := u_ws RX5 TX5 3
theorem nmX5 : ∀ a, a < 3 → ∀ b, b < 3 → a ≠ b → (TX5 a).2.1 ≠ (TX5 b).2.1 := by decide +kernel
theorem tyX5_ok : ∀ k, k < 3 → parseFieldDescriptor (TX5 k).2.2.1 = some (tyX5 k) := by decide +kernel
abbrev cX5_init : ByteArray := prog_7_method_1_code
def yX5_init : MethodName := ⟨RX5, "<init>", "()V"⟩
abbrev cX5_begin : ByteArray := prog_7_method_2_code
def yX5_begin : MethodName := ⟨RX5, "begin", "(II)V"⟩
abbrev cX5_hasFraction : ByteArray := prog_7_method_3_code
def yX5_hasFraction : MethodName := ⟨RX5, "hasFraction", "(I)Z"⟩
abbrev cX5_hasRun : ByteArray := prog_7_method_4_code
def yX5_hasRun : MethodName := ⟨RX5, "hasRun", "(II)Z"⟩
abbrev cX5_put : ByteArray := prog_7_method_5_code
def yX5_put : MethodName := ⟨RX5, "put", "(IJ)V"⟩
def RX6 : String := "RoundsPerHour$Tape"
def TX6 : u_T := fun k => match k with
  | 0 => ("RoundsPerHour$Tape", "length", "I", false)
  | 1 => ("RoundsPerHour$Tape", "bytes", "[I", true)
  | 2 => ("RoundsPerHour$Tape", "land", "LRoundsPerHour$Country;", false)
  | 3 => ("RoundsPerHour$Tape", "sort", "I", false)
  | 4 => ("RoundsPerHour$Tape", "first", "I", false)
  | 5 => ("RoundsPerHour$Tape", "behind", "I", false)
  | 6 => ("RoundsPerHour$Tape", "number", "I", false)
  | 7 => ("RoundsPerHour$Tape", "gain", "I", false)
  | _ => ("RoundsPerHour$Tape", "time", "I", false)
def tyX6 : Nat → FieldType := fun k => match k with
  | 0 => .int
  | 1 => .array .int
  | 2 => .object "RoundsPerHour$Country"
  | 3 => .int
  | 4 => .int
  | 5 => .int
  | 6 => .int
  | 7 => .int
  | _ => .int
abbrev wsX60 : List Cond := u_ws RX6 TX6 9
theorem nmX6 : ∀ a, a < 9 → ∀ b, b < 9 → a ≠ b → (TX6 a).2.1 ≠ (TX6 b).2.1 := by decide +kernel
theorem tyX6_ok : ∀ k, k < 9 → parseFieldDescriptor (TX6 k).2.2.1 = some (tyX6 k) := by decide +kernel
abbrev cX6_init : ByteArray := prog_8_method_1_code
def yX6_init : MethodName := ⟨RX6, "<init>", "()V"⟩
abbrev cX6_append : ByteArray := prog_8_method_2_code
def yX6_append : MethodName := ⟨RX6, "append", "(I)V"⟩
abbrev cX6_tellTo : ByteArray := prog_8_method_3_code
def yX6_tellTo : MethodName := ⟨RX6, "tellTo", "(LRoundsPerHour$Country;)I"⟩
abbrev cX6_item : ByteArray := prog_8_method_4_code
def yX6_item : MethodName := ⟨RX6, "item", "()Z"⟩
abbrev cX6_placesItem : ByteArray := prog_8_method_5_code
def yX6_placesItem : MethodName := ⟨RX6, "placesItem", "()Z"⟩
abbrev cX6_weatherItem : ByteArray := prog_8_method_6_code
def yX6_weatherItem : MethodName := ⟨RX6, "weatherItem", "()Z"⟩
abbrev cX6_thingItem : ByteArray := prog_8_method_7_code
def yX6_thingItem : MethodName := ⟨RX6, "thingItem", "()Z"⟩
abbrev cX6_wayItem : ByteArray := prog_8_method_8_code
def yX6_wayItem : MethodName := ⟨RX6, "wayItem", "(I)Z"⟩
abbrev cX6_gainAndTime : ByteArray := prog_8_method_9_code
def yX6_gainAndTime : MethodName := ⟨RX6, "gainAndTime", "()Z"⟩
abbrev cX6_kindTold : ByteArray := prog_8_method_10_code
def yX6_kindTold : MethodName := ⟨RX6, "kindTold", "()I"⟩
abbrev cX6_isNumber : ByteArray := prog_8_method_11_code
def yX6_isNumber : MethodName := ⟨RX6, "isNumber", "(II)Z"⟩
abbrev cX6_isWord : ByteArray := prog_8_method_12_code
def yX6_isWord : MethodName := ⟨RX6, "isWord", "(Ljava/lang/String;)Z"⟩
abbrev cX6_next : ByteArray := prog_8_method_13_code
def yX6_next : MethodName := ⟨RX6, "next", "()V"⟩
abbrev cX6_takeDigits : ByteArray := prog_8_method_14_code
def yX6_takeDigits : MethodName := ⟨RX6, "takeDigits", "()V"⟩
abbrev cX6_isLetter : ByteArray := prog_8_method_15_code
def yX6_isLetter : MethodName := ⟨RX6, "isLetter", "(I)Z"⟩
abbrev cX6_isDigit : ByteArray := prog_8_method_16_code
def yX6_isDigit : MethodName := ⟨RX6, "isDigit", "(I)Z"⟩
def RX7 : String := "RoundsPerHour$TreeClimb"
def TX7 : u_T := fun k => match k with
  | 0 => ("RoundsPerHour$Climb", "best", "I", false)
  | 1 => ("RoundsPerHour$Climb", "steps", "I", false)
  | 2 => ("RoundsPerHour$Climb", "above", "J", false)
  | 3 => ("RoundsPerHour$Climb", "below", "J", false)
  | 4 => ("RoundsPerHour$Climb", "size", "I", false)
  | 5 => ("RoundsPerHour$Climb", "baseAbove", "J", false)
  | 6 => ("RoundsPerHour$Climb", "baseBelow", "J", false)
  | 7 => ("RoundsPerHour$Climb", "gains", "[J", true)
  | 8 => ("RoundsPerHour$Climb", "times", "[J", true)
  | 9 => ("RoundsPerHour$Climb", "weight", "[J", true)
  | 10 => ("RoundsPerHour$TreeClimb", "joins", "LRoundsPerHour$Joins;", true)
  | _ => ("RoundsPerHour$TreeClimb", "land", "LRoundsPerHour$Country;", false)
def tyX7 : Nat → FieldType := fun k => match k with
  | 0 => .int
  | 1 => .int
  | 2 => .long
  | 3 => .long
  | 4 => .int
  | 5 => .long
  | 6 => .long
  | 7 => .array .long
  | 8 => .array .long
  | 9 => .array .long
  | 10 => .object "RoundsPerHour$Joins"
  | _ => .object "RoundsPerHour$Country"
abbrev wsX70 : List Cond := u_ws RX7 TX7 12
theorem nmX7 : ∀ a, a < 12 → ∀ b, b < 12 → a ≠ b → (TX7 a).2.1 ≠ (TX7 b).2.1 := by decide +kernel
theorem tyX7_ok : ∀ k, k < 12 → parseFieldDescriptor (TX7 k).2.2.1 = some (tyX7 k) := by decide +kernel
abbrev cX7_init : ByteArray := prog_9_method_1_code
def yX7_init : MethodName := ⟨RX7, "<init>", "()V"⟩
abbrev cX7_climbs : ByteArray := prog_9_method_2_code
def yX7_climbs : MethodName := ⟨RX7, "climbs", "(LRoundsPerHour$Country;)Z"⟩
abbrev cX7_pick : ByteArray := prog_9_method_3_code
def yX7_pick : MethodName := ⟨RX7, "pick", "()I"⟩
abbrev cX7_heaviestJoining : ByteArray := prog_9_method_4_code
def yX7_heaviestJoining : MethodName := ⟨RX7, "heaviestJoining", "()I"⟩
def RX8 : String := "RoundsPerHour$WalkClimb"
def TX8 : u_T := fun k => match k with
  | 0 => ("RoundsPerHour$Climb", "best", "I", false)
  | 1 => ("RoundsPerHour$Climb", "steps", "I", false)
  | 2 => ("RoundsPerHour$Climb", "above", "J", false)
  | 3 => ("RoundsPerHour$Climb", "below", "J", false)
  | 4 => ("RoundsPerHour$Climb", "size", "I", false)
  | 5 => ("RoundsPerHour$Climb", "baseAbove", "J", false)
  | 6 => ("RoundsPerHour$Climb", "baseBelow", "J", false)
  | 7 => ("RoundsPerHour$Climb", "gains", "[J", true)
  | 8 => ("RoundsPerHour$Climb", "times", "[J", true)
  | 9 => ("RoundsPerHour$Climb", "weight", "[J", true)
  | 10 => ("RoundsPerHour$WalkClimb", "height", "[J", true)
  | 11 => ("RoundsPerHour$WalkClimb", "sets", "[I", true)
  | 12 => ("RoundsPerHour$WalkClimb", "land", "LRoundsPerHour$Country;", false)
  | 13 => ("RoundsPerHour$WalkClimb", "start", "I", false)
  | _ => ("RoundsPerHour$WalkClimb", "end", "I", false)
def tyX8 : Nat → FieldType := fun k => match k with
  | 0 => .int
  | 1 => .int
  | 2 => .long
  | 3 => .long
  | 4 => .int
  | 5 => .long
  | 6 => .long
  | 7 => .array .long
  | 8 => .array .long
  | 9 => .array .long
  | 10 => .array .long
  | 11 => .array .int
  | 12 => .object "RoundsPerHour$Country"
  | 13 => .int
  | _ => .int
abbrev wsX80 : List Cond := u_ws RX8 TX8 15
theorem nmX8 : ∀ a, a < 15 → ∀ b, b < 15 → a ≠ b → (TX8 a).2.1 ≠ (TX8 b).2.1 := by decide +kernel
theorem tyX8_ok : ∀ k, k < 15 → parseFieldDescriptor (TX8 k).2.2.1 = some (tyX8 k) := by decide +kernel
abbrev cX8_init : ByteArray := prog_10_method_1_code
def yX8_init : MethodName := ⟨RX8, "<init>", "()V"⟩
abbrev cX8_climbs : ByteArray := prog_10_method_2_code
def yX8_climbs : MethodName := ⟨RX8, "climbs", "(LRoundsPerHour$Country;II)Z"⟩
abbrev cX8_pick : ByteArray := prog_10_method_3_code
def yX8_pick : MethodName := ⟨RX8, "pick", "()I"⟩
abbrev cX8_leave : ByteArray := prog_10_method_4_code
def yX8_leave : MethodName := ⟨RX8, "leave", "(I)V"⟩
def RX9 : String := "RoundsPerHour"
def TX9 : u_T := fun k => match k with
  | 0 => ("RoundsPerHour", "now", "LRoundsPerHour$Country;", true)
  | 1 => ("RoundsPerHour", "kept", "LRoundsPerHour$Country;", true)
  | 2 => ("RoundsPerHour", "draft", "LRoundsPerHour$Country;", true)
  | 3 => ("RoundsPerHour", "isKept", "Z", false)
  | 4 => ("RoundsPerHour", "rings", "LRoundsPerHour$Rings;", true)
  | 5 => ("RoundsPerHour", "trees", "LRoundsPerHour$TreeClimb;", true)
  | 6 => ("RoundsPerHour", "walks", "LRoundsPerHour$WalkClimb;", true)
  | 7 => ("RoundsPerHour", "loads", "LRoundsPerHour$LoadClimb;", true)
  | 8 => ("RoundsPerHour", "joins", "LRoundsPerHour$Joins;", true)
  | 9 => ("RoundsPerHour", "tape", "LRoundsPerHour$Tape;", true)
  | 10 => ("RoundsPerHour", "sheets", "[LRoundsPerHour$Sheet;", true)
  | _ => ("RoundsPerHour", "found", "[I", true)
def tyX9 : Nat → FieldType := fun k => match k with
  | 0 => .object "RoundsPerHour$Country"
  | 1 => .object "RoundsPerHour$Country"
  | 2 => .object "RoundsPerHour$Country"
  | 3 => .boolean
  | 4 => .object "RoundsPerHour$Rings"
  | 5 => .object "RoundsPerHour$TreeClimb"
  | 6 => .object "RoundsPerHour$WalkClimb"
  | 7 => .object "RoundsPerHour$LoadClimb"
  | 8 => .object "RoundsPerHour$Joins"
  | 9 => .object "RoundsPerHour$Tape"
  | 10 => .array (.object "RoundsPerHour$Sheet")
  | _ => .array .int
abbrev wsX90 : List Cond := u_ws RX9 TX9 12
theorem nmX9 : ∀ a, a < 12 → ∀ b, b < 12 → a ≠ b → (TX9 a).2.1 ≠ (TX9 b).2.1 := by decide +kernel
theorem tyX9_ok : ∀ k, k < 12 → parseFieldDescriptor (TX9 k).2.2.1 = some (tyX9 k) := by decide +kernel
abbrev cX9_init : ByteArray := prog_1_method_1_code
def yX9_init : MethodName := ⟨RX9, "<init>", "()V"⟩
abbrev cX9_places : ByteArray := prog_1_method_2_code
def yX9_places : MethodName := ⟨RX9, "places", "(I)I"⟩
abbrev cX9_weather : ByteArray := prog_1_method_3_code
def yX9_weather : MethodName := ⟨RX9, "weather", "(I)I"⟩
abbrev cX9_way : ByteArray := prog_1_method_4_code
def yX9_way : MethodName := ⟨RX9, "way", "(IIIII)I"⟩
abbrev cX9_of : ByteArray := prog_1_method_5_code
def yX9_of : MethodName := ⟨RX9, "of", "(II)I"⟩
abbrev cX9_change : ByteArray := prog_1_method_6_code
def yX9_change : MethodName := ⟨RX9, "change", "(III)I"⟩
abbrev cX9_canBecome : ByteArray := prog_1_method_7_code
def yX9_canBecome : MethodName := ⟨RX9, "canBecome", "(III)Z"⟩
abbrev cX9_as : ByteArray := prog_1_method_8_code
def yX9_as : MethodName := ⟨RX9, "as", "(II)I"⟩
abbrev cX9_thing : ByteArray := prog_1_method_9_code
def yX9_thing : MethodName := ⟨RX9, "thing", "(II)I"⟩
abbrev cX9_alter : ByteArray := prog_1_method_10_code
def yX9_alter : MethodName := ⟨RX9, "alter", "(III)I"⟩
abbrev cX9_its : ByteArray := prog_1_method_11_code
def yX9_its : MethodName := ⟨RX9, "its", "(II)I"⟩
abbrev cX9_ring : ByteArray := prog_1_method_12_code
def yX9_ring : MethodName := ⟨RX9, "ring", "(I)J"⟩
abbrev cX9_ringWays : ByteArray := prog_1_method_13_code
def yX9_ringWays : MethodName := ⟨RX9, "ringWays", "()I"⟩
abbrev cX9_lift : ByteArray := prog_1_method_14_code
def yX9_lift : MethodName := ⟨RX9, "lift", "(II)J"⟩
abbrev cX9_worth : ByteArray := prog_1_method_15_code
def yX9_worth : MethodName := ⟨RX9, "worth", "(J)J"⟩
abbrev cX9_raise : ByteArray := prog_1_method_16_code
def yX9_raise : MethodName := ⟨RX9, "raise", "(I)I"⟩
abbrev cX9_lose : ByteArray := prog_1_method_17_code
def yX9_lose : MethodName := ⟨RX9, "lose", "()I"⟩
abbrev cX9_kind : ByteArray := prog_1_method_18_code
def yX9_kind : MethodName := ⟨RX9, "kind", "(I)I"⟩
abbrev cX9_season : ByteArray := prog_1_method_19_code
def yX9_season : MethodName := ⟨RX9, "season", "()I"⟩
abbrev cX9_bestRing : ByteArray := prog_1_method_20_code
def yX9_bestRing : MethodName := ⟨RX9, "bestRing", "()I"⟩
abbrev cX9_tree : ByteArray := prog_1_method_21_code
def yX9_tree : MethodName := ⟨RX9, "tree", "(I)J"⟩
abbrev cX9_walk : ByteArray := prog_1_method_22_code
def yX9_walk : MethodName := ⟨RX9, "walk", "(III)J"⟩
abbrev cX9_load : ByteArray := prog_1_method_23_code
def yX9_load : MethodName := ⟨RX9, "load", "(II)J"⟩
abbrev cX9_told : ByteArray := prog_1_method_24_code
def yX9_told : MethodName := ⟨RX9, "told", "(LRoundsPerHour$Climb;ZI)J"⟩
abbrev cX9_ratio : ByteArray := prog_1_method_25_code
def yX9_ratio : MethodName := ⟨RX9, "ratio", "(III)J"⟩
abbrev cX9_isChoice : ByteArray := prog_1_method_26_code
def yX9_isChoice : MethodName := ⟨RX9, "isChoice", "(II)Z"⟩
abbrev cX9_compare : ByteArray := prog_1_method_27_code
def yX9_compare : MethodName := ⟨RX9, "compare", "(III)I"⟩
abbrev cX9_reduce : ByteArray := prog_1_method_28_code
def yX9_reduce : MethodName := ⟨RX9, "reduce", "(II)J"⟩
abbrev cX9_add : ByteArray := prog_1_method_29_code
def yX9_add : MethodName := ⟨RX9, "add", "(III)I"⟩
abbrev cX9_fractionFault : ByteArray := prog_1_method_30_code
def yX9_fractionFault : MethodName := ⟨RX9, "fractionFault", "(III)I"⟩
abbrev cX9_feed : ByteArray := prog_1_method_31_code
def yX9_feed : MethodName := ⟨RX9, "feed", "(II)I"⟩
abbrev cX9_wipe : ByteArray := prog_1_method_32_code
def yX9_wipe : MethodName := ⟨RX9, "wipe", "()I"⟩
abbrev cX9_text : ByteArray := prog_1_method_33_code
def yX9_text : MethodName := ⟨RX9, "text", "()I"⟩
abbrev cX9_sheet : ByteArray := prog_1_method_34_code
def yX9_sheet : MethodName := ⟨RX9, "sheet", "(III)I"⟩
abbrev cX9_write : ByteArray := prog_1_method_35_code
def yX9_write : MethodName := ⟨RX9, "write", "(IIJ)I"⟩
abbrev cX9_read : ByteArray := prog_1_method_36_code
def yX9_read : MethodName := ⟨RX9, "read", "(II)J"⟩
abbrev cX9_copy : ByteArray := prog_1_method_37_code
def yX9_copy : MethodName := ⟨RX9, "copy", "(IIIII)I"⟩
abbrev cX9_lays : ByteArray := prog_1_method_38_code
def yX9_lays : MethodName := ⟨RX9, "lays", "(I)I"⟩
abbrev cX9_sheetFault : ByteArray := prog_1_method_39_code
def yX9_sheetFault : MethodName := ⟨RX9, "sheetFault", "(I)I"⟩
abbrev cX9_numberFault : ByteArray := prog_1_method_40_code
def yX9_numberFault : MethodName := ⟨RX9, "numberFault", "(II)I"⟩
abbrev cX9_image : ByteArray := prog_1_method_41_code
def yX9_image : MethodName := ⟨RX9, "image", "()I"⟩
abbrev cX9_undo : ByteArray := prog_1_method_42_code
def yX9_undo : MethodName := ⟨RX9, "undo", "()I"⟩
abbrev cX9_tear : ByteArray := prog_1_method_43_code
def yX9_tear : MethodName := ⟨RX9, "tear", "()I"⟩
abbrev cX9_count : ByteArray := prog_1_method_44_code
def yX9_count : MethodName := ⟨RX9, "count", "(I)I"⟩
abbrev cX9_status : ByteArray := prog_1_method_45_code
def yX9_status : MethodName := ⟨RX9, "status", "(I)I"⟩
abbrev cX9_finding : ByteArray := prog_1_method_46_code
def yX9_finding : MethodName := ⟨RX9, "finding", "(I)I"⟩
abbrev cX9_longFinding : ByteArray := prog_1_method_47_code
def yX9_longFinding : MethodName := ⟨RX9, "longFinding", "(I)J"⟩
abbrev cX9_put : ByteArray := prog_1_method_48_code
def yX9_put : MethodName := ⟨RX9, "put", "([III)I"⟩
abbrev cX9_within : ByteArray := prog_1_method_49_code
def yX9_within : MethodName := ⟨RX9, "within", "(III)Z"⟩
abbrev cX9_isKind : ByteArray := prog_1_method_50_code
def yX9_isKind : MethodName := ⟨RX9, "isKind", "(I)Z"⟩
abbrev cX9_isGain : ByteArray := prog_1_method_51_code
def yX9_isGain : MethodName := ⟨RX9, "isGain", "(I)Z"⟩
abbrev cX9_isTime : ByteArray := prog_1_method_52_code
def yX9_isTime : MethodName := ⟨RX9, "isTime", "(I)Z"⟩
abbrev cX9_isUnder : ByteArray := prog_1_method_53_code
def yX9_isUnder : MethodName := ⟨RX9, "isUnder", "(II)Z"⟩
abbrev cX9_brings : ByteArray := prog_1_method_54_code
def yX9_brings : MethodName := ⟨RX9, "brings", "(III)I"⟩
abbrev cX9_lasts : ByteArray := prog_1_method_55_code
def yX9_lasts : MethodName := ⟨RX9, "lasts", "(III)I"⟩
abbrev cX9_productFits : ByteArray := prog_1_method_56_code
def yX9_productFits : MethodName := ⟨RX9, "productFits", "(JJ)Z"⟩
abbrev cX9_sumFits : ByteArray := prog_1_method_57_code
def yX9_sumFits : MethodName := ⟨RX9, "sumFits", "(JJ)Z"⟩
abbrev cX9_sharedBelowZero : ByteArray := prog_1_method_58_code
def yX9_sharedBelowZero : MethodName := ⟨RX9, "sharedBelowZero", "(JJ)J"⟩
abbrev cX9_lowest : ByteArray := prog_1_method_59_code
def yX9_lowest : MethodName := ⟨RX9, "lowest", "(JJI)J"⟩
def RX10 : String := "RoundsPerHourModel"
def TX10 : u_T := fun k => match k with
  | 0 => ("RoundsPerHourModel", "found", "[I", true)
  | 1 => ("RoundsPerHourModel", "places", "I", false)
  | 2 => ("RoundsPerHourModel", "weather", "I", false)
  | 3 => ("RoundsPerHourModel", "ways", "I", false)
  | 4 => ("RoundsPerHourModel", "way", "[I", true)
  | 5 => ("RoundsPerHourModel", "things", "I", false)
  | 6 => ("RoundsPerHourModel", "thing", "[I", true)
  | 7 => ("RoundsPerHourModel", "base", "[I", true)
  | 8 => ("RoundsPerHourModel", "open", "I", false)
  | 9 => ("RoundsPerHourModel", "must", "I", false)
  | 10 => ("RoundsPerHourModel", "isAny", "Z", false)
  | 11 => ("RoundsPerHourModel", "topAbove", "J", false)
  | 12 => ("RoundsPerHourModel", "topBelow", "J", false)
  | 13 => ("RoundsPerHourModel", "topWays", "I", false)
  | 14 => ("RoundsPerHourModel", "lifted", "[J", true)
  | 15 => ("RoundsPerHourModel", "hasRoom", "Z", false)
  | 16 => ("RoundsPerHourModel", "sort", "I", false)
  | 17 => ("RoundsPerHourModel", "goesFrom", "I", false)
  | 18 => ("RoundsPerHourModel", "goesTo", "I", false)
  | 19 => ("RoundsPerHourModel", "many", "I", false)
  | 20 => ("RoundsPerHourModel", "bitsOf", "[I", true)
  | 21 => ("RoundsPerHourModel", "sizeOf", "[I", true)
  | 22 => ("RoundsPerHourModel", "number", "[J", true)
  | 23 => ("RoundsPerHourModel", "moved", "[J", true)
  | 24 => ("RoundsPerHourModel", "tape", "[I", true)
  | 25 => ("RoundsPerHourModel", "taped", "I", false)
  | 26 => ("RoundsPerHourModel", "read", "I", false)
  | 27 => ("RoundsPerHourModel", "began", "I", false)
  | 28 => ("RoundsPerHourModel", "token", "I", false)
  | 29 => ("RoundsPerHourModel", "value", "I", false)
  | 30 => ("RoundsPerHourModel", "last", "I", false)
  | 31 => ("RoundsPerHourModel", "words", "[C", true)
  | 32 => ("RoundsPerHourModel", "toldGain", "I", false)
  | 33 => ("RoundsPerHourModel", "toldTime", "I", false)
  | 34 => ("RoundsPerHourModel", "kept", "[I", true)
  | _ => ("RoundsPerHourModel", "isKept", "Z", false)
def tyX10 : Nat → FieldType := fun k => match k with
  | 0 => .array .int
  | 1 => .int
  | 2 => .int
  | 3 => .int
  | 4 => .array .int
  | 5 => .int
  | 6 => .array .int
  | 7 => .array .int
  | 8 => .int
  | 9 => .int
  | 10 => .boolean
  | 11 => .long
  | 12 => .long
  | 13 => .int
  | 14 => .array .long
  | 15 => .boolean
  | 16 => .int
  | 17 => .int
  | 18 => .int
  | 19 => .int
  | 20 => .array .int
  | 21 => .array .int
  | 22 => .array .long
  | 23 => .array .long
  | 24 => .array .int
  | 25 => .int
  | 26 => .int
  | 27 => .int
  | 28 => .int
  | 29 => .int
  | 30 => .int
  | 31 => .array .char
  | 32 => .int
  | 33 => .int
  | 34 => .array .int
  | _ => .boolean
abbrev wsX100 : List Cond := u_ws RX10 TX10 36
theorem nmX10 : ∀ a, a < 36 → ∀ b, b < 36 → a ≠ b → (TX10 a).2.1 ≠ (TX10 b).2.1 := by decide +kernel
theorem tyX10_ok : ∀ k, k < 36 → parseFieldDescriptor (TX10 k).2.2.1 = some (tyX10 k) := by decide +kernel
abbrev cX10_init : ByteArray := prog_12_method_1_code
def yX10_init : MethodName := ⟨RX10, "<init>", "()V"⟩
abbrev cX10_in : ByteArray := prog_12_method_3_code
def yX10_in : MethodName := ⟨RX10, "in", "(JJJ)Z"⟩
abbrev cX10_finds : ByteArray := prog_12_method_4_code
def yX10_finds : MethodName := ⟨RX10, "finds", "(I)I"⟩
abbrev cX10_farFinds : ByteArray := prog_12_method_5_code
def yX10_farFinds : MethodName := ⟨RX10, "farFinds", "(I)J"⟩
abbrev cX10_at : ByteArray := prog_12_method_6_code
def yX10_at : MethodName := ⟨RX10, "at", "(II)I"⟩
abbrev cX10_isPlace : ByteArray := prog_12_method_7_code
def yX10_isPlace : MethodName := ⟨RX10, "isPlace", "(I)Z"⟩
abbrev cX10_isWay : ByteArray := prog_12_method_8_code
def yX10_isWay : MethodName := ⟨RX10, "isWay", "(I)Z"⟩
abbrev cX10_isGain : ByteArray := prog_12_method_9_code
def yX10_isGain : MethodName := ⟨RX10, "isGain", "(J)Z"⟩
abbrev cX10_isTime : ByteArray := prog_12_method_10_code
def yX10_isTime : MethodName := ⟨RX10, "isTime", "(I)Z"⟩
abbrev cX10_brings : ByteArray := prog_12_method_11_code
def yX10_brings : MethodName := ⟨RX10, "brings", "(I)I"⟩
abbrev cX10_lasts : ByteArray := prog_12_method_12_code
def yX10_lasts : MethodName := ⟨RX10, "lasts", "(I)I"⟩
abbrev cX10_places : ByteArray := prog_12_method_13_code
def yX10_places : MethodName := ⟨RX10, "places", "(I)I"⟩
abbrev cX10_weather : ByteArray := prog_12_method_14_code
def yX10_weather : MethodName := ⟨RX10, "weather", "(I)I"⟩
abbrev cX10_addWay : ByteArray := prog_12_method_15_code
def yX10_addWay : MethodName := ⟨RX10, "addWay", "(IIIII)V"⟩
abbrev cX10_way : ByteArray := prog_12_method_16_code
def yX10_way : MethodName := ⟨RX10, "way", "(IIIII)I"⟩
abbrev cX10_of : ByteArray := prog_12_method_17_code
def yX10_of : MethodName := ⟨RX10, "of", "(II)I"⟩
abbrev cX10_mayBe : ByteArray := prog_12_method_18_code
def yX10_mayBe : MethodName := ⟨RX10, "mayBe", "(III)Z"⟩
abbrev cX10_change : ByteArray := prog_12_method_19_code
def yX10_change : MethodName := ⟨RX10, "change", "(III)I"⟩
abbrev cX10_as : ByteArray := prog_12_method_20_code
def yX10_as : MethodName := ⟨RX10, "as", "(II)I"⟩
abbrev cX10_thing : ByteArray := prog_12_method_21_code
def yX10_thing : MethodName := ⟨RX10, "thing", "(II)I"⟩
abbrev cX10_isThing : ByteArray := prog_12_method_22_code
def yX10_isThing : MethodName := ⟨RX10, "isThing", "(I)Z"⟩
abbrev cX10_alter : ByteArray := prog_12_method_23_code
def yX10_alter : MethodName := ⟨RX10, "alter", "(III)I"⟩
abbrev cX10_its : ByteArray := prog_12_method_24_code
def yX10_its : MethodName := ⟨RX10, "its", "(II)I"⟩
abbrev cX10_common : ByteArray := prog_12_method_25_code
def yX10_common : MethodName := ⟨RX10, "common", "(JJ)J"⟩
abbrev cX10_lowest : ByteArray := prog_12_method_26_code
def yX10_lowest : MethodName := ⟨RX10, "lowest", "(JJI)J"⟩
abbrev cX10_openWays : ByteArray := prog_12_method_27_code
def yX10_openWays : MethodName := ⟨RX10, "openWays", "()I"⟩
abbrev cX10_closes : ByteArray := prog_12_method_28_code
def yX10_closes : MethodName := ⟨RX10, "closes", "(IJJ)V"⟩
abbrev cX10_goesRound : ByteArray := prog_12_method_29_code
def yX10_goesRound : MethodName := ⟨RX10, "goesRound", "(IIIIJJ)V"⟩
abbrev cX10_rings : ByteArray := prog_12_method_30_code
def yX10_rings : MethodName := ⟨RX10, "rings", "(II)Z"⟩
abbrev cX10_ringsNow : ByteArray := prog_12_method_31_code
def yX10_ringsNow : MethodName := ⟨RX10, "ringsNow", "()Z"⟩
abbrev cX10_ring : ByteArray := prog_12_method_32_code
def yX10_ring : MethodName := ⟨RX10, "ring", "(I)J"⟩
abbrev cX10_ringWays : ByteArray := prog_12_method_33_code
def yX10_ringWays : MethodName := ⟨RX10, "ringWays", "()I"⟩
abbrev cX10_lifts : ByteArray := prog_12_method_34_code
def yX10_lifts : MethodName := ⟨RX10, "lifts", "(JJ)Z"⟩
abbrev cX10_lift : ByteArray := prog_12_method_35_code
def yX10_lift : MethodName := ⟨RX10, "lift", "(II)J"⟩
abbrev cX10_product : ByteArray := prog_12_method_36_code
def yX10_product : MethodName := ⟨RX10, "product", "(JJ)J"⟩
abbrev cX10_sum : ByteArray := prog_12_method_37_code
def yX10_sum : MethodName := ⟨RX10, "sum", "(JJ)J"⟩
abbrev cX10_worth : ByteArray := prog_12_method_38_code
def yX10_worth : MethodName := ⟨RX10, "worth", "(J)J"⟩
abbrev cX10_isRaised : ByteArray := prog_12_method_39_code
def yX10_isRaised : MethodName := ⟨RX10, "isRaised", "(IIIJJ)Z"⟩
abbrev cX10_raised : ByteArray := prog_12_method_40_code
def yX10_raised : MethodName := ⟨RX10, "raised", "(I)I"⟩
abbrev cX10_raise : ByteArray := prog_12_method_41_code
def yX10_raise : MethodName := ⟨RX10, "raise", "(I)I"⟩
abbrev cX10_lose : ByteArray := prog_12_method_42_code
def yX10_lose : MethodName := ⟨RX10, "lose", "()I"⟩
abbrev cX10_kind : ByteArray := prog_12_method_43_code
def yX10_kind : MethodName := ⟨RX10, "kind", "(I)I"⟩
abbrev cX10_season : ByteArray := prog_12_method_44_code
def yX10_season : MethodName := ⟨RX10, "season", "()I"⟩
abbrev cX10_bits : ByteArray := prog_12_method_45_code
def yX10_bits : MethodName := ⟨RX10, "bits", "(I)I"⟩
abbrev cX10_wayFrom : ByteArray := prog_12_method_46_code
def yX10_wayFrom : MethodName := ⟨RX10, "wayFrom", "(II)I"⟩
abbrev cX10_isRound : ByteArray := prog_12_method_47_code
def yX10_isRound : MethodName := ⟨RX10, "isRound", "(I)Z"⟩
abbrev cX10_joinsAll : ByteArray := prog_12_method_48_code
def yX10_joinsAll : MethodName := ⟨RX10, "joinsAll", "(I)Z"⟩
abbrev cX10_rises : ByteArray := prog_12_method_49_code
def yX10_rises : MethodName := ⟨RX10, "rises", "(I)Z"⟩
abbrev cX10_isChoice : ByteArray := prog_12_method_50_code
def yX10_isChoice : MethodName := ⟨RX10, "isChoice", "(I)Z"⟩
abbrev cX10_aboveOf : ByteArray := prog_12_method_51_code
def yX10_aboveOf : MethodName := ⟨RX10, "aboveOf", "(I)J"⟩
abbrev cX10_belowOf : ByteArray := prog_12_method_52_code
def yX10_belowOf : MethodName := ⟨RX10, "belowOf", "(I)J"⟩
abbrev cX10_allSets : ByteArray := prog_12_method_53_code
def yX10_allSets : MethodName := ⟨RX10, "allSets", "()I"⟩
abbrev cX10_leastChoice : ByteArray := prog_12_method_54_code
def yX10_leastChoice : MethodName := ⟨RX10, "leastChoice", "()I"⟩
abbrev cX10_nextChoice : ByteArray := prog_12_method_55_code
def yX10_nextChoice : MethodName := ⟨RX10, "nextChoice", "(JJ)I"⟩
abbrev cX10_leastLike : ByteArray := prog_12_method_56_code
def yX10_leastLike : MethodName := ⟨RX10, "leastLike", "(JJ)I"⟩
abbrev cX10_climbed : ByteArray := prog_12_method_57_code
def yX10_climbed : MethodName := ⟨RX10, "climbed", "(II)J"⟩
abbrev cX10_told : ByteArray := prog_12_method_58_code
def yX10_told : MethodName := ⟨RX10, "told", "(I)J"⟩
abbrev cX10_tree : ByteArray := prog_12_method_59_code
def yX10_tree : MethodName := ⟨RX10, "tree", "(I)J"⟩
abbrev cX10_walk : ByteArray := prog_12_method_60_code
def yX10_walk : MethodName := ⟨RX10, "walk", "(III)J"⟩
abbrev cX10_load : ByteArray := prog_12_method_61_code
def yX10_load : MethodName := ⟨RX10, "load", "(II)J"⟩
abbrev cX10_ratio : ByteArray := prog_12_method_62_code
def yX10_ratio : MethodName := ⟨RX10, "ratio", "(III)J"⟩
abbrev cX10_isSheet : ByteArray := prog_12_method_63_code
def yX10_isSheet : MethodName := ⟨RX10, "isSheet", "(I)Z"⟩
abbrev cX10_narrow : ByteArray := prog_12_method_64_code
def yX10_narrow : MethodName := ⟨RX10, "narrow", "(IJ)J"⟩
abbrev cX10_wrong : ByteArray := prog_12_method_65_code
def yX10_wrong : MethodName := ⟨RX10, "wrong", "(III)I"⟩
abbrev cX10_compare : ByteArray := prog_12_method_66_code
def yX10_compare : MethodName := ⟨RX10, "compare", "(III)I"⟩
abbrev cX10_reduce : ByteArray := prog_12_method_67_code
def yX10_reduce : MethodName := ⟨RX10, "reduce", "(II)J"⟩
abbrev cX10_add : ByteArray := prog_12_method_68_code
def yX10_add : MethodName := ⟨RX10, "add", "(III)I"⟩
abbrev cX10_feed : ByteArray := prog_12_method_69_code
def yX10_feed : MethodName := ⟨RX10, "feed", "(II)I"⟩
abbrev cX10_wipe : ByteArray := prog_12_method_70_code
def yX10_wipe : MethodName := ⟨RX10, "wipe", "()I"⟩
abbrev cX10_byteAt : ByteArray := prog_12_method_71_code
def yX10_byteAt : MethodName := ⟨RX10, "byteAt", "(I)I"⟩
abbrev cX10_isWordFrom : ByteArray := prog_12_method_72_code
def yX10_isWordFrom : MethodName := ⟨RX10, "isWordFrom", "(I)Z"⟩
abbrev cX10_next : ByteArray := prog_12_method_73_code
def yX10_next : MethodName := ⟨RX10, "next", "()V"⟩
abbrev cX10_isWord : ByteArray := prog_12_method_74_code
def yX10_isWord : MethodName := ⟨RX10, "isWord", "(I)Z"⟩
abbrev cX10_takesNumber : ByteArray := prog_12_method_75_code
def yX10_takesNumber : MethodName := ⟨RX10, "takesNumber", "(II)Z"⟩
abbrev cX10_readsGainAndTime : ByteArray := prog_12_method_76_code
def yX10_readsGainAndTime : MethodName := ⟨RX10, "readsGainAndTime", "()Z"⟩
abbrev cX10_readsWay : ByteArray := prog_12_method_77_code
def yX10_readsWay : MethodName := ⟨RX10, "readsWay", "(I)Z"⟩
abbrev cX10_readsThing : ByteArray := prog_12_method_78_code
def yX10_readsThing : MethodName := ⟨RX10, "readsThing", "()Z"⟩
abbrev cX10_readsItem : ByteArray := prog_12_method_79_code
def yX10_readsItem : MethodName := ⟨RX10, "readsItem", "()Z"⟩
abbrev cX10_text : ByteArray := prog_12_method_80_code
def yX10_text : MethodName := ⟨RX10, "text", "()I"⟩
abbrev cX10_sheet : ByteArray := prog_12_method_81_code
def yX10_sheet : MethodName := ⟨RX10, "sheet", "(III)I"⟩
abbrev cX10_lacks : ByteArray := prog_12_method_82_code
def yX10_lacks : MethodName := ⟨RX10, "lacks", "(II)I"⟩
abbrev cX10_write : ByteArray := prog_12_method_83_code
def yX10_write : MethodName := ⟨RX10, "write", "(IIJ)I"⟩
abbrev cX10_read : ByteArray := prog_12_method_84_code
def yX10_read : MethodName := ⟨RX10, "read", "(II)J"⟩
abbrev cX10_copy : ByteArray := prog_12_method_85_code
def yX10_copy : MethodName := ⟨RX10, "copy", "(IIIII)I"⟩
abbrev cX10_lays : ByteArray := prog_12_method_86_code
def yX10_lays : MethodName := ⟨RX10, "lays", "(I)I"⟩
abbrev cX10_image : ByteArray := prog_12_method_87_code
def yX10_image : MethodName := ⟨RX10, "image", "()I"⟩
abbrev cX10_undo : ByteArray := prog_12_method_88_code
def yX10_undo : MethodName := ⟨RX10, "undo", "()I"⟩
abbrev cX10_tear : ByteArray := prog_12_method_89_code
def yX10_tear : MethodName := ⟨RX10, "tear", "()I"⟩
abbrev cX10_count : ByteArray := prog_12_method_90_code
def yX10_count : MethodName := ⟨RX10, "count", "(I)I"⟩
abbrev cX10_status : ByteArray := prog_12_method_91_code
def yX10_status : MethodName := ⟨RX10, "status", "(I)I"⟩
def RJ6 : String := "java/lang/Integer"
def TJ6 : u_T := fun k => match k with
  | _ => ("", "", "", false)
def tyJ6 : Nat → FieldType := fun k => match k with
  | _ => .int
abbrev wsJ60 : List Cond := u_ws RJ6 TJ6 0
theorem nmJ6 : ∀ a, a < 0 → ∀ b, b < 0 → a ≠ b → (TJ6 a).2.1 ≠ (TJ6 b).2.1 := by decide +kernel
theorem tyJ6_ok : ∀ k, k < 0 → parseFieldDescriptor (TJ6 k).2.2.1 = some (tyJ6 k) := by decide +kernel
abbrev cJ6_bitCount_0f7a4 : ByteArray := prog_13_method_49_code
def yJ6_bitCount_0f7a4 : MethodName := ⟨RJ6, "bitCount", "(I)I"⟩
def RJ13 : String := "java/lang/Long"
def TJ13 : u_T := fun k => match k with
  | _ => ("", "", "", false)
def tyJ13 : Nat → FieldType := fun k => match k with
  | _ => .int
abbrev wsJ130 : List Cond := u_ws RJ13 TJ13 0
theorem nmJ13 : ∀ a, a < 0 → ∀ b, b < 0 → a ≠ b → (TJ13 a).2.1 ≠ (TJ13 b).2.1 := by decide +kernel
theorem tyJ13_ok : ∀ k, k < 0 → parseFieldDescriptor (TJ13 k).2.2.1 = some (tyJ13 k) := by decide +kernel
abbrev cJ13_compare_74951 : ByteArray := prog_14_method_42_code
def yJ13_compare_74951 : MethodName := ⟨RJ13, "compare", "(JJ)I"⟩
def RJ9 : String := "java/lang/Math"
def TJ9 : u_T := fun k => match k with
  | _ => ("", "", "", false)
def tyJ9 : Nat → FieldType := fun k => match k with
  | _ => .int
abbrev wsJ90 : List Cond := u_ws RJ9 TJ9 0
theorem nmJ9 : ∀ a, a < 0 → ∀ b, b < 0 → a ≠ b → (TJ9 a).2.1 ≠ (TJ9 b).2.1 := by decide +kernel
theorem tyJ9_ok : ∀ k, k < 0 → parseFieldDescriptor (TJ9 k).2.2.1 = some (tyJ9 k) := by decide +kernel
abbrev cJ9_floorDiv_f86c9 : ByteArray := prog_15_method_49_code
def yJ9_floorDiv_f86c9 : MethodName := ⟨RJ9, "floorDiv", "(JJ)J"⟩
abbrev cJ9_max_f86c9 : ByteArray := prog_15_method_66_code
def yJ9_max_f86c9 : MethodName := ⟨RJ9, "max", "(JJ)J"⟩
abbrev cJ9_min_7cf53 : ByteArray := prog_15_method_69_code
def yJ9_min_7cf53 : MethodName := ⟨RJ9, "min", "(II)I"⟩
abbrev cJ9_min_f86c9 : ByteArray := prog_15_method_70_code
def yJ9_min_f86c9 : MethodName := ⟨RJ9, "min", "(JJ)J"⟩
def RJ0 : String := "java/lang/String"
def TJ0 : u_T := fun k => match k with
  | _ => ("", "", "", false)
def tyJ0 : Nat → FieldType := fun k => match k with
  | _ => .int
abbrev wsJ00 : List Cond := u_ws RJ0 TJ0 0
theorem nmJ0 : ∀ a, a < 0 → ∀ b, b < 0 → a ≠ b → (TJ0 a).2.1 ≠ (TJ0 b).2.1 := by decide +kernel
theorem tyJ0_ok : ∀ k, k < 0 → parseFieldDescriptor (TJ0 k).2.2.1 = some (tyJ0 k) := by decide +kernel
abbrev cJ0_length_8abf5 : ByteArray := prog_16_method_54_code
def yJ0_length_8abf5 : MethodName := ⟨RJ0, "length", "()I"⟩
abbrev cJ0_charAt_5068e : ByteArray := prog_16_method_56_code
def yJ0_charAt_5068e : MethodName := ⟨RJ0, "charAt", "(I)C"⟩
abbrev cJ0_coder_7d493 : ByteArray := prog_16_method_152_code
def yJ0_coder_7d493 : MethodName := ⟨RJ0, "coder", "()B"⟩
abbrev cJ0_isLatin1_aae02 : ByteArray := prog_16_method_154_code
def yJ0_isLatin1_aae02 : MethodName := ⟨RJ0, "isLatin1", "()Z"⟩
abbrev cJ0_checkIndex_df160 : ByteArray := prog_16_method_155_code
def yJ0_checkIndex_df160 : MethodName := ⟨RJ0, "checkIndex", "(II)V"⟩
def RJ1 : String := "java/lang/StringLatin1"
def TJ1 : u_T := fun k => match k with
  | _ => ("", "", "", false)
def tyJ1 : Nat → FieldType := fun k => match k with
  | _ => .int
abbrev wsJ10 : List Cond := u_ws RJ1 TJ1 0
theorem nmJ1 : ∀ a, a < 0 → ∀ b, b < 0 → a ≠ b → (TJ1 a).2.1 ≠ (TJ1 b).2.1 := by decide +kernel
theorem tyJ1_ok : ∀ k, k < 0 → parseFieldDescriptor (TJ1 k).2.2.1 = some (tyJ1 k) := by decide +kernel
abbrev cJ1_charAt_3b067 : ByteArray := prog_17_method_2_code
def yJ1_charAt_3b067 : MethodName := ⟨RJ1, "charAt", "([BI)C"⟩
def RJ2 : String := "java/lang/StringUTF16"
def TJ2 : u_T := fun k => match k with
  | _ => ("", "", "", false)
def tyJ2 : Nat → FieldType := fun k => match k with
  | _ => .int
abbrev wsJ20 : List Cond := u_ws RJ2 TJ2 0
theorem nmJ2 : ∀ a, a < 0 → ∀ b, b < 0 → a ≠ b → (TJ2 a).2.1 ≠ (TJ2 b).2.1 := by decide +kernel
theorem tyJ2_ok : ∀ k, k < 0 → parseFieldDescriptor (TJ2 k).2.2.1 = some (tyJ2 k) := by decide +kernel
abbrev cJ2_getChar_3b067 : ByteArray := prog_18_method_5_code
def yJ2_getChar_3b067 : MethodName := ⟨RJ2, "getChar", "([BI)C"⟩
abbrev cJ2_length_9d52b : ByteArray := prog_18_method_6_code
def yJ2_length_9d52b : MethodName := ⟨RJ2, "length", "([B)I"⟩
abbrev cJ2_charAt_3b067 : ByteArray := prog_18_method_83_code
def yJ2_charAt_3b067 : MethodName := ⟨RJ2, "charAt", "([BI)C"⟩
abbrev cJ2_checkIndex_2214a : ByteArray := prog_18_method_91_code
def yJ2_checkIndex_2214a : MethodName := ⟨RJ2, "checkIndex", "(I[B)V"⟩
def RJ10 : String := "java/lang/System"
def TJ10 : u_T := fun k => match k with
  | _ => ("", "", "", false)
def tyJ10 : Nat → FieldType := fun k => match k with
  | _ => .int
abbrev wsJ100 : List Cond := u_ws RJ10 TJ10 0
theorem nmJ10 : ∀ a, a < 0 → ∀ b, b < 0 → a ≠ b → (TJ10 a).2.1 ≠ (TJ10 b).2.1 := by decide +kernel
theorem tyJ10_ok : ∀ k, k < 0 → parseFieldDescriptor (TJ10 k).2.2.1 = some (tyJ10 k) := by decide +kernel
def RJ3 : String := "jdk/internal/util/Preconditions"
def TJ3 : u_T := fun k => match k with
  | _ => ("", "", "", false)
def tyJ3 : Nat → FieldType := fun k => match k with
  | _ => .int
abbrev wsJ30 : List Cond := u_ws RJ3 TJ3 0
theorem nmJ3 : ∀ a, a < 0 → ∀ b, b < 0 → a ≠ b → (TJ3 a).2.1 ≠ (TJ3 b).2.1 := by decide +kernel
theorem tyJ3_ok : ∀ k, k < 0 → parseFieldDescriptor (TJ3 k).2.2.1 = some (tyJ3 k) := by decide +kernel
abbrev cJ3_checkIndex_8e157 : ByteArray := prog_20_method_11_code
def yJ3_checkIndex_8e157 : MethodName := ⟨RJ3, "checkIndex", "(IILjava/util/function/BiFunction;)I"⟩
def RL : String := "RoundsPerHourLaw"
abbrev cL_law : ByteArray := code
def yL_law : MethodName := ⟨RL, "law", "([I)Z"⟩
def wsX0_init : List Cond := .code yX0_init cX0_init 1 none :: ([.methodLink RX0 3 objectInit, .instanceMethod objectInit, .code objectInit ⟨#[0xb1]⟩ 1 none, .arrayClass .long, .fieldLink RX0 9 "RoundsPerHour$Climb" "gains" "[J", .fieldLink RX0 15 "RoundsPerHour$Climb" "times" "[J", .fieldLink RX0 18 "RoundsPerHour$Climb" "weight" "[J"] ++ wsX30 ++ wsX70 ++ wsX80)
def wsX9_brings : List Cond := .code yX9_brings cX9_brings 3 (some .int) :: ([.methodLink RX9 368 yX9_brings, .static yX9_brings, .initialized RX9])
def wsX1_bringsOf : List Cond := .code yX1_bringsOf cX1_bringsOf 2 (some .int) :: ([.fieldLink RX1 15 "RoundsPerHour$Country" "kind" "[I", .fieldLink RX1 25 "RoundsPerHour$Country" "gain" "[I", .fieldLink RX1 50 "RoundsPerHour$Country" "weather" "I", .static yX9_brings, .initialized RX9, .code yX9_brings cX9_brings 3 (some .int), .methodLink RX9 368 yX9_brings] ++ wsX10)
def wsX9_lasts : List Cond := .code yX9_lasts cX9_lasts 3 (some .int) :: ([.methodLink RX9 371 yX9_lasts, .static yX9_lasts, .initialized RX9])
def wsX1_lastsOf : List Cond := .code yX1_lastsOf cX1_lastsOf 2 (some .int) :: ([.fieldLink RX1 15 "RoundsPerHour$Country" "kind" "[I", .fieldLink RX1 28 "RoundsPerHour$Country" "time" "[I", .fieldLink RX1 50 "RoundsPerHour$Country" "weather" "I", .static yX9_lasts, .initialized RX9, .code yX9_lasts cX9_lasts 3 (some .int), .methodLink RX9 371 yX9_lasts] ++ wsX10)
def wsX0_takeWays : List Cond := .code yX0_takeWays cX0_takeWays 3 none :: ([.fieldLink RX0 21 "RoundsPerHour$Country" "ways" "I", .fieldLink RX0 27 "RoundsPerHour$Climb" "size" "I", .fieldLink RX0 9 "RoundsPerHour$Climb" "gains" "[J", .fieldLink RX0 15 "RoundsPerHour$Climb" "times" "[J", .methodLink RX0 30 yX1_bringsOf, .instanceMethod yX1_bringsOf, .selects RX1 yX1_bringsOf yX1_bringsOf, .initialized RX1, .code yX1_bringsOf cX1_bringsOf 2 (some .int), .fieldLink RX1 15 "RoundsPerHour$Country" "kind" "[I", .fieldLink RX1 25 "RoundsPerHour$Country" "gain" "[I", .fieldLink RX1 50 "RoundsPerHour$Country" "weather" "I", .static yX9_brings, .initialized RX9, .code yX9_brings cX9_brings 3 (some .int), .methodLink RX9 368 yX9_brings, .methodLink RX0 34 yX1_lastsOf, .instanceMethod yX1_lastsOf, .selects RX1 yX1_lastsOf yX1_lastsOf, .code yX1_lastsOf cX1_lastsOf 2 (some .int), .fieldLink RX1 28 "RoundsPerHour$Country" "time" "[I", .static yX9_lasts, .code yX9_lasts cX9_lasts 3 (some .int), .methodLink RX9 371 yX9_lasts] ++ wsX10 ++ wsX30 ++ wsX70 ++ wsX80)
def wsX0_weigh : List Cond := .code yX0_weigh cX0_weigh 6 none :: ([.fieldLink RX0 27 "RoundsPerHour$Climb" "size" "I", .fieldLink RX0 18 "RoundsPerHour$Climb" "weight" "[J", .fieldLink RX0 9 "RoundsPerHour$Climb" "gains" "[J", .fieldLink RX0 15 "RoundsPerHour$Climb" "times" "[J"] ++ wsX30 ++ wsX70 ++ wsX80)
def wsX3_pick : List Cond := .code yX3_pick cX3_pick 5 (some .int) :: ([.fieldLink RX3 7 "RoundsPerHour$LoadClimb" "most" "I", .fieldLink RX3 18 "RoundsPerHour$LoadClimb" "size" "I", .sameField "RoundsPerHour$LoadClimb" "RoundsPerHour$Climb" "size" "I", .fieldLink RX3 46 "RoundsPerHour$LoadClimb" "weight" "[J", .sameField "RoundsPerHour$LoadClimb" "RoundsPerHour$Climb" "weight" "[J"] ++ wsX30 ++ wsX70 ++ wsX80)
def wsX2_part : List Cond := .code yX2_part cX2_part 2 none :: ([.fieldLink RX2 9 "RoundsPerHour$Joins" "label" "[I"] ++ wsX20)
def wsX2_apart : List Cond := .code yX2_apart cX2_apart 3 (some .boolean) :: ([.fieldLink RX2 9 "RoundsPerHour$Joins" "label" "[I"] ++ wsX20)
def wsX7_heaviestJoining : List Cond := .code yX7_heaviestJoining cX7_heaviestJoining 4 (some .int) :: ([.fieldLink RX7 54 "RoundsPerHour$TreeClimb" "size" "I", .sameField "RoundsPerHour$TreeClimb" "RoundsPerHour$Climb" "size" "I", .fieldLink RX7 18 "RoundsPerHour$TreeClimb" "land" "LRoundsPerHour$Country;", .fieldLink RX7 57 "RoundsPerHour$Country" "shut" "[I", .fieldLink RX7 12 "RoundsPerHour$TreeClimb" "joins" "LRoundsPerHour$Joins;", .fieldLink RX7 43 "RoundsPerHour$Country" "from" "[I", .fieldLink RX7 47 "RoundsPerHour$Country" "to" "[I", .fieldLink RX7 64 "RoundsPerHour$TreeClimb" "weight" "[J", .sameField "RoundsPerHour$TreeClimb" "RoundsPerHour$Climb" "weight" "[J", .methodLink RX7 60 yX2_apart, .instanceMethod yX2_apart, .selects RX2 yX2_apart yX2_apart, .initialized RX2, .code yX2_apart cX2_apart 3 (some .boolean), .fieldLink RX2 9 "RoundsPerHour$Joins" "label" "[I"] ++ wsX30 ++ wsX70 ++ wsX80 ++ wsX10 ++ wsX20)
def wsX2_join : List Cond := .code yX2_join cX2_join 6 none :: ([.fieldLink RX2 9 "RoundsPerHour$Joins" "label" "[I"] ++ wsX20)
def wsX7_pick_r1 : List Cond := [Cond.fieldLink RX7 12 "RoundsPerHour$TreeClimb" "joins" "LRoundsPerHour$Joins;", Cond.fieldLink RX7 18 "RoundsPerHour$TreeClimb" "land" "LRoundsPerHour$Country;", Cond.fieldLink RX7 33 "RoundsPerHour$Country" "places" "I", Cond.fieldLink RX7 43 "RoundsPerHour$Country" "from" "[I", Cond.fieldLink RX7 47 "RoundsPerHour$Country" "to" "[I", Cond.methodLink RX7 30 yX2_part, Cond.instanceMethod yX2_part, Cond.selects RX2 yX2_part yX2_part, Cond.initialized RX2, Cond.code yX2_part cX2_part 2 none, Cond.fieldLink RX2 9 "RoundsPerHour$Joins" "label" "[I", Cond.methodLink RX7 39 yX7_heaviestJoining, Cond.instanceMethod yX7_heaviestJoining, Cond.selects RX7 yX7_heaviestJoining yX7_heaviestJoining, Cond.initialized RX7, Cond.code yX7_heaviestJoining cX7_heaviestJoining 4 (some .int), Cond.fieldLink RX7 54 "RoundsPerHour$TreeClimb" "size" "I", Cond.sameField "RoundsPerHour$TreeClimb" "RoundsPerHour$Climb" "size" "I", Cond.fieldLink RX7 57 "RoundsPerHour$Country" "shut" "[I", Cond.fieldLink RX7 64 "RoundsPerHour$TreeClimb" "weight" "[J", Cond.sameField "RoundsPerHour$TreeClimb" "RoundsPerHour$Climb" "weight" "[J", Cond.methodLink RX7 60 yX2_apart, Cond.instanceMethod yX2_apart, Cond.selects RX2 yX2_apart yX2_apart]
def wsX7_pick_r2 : List Cond := [Cond.code yX2_apart cX2_apart 3 (some .boolean), Cond.methodLink RX7 50 yX2_join, Cond.instanceMethod yX2_join, Cond.selects RX2 yX2_join yX2_join, Cond.code yX2_join cX2_join 6 none]
def wsX7_pick : List Cond := .code yX7_pick cX7_pick 4 (some .int) :: ((wsX7_pick_r1 ++ wsX7_pick_r2) ++ wsX70 ++ wsX10 ++ wsX20 ++ wsX30 ++ wsX80)
def wsX8_leave : List Cond := .code yX8_leave cX8_leave 8 none :: ([.fieldLink RX8 42 "RoundsPerHour$WalkClimb" "size" "I", .sameField "RoundsPerHour$WalkClimb" "RoundsPerHour$Climb" "size" "I", .fieldLink RX8 19 "RoundsPerHour$WalkClimb" "land" "LRoundsPerHour$Country;", .fieldLink RX8 45 "RoundsPerHour$Country" "to" "[I", .fieldLink RX8 50 "RoundsPerHour$Country" "shut" "[I", .fieldLink RX8 53 "RoundsPerHour$Country" "from" "[I", .fieldLink RX8 9 "RoundsPerHour$WalkClimb" "height" "[J", .fieldLink RX8 56 "RoundsPerHour$WalkClimb" "weight" "[J", .sameField "RoundsPerHour$WalkClimb" "RoundsPerHour$Climb" "weight" "[J", .fieldLink RX8 15 "RoundsPerHour$WalkClimb" "sets" "[I"] ++ wsX30 ++ wsX70 ++ wsX80 ++ wsX10)
def wsX8_pick : List Cond := .code yX8_pick cX8_pick 2 (some .int) :: ([.fieldLink RX8 9 "RoundsPerHour$WalkClimb" "height" "[J", .fieldLink RX8 15 "RoundsPerHour$WalkClimb" "sets" "[I", .fieldLink RX8 23 "RoundsPerHour$WalkClimb" "start" "I", .fieldLink RX8 27 "RoundsPerHour$WalkClimb" "end" "I", .methodLink RX8 38 yX8_leave, .instanceMethod yX8_leave, .selects RX8 yX8_leave yX8_leave, .initialized RX8, .code yX8_leave cX8_leave 8 none, .fieldLink RX8 42 "RoundsPerHour$WalkClimb" "size" "I", .sameField "RoundsPerHour$WalkClimb" "RoundsPerHour$Climb" "size" "I", .fieldLink RX8 19 "RoundsPerHour$WalkClimb" "land" "LRoundsPerHour$Country;", .fieldLink RX8 45 "RoundsPerHour$Country" "to" "[I", .fieldLink RX8 50 "RoundsPerHour$Country" "shut" "[I", .fieldLink RX8 53 "RoundsPerHour$Country" "from" "[I", .fieldLink RX8 56 "RoundsPerHour$WalkClimb" "weight" "[J", .sameField "RoundsPerHour$WalkClimb" "RoundsPerHour$Climb" "weight" "[J"] ++ wsX80 ++ wsX30 ++ wsX70 ++ wsX10)
def wsX0_together : List Cond := .code yX0_together cX0_together 6 (some .long) :: ([.fieldLink RX0 27 "RoundsPerHour$Climb" "size" "I"] ++ wsX30 ++ wsX70 ++ wsX80)
def wsX0_runs_r1 : List Cond := [Cond.fieldLink RX0 45 "RoundsPerHour$Climb" "steps" "I", Cond.fieldLink RX0 48 "RoundsPerHour$Climb" "baseAbove" "J", Cond.fieldLink RX0 9 "RoundsPerHour$Climb" "gains" "[J", Cond.fieldLink RX0 56 "RoundsPerHour$Climb" "above" "J", Cond.fieldLink RX0 59 "RoundsPerHour$Climb" "baseBelow" "J", Cond.fieldLink RX0 15 "RoundsPerHour$Climb" "times" "[J", Cond.fieldLink RX0 62 "RoundsPerHour$Climb" "below" "J", Cond.fieldLink RX0 65 "RoundsPerHour$Climb" "best" "I", Cond.methodLink RX0 37 ⟨"RoundsPerHour$Climb", "weigh", "(JJ)V"⟩, Cond.sameMethod "RoundsPerHour$Climb" "RoundsPerHour$Climb" "weigh" "(JJ)V", Cond.selects RX3 ⟨"RoundsPerHour$Climb", "weigh", "(JJ)V"⟩ yX0_weigh, Cond.instanceMethod yX0_weigh, Cond.initialized RX0, Cond.code yX0_weigh cX0_weigh 6 none, Cond.fieldLink RX0 27 "RoundsPerHour$Climb" "size" "I", Cond.fieldLink RX0 18 "RoundsPerHour$Climb" "weight" "[J", Cond.selects RX7 ⟨"RoundsPerHour$Climb", "weigh", "(JJ)V"⟩ yX0_weigh, Cond.selects RX8 ⟨"RoundsPerHour$Climb", "weigh", "(JJ)V"⟩ yX0_weigh, Cond.methodLink RX0 41 ⟨"RoundsPerHour$Climb", "pick", "()I"⟩, Cond.sameMethod "RoundsPerHour$Climb" "RoundsPerHour$Climb" "pick" "()I", Cond.selects RX3 ⟨"RoundsPerHour$Climb", "pick", "()I"⟩ yX3_pick, Cond.instanceMethod yX3_pick, Cond.initialized RX3, Cond.code yX3_pick cX3_pick 5 (some .int)]
def wsX0_runs_r2 : List Cond := [Cond.fieldLink RX3 7 "RoundsPerHour$LoadClimb" "most" "I", Cond.fieldLink RX3 18 "RoundsPerHour$LoadClimb" "size" "I", Cond.sameField "RoundsPerHour$LoadClimb" "RoundsPerHour$Climb" "size" "I", Cond.fieldLink RX3 46 "RoundsPerHour$LoadClimb" "weight" "[J", Cond.sameField "RoundsPerHour$LoadClimb" "RoundsPerHour$Climb" "weight" "[J", Cond.selects RX7 ⟨"RoundsPerHour$Climb", "pick", "()I"⟩ yX7_pick, Cond.instanceMethod yX7_pick, Cond.initialized RX7, Cond.code yX7_pick cX7_pick 4 (some .int), Cond.fieldLink RX7 12 "RoundsPerHour$TreeClimb" "joins" "LRoundsPerHour$Joins;", Cond.fieldLink RX7 18 "RoundsPerHour$TreeClimb" "land" "LRoundsPerHour$Country;", Cond.fieldLink RX7 33 "RoundsPerHour$Country" "places" "I", Cond.fieldLink RX7 43 "RoundsPerHour$Country" "from" "[I", Cond.fieldLink RX7 47 "RoundsPerHour$Country" "to" "[I", Cond.methodLink RX7 30 yX2_part, Cond.instanceMethod yX2_part, Cond.selects RX2 yX2_part yX2_part, Cond.initialized RX2, Cond.code yX2_part cX2_part 2 none, Cond.fieldLink RX2 9 "RoundsPerHour$Joins" "label" "[I", Cond.methodLink RX7 39 yX7_heaviestJoining, Cond.instanceMethod yX7_heaviestJoining, Cond.selects RX7 yX7_heaviestJoining yX7_heaviestJoining, Cond.code yX7_heaviestJoining cX7_heaviestJoining 4 (some .int)]
def wsX0_runs_r3 : List Cond := [Cond.fieldLink RX7 54 "RoundsPerHour$TreeClimb" "size" "I", Cond.sameField "RoundsPerHour$TreeClimb" "RoundsPerHour$Climb" "size" "I", Cond.fieldLink RX7 57 "RoundsPerHour$Country" "shut" "[I", Cond.fieldLink RX7 64 "RoundsPerHour$TreeClimb" "weight" "[J", Cond.sameField "RoundsPerHour$TreeClimb" "RoundsPerHour$Climb" "weight" "[J", Cond.methodLink RX7 60 yX2_apart, Cond.instanceMethod yX2_apart, Cond.selects RX2 yX2_apart yX2_apart, Cond.code yX2_apart cX2_apart 3 (some .boolean), Cond.methodLink RX7 50 yX2_join, Cond.instanceMethod yX2_join, Cond.selects RX2 yX2_join yX2_join, Cond.code yX2_join cX2_join 6 none, Cond.selects RX8 ⟨"RoundsPerHour$Climb", "pick", "()I"⟩ yX8_pick, Cond.instanceMethod yX8_pick, Cond.initialized RX8, Cond.code yX8_pick cX8_pick 2 (some .int), Cond.fieldLink RX8 9 "RoundsPerHour$WalkClimb" "height" "[J", Cond.fieldLink RX8 15 "RoundsPerHour$WalkClimb" "sets" "[I", Cond.fieldLink RX8 23 "RoundsPerHour$WalkClimb" "start" "I", Cond.fieldLink RX8 27 "RoundsPerHour$WalkClimb" "end" "I", Cond.methodLink RX8 38 yX8_leave, Cond.instanceMethod yX8_leave, Cond.selects RX8 yX8_leave yX8_leave]
def wsX0_runs_r4 : List Cond := [Cond.code yX8_leave cX8_leave 8 none, Cond.fieldLink RX8 42 "RoundsPerHour$WalkClimb" "size" "I", Cond.sameField "RoundsPerHour$WalkClimb" "RoundsPerHour$Climb" "size" "I", Cond.fieldLink RX8 19 "RoundsPerHour$WalkClimb" "land" "LRoundsPerHour$Country;", Cond.fieldLink RX8 45 "RoundsPerHour$Country" "to" "[I", Cond.fieldLink RX8 50 "RoundsPerHour$Country" "shut" "[I", Cond.fieldLink RX8 53 "RoundsPerHour$Country" "from" "[I", Cond.fieldLink RX8 56 "RoundsPerHour$WalkClimb" "weight" "[J", Cond.sameField "RoundsPerHour$WalkClimb" "RoundsPerHour$Climb" "weight" "[J", Cond.methodLink RX0 52 ⟨"RoundsPerHour$Climb", "together", "([JI)J"⟩, Cond.sameMethod "RoundsPerHour$Climb" "RoundsPerHour$Climb" "together" "([JI)J", Cond.selects RX3 ⟨"RoundsPerHour$Climb", "together", "([JI)J"⟩ yX0_together, Cond.instanceMethod yX0_together, Cond.code yX0_together cX0_together 6 (some .long), Cond.selects RX7 ⟨"RoundsPerHour$Climb", "together", "([JI)J"⟩ yX0_together, Cond.selects RX8 ⟨"RoundsPerHour$Climb", "together", "([JI)J"⟩ yX0_together]
def wsX0_runs : List Cond := .code yX0_runs cX0_runs 7 (some .boolean) :: ((wsX0_runs_r1 ++ (wsX0_runs_r2 ++ (wsX0_runs_r3 ++ wsX0_runs_r4))) ++ wsX30 ++ wsX70 ++ wsX80 ++ wsX10 ++ wsX20)
def wsX1_init : List Cond := .code yX1_init cX1_init 1 none :: ([.methodLink RX1 3 objectInit, .instanceMethod objectInit, .code objectInit ⟨#[0xb1]⟩ 1 none, .fieldLink RX1 9 "RoundsPerHour$Country" "places" "I", .arrayClass .int, .fieldLink RX1 15 "RoundsPerHour$Country" "kind" "[I", .fieldLink RX1 19 "RoundsPerHour$Country" "from" "[I", .fieldLink RX1 22 "RoundsPerHour$Country" "to" "[I", .fieldLink RX1 25 "RoundsPerHour$Country" "gain" "[I", .fieldLink RX1 28 "RoundsPerHour$Country" "time" "[I", .fieldLink RX1 31 "RoundsPerHour$Country" "shut" "[I", .fieldLink RX1 34 "RoundsPerHour$Country" "thingGain" "[I", .fieldLink RX1 37 "RoundsPerHour$Country" "thingTime" "[I"] ++ wsX10)
def wsX9_within : List Cond := .code yX9_within cX9_within 3 (some .boolean) :: ([])
def wsX1_isPlace : List Cond := .code yX1_isPlace cX1_isPlace 2 (some .boolean) :: ([.fieldLink RX1 9 "RoundsPerHour$Country" "places" "I", .static yX9_within, .initialized RX9, .code yX9_within cX9_within 3 (some .boolean)] ++ wsX10)
def wsX1_isWay : List Cond := .code yX1_isWay cX1_isWay 2 (some .boolean) :: ([.fieldLink RX1 44 "RoundsPerHour$Country" "ways" "I", .static yX9_within, .initialized RX9, .code yX9_within cX9_within 3 (some .boolean)] ++ wsX10)
def wsX1_isThingOrBase : List Cond := .code yX1_isThingOrBase cX1_isThingOrBase 2 (some .boolean) :: ([.fieldLink RX1 47 "RoundsPerHour$Country" "things" "I", .static yX9_within, .initialized RX9, .code yX9_within cX9_within 3 (some .boolean)] ++ wsX10)
def wsX1_newWay : List Cond := .code yX1_newWay cX1_newWay 7 (some .int) :: ([.fieldLink RX1 44 "RoundsPerHour$Country" "ways" "I", .fieldLink RX1 15 "RoundsPerHour$Country" "kind" "[I", .fieldLink RX1 19 "RoundsPerHour$Country" "from" "[I", .fieldLink RX1 22 "RoundsPerHour$Country" "to" "[I", .fieldLink RX1 25 "RoundsPerHour$Country" "gain" "[I", .fieldLink RX1 28 "RoundsPerHour$Country" "time" "[I", .fieldLink RX1 31 "RoundsPerHour$Country" "shut" "[I"] ++ wsX10)
def wsX1_newThing : List Cond := .code yX1_newThing cX1_newThing 3 (some .int) :: ([.fieldLink RX1 47 "RoundsPerHour$Country" "things" "I", .fieldLink RX1 34 "RoundsPerHour$Country" "thingGain" "[I", .fieldLink RX1 37 "RoundsPerHour$Country" "thingTime" "[I"] ++ wsX10)
def wsX1_shutWays : List Cond := .code yX1_shutWays cX1_shutWays 3 (some .int) :: ([.fieldLink RX1 44 "RoundsPerHour$Country" "ways" "I", .fieldLink RX1 31 "RoundsPerHour$Country" "shut" "[I"] ++ wsX10)
def wsX1_isOpenSet : List Cond := .code yX1_isOpenSet cX1_isOpenSet 3 (some .boolean) :: ([.fieldLink RX1 44 "RoundsPerHour$Country" "ways" "I", .fieldLink RX1 31 "RoundsPerHour$Country" "shut" "[I"] ++ wsX10)
def wsX1_firstFrom : List Cond := .code yX1_firstFrom cX1_firstFrom 4 (some .int) :: ([.fieldLink RX1 44 "RoundsPerHour$Country" "ways" "I", .fieldLink RX1 19 "RoundsPerHour$Country" "from" "[I"] ++ wsX10)
def wsJ6_bitCount_0f7a4 : List Cond := .code yJ6_bitCount_0f7a4 cJ6_bitCount_0f7a4 1 (some .int) :: ([.constant RJ6 265 (1431655765), .constant RJ6 266 (858993459), .constant RJ6 267 (252645135)])
def wsX1_isRing : List Cond := .code yX1_isRing cX1_isRing 7 (some .boolean) :: ([.fieldLink RX1 19 "RoundsPerHour$Country" "from" "[I", .fieldLink RX1 22 "RoundsPerHour$Country" "to" "[I", .methodLink RX1 60 yX1_firstFrom, .instanceMethod yX1_firstFrom, .selects RX1 yX1_firstFrom yX1_firstFrom, .initialized RX1, .code yX1_firstFrom cX1_firstFrom 4 (some .int), .fieldLink RX1 44 "RoundsPerHour$Country" "ways" "I", .methodLink RX1 64 yJ6_bitCount_0f7a4, .static yJ6_bitCount_0f7a4, .initialized RJ6, .code yJ6_bitCount_0f7a4 cJ6_bitCount_0f7a4 1 (some .int), .constant RJ6 265 (1431655765), .constant RJ6 266 (858993459), .constant RJ6 267 (252645135)] ++ wsX10)
def wsX1_bringTogether : List Cond := .code yX1_bringTogether cX1_bringTogether 5 (some .long) :: ([.fieldLink RX1 44 "RoundsPerHour$Country" "ways" "I", .methodLink RX1 70 yX1_bringsOf, .instanceMethod yX1_bringsOf, .selects RX1 yX1_bringsOf yX1_bringsOf, .initialized RX1, .code yX1_bringsOf cX1_bringsOf 2 (some .int), .fieldLink RX1 15 "RoundsPerHour$Country" "kind" "[I", .fieldLink RX1 25 "RoundsPerHour$Country" "gain" "[I", .fieldLink RX1 50 "RoundsPerHour$Country" "weather" "I", .static yX9_brings, .initialized RX9, .code yX9_brings cX9_brings 3 (some .int), .methodLink RX9 368 yX9_brings] ++ wsX10)
def wsX1_lastTogether : List Cond := .code yX1_lastTogether cX1_lastTogether 5 (some .long) :: ([.fieldLink RX1 44 "RoundsPerHour$Country" "ways" "I", .methodLink RX1 73 yX1_lastsOf, .instanceMethod yX1_lastsOf, .selects RX1 yX1_lastsOf yX1_lastsOf, .initialized RX1, .code yX1_lastsOf cX1_lastsOf 2 (some .int), .fieldLink RX1 15 "RoundsPerHour$Country" "kind" "[I", .fieldLink RX1 28 "RoundsPerHour$Country" "time" "[I", .fieldLink RX1 50 "RoundsPerHour$Country" "weather" "I", .static yX9_lasts, .initialized RX9, .code yX9_lasts cX9_lasts 3 (some .int), .methodLink RX9 371 yX9_lasts] ++ wsX10)
def wsX1_sumWithBase : List Cond := .code yX1_sumWithBase cX1_sumWithBase 6 (some .long) :: ([.fieldLink RX1 47 "RoundsPerHour$Country" "things" "I"] ++ wsX10)
def wsX1_gainTogether : List Cond := .code yX1_gainTogether cX1_gainTogether 2 (some .long) :: ([.fieldLink RX1 34 "RoundsPerHour$Country" "thingGain" "[I", .methodLink RX1 76 yX1_sumWithBase, .instanceMethod yX1_sumWithBase, .selects RX1 yX1_sumWithBase yX1_sumWithBase, .initialized RX1, .code yX1_sumWithBase cX1_sumWithBase 6 (some .long), .fieldLink RX1 47 "RoundsPerHour$Country" "things" "I"] ++ wsX10)
def wsX1_timeTogether : List Cond := .code yX1_timeTogether cX1_timeTogether 2 (some .long) :: ([.fieldLink RX1 37 "RoundsPerHour$Country" "thingTime" "[I", .methodLink RX1 76 yX1_sumWithBase, .instanceMethod yX1_sumWithBase, .selects RX1 yX1_sumWithBase yX1_sumWithBase, .initialized RX1, .code yX1_sumWithBase cX1_sumWithBase 6 (some .long), .fieldLink RX1 47 "RoundsPerHour$Country" "things" "I"] ++ wsX10)
def wsX1_become : List Cond := .code yX1_become cX1_become 2 none :: ([.fieldLink RX1 9 "RoundsPerHour$Country" "places" "I", .fieldLink RX1 50 "RoundsPerHour$Country" "weather" "I", .fieldLink RX1 44 "RoundsPerHour$Country" "ways" "I", .fieldLink RX1 47 "RoundsPerHour$Country" "things" "I", .fieldLink RX1 15 "RoundsPerHour$Country" "kind" "[I", .methodLink RX1 80 arraycopyName, .native arraycopyName, .static arraycopyName, .initialized "java/lang/System", .fieldLink RX1 19 "RoundsPerHour$Country" "from" "[I", .fieldLink RX1 22 "RoundsPerHour$Country" "to" "[I", .fieldLink RX1 25 "RoundsPerHour$Country" "gain" "[I", .fieldLink RX1 28 "RoundsPerHour$Country" "time" "[I", .fieldLink RX1 31 "RoundsPerHour$Country" "shut" "[I", .fieldLink RX1 34 "RoundsPerHour$Country" "thingGain" "[I", .fieldLink RX1 37 "RoundsPerHour$Country" "thingTime" "[I"] ++ wsX10)
def wsX2_init : List Cond := .code yX2_init cX2_init 1 none :: ([.methodLink RX2 3 objectInit, .instanceMethod objectInit, .code objectInit ⟨#[0xb1]⟩ 1 none, .arrayClass .int, .fieldLink RX2 9 "RoundsPerHour$Joins" "label" "[I"] ++ wsX20)
def wsX2_isTree_r1 : List Cond := [Cond.fieldLink RX2 21 "RoundsPerHour$Country" "places" "I", Cond.fieldLink RX2 30 "RoundsPerHour$Country" "ways" "I", Cond.fieldLink RX2 33 "RoundsPerHour$Country" "from" "[I", Cond.fieldLink RX2 36 "RoundsPerHour$Country" "to" "[I", Cond.methodLink RX2 15 yJ6_bitCount_0f7a4, Cond.static yJ6_bitCount_0f7a4, Cond.initialized RJ6, Cond.code yJ6_bitCount_0f7a4 cJ6_bitCount_0f7a4 1 (some .int), Cond.constant RJ6 265 (1431655765), Cond.constant RJ6 266 (858993459), Cond.constant RJ6 267 (252645135), Cond.methodLink RX2 27 yX2_part, Cond.instanceMethod yX2_part, Cond.selects RX2 yX2_part yX2_part, Cond.initialized RX2, Cond.code yX2_part cX2_part 2 none, Cond.fieldLink RX2 9 "RoundsPerHour$Joins" "label" "[I", Cond.methodLink RX2 39 yX2_apart, Cond.instanceMethod yX2_apart, Cond.selects RX2 yX2_apart yX2_apart, Cond.code yX2_apart cX2_apart 3 (some .boolean), Cond.methodLink RX2 43 yX2_join, Cond.instanceMethod yX2_join, Cond.selects RX2 yX2_join yX2_join]
def wsX2_isTree_r2 : List Cond := [Cond.code yX2_join cX2_join 6 none]
def wsX2_isTree : List Cond := .code yX2_isTree cX2_isTree 4 (some .boolean) :: ((wsX2_isTree_r1 ++ wsX2_isTree_r2) ++ wsX10 ++ wsX20)
def wsX3_init : List Cond := .code yX3_init cX3_init 1 none :: ([.instanceMethod yX0_init, .initialized RX0, .code yX0_init cX0_init 1 none, .methodLink RX0 3 objectInit, .instanceMethod objectInit, .code objectInit ⟨#[0xb1]⟩ 1 none, .arrayClass .long, .fieldLink RX0 9 "RoundsPerHour$Climb" "gains" "[J", .fieldLink RX0 15 "RoundsPerHour$Climb" "times" "[J", .fieldLink RX0 18 "RoundsPerHour$Climb" "weight" "[J"] ++ wsX30 ++ wsX70 ++ wsX80)
def wsX3_climbs_r1 : List Cond := [Cond.fieldLink RX3 7 "RoundsPerHour$LoadClimb" "most" "I", Cond.fieldLink RX3 13 "RoundsPerHour$Country" "things" "I", Cond.fieldLink RX3 18 "RoundsPerHour$LoadClimb" "size" "I", Cond.sameField "RoundsPerHour$LoadClimb" "RoundsPerHour$Climb" "size" "I", Cond.fieldLink RX3 21 "RoundsPerHour$Country" "thingGain" "[I", Cond.fieldLink RX3 25 "RoundsPerHour$LoadClimb" "baseAbove" "J", Cond.sameField "RoundsPerHour$LoadClimb" "RoundsPerHour$Climb" "baseAbove" "J", Cond.fieldLink RX3 29 "RoundsPerHour$Country" "thingTime" "[I", Cond.fieldLink RX3 32 "RoundsPerHour$LoadClimb" "baseBelow" "J", Cond.sameField "RoundsPerHour$LoadClimb" "RoundsPerHour$Climb" "baseBelow" "J", Cond.fieldLink RX3 35 "RoundsPerHour$LoadClimb" "gains" "[J", Cond.sameField "RoundsPerHour$LoadClimb" "RoundsPerHour$Climb" "gains" "[J", Cond.fieldLink RX3 39 "RoundsPerHour$LoadClimb" "times" "[J", Cond.sameField "RoundsPerHour$LoadClimb" "RoundsPerHour$Climb" "times" "[J", Cond.methodLink RX3 42 ⟨"RoundsPerHour$LoadClimb", "runs", "()Z"⟩, Cond.sameMethod "RoundsPerHour$LoadClimb" "RoundsPerHour$Climb" "runs" "()Z", Cond.selects RX3 ⟨"RoundsPerHour$LoadClimb", "runs", "()Z"⟩ yX0_runs, Cond.instanceMethod yX0_runs, Cond.initialized RX0, Cond.code yX0_runs cX0_runs 7 (some .boolean), Cond.fieldLink RX0 45 "RoundsPerHour$Climb" "steps" "I", Cond.fieldLink RX0 48 "RoundsPerHour$Climb" "baseAbove" "J", Cond.fieldLink RX0 9 "RoundsPerHour$Climb" "gains" "[J", Cond.fieldLink RX0 56 "RoundsPerHour$Climb" "above" "J"]
def wsX3_climbs_r2 : List Cond := [Cond.fieldLink RX0 59 "RoundsPerHour$Climb" "baseBelow" "J", Cond.fieldLink RX0 15 "RoundsPerHour$Climb" "times" "[J", Cond.fieldLink RX0 62 "RoundsPerHour$Climb" "below" "J", Cond.fieldLink RX0 65 "RoundsPerHour$Climb" "best" "I", Cond.methodLink RX0 37 ⟨"RoundsPerHour$Climb", "weigh", "(JJ)V"⟩, Cond.sameMethod "RoundsPerHour$Climb" "RoundsPerHour$Climb" "weigh" "(JJ)V", Cond.selects RX3 ⟨"RoundsPerHour$Climb", "weigh", "(JJ)V"⟩ yX0_weigh, Cond.instanceMethod yX0_weigh, Cond.code yX0_weigh cX0_weigh 6 none, Cond.fieldLink RX0 27 "RoundsPerHour$Climb" "size" "I", Cond.fieldLink RX0 18 "RoundsPerHour$Climb" "weight" "[J", Cond.selects RX7 ⟨"RoundsPerHour$Climb", "weigh", "(JJ)V"⟩ yX0_weigh, Cond.selects RX8 ⟨"RoundsPerHour$Climb", "weigh", "(JJ)V"⟩ yX0_weigh, Cond.methodLink RX0 41 ⟨"RoundsPerHour$Climb", "pick", "()I"⟩, Cond.sameMethod "RoundsPerHour$Climb" "RoundsPerHour$Climb" "pick" "()I", Cond.selects RX3 ⟨"RoundsPerHour$Climb", "pick", "()I"⟩ yX3_pick, Cond.instanceMethod yX3_pick, Cond.initialized RX3, Cond.code yX3_pick cX3_pick 5 (some .int), Cond.fieldLink RX3 46 "RoundsPerHour$LoadClimb" "weight" "[J", Cond.sameField "RoundsPerHour$LoadClimb" "RoundsPerHour$Climb" "weight" "[J", Cond.selects RX7 ⟨"RoundsPerHour$Climb", "pick", "()I"⟩ yX7_pick, Cond.instanceMethod yX7_pick, Cond.initialized RX7]
def wsX3_climbs_r3 : List Cond := [Cond.code yX7_pick cX7_pick 4 (some .int), Cond.fieldLink RX7 12 "RoundsPerHour$TreeClimb" "joins" "LRoundsPerHour$Joins;", Cond.fieldLink RX7 18 "RoundsPerHour$TreeClimb" "land" "LRoundsPerHour$Country;", Cond.fieldLink RX7 33 "RoundsPerHour$Country" "places" "I", Cond.fieldLink RX7 43 "RoundsPerHour$Country" "from" "[I", Cond.fieldLink RX7 47 "RoundsPerHour$Country" "to" "[I", Cond.methodLink RX7 30 yX2_part, Cond.instanceMethod yX2_part, Cond.selects RX2 yX2_part yX2_part, Cond.initialized RX2, Cond.code yX2_part cX2_part 2 none, Cond.fieldLink RX2 9 "RoundsPerHour$Joins" "label" "[I", Cond.methodLink RX7 39 yX7_heaviestJoining, Cond.instanceMethod yX7_heaviestJoining, Cond.selects RX7 yX7_heaviestJoining yX7_heaviestJoining, Cond.code yX7_heaviestJoining cX7_heaviestJoining 4 (some .int), Cond.fieldLink RX7 54 "RoundsPerHour$TreeClimb" "size" "I", Cond.sameField "RoundsPerHour$TreeClimb" "RoundsPerHour$Climb" "size" "I", Cond.fieldLink RX7 57 "RoundsPerHour$Country" "shut" "[I", Cond.fieldLink RX7 64 "RoundsPerHour$TreeClimb" "weight" "[J", Cond.sameField "RoundsPerHour$TreeClimb" "RoundsPerHour$Climb" "weight" "[J", Cond.methodLink RX7 60 yX2_apart, Cond.instanceMethod yX2_apart, Cond.selects RX2 yX2_apart yX2_apart]
def wsX3_climbs_r4 : List Cond := [Cond.code yX2_apart cX2_apart 3 (some .boolean), Cond.methodLink RX7 50 yX2_join, Cond.instanceMethod yX2_join, Cond.selects RX2 yX2_join yX2_join, Cond.code yX2_join cX2_join 6 none, Cond.selects RX8 ⟨"RoundsPerHour$Climb", "pick", "()I"⟩ yX8_pick, Cond.instanceMethod yX8_pick, Cond.initialized RX8, Cond.code yX8_pick cX8_pick 2 (some .int), Cond.fieldLink RX8 9 "RoundsPerHour$WalkClimb" "height" "[J", Cond.fieldLink RX8 15 "RoundsPerHour$WalkClimb" "sets" "[I", Cond.fieldLink RX8 23 "RoundsPerHour$WalkClimb" "start" "I", Cond.fieldLink RX8 27 "RoundsPerHour$WalkClimb" "end" "I", Cond.methodLink RX8 38 yX8_leave, Cond.instanceMethod yX8_leave, Cond.selects RX8 yX8_leave yX8_leave, Cond.code yX8_leave cX8_leave 8 none, Cond.fieldLink RX8 42 "RoundsPerHour$WalkClimb" "size" "I", Cond.sameField "RoundsPerHour$WalkClimb" "RoundsPerHour$Climb" "size" "I", Cond.fieldLink RX8 19 "RoundsPerHour$WalkClimb" "land" "LRoundsPerHour$Country;", Cond.fieldLink RX8 45 "RoundsPerHour$Country" "to" "[I", Cond.fieldLink RX8 50 "RoundsPerHour$Country" "shut" "[I", Cond.fieldLink RX8 53 "RoundsPerHour$Country" "from" "[I", Cond.fieldLink RX8 56 "RoundsPerHour$WalkClimb" "weight" "[J"]
def wsX3_climbs_r5 : List Cond := [Cond.sameField "RoundsPerHour$WalkClimb" "RoundsPerHour$Climb" "weight" "[J", Cond.methodLink RX0 52 ⟨"RoundsPerHour$Climb", "together", "([JI)J"⟩, Cond.sameMethod "RoundsPerHour$Climb" "RoundsPerHour$Climb" "together" "([JI)J", Cond.selects RX3 ⟨"RoundsPerHour$Climb", "together", "([JI)J"⟩ yX0_together, Cond.instanceMethod yX0_together, Cond.code yX0_together cX0_together 6 (some .long), Cond.selects RX7 ⟨"RoundsPerHour$Climb", "together", "([JI)J"⟩ yX0_together, Cond.selects RX8 ⟨"RoundsPerHour$Climb", "together", "([JI)J"⟩ yX0_together]
def wsX3_climbs : List Cond := .code yX3_climbs cX3_climbs 4 (some .boolean) :: ((wsX3_climbs_r1 ++ (wsX3_climbs_r2 ++ (wsX3_climbs_r3 ++ (wsX3_climbs_r4 ++ wsX3_climbs_r5)))) ++ wsX30 ++ wsX10 ++ wsX70 ++ wsX80 ++ wsX20)
def wsX4_init : List Cond := .code yX4_init cX4_init 1 none :: ([.methodLink RX4 3 objectInit, .instanceMethod objectInit, .code objectInit ⟨#[0xb1]⟩ 1 none, .arrayClass .int, .fieldLink RX4 9 "RoundsPerHour$Rings" "sets" "[I", .arrayClass .long, .fieldLink RX4 15 "RoundsPerHour$Rings" "above" "[J", .fieldLink RX4 19 "RoundsPerHour$Rings" "below" "[J", .fieldLink RX4 22 "RoundsPerHour$Rings" "height" "[J", .arrayClass .boolean, .fieldLink RX4 25 "RoundsPerHour$Rings" "reached" "[Z", .fieldLink RX4 29 "RoundsPerHour$Rings" "leaving" "[I", .fieldLink RX4 32 "RoundsPerHour$Rings" "wayOut" "[I", .fieldLink RX4 35 "RoundsPerHour$Rings" "to" "[I", .fieldLink RX4 38 "RoundsPerHour$Rings" "brings" "[J", .fieldLink RX4 41 "RoundsPerHour$Rings" "lasts" "[J"] ++ wsX40)
def wsX4_keep : List Cond := .code yX4_keep cX4_keep 6 none :: ([.fieldLink RX4 44 "RoundsPerHour$Rings" "size" "I", .fieldLink RX4 9 "RoundsPerHour$Rings" "sets" "[I", .fieldLink RX4 15 "RoundsPerHour$Rings" "above" "[J", .fieldLink RX4 19 "RoundsPerHour$Rings" "below" "[J"] ++ wsX40)
def wsX4_goOn : List Cond := .code yX4_goOn cX4_goOn 13 none :: ([.fieldLink RX4 29 "RoundsPerHour$Rings" "leaving" "[I", .fieldLink RX4 32 "RoundsPerHour$Rings" "wayOut" "[I", .fieldLink RX4 35 "RoundsPerHour$Rings" "to" "[I", .fieldLink RX4 38 "RoundsPerHour$Rings" "brings" "[J", .fieldLink RX4 41 "RoundsPerHour$Rings" "lasts" "[J", .methodLink RX4 74 yX4_keep, .instanceMethod yX4_keep, .selects RX4 yX4_keep yX4_keep, .initialized RX4, .code yX4_keep cX4_keep 6 none, .fieldLink RX4 44 "RoundsPerHour$Rings" "size" "I", .fieldLink RX4 9 "RoundsPerHour$Rings" "sets" "[I", .fieldLink RX4 15 "RoundsPerHour$Rings" "above" "[J", .fieldLink RX4 19 "RoundsPerHour$Rings" "below" "[J", .methodLink RX4 70 yX4_goOn, .instanceMethod yX4_goOn, .selects RX4 yX4_goOn yX4_goOn] ++ wsX40)
def wsX4_gather_r1 : List Cond := [Cond.fieldLink RX4 44 "RoundsPerHour$Rings" "size" "I", Cond.fieldLink RX4 29 "RoundsPerHour$Rings" "leaving" "[I", Cond.fieldLink RX4 48 "RoundsPerHour$Country" "ways" "I", Cond.fieldLink RX4 35 "RoundsPerHour$Rings" "to" "[I", Cond.fieldLink RX4 53 "RoundsPerHour$Country" "to" "[I", Cond.fieldLink RX4 38 "RoundsPerHour$Rings" "brings" "[J", Cond.fieldLink RX4 41 "RoundsPerHour$Rings" "lasts" "[J", Cond.fieldLink RX4 61 "RoundsPerHour$Country" "shut" "[I", Cond.fieldLink RX4 64 "RoundsPerHour$Country" "from" "[I", Cond.fieldLink RX4 32 "RoundsPerHour$Rings" "wayOut" "[I", Cond.fieldLink RX4 67 "RoundsPerHour$Country" "places" "I", Cond.methodLink RX4 54 yX1_bringsOf, Cond.instanceMethod yX1_bringsOf, Cond.selects RX1 yX1_bringsOf yX1_bringsOf, Cond.initialized RX1, Cond.code yX1_bringsOf cX1_bringsOf 2 (some .int), Cond.fieldLink RX1 15 "RoundsPerHour$Country" "kind" "[I", Cond.fieldLink RX1 25 "RoundsPerHour$Country" "gain" "[I", Cond.fieldLink RX1 50 "RoundsPerHour$Country" "weather" "I", Cond.static yX9_brings, Cond.initialized RX9, Cond.code yX9_brings cX9_brings 3 (some .int), Cond.methodLink RX9 368 yX9_brings, Cond.methodLink RX4 58 yX1_lastsOf]
def wsX4_gather_r2 : List Cond := [Cond.instanceMethod yX1_lastsOf, Cond.selects RX1 yX1_lastsOf yX1_lastsOf, Cond.code yX1_lastsOf cX1_lastsOf 2 (some .int), Cond.fieldLink RX1 28 "RoundsPerHour$Country" "time" "[I", Cond.static yX9_lasts, Cond.code yX9_lasts cX9_lasts 3 (some .int), Cond.methodLink RX9 371 yX9_lasts, Cond.methodLink RX4 70 yX4_goOn, Cond.instanceMethod yX4_goOn, Cond.selects RX4 yX4_goOn yX4_goOn, Cond.initialized RX4, Cond.code yX4_goOn cX4_goOn 13 none, Cond.methodLink RX4 74 yX4_keep, Cond.instanceMethod yX4_keep, Cond.selects RX4 yX4_keep yX4_keep, Cond.code yX4_keep cX4_keep 6 none, Cond.fieldLink RX4 9 "RoundsPerHour$Rings" "sets" "[I", Cond.fieldLink RX4 15 "RoundsPerHour$Rings" "above" "[J", Cond.fieldLink RX4 19 "RoundsPerHour$Rings" "below" "[J"]
def wsX4_gather : List Cond := .code yX4_gather cX4_gather 5 none :: ((wsX4_gather_r1 ++ wsX4_gather_r2) ++ wsX40 ++ wsX10)
def wsJ13_compare_74951 : List Cond := .code yJ13_compare_74951 cJ13_compare_74951 4 (some .int) :: ([])
def wsX4_order : List Cond := .code yX4_order cX4_order 3 (some .int) :: ([.fieldLink RX4 15 "RoundsPerHour$Rings" "above" "[J", .fieldLink RX4 19 "RoundsPerHour$Rings" "below" "[J", .methodLink RX4 78 yJ13_compare_74951, .static yJ13_compare_74951, .initialized RJ13, .code yJ13_compare_74951 cJ13_compare_74951 4 (some .int)] ++ wsX40)
def wsX4_best : List Cond := .code yX4_best cX4_best 4 (some .int) :: ([.fieldLink RX4 44 "RoundsPerHour$Rings" "size" "I", .fieldLink RX4 9 "RoundsPerHour$Rings" "sets" "[I", .methodLink RX4 84 yX4_order, .instanceMethod yX4_order, .selects RX4 yX4_order yX4_order, .initialized RX4, .code yX4_order cX4_order 3 (some .int), .fieldLink RX4 15 "RoundsPerHour$Rings" "above" "[J", .fieldLink RX4 19 "RoundsPerHour$Rings" "below" "[J", .methodLink RX4 78 yJ13_compare_74951, .static yJ13_compare_74951, .initialized RJ13, .code yJ13_compare_74951 cJ13_compare_74951 4 (some .int)] ++ wsX40)
def wsX4_forget : List Cond := .code yX4_forget cX4_forget 1 none :: ([.fieldLink RX4 88 "RoundsPerHour$Rings" "peakBelow" "J"] ++ wsX40)
def wsX4_rises_r1 : List Cond := [Cond.fieldLink RX4 88 "RoundsPerHour$Rings" "peakBelow" "J", Cond.fieldLink RX4 15 "RoundsPerHour$Rings" "above" "[J", Cond.fieldLink RX4 99 "RoundsPerHour$Rings" "peakAbove" "J", Cond.fieldLink RX4 19 "RoundsPerHour$Rings" "below" "[J", Cond.methodLink RX4 92 yX4_gather, Cond.instanceMethod yX4_gather, Cond.selects RX4 yX4_gather yX4_gather, Cond.initialized RX4, Cond.code yX4_gather cX4_gather 5 none, Cond.fieldLink RX4 44 "RoundsPerHour$Rings" "size" "I", Cond.fieldLink RX4 29 "RoundsPerHour$Rings" "leaving" "[I", Cond.fieldLink RX4 48 "RoundsPerHour$Country" "ways" "I", Cond.fieldLink RX4 35 "RoundsPerHour$Rings" "to" "[I", Cond.fieldLink RX4 53 "RoundsPerHour$Country" "to" "[I", Cond.fieldLink RX4 38 "RoundsPerHour$Rings" "brings" "[J", Cond.fieldLink RX4 41 "RoundsPerHour$Rings" "lasts" "[J", Cond.fieldLink RX4 61 "RoundsPerHour$Country" "shut" "[I", Cond.fieldLink RX4 64 "RoundsPerHour$Country" "from" "[I", Cond.fieldLink RX4 32 "RoundsPerHour$Rings" "wayOut" "[I", Cond.fieldLink RX4 67 "RoundsPerHour$Country" "places" "I", Cond.methodLink RX4 54 yX1_bringsOf, Cond.instanceMethod yX1_bringsOf, Cond.selects RX1 yX1_bringsOf yX1_bringsOf, Cond.initialized RX1]
def wsX4_rises_r2 : List Cond := [Cond.code yX1_bringsOf cX1_bringsOf 2 (some .int), Cond.fieldLink RX1 15 "RoundsPerHour$Country" "kind" "[I", Cond.fieldLink RX1 25 "RoundsPerHour$Country" "gain" "[I", Cond.fieldLink RX1 50 "RoundsPerHour$Country" "weather" "I", Cond.static yX9_brings, Cond.initialized RX9, Cond.code yX9_brings cX9_brings 3 (some .int), Cond.methodLink RX9 368 yX9_brings, Cond.methodLink RX4 58 yX1_lastsOf, Cond.instanceMethod yX1_lastsOf, Cond.selects RX1 yX1_lastsOf yX1_lastsOf, Cond.code yX1_lastsOf cX1_lastsOf 2 (some .int), Cond.fieldLink RX1 28 "RoundsPerHour$Country" "time" "[I", Cond.static yX9_lasts, Cond.code yX9_lasts cX9_lasts 3 (some .int), Cond.methodLink RX9 371 yX9_lasts, Cond.methodLink RX4 70 yX4_goOn, Cond.instanceMethod yX4_goOn, Cond.selects RX4 yX4_goOn yX4_goOn, Cond.code yX4_goOn cX4_goOn 13 none, Cond.methodLink RX4 74 yX4_keep, Cond.instanceMethod yX4_keep, Cond.selects RX4 yX4_keep yX4_keep, Cond.code yX4_keep cX4_keep 6 none]
def wsX4_rises_r3 : List Cond := [Cond.fieldLink RX4 9 "RoundsPerHour$Rings" "sets" "[I", Cond.methodLink RX4 96 yX4_best, Cond.instanceMethod yX4_best, Cond.selects RX4 yX4_best yX4_best, Cond.code yX4_best cX4_best 4 (some .int), Cond.methodLink RX4 84 yX4_order, Cond.instanceMethod yX4_order, Cond.selects RX4 yX4_order yX4_order, Cond.code yX4_order cX4_order 3 (some .int), Cond.methodLink RX4 78 yJ13_compare_74951, Cond.static yJ13_compare_74951, Cond.initialized RJ13, Cond.code yJ13_compare_74951 cJ13_compare_74951 4 (some .int)]
def wsX4_rises : List Cond := .code yX4_rises cX4_rises 3 (some .boolean) :: ((wsX4_rises_r1 ++ (wsX4_rises_r2 ++ wsX4_rises_r3)) ++ wsX40 ++ wsX10)
def wsJ9_floorDiv_f86c9 : List Cond := .code yJ9_floorDiv_f86c9 cJ9_floorDiv_f86c9 6 (some .long) :: ([])
def wsX4_missingTo : List Cond := .code yX4_missingTo cX4_missingTo 8 (some .long) :: ([.fieldLink RX4 19 "RoundsPerHour$Rings" "below" "[J", .fieldLink RX4 15 "RoundsPerHour$Rings" "above" "[J", .methodLink RX4 102 yJ9_floorDiv_f86c9, .static yJ9_floorDiv_f86c9, .initialized RJ9, .code yJ9_floorDiv_f86c9 cJ9_floorDiv_f86c9 6 (some .long)] ++ wsX40)
def wsX4_step : List Cond := .code yX4_step cX4_step 5 none :: ([.fieldLink RX4 25 "RoundsPerHour$Rings" "reached" "[Z", .fieldLink RX4 22 "RoundsPerHour$Rings" "height" "[J"] ++ wsX40)
def wsX4_lifts : List Cond := .code yX4_lifts cX4_lifts 10 (some .boolean) :: ([.fieldLink RX4 25 "RoundsPerHour$Rings" "reached" "[Z", .fieldLink RX4 22 "RoundsPerHour$Rings" "height" "[J", .fieldLink RX4 67 "RoundsPerHour$Country" "places" "I", .fieldLink RX4 48 "RoundsPerHour$Country" "ways" "I", .fieldLink RX4 61 "RoundsPerHour$Country" "shut" "[I", .fieldLink RX4 64 "RoundsPerHour$Country" "from" "[I", .fieldLink RX4 53 "RoundsPerHour$Country" "to" "[I", .fieldLink RX4 38 "RoundsPerHour$Rings" "brings" "[J", .fieldLink RX4 41 "RoundsPerHour$Rings" "lasts" "[J", .methodLink RX4 108 yX4_step, .instanceMethod yX4_step, .selects RX4 yX4_step yX4_step, .initialized RX4, .code yX4_step cX4_step 5 none] ++ wsX40 ++ wsX10)
def wsX5_init : List Cond := .code yX5_init cX5_init 1 none :: ([.methodLink RX5 3 objectInit, .instanceMethod objectInit, .code objectInit ⟨#[0xb1]⟩ 1 none, .arrayClass .long, .fieldLink RX5 9 "RoundsPerHour$Sheet" "numbers" "[J"] ++ wsX50)
def wsX5_begin : List Cond := .code yX5_begin cX5_begin 4 none :: ([.fieldLink RX5 15 "RoundsPerHour$Sheet" "bits" "I", .fieldLink RX5 19 "RoundsPerHour$Sheet" "size" "I", .fieldLink RX5 9 "RoundsPerHour$Sheet" "numbers" "[J"] ++ wsX50)
def wsX5_hasFraction : List Cond := .code yX5_hasFraction cX5_hasFraction 2 (some .boolean) :: ([.fieldLink RX5 19 "RoundsPerHour$Sheet" "size" "I", .static yX9_within, .initialized RX9, .code yX9_within cX9_within 3 (some .boolean)] ++ wsX50)
def wsX5_hasRun : List Cond := .code yX5_hasRun cX5_hasRun 3 (some .boolean) :: ([.fieldLink RX5 19 "RoundsPerHour$Sheet" "size" "I", .static yX9_within, .initialized RX9, .code yX9_within cX9_within 3 (some .boolean)] ++ wsX50)
def wsX5_put : List Cond := .code yX5_put cX5_put 4 none :: ([.fieldLink RX5 15 "RoundsPerHour$Sheet" "bits" "I", .fieldLink RX5 9 "RoundsPerHour$Sheet" "numbers" "[J"] ++ wsX50)
def wsX6_init : List Cond := .code yX6_init cX6_init 1 none :: ([.methodLink RX6 3 objectInit, .instanceMethod objectInit, .code objectInit ⟨#[0xb1]⟩ 1 none, .arrayClass .int, .fieldLink RX6 9 "RoundsPerHour$Tape" "bytes" "[I"] ++ wsX60)
def wsX6_append : List Cond := .code yX6_append cX6_append 2 none :: ([.fieldLink RX6 15 "RoundsPerHour$Tape" "length" "I", .fieldLink RX6 9 "RoundsPerHour$Tape" "bytes" "[I"] ++ wsX60)
def wsX6_isLetter : List Cond := .code yX6_isLetter cX6_isLetter 1 (some .boolean) :: ([])
def wsX6_isDigit : List Cond := .code yX6_isDigit cX6_isDigit 1 (some .boolean) :: ([])
def wsX6_takeDigits : List Cond := .code yX6_takeDigits cX6_takeDigits 1 none :: ([.fieldLink RX6 74 "RoundsPerHour$Tape" "number" "I", .fieldLink RX6 23 "RoundsPerHour$Tape" "behind" "I", .fieldLink RX6 15 "RoundsPerHour$Tape" "length" "I", .fieldLink RX6 9 "RoundsPerHour$Tape" "bytes" "[I", .constant RX6 144 (1000000), .methodLink RX6 145 Lib.Math.min.name, .static Lib.Math.min.name, .initialized "java/lang/Math", .code Lib.Math.min.name Lib.Math.min.code 2 (some .int), .methodLink RX6 138 yX6_isDigit, .static yX6_isDigit, .initialized RX6, .code yX6_isDigit cX6_isDigit 1 (some .boolean)] ++ wsX60)
def wsX6_next : List Cond := .code yX6_next cX6_next 1 none :: ([.fieldLink RX6 23 "RoundsPerHour$Tape" "behind" "I", .fieldLink RX6 15 "RoundsPerHour$Tape" "length" "I", .fieldLink RX6 9 "RoundsPerHour$Tape" "bytes" "[I", .fieldLink RX6 33 "RoundsPerHour$Tape" "first" "I", .fieldLink RX6 36 "RoundsPerHour$Tape" "sort" "I", .methodLink RX6 135 yX6_isLetter, .static yX6_isLetter, .initialized RX6, .code yX6_isLetter cX6_isLetter 1 (some .boolean), .methodLink RX6 138 yX6_isDigit, .static yX6_isDigit, .code yX6_isDigit cX6_isDigit 1 (some .boolean), .methodLink RX6 141 yX6_takeDigits, .instanceMethod yX6_takeDigits, .selects RX6 yX6_takeDigits yX6_takeDigits, .code yX6_takeDigits cX6_takeDigits 1 none, .fieldLink RX6 74 "RoundsPerHour$Tape" "number" "I", .constant RX6 144 (1000000), .methodLink RX6 145 Lib.Math.min.name, .static Lib.Math.min.name, .initialized "java/lang/Math", .code Lib.Math.min.name Lib.Math.min.code 2 (some .int)] ++ wsX60)
def wsJ0_coder_7d493 : List Cond := .code yJ0_coder_7d493 cJ0_coder_7d493 1 (some .byte) :: ([.fieldLink RJ0 38 "java/lang/String" "COMPACT_STRINGS" "Z", .fieldLink RJ0 15 "java/lang/String" "coder" "B"])
def wsJ0_length_8abf5 : List Cond := .code yJ0_length_8abf5 cJ0_length_8abf5 1 (some .int) :: ([.fieldLink RJ0 9 "java/lang/String" "value" "[B", .methodLink RJ0 335 yJ0_coder_7d493, .instanceMethod yJ0_coder_7d493, .selects RJ0 yJ0_coder_7d493 yJ0_coder_7d493, .initialized RJ0, .code yJ0_coder_7d493 cJ0_coder_7d493 1 (some .byte), .fieldLink RJ0 38 "java/lang/String" "COMPACT_STRINGS" "Z", .fieldLink RJ0 15 "java/lang/String" "coder" "B"])
def wsJ0_isLatin1_aae02 : List Cond := .code yJ0_isLatin1_aae02 cJ0_isLatin1_aae02 1 (some .boolean) :: ([.fieldLink RJ0 38 "java/lang/String" "COMPACT_STRINGS" "Z", .fieldLink RJ0 15 "java/lang/String" "coder" "B"])
def wsJ3_checkIndex_8e157 : List Cond := .code yJ3_checkIndex_8e157 cJ3_checkIndex_8e157 3 (some .int) :: ([])
def wsJ0_checkIndex_df160 : List Cond := .code yJ0_checkIndex_df160 cJ0_checkIndex_df160 2 none :: ([.fieldLink RJ0 1053 "jdk/internal/util/Preconditions" "SIOOBE_FORMATTER" "Ljava/util/function/BiFunction;", .methodLink RJ0 1059 yJ3_checkIndex_8e157, .static yJ3_checkIndex_8e157, .initialized RJ3, .code yJ3_checkIndex_8e157 cJ3_checkIndex_8e157 3 (some .int)])
def wsJ1_charAt_3b067 : List Cond := .code yJ1_charAt_3b067 cJ1_charAt_3b067 2 (some .char) :: ([.methodLink RJ1 9 yJ0_checkIndex_df160, .static yJ0_checkIndex_df160, .initialized RJ0, .code yJ0_checkIndex_df160 cJ0_checkIndex_df160 2 none, .fieldLink RJ0 1053 "jdk/internal/util/Preconditions" "SIOOBE_FORMATTER" "Ljava/util/function/BiFunction;", .methodLink RJ0 1059 yJ3_checkIndex_8e157, .static yJ3_checkIndex_8e157, .initialized RJ3, .code yJ3_checkIndex_8e157 cJ3_checkIndex_8e157 3 (some .int)])
def wsJ2_length_9d52b : List Cond := .code yJ2_length_9d52b cJ2_length_9d52b 1 (some .int) :: ([])
def wsJ2_checkIndex_2214a : List Cond := .code yJ2_checkIndex_2214a cJ2_checkIndex_2214a 2 none :: ([.methodLink RJ2 48 yJ2_length_9d52b, .static yJ2_length_9d52b, .initialized RJ2, .code yJ2_length_9d52b cJ2_length_9d52b 1 (some .int), .methodLink RJ2 414 yJ0_checkIndex_df160, .static yJ0_checkIndex_df160, .initialized RJ0, .code yJ0_checkIndex_df160 cJ0_checkIndex_df160 2 none, .fieldLink RJ0 1053 "jdk/internal/util/Preconditions" "SIOOBE_FORMATTER" "Ljava/util/function/BiFunction;", .methodLink RJ0 1059 yJ3_checkIndex_8e157, .static yJ3_checkIndex_8e157, .initialized RJ3, .code yJ3_checkIndex_8e157 cJ3_checkIndex_8e157 3 (some .int)])
def wsJ2_getChar_3b067 : List Cond := .code yJ2_getChar_3b067 cJ2_getChar_3b067 2 (some .char) :: ([.fieldLink RJ2 44 "java/lang/StringUTF16" "$assertionsDisabled" "Z", .fieldLink RJ2 59 "java/lang/StringUTF16" "HI_BYTE_SHIFT" "I", .fieldLink RJ2 63 "java/lang/StringUTF16" "LO_BYTE_SHIFT" "I", .methodLink RJ2 48 yJ2_length_9d52b, .static yJ2_length_9d52b, .initialized RJ2, .code yJ2_length_9d52b cJ2_length_9d52b 1 (some .int)])
def wsJ2_charAt_3b067 : List Cond := .code yJ2_charAt_3b067 cJ2_charAt_3b067 2 (some .char) :: ([.methodLink RJ2 67 yJ2_checkIndex_2214a, .static yJ2_checkIndex_2214a, .initialized RJ2, .code yJ2_checkIndex_2214a cJ2_checkIndex_2214a 2 none, .methodLink RJ2 48 yJ2_length_9d52b, .static yJ2_length_9d52b, .code yJ2_length_9d52b cJ2_length_9d52b 1 (some .int), .methodLink RJ2 414 yJ0_checkIndex_df160, .static yJ0_checkIndex_df160, .initialized RJ0, .code yJ0_checkIndex_df160 cJ0_checkIndex_df160 2 none, .fieldLink RJ0 1053 "jdk/internal/util/Preconditions" "SIOOBE_FORMATTER" "Ljava/util/function/BiFunction;", .methodLink RJ0 1059 yJ3_checkIndex_8e157, .static yJ3_checkIndex_8e157, .initialized RJ3, .code yJ3_checkIndex_8e157 cJ3_checkIndex_8e157 3 (some .int), .methodLink RJ2 71 yJ2_getChar_3b067, .static yJ2_getChar_3b067, .code yJ2_getChar_3b067 cJ2_getChar_3b067 2 (some .char), .fieldLink RJ2 44 "java/lang/StringUTF16" "$assertionsDisabled" "Z", .fieldLink RJ2 59 "java/lang/StringUTF16" "HI_BYTE_SHIFT" "I", .fieldLink RJ2 63 "java/lang/StringUTF16" "LO_BYTE_SHIFT" "I"])
def wsJ0_charAt_5068e_r1 : List Cond := [Cond.fieldLink RJ0 9 "java/lang/String" "value" "[B", Cond.methodLink RJ0 492 yJ0_isLatin1_aae02, Cond.instanceMethod yJ0_isLatin1_aae02, Cond.selects RJ0 yJ0_isLatin1_aae02 yJ0_isLatin1_aae02, Cond.initialized RJ0, Cond.code yJ0_isLatin1_aae02 cJ0_isLatin1_aae02 1 (some .boolean), Cond.fieldLink RJ0 38 "java/lang/String" "COMPACT_STRINGS" "Z", Cond.fieldLink RJ0 15 "java/lang/String" "coder" "B", Cond.methodLink RJ0 495 yJ1_charAt_3b067, Cond.static yJ1_charAt_3b067, Cond.initialized RJ1, Cond.code yJ1_charAt_3b067 cJ1_charAt_3b067 2 (some .char), Cond.methodLink RJ1 9 yJ0_checkIndex_df160, Cond.static yJ0_checkIndex_df160, Cond.code yJ0_checkIndex_df160 cJ0_checkIndex_df160 2 none, Cond.fieldLink RJ0 1053 "jdk/internal/util/Preconditions" "SIOOBE_FORMATTER" "Ljava/util/function/BiFunction;", Cond.methodLink RJ0 1059 yJ3_checkIndex_8e157, Cond.static yJ3_checkIndex_8e157, Cond.initialized RJ3, Cond.code yJ3_checkIndex_8e157 cJ3_checkIndex_8e157 3 (some .int), Cond.methodLink RJ0 498 yJ2_charAt_3b067, Cond.static yJ2_charAt_3b067, Cond.initialized RJ2, Cond.code yJ2_charAt_3b067 cJ2_charAt_3b067 2 (some .char)]
def wsJ0_charAt_5068e_r2 : List Cond := [Cond.methodLink RJ2 67 yJ2_checkIndex_2214a, Cond.static yJ2_checkIndex_2214a, Cond.code yJ2_checkIndex_2214a cJ2_checkIndex_2214a 2 none, Cond.methodLink RJ2 48 yJ2_length_9d52b, Cond.static yJ2_length_9d52b, Cond.code yJ2_length_9d52b cJ2_length_9d52b 1 (some .int), Cond.methodLink RJ2 414 yJ0_checkIndex_df160, Cond.methodLink RJ2 71 yJ2_getChar_3b067, Cond.static yJ2_getChar_3b067, Cond.code yJ2_getChar_3b067 cJ2_getChar_3b067 2 (some .char), Cond.fieldLink RJ2 44 "java/lang/StringUTF16" "$assertionsDisabled" "Z", Cond.fieldLink RJ2 59 "java/lang/StringUTF16" "HI_BYTE_SHIFT" "I", Cond.fieldLink RJ2 63 "java/lang/StringUTF16" "LO_BYTE_SHIFT" "I"]
def wsJ0_charAt_5068e : List Cond := .code yJ0_charAt_5068e cJ0_charAt_5068e 2 (some .char) :: ((wsJ0_charAt_5068e_r1 ++ wsJ0_charAt_5068e_r2))
def wsX6_isWord_r1 : List Cond := [Cond.fieldLink RX6 36 "RoundsPerHour$Tape" "sort" "I", Cond.fieldLink RX6 23 "RoundsPerHour$Tape" "behind" "I", Cond.fieldLink RX6 33 "RoundsPerHour$Tape" "first" "I", Cond.fieldLink RX6 9 "RoundsPerHour$Tape" "bytes" "[I", Cond.methodLink RX6 127 yJ0_length_8abf5, Cond.instanceMethod yJ0_length_8abf5, Cond.selects RJ0 yJ0_length_8abf5 yJ0_length_8abf5, Cond.initialized RJ0, Cond.code yJ0_length_8abf5 cJ0_length_8abf5 1 (some .int), Cond.fieldLink RJ0 9 "java/lang/String" "value" "[B", Cond.methodLink RJ0 335 yJ0_coder_7d493, Cond.instanceMethod yJ0_coder_7d493, Cond.selects RJ0 yJ0_coder_7d493 yJ0_coder_7d493, Cond.code yJ0_coder_7d493 cJ0_coder_7d493 1 (some .byte), Cond.fieldLink RJ0 38 "java/lang/String" "COMPACT_STRINGS" "Z", Cond.fieldLink RJ0 15 "java/lang/String" "coder" "B", Cond.methodLink RX6 131 yJ0_charAt_5068e, Cond.instanceMethod yJ0_charAt_5068e, Cond.selects RJ0 yJ0_charAt_5068e yJ0_charAt_5068e, Cond.code yJ0_charAt_5068e cJ0_charAt_5068e 2 (some .char), Cond.methodLink RJ0 492 yJ0_isLatin1_aae02, Cond.instanceMethod yJ0_isLatin1_aae02, Cond.selects RJ0 yJ0_isLatin1_aae02 yJ0_isLatin1_aae02, Cond.code yJ0_isLatin1_aae02 cJ0_isLatin1_aae02 1 (some .boolean)]
def wsX6_isWord_r2 : List Cond := [Cond.methodLink RJ0 495 yJ1_charAt_3b067, Cond.static yJ1_charAt_3b067, Cond.initialized RJ1, Cond.code yJ1_charAt_3b067 cJ1_charAt_3b067 2 (some .char), Cond.methodLink RJ1 9 yJ0_checkIndex_df160, Cond.static yJ0_checkIndex_df160, Cond.code yJ0_checkIndex_df160 cJ0_checkIndex_df160 2 none, Cond.fieldLink RJ0 1053 "jdk/internal/util/Preconditions" "SIOOBE_FORMATTER" "Ljava/util/function/BiFunction;", Cond.methodLink RJ0 1059 yJ3_checkIndex_8e157, Cond.static yJ3_checkIndex_8e157, Cond.initialized RJ3, Cond.code yJ3_checkIndex_8e157 cJ3_checkIndex_8e157 3 (some .int), Cond.methodLink RJ0 498 yJ2_charAt_3b067, Cond.static yJ2_charAt_3b067, Cond.initialized RJ2, Cond.code yJ2_charAt_3b067 cJ2_charAt_3b067 2 (some .char), Cond.methodLink RJ2 67 yJ2_checkIndex_2214a, Cond.static yJ2_checkIndex_2214a, Cond.code yJ2_checkIndex_2214a cJ2_checkIndex_2214a 2 none, Cond.methodLink RJ2 48 yJ2_length_9d52b, Cond.static yJ2_length_9d52b, Cond.code yJ2_length_9d52b cJ2_length_9d52b 1 (some .int), Cond.methodLink RJ2 414 yJ0_checkIndex_df160, Cond.methodLink RJ2 71 yJ2_getChar_3b067]
def wsX6_isWord_r3 : List Cond := [Cond.static yJ2_getChar_3b067, Cond.code yJ2_getChar_3b067 cJ2_getChar_3b067 2 (some .char), Cond.fieldLink RJ2 44 "java/lang/StringUTF16" "$assertionsDisabled" "Z", Cond.fieldLink RJ2 59 "java/lang/StringUTF16" "HI_BYTE_SHIFT" "I", Cond.fieldLink RJ2 63 "java/lang/StringUTF16" "LO_BYTE_SHIFT" "I"]
def wsX6_isWord : List Cond := .code yX6_isWord cX6_isWord 3 (some .boolean) :: ((wsX6_isWord_r1 ++ (wsX6_isWord_r2 ++ wsX6_isWord_r3)) ++ wsX60)
def wsX6_isNumber : List Cond := .code yX6_isNumber cX6_isNumber 3 (some .boolean) :: ([.fieldLink RX6 36 "RoundsPerHour$Tape" "sort" "I", .fieldLink RX6 74 "RoundsPerHour$Tape" "number" "I", .static yX9_within, .initialized RX9, .code yX9_within cX9_within 3 (some .boolean)] ++ wsX60)
def wsX6_placesItem_r1 : List Cond := [Cond.fieldLink RX6 19 "RoundsPerHour$Tape" "land" "LRoundsPerHour$Country;", Cond.fieldLink RX6 66 "RoundsPerHour$Country" "places" "I", Cond.fieldLink RX6 74 "RoundsPerHour$Tape" "number" "I", Cond.methodLink RX6 70 yX6_isNumber, Cond.instanceMethod yX6_isNumber, Cond.selects RX6 yX6_isNumber yX6_isNumber, Cond.initialized RX6, Cond.code yX6_isNumber cX6_isNumber 3 (some .boolean), Cond.fieldLink RX6 36 "RoundsPerHour$Tape" "sort" "I", Cond.static yX9_within, Cond.initialized RX9, Cond.code yX9_within cX9_within 3 (some .boolean), Cond.methodLink RX6 26 yX6_next, Cond.instanceMethod yX6_next, Cond.selects RX6 yX6_next yX6_next, Cond.code yX6_next cX6_next 1 none, Cond.fieldLink RX6 23 "RoundsPerHour$Tape" "behind" "I", Cond.fieldLink RX6 15 "RoundsPerHour$Tape" "length" "I", Cond.fieldLink RX6 9 "RoundsPerHour$Tape" "bytes" "[I", Cond.fieldLink RX6 33 "RoundsPerHour$Tape" "first" "I", Cond.methodLink RX6 135 yX6_isLetter, Cond.static yX6_isLetter, Cond.code yX6_isLetter cX6_isLetter 1 (some .boolean), Cond.methodLink RX6 138 yX6_isDigit]
def wsX6_placesItem_r2 : List Cond := [Cond.static yX6_isDigit, Cond.code yX6_isDigit cX6_isDigit 1 (some .boolean), Cond.methodLink RX6 141 yX6_takeDigits, Cond.instanceMethod yX6_takeDigits, Cond.selects RX6 yX6_takeDigits yX6_takeDigits, Cond.code yX6_takeDigits cX6_takeDigits 1 none, Cond.constant RX6 144 (1000000), Cond.methodLink RX6 145 Lib.Math.min.name, Cond.static Lib.Math.min.name, Cond.initialized "java/lang/Math", Cond.code Lib.Math.min.name Lib.Math.min.code 2 (some .int)]
def wsX6_placesItem : List Cond := .code yX6_placesItem cX6_placesItem 1 (some .boolean) :: ((wsX6_placesItem_r1 ++ wsX6_placesItem_r2) ++ wsX60 ++ wsX10)
def wsX6_weatherItem_r1 : List Cond := [Cond.fieldLink RX6 19 "RoundsPerHour$Tape" "land" "LRoundsPerHour$Country;", Cond.fieldLink RX6 74 "RoundsPerHour$Tape" "number" "I", Cond.fieldLink RX6 77 "RoundsPerHour$Country" "weather" "I", Cond.methodLink RX6 70 yX6_isNumber, Cond.instanceMethod yX6_isNumber, Cond.selects RX6 yX6_isNumber yX6_isNumber, Cond.initialized RX6, Cond.code yX6_isNumber cX6_isNumber 3 (some .boolean), Cond.fieldLink RX6 36 "RoundsPerHour$Tape" "sort" "I", Cond.static yX9_within, Cond.initialized RX9, Cond.code yX9_within cX9_within 3 (some .boolean), Cond.methodLink RX6 26 yX6_next, Cond.instanceMethod yX6_next, Cond.selects RX6 yX6_next yX6_next, Cond.code yX6_next cX6_next 1 none, Cond.fieldLink RX6 23 "RoundsPerHour$Tape" "behind" "I", Cond.fieldLink RX6 15 "RoundsPerHour$Tape" "length" "I", Cond.fieldLink RX6 9 "RoundsPerHour$Tape" "bytes" "[I", Cond.fieldLink RX6 33 "RoundsPerHour$Tape" "first" "I", Cond.methodLink RX6 135 yX6_isLetter, Cond.static yX6_isLetter, Cond.code yX6_isLetter cX6_isLetter 1 (some .boolean), Cond.methodLink RX6 138 yX6_isDigit]
def wsX6_weatherItem_r2 : List Cond := [Cond.static yX6_isDigit, Cond.code yX6_isDigit cX6_isDigit 1 (some .boolean), Cond.methodLink RX6 141 yX6_takeDigits, Cond.instanceMethod yX6_takeDigits, Cond.selects RX6 yX6_takeDigits yX6_takeDigits, Cond.code yX6_takeDigits cX6_takeDigits 1 none, Cond.constant RX6 144 (1000000), Cond.methodLink RX6 145 Lib.Math.min.name, Cond.static Lib.Math.min.name, Cond.initialized "java/lang/Math", Cond.code Lib.Math.min.name Lib.Math.min.code 2 (some .int)]
def wsX6_weatherItem : List Cond := .code yX6_weatherItem cX6_weatherItem 1 (some .boolean) :: ((wsX6_weatherItem_r1 ++ wsX6_weatherItem_r2) ++ wsX60 ++ wsX10)
def wsX6_gainAndTime_r1 : List Cond := [Cond.fieldLink RX6 85 "RoundsPerHour$Tape" "gain" "I", Cond.fieldLink RX6 88 "RoundsPerHour$Tape" "time" "I", Cond.constant RX6 109 (999999), Cond.fieldLink RX6 74 "RoundsPerHour$Tape" "number" "I", Cond.methodLink RX6 41 yX6_isWord, Cond.instanceMethod yX6_isWord, Cond.selects RX6 yX6_isWord yX6_isWord, Cond.initialized RX6, Cond.code yX6_isWord cX6_isWord 3 (some .boolean), Cond.fieldLink RX6 36 "RoundsPerHour$Tape" "sort" "I", Cond.fieldLink RX6 23 "RoundsPerHour$Tape" "behind" "I", Cond.fieldLink RX6 33 "RoundsPerHour$Tape" "first" "I", Cond.fieldLink RX6 9 "RoundsPerHour$Tape" "bytes" "[I", Cond.methodLink RX6 127 yJ0_length_8abf5, Cond.instanceMethod yJ0_length_8abf5, Cond.selects RJ0 yJ0_length_8abf5 yJ0_length_8abf5, Cond.initialized RJ0, Cond.code yJ0_length_8abf5 cJ0_length_8abf5 1 (some .int), Cond.fieldLink RJ0 9 "java/lang/String" "value" "[B", Cond.methodLink RJ0 335 yJ0_coder_7d493, Cond.instanceMethod yJ0_coder_7d493, Cond.selects RJ0 yJ0_coder_7d493 yJ0_coder_7d493, Cond.code yJ0_coder_7d493 cJ0_coder_7d493 1 (some .byte), Cond.fieldLink RJ0 38 "java/lang/String" "COMPACT_STRINGS" "Z"]
def wsX6_gainAndTime_r2 : List Cond := [Cond.fieldLink RJ0 15 "java/lang/String" "coder" "B", Cond.methodLink RX6 131 yJ0_charAt_5068e, Cond.instanceMethod yJ0_charAt_5068e, Cond.selects RJ0 yJ0_charAt_5068e yJ0_charAt_5068e, Cond.code yJ0_charAt_5068e cJ0_charAt_5068e 2 (some .char), Cond.methodLink RJ0 492 yJ0_isLatin1_aae02, Cond.instanceMethod yJ0_isLatin1_aae02, Cond.selects RJ0 yJ0_isLatin1_aae02 yJ0_isLatin1_aae02, Cond.code yJ0_isLatin1_aae02 cJ0_isLatin1_aae02 1 (some .boolean), Cond.methodLink RJ0 495 yJ1_charAt_3b067, Cond.static yJ1_charAt_3b067, Cond.initialized RJ1, Cond.code yJ1_charAt_3b067 cJ1_charAt_3b067 2 (some .char), Cond.methodLink RJ1 9 yJ0_checkIndex_df160, Cond.static yJ0_checkIndex_df160, Cond.code yJ0_checkIndex_df160 cJ0_checkIndex_df160 2 none, Cond.fieldLink RJ0 1053 "jdk/internal/util/Preconditions" "SIOOBE_FORMATTER" "Ljava/util/function/BiFunction;", Cond.methodLink RJ0 1059 yJ3_checkIndex_8e157, Cond.static yJ3_checkIndex_8e157, Cond.initialized RJ3, Cond.code yJ3_checkIndex_8e157 cJ3_checkIndex_8e157 3 (some .int), Cond.methodLink RJ0 498 yJ2_charAt_3b067, Cond.static yJ2_charAt_3b067, Cond.initialized RJ2]
def wsX6_gainAndTime_r3 : List Cond := [Cond.code yJ2_charAt_3b067 cJ2_charAt_3b067 2 (some .char), Cond.methodLink RJ2 67 yJ2_checkIndex_2214a, Cond.static yJ2_checkIndex_2214a, Cond.code yJ2_checkIndex_2214a cJ2_checkIndex_2214a 2 none, Cond.methodLink RJ2 48 yJ2_length_9d52b, Cond.static yJ2_length_9d52b, Cond.code yJ2_length_9d52b cJ2_length_9d52b 1 (some .int), Cond.methodLink RJ2 414 yJ0_checkIndex_df160, Cond.methodLink RJ2 71 yJ2_getChar_3b067, Cond.static yJ2_getChar_3b067, Cond.code yJ2_getChar_3b067 cJ2_getChar_3b067 2 (some .char), Cond.fieldLink RJ2 44 "java/lang/StringUTF16" "$assertionsDisabled" "Z", Cond.fieldLink RJ2 59 "java/lang/StringUTF16" "HI_BYTE_SHIFT" "I", Cond.fieldLink RJ2 63 "java/lang/StringUTF16" "LO_BYTE_SHIFT" "I", Cond.methodLink RX6 26 yX6_next, Cond.instanceMethod yX6_next, Cond.selects RX6 yX6_next yX6_next, Cond.code yX6_next cX6_next 1 none, Cond.fieldLink RX6 15 "RoundsPerHour$Tape" "length" "I", Cond.methodLink RX6 135 yX6_isLetter, Cond.static yX6_isLetter, Cond.code yX6_isLetter cX6_isLetter 1 (some .boolean), Cond.methodLink RX6 138 yX6_isDigit, Cond.static yX6_isDigit]
def wsX6_gainAndTime_r4 : List Cond := [Cond.code yX6_isDigit cX6_isDigit 1 (some .boolean), Cond.methodLink RX6 141 yX6_takeDigits, Cond.instanceMethod yX6_takeDigits, Cond.selects RX6 yX6_takeDigits yX6_takeDigits, Cond.code yX6_takeDigits cX6_takeDigits 1 none, Cond.constant RX6 144 (1000000), Cond.methodLink RX6 145 Lib.Math.min.name, Cond.static Lib.Math.min.name, Cond.initialized "java/lang/Math", Cond.code Lib.Math.min.name Lib.Math.min.code 2 (some .int), Cond.methodLink RX6 70 yX6_isNumber, Cond.instanceMethod yX6_isNumber, Cond.selects RX6 yX6_isNumber yX6_isNumber, Cond.code yX6_isNumber cX6_isNumber 3 (some .boolean), Cond.static yX9_within, Cond.initialized RX9, Cond.code yX9_within cX9_within 3 (some .boolean)]
def wsX6_gainAndTime : List Cond := .code yX6_gainAndTime cX6_gainAndTime 2 (some .boolean) :: ((wsX6_gainAndTime_r1 ++ (wsX6_gainAndTime_r2 ++ (wsX6_gainAndTime_r3 ++ wsX6_gainAndTime_r4))) ++ wsX60)
def wsX6_thingItem_r1 : List Cond := [Cond.fieldLink RX6 19 "RoundsPerHour$Tape" "land" "LRoundsPerHour$Country;", Cond.fieldLink RX6 79 "RoundsPerHour$Country" "things" "I", Cond.fieldLink RX6 85 "RoundsPerHour$Tape" "gain" "I", Cond.fieldLink RX6 88 "RoundsPerHour$Tape" "time" "I", Cond.methodLink RX6 26 yX6_next, Cond.instanceMethod yX6_next, Cond.selects RX6 yX6_next yX6_next, Cond.initialized RX6, Cond.code yX6_next cX6_next 1 none, Cond.fieldLink RX6 23 "RoundsPerHour$Tape" "behind" "I", Cond.fieldLink RX6 15 "RoundsPerHour$Tape" "length" "I", Cond.fieldLink RX6 9 "RoundsPerHour$Tape" "bytes" "[I", Cond.fieldLink RX6 33 "RoundsPerHour$Tape" "first" "I", Cond.fieldLink RX6 36 "RoundsPerHour$Tape" "sort" "I", Cond.methodLink RX6 135 yX6_isLetter, Cond.static yX6_isLetter, Cond.code yX6_isLetter cX6_isLetter 1 (some .boolean), Cond.methodLink RX6 138 yX6_isDigit, Cond.static yX6_isDigit, Cond.code yX6_isDigit cX6_isDigit 1 (some .boolean), Cond.methodLink RX6 141 yX6_takeDigits, Cond.instanceMethod yX6_takeDigits, Cond.selects RX6 yX6_takeDigits yX6_takeDigits, Cond.code yX6_takeDigits cX6_takeDigits 1 none]
def wsX6_thingItem_r2 : List Cond := [Cond.fieldLink RX6 74 "RoundsPerHour$Tape" "number" "I", Cond.constant RX6 144 (1000000), Cond.methodLink RX6 145 Lib.Math.min.name, Cond.static Lib.Math.min.name, Cond.initialized "java/lang/Math", Cond.code Lib.Math.min.name Lib.Math.min.code 2 (some .int), Cond.methodLink RX6 82 yX6_gainAndTime, Cond.instanceMethod yX6_gainAndTime, Cond.selects RX6 yX6_gainAndTime yX6_gainAndTime, Cond.code yX6_gainAndTime cX6_gainAndTime 2 (some .boolean), Cond.constant RX6 109 (999999), Cond.methodLink RX6 41 yX6_isWord, Cond.instanceMethod yX6_isWord, Cond.selects RX6 yX6_isWord yX6_isWord, Cond.code yX6_isWord cX6_isWord 3 (some .boolean), Cond.methodLink RX6 127 yJ0_length_8abf5, Cond.instanceMethod yJ0_length_8abf5, Cond.selects RJ0 yJ0_length_8abf5 yJ0_length_8abf5, Cond.initialized RJ0, Cond.code yJ0_length_8abf5 cJ0_length_8abf5 1 (some .int), Cond.fieldLink RJ0 9 "java/lang/String" "value" "[B", Cond.methodLink RJ0 335 yJ0_coder_7d493, Cond.instanceMethod yJ0_coder_7d493, Cond.selects RJ0 yJ0_coder_7d493 yJ0_coder_7d493]
def wsX6_thingItem_r3 : List Cond := [Cond.code yJ0_coder_7d493 cJ0_coder_7d493 1 (some .byte), Cond.fieldLink RJ0 38 "java/lang/String" "COMPACT_STRINGS" "Z", Cond.fieldLink RJ0 15 "java/lang/String" "coder" "B", Cond.methodLink RX6 131 yJ0_charAt_5068e, Cond.instanceMethod yJ0_charAt_5068e, Cond.selects RJ0 yJ0_charAt_5068e yJ0_charAt_5068e, Cond.code yJ0_charAt_5068e cJ0_charAt_5068e 2 (some .char), Cond.methodLink RJ0 492 yJ0_isLatin1_aae02, Cond.instanceMethod yJ0_isLatin1_aae02, Cond.selects RJ0 yJ0_isLatin1_aae02 yJ0_isLatin1_aae02, Cond.code yJ0_isLatin1_aae02 cJ0_isLatin1_aae02 1 (some .boolean), Cond.methodLink RJ0 495 yJ1_charAt_3b067, Cond.static yJ1_charAt_3b067, Cond.initialized RJ1, Cond.code yJ1_charAt_3b067 cJ1_charAt_3b067 2 (some .char), Cond.methodLink RJ1 9 yJ0_checkIndex_df160, Cond.static yJ0_checkIndex_df160, Cond.code yJ0_checkIndex_df160 cJ0_checkIndex_df160 2 none, Cond.fieldLink RJ0 1053 "jdk/internal/util/Preconditions" "SIOOBE_FORMATTER" "Ljava/util/function/BiFunction;", Cond.methodLink RJ0 1059 yJ3_checkIndex_8e157, Cond.static yJ3_checkIndex_8e157, Cond.initialized RJ3, Cond.code yJ3_checkIndex_8e157 cJ3_checkIndex_8e157 3 (some .int), Cond.methodLink RJ0 498 yJ2_charAt_3b067]
def wsX6_thingItem_r4 : List Cond := [Cond.static yJ2_charAt_3b067, Cond.initialized RJ2, Cond.code yJ2_charAt_3b067 cJ2_charAt_3b067 2 (some .char), Cond.methodLink RJ2 67 yJ2_checkIndex_2214a, Cond.static yJ2_checkIndex_2214a, Cond.code yJ2_checkIndex_2214a cJ2_checkIndex_2214a 2 none, Cond.methodLink RJ2 48 yJ2_length_9d52b, Cond.static yJ2_length_9d52b, Cond.code yJ2_length_9d52b cJ2_length_9d52b 1 (some .int), Cond.methodLink RJ2 414 yJ0_checkIndex_df160, Cond.methodLink RJ2 71 yJ2_getChar_3b067, Cond.static yJ2_getChar_3b067, Cond.code yJ2_getChar_3b067 cJ2_getChar_3b067 2 (some .char), Cond.fieldLink RJ2 44 "java/lang/StringUTF16" "$assertionsDisabled" "Z", Cond.fieldLink RJ2 59 "java/lang/StringUTF16" "HI_BYTE_SHIFT" "I", Cond.fieldLink RJ2 63 "java/lang/StringUTF16" "LO_BYTE_SHIFT" "I", Cond.methodLink RX6 70 yX6_isNumber, Cond.instanceMethod yX6_isNumber, Cond.selects RX6 yX6_isNumber yX6_isNumber, Cond.code yX6_isNumber cX6_isNumber 3 (some .boolean), Cond.static yX9_within, Cond.initialized RX9, Cond.code yX9_within cX9_within 3 (some .boolean), Cond.methodLink RX6 91 yX1_newThing]
def wsX6_thingItem_r5 : List Cond := [Cond.instanceMethod yX1_newThing, Cond.selects RX1 yX1_newThing yX1_newThing, Cond.initialized RX1, Cond.code yX1_newThing cX1_newThing 3 (some .int), Cond.fieldLink RX1 47 "RoundsPerHour$Country" "things" "I", Cond.fieldLink RX1 34 "RoundsPerHour$Country" "thingGain" "[I", Cond.fieldLink RX1 37 "RoundsPerHour$Country" "thingTime" "[I"]
def wsX6_thingItem : List Cond := .code yX6_thingItem cX6_thingItem 1 (some .boolean) :: ((wsX6_thingItem_r1 ++ (wsX6_thingItem_r2 ++ (wsX6_thingItem_r3 ++ (wsX6_thingItem_r4 ++ wsX6_thingItem_r5)))) ++ wsX60 ++ wsX10)
def wsX6_kindTold_r1 : List Cond := [Cond.methodLink RX6 41 yX6_isWord, Cond.instanceMethod yX6_isWord, Cond.selects RX6 yX6_isWord yX6_isWord, Cond.initialized RX6, Cond.code yX6_isWord cX6_isWord 3 (some .boolean), Cond.fieldLink RX6 36 "RoundsPerHour$Tape" "sort" "I", Cond.fieldLink RX6 23 "RoundsPerHour$Tape" "behind" "I", Cond.fieldLink RX6 33 "RoundsPerHour$Tape" "first" "I", Cond.fieldLink RX6 9 "RoundsPerHour$Tape" "bytes" "[I", Cond.methodLink RX6 127 yJ0_length_8abf5, Cond.instanceMethod yJ0_length_8abf5, Cond.selects RJ0 yJ0_length_8abf5 yJ0_length_8abf5, Cond.initialized RJ0, Cond.code yJ0_length_8abf5 cJ0_length_8abf5 1 (some .int), Cond.fieldLink RJ0 9 "java/lang/String" "value" "[B", Cond.methodLink RJ0 335 yJ0_coder_7d493, Cond.instanceMethod yJ0_coder_7d493, Cond.selects RJ0 yJ0_coder_7d493 yJ0_coder_7d493, Cond.code yJ0_coder_7d493 cJ0_coder_7d493 1 (some .byte), Cond.fieldLink RJ0 38 "java/lang/String" "COMPACT_STRINGS" "Z", Cond.fieldLink RJ0 15 "java/lang/String" "coder" "B", Cond.methodLink RX6 131 yJ0_charAt_5068e, Cond.instanceMethod yJ0_charAt_5068e, Cond.selects RJ0 yJ0_charAt_5068e yJ0_charAt_5068e]
def wsX6_kindTold_r2 : List Cond := [Cond.code yJ0_charAt_5068e cJ0_charAt_5068e 2 (some .char), Cond.methodLink RJ0 492 yJ0_isLatin1_aae02, Cond.instanceMethod yJ0_isLatin1_aae02, Cond.selects RJ0 yJ0_isLatin1_aae02 yJ0_isLatin1_aae02, Cond.code yJ0_isLatin1_aae02 cJ0_isLatin1_aae02 1 (some .boolean), Cond.methodLink RJ0 495 yJ1_charAt_3b067, Cond.static yJ1_charAt_3b067, Cond.initialized RJ1, Cond.code yJ1_charAt_3b067 cJ1_charAt_3b067 2 (some .char), Cond.methodLink RJ1 9 yJ0_checkIndex_df160, Cond.static yJ0_checkIndex_df160, Cond.code yJ0_checkIndex_df160 cJ0_checkIndex_df160 2 none, Cond.fieldLink RJ0 1053 "jdk/internal/util/Preconditions" "SIOOBE_FORMATTER" "Ljava/util/function/BiFunction;", Cond.methodLink RJ0 1059 yJ3_checkIndex_8e157, Cond.static yJ3_checkIndex_8e157, Cond.initialized RJ3, Cond.code yJ3_checkIndex_8e157 cJ3_checkIndex_8e157 3 (some .int), Cond.methodLink RJ0 498 yJ2_charAt_3b067, Cond.static yJ2_charAt_3b067, Cond.initialized RJ2, Cond.code yJ2_charAt_3b067 cJ2_charAt_3b067 2 (some .char), Cond.methodLink RJ2 67 yJ2_checkIndex_2214a, Cond.static yJ2_checkIndex_2214a, Cond.code yJ2_checkIndex_2214a cJ2_checkIndex_2214a 2 none]
def wsX6_kindTold_r3 : List Cond := [Cond.methodLink RJ2 48 yJ2_length_9d52b, Cond.static yJ2_length_9d52b, Cond.code yJ2_length_9d52b cJ2_length_9d52b 1 (some .int), Cond.methodLink RJ2 414 yJ0_checkIndex_df160, Cond.methodLink RJ2 71 yJ2_getChar_3b067, Cond.static yJ2_getChar_3b067, Cond.code yJ2_getChar_3b067 cJ2_getChar_3b067 2 (some .char), Cond.fieldLink RJ2 44 "java/lang/StringUTF16" "$assertionsDisabled" "Z", Cond.fieldLink RJ2 59 "java/lang/StringUTF16" "HI_BYTE_SHIFT" "I", Cond.fieldLink RJ2 63 "java/lang/StringUTF16" "LO_BYTE_SHIFT" "I"]
def wsX6_kindTold : List Cond := .code yX6_kindTold cX6_kindTold 1 (some .int) :: ((wsX6_kindTold_r1 ++ (wsX6_kindTold_r2 ++ wsX6_kindTold_r3)) ++ wsX60)
def wsX6_wayItem_r1 : List Cond := [Cond.fieldLink RX6 19 "RoundsPerHour$Tape" "land" "LRoundsPerHour$Country;", Cond.fieldLink RX6 95 "RoundsPerHour$Country" "ways" "I", Cond.fieldLink RX6 66 "RoundsPerHour$Country" "places" "I", Cond.fieldLink RX6 74 "RoundsPerHour$Tape" "number" "I", Cond.fieldLink RX6 85 "RoundsPerHour$Tape" "gain" "I", Cond.fieldLink RX6 88 "RoundsPerHour$Tape" "time" "I", Cond.fieldLink RX6 104 "RoundsPerHour$Country" "shut" "[I", Cond.methodLink RX6 26 yX6_next, Cond.instanceMethod yX6_next, Cond.selects RX6 yX6_next yX6_next, Cond.initialized RX6, Cond.code yX6_next cX6_next 1 none, Cond.fieldLink RX6 23 "RoundsPerHour$Tape" "behind" "I", Cond.fieldLink RX6 15 "RoundsPerHour$Tape" "length" "I", Cond.fieldLink RX6 9 "RoundsPerHour$Tape" "bytes" "[I", Cond.fieldLink RX6 33 "RoundsPerHour$Tape" "first" "I", Cond.fieldLink RX6 36 "RoundsPerHour$Tape" "sort" "I", Cond.methodLink RX6 135 yX6_isLetter, Cond.static yX6_isLetter, Cond.code yX6_isLetter cX6_isLetter 1 (some .boolean), Cond.methodLink RX6 138 yX6_isDigit, Cond.static yX6_isDigit, Cond.code yX6_isDigit cX6_isDigit 1 (some .boolean), Cond.methodLink RX6 141 yX6_takeDigits]
def wsX6_wayItem_r2 : List Cond := [Cond.instanceMethod yX6_takeDigits, Cond.selects RX6 yX6_takeDigits yX6_takeDigits, Cond.code yX6_takeDigits cX6_takeDigits 1 none, Cond.constant RX6 144 (1000000), Cond.methodLink RX6 145 Lib.Math.min.name, Cond.static Lib.Math.min.name, Cond.initialized "java/lang/Math", Cond.code Lib.Math.min.name Lib.Math.min.code 2 (some .int), Cond.methodLink RX6 70 yX6_isNumber, Cond.instanceMethod yX6_isNumber, Cond.selects RX6 yX6_isNumber yX6_isNumber, Cond.code yX6_isNumber cX6_isNumber 3 (some .boolean), Cond.static yX9_within, Cond.initialized RX9, Cond.code yX9_within cX9_within 3 (some .boolean), Cond.methodLink RX6 82 yX6_gainAndTime, Cond.instanceMethod yX6_gainAndTime, Cond.selects RX6 yX6_gainAndTime yX6_gainAndTime, Cond.code yX6_gainAndTime cX6_gainAndTime 2 (some .boolean), Cond.constant RX6 109 (999999), Cond.methodLink RX6 41 yX6_isWord, Cond.instanceMethod yX6_isWord, Cond.selects RX6 yX6_isWord yX6_isWord, Cond.code yX6_isWord cX6_isWord 3 (some .boolean)]
def wsX6_wayItem_r3 : List Cond := [Cond.methodLink RX6 127 yJ0_length_8abf5, Cond.instanceMethod yJ0_length_8abf5, Cond.selects RJ0 yJ0_length_8abf5 yJ0_length_8abf5, Cond.initialized RJ0, Cond.code yJ0_length_8abf5 cJ0_length_8abf5 1 (some .int), Cond.fieldLink RJ0 9 "java/lang/String" "value" "[B", Cond.methodLink RJ0 335 yJ0_coder_7d493, Cond.instanceMethod yJ0_coder_7d493, Cond.selects RJ0 yJ0_coder_7d493 yJ0_coder_7d493, Cond.code yJ0_coder_7d493 cJ0_coder_7d493 1 (some .byte), Cond.fieldLink RJ0 38 "java/lang/String" "COMPACT_STRINGS" "Z", Cond.fieldLink RJ0 15 "java/lang/String" "coder" "B", Cond.methodLink RX6 131 yJ0_charAt_5068e, Cond.instanceMethod yJ0_charAt_5068e, Cond.selects RJ0 yJ0_charAt_5068e yJ0_charAt_5068e, Cond.code yJ0_charAt_5068e cJ0_charAt_5068e 2 (some .char), Cond.methodLink RJ0 492 yJ0_isLatin1_aae02, Cond.instanceMethod yJ0_isLatin1_aae02, Cond.selects RJ0 yJ0_isLatin1_aae02 yJ0_isLatin1_aae02, Cond.code yJ0_isLatin1_aae02 cJ0_isLatin1_aae02 1 (some .boolean), Cond.methodLink RJ0 495 yJ1_charAt_3b067, Cond.static yJ1_charAt_3b067, Cond.initialized RJ1, Cond.code yJ1_charAt_3b067 cJ1_charAt_3b067 2 (some .char)]
def wsX6_wayItem_r4 : List Cond := [Cond.methodLink RJ1 9 yJ0_checkIndex_df160, Cond.static yJ0_checkIndex_df160, Cond.code yJ0_checkIndex_df160 cJ0_checkIndex_df160 2 none, Cond.fieldLink RJ0 1053 "jdk/internal/util/Preconditions" "SIOOBE_FORMATTER" "Ljava/util/function/BiFunction;", Cond.methodLink RJ0 1059 yJ3_checkIndex_8e157, Cond.static yJ3_checkIndex_8e157, Cond.initialized RJ3, Cond.code yJ3_checkIndex_8e157 cJ3_checkIndex_8e157 3 (some .int), Cond.methodLink RJ0 498 yJ2_charAt_3b067, Cond.static yJ2_charAt_3b067, Cond.initialized RJ2, Cond.code yJ2_charAt_3b067 cJ2_charAt_3b067 2 (some .char), Cond.methodLink RJ2 67 yJ2_checkIndex_2214a, Cond.static yJ2_checkIndex_2214a, Cond.code yJ2_checkIndex_2214a cJ2_checkIndex_2214a 2 none, Cond.methodLink RJ2 48 yJ2_length_9d52b, Cond.static yJ2_length_9d52b, Cond.code yJ2_length_9d52b cJ2_length_9d52b 1 (some .int), Cond.methodLink RJ2 414 yJ0_checkIndex_df160, Cond.methodLink RJ2 71 yJ2_getChar_3b067, Cond.static yJ2_getChar_3b067, Cond.code yJ2_getChar_3b067 cJ2_getChar_3b067 2 (some .char), Cond.fieldLink RJ2 44 "java/lang/StringUTF16" "$assertionsDisabled" "Z", Cond.fieldLink RJ2 59 "java/lang/StringUTF16" "HI_BYTE_SHIFT" "I"]
def wsX6_wayItem_r5 : List Cond := [Cond.fieldLink RJ2 63 "java/lang/StringUTF16" "LO_BYTE_SHIFT" "I", Cond.methodLink RX6 98 yX1_newWay, Cond.instanceMethod yX1_newWay, Cond.selects RX1 yX1_newWay yX1_newWay, Cond.initialized RX1, Cond.code yX1_newWay cX1_newWay 7 (some .int), Cond.fieldLink RX1 44 "RoundsPerHour$Country" "ways" "I", Cond.fieldLink RX1 15 "RoundsPerHour$Country" "kind" "[I", Cond.fieldLink RX1 19 "RoundsPerHour$Country" "from" "[I", Cond.fieldLink RX1 22 "RoundsPerHour$Country" "to" "[I", Cond.fieldLink RX1 25 "RoundsPerHour$Country" "gain" "[I", Cond.fieldLink RX1 28 "RoundsPerHour$Country" "time" "[I", Cond.fieldLink RX1 31 "RoundsPerHour$Country" "shut" "[I"]
def wsX6_wayItem : List Cond := .code yX6_wayItem cX6_wayItem 5 (some .boolean) :: ((wsX6_wayItem_r1 ++ (wsX6_wayItem_r2 ++ (wsX6_wayItem_r3 ++ (wsX6_wayItem_r4 ++ wsX6_wayItem_r5)))) ++ wsX60 ++ wsX10)
def wsX6_item_r1 : List Cond := [Cond.methodLink RX6 41 yX6_isWord, Cond.instanceMethod yX6_isWord, Cond.selects RX6 yX6_isWord yX6_isWord, Cond.initialized RX6, Cond.code yX6_isWord cX6_isWord 3 (some .boolean), Cond.fieldLink RX6 36 "RoundsPerHour$Tape" "sort" "I", Cond.fieldLink RX6 23 "RoundsPerHour$Tape" "behind" "I", Cond.fieldLink RX6 33 "RoundsPerHour$Tape" "first" "I", Cond.fieldLink RX6 9 "RoundsPerHour$Tape" "bytes" "[I", Cond.methodLink RX6 127 yJ0_length_8abf5, Cond.instanceMethod yJ0_length_8abf5, Cond.selects RJ0 yJ0_length_8abf5 yJ0_length_8abf5, Cond.initialized RJ0, Cond.code yJ0_length_8abf5 cJ0_length_8abf5 1 (some .int), Cond.fieldLink RJ0 9 "java/lang/String" "value" "[B", Cond.methodLink RJ0 335 yJ0_coder_7d493, Cond.instanceMethod yJ0_coder_7d493, Cond.selects RJ0 yJ0_coder_7d493 yJ0_coder_7d493, Cond.code yJ0_coder_7d493 cJ0_coder_7d493 1 (some .byte), Cond.fieldLink RJ0 38 "java/lang/String" "COMPACT_STRINGS" "Z", Cond.fieldLink RJ0 15 "java/lang/String" "coder" "B", Cond.methodLink RX6 131 yJ0_charAt_5068e, Cond.instanceMethod yJ0_charAt_5068e, Cond.selects RJ0 yJ0_charAt_5068e yJ0_charAt_5068e]
def wsX6_item_r2 : List Cond := [Cond.code yJ0_charAt_5068e cJ0_charAt_5068e 2 (some .char), Cond.methodLink RJ0 492 yJ0_isLatin1_aae02, Cond.instanceMethod yJ0_isLatin1_aae02, Cond.selects RJ0 yJ0_isLatin1_aae02 yJ0_isLatin1_aae02, Cond.code yJ0_isLatin1_aae02 cJ0_isLatin1_aae02 1 (some .boolean), Cond.methodLink RJ0 495 yJ1_charAt_3b067, Cond.static yJ1_charAt_3b067, Cond.initialized RJ1, Cond.code yJ1_charAt_3b067 cJ1_charAt_3b067 2 (some .char), Cond.methodLink RJ1 9 yJ0_checkIndex_df160, Cond.static yJ0_checkIndex_df160, Cond.code yJ0_checkIndex_df160 cJ0_checkIndex_df160 2 none, Cond.fieldLink RJ0 1053 "jdk/internal/util/Preconditions" "SIOOBE_FORMATTER" "Ljava/util/function/BiFunction;", Cond.methodLink RJ0 1059 yJ3_checkIndex_8e157, Cond.static yJ3_checkIndex_8e157, Cond.initialized RJ3, Cond.code yJ3_checkIndex_8e157 cJ3_checkIndex_8e157 3 (some .int), Cond.methodLink RJ0 498 yJ2_charAt_3b067, Cond.static yJ2_charAt_3b067, Cond.initialized RJ2, Cond.code yJ2_charAt_3b067 cJ2_charAt_3b067 2 (some .char), Cond.methodLink RJ2 67 yJ2_checkIndex_2214a, Cond.static yJ2_checkIndex_2214a, Cond.code yJ2_checkIndex_2214a cJ2_checkIndex_2214a 2 none]
def wsX6_item_r3 : List Cond := [Cond.methodLink RJ2 48 yJ2_length_9d52b, Cond.static yJ2_length_9d52b, Cond.code yJ2_length_9d52b cJ2_length_9d52b 1 (some .int), Cond.methodLink RJ2 414 yJ0_checkIndex_df160, Cond.methodLink RJ2 71 yJ2_getChar_3b067, Cond.static yJ2_getChar_3b067, Cond.code yJ2_getChar_3b067 cJ2_getChar_3b067 2 (some .char), Cond.fieldLink RJ2 44 "java/lang/StringUTF16" "$assertionsDisabled" "Z", Cond.fieldLink RJ2 59 "java/lang/StringUTF16" "HI_BYTE_SHIFT" "I", Cond.fieldLink RJ2 63 "java/lang/StringUTF16" "LO_BYTE_SHIFT" "I", Cond.methodLink RX6 26 yX6_next, Cond.instanceMethod yX6_next, Cond.selects RX6 yX6_next yX6_next, Cond.code yX6_next cX6_next 1 none, Cond.fieldLink RX6 15 "RoundsPerHour$Tape" "length" "I", Cond.methodLink RX6 135 yX6_isLetter, Cond.static yX6_isLetter, Cond.code yX6_isLetter cX6_isLetter 1 (some .boolean), Cond.methodLink RX6 138 yX6_isDigit, Cond.static yX6_isDigit, Cond.code yX6_isDigit cX6_isDigit 1 (some .boolean), Cond.methodLink RX6 141 yX6_takeDigits, Cond.instanceMethod yX6_takeDigits, Cond.selects RX6 yX6_takeDigits yX6_takeDigits]
def wsX6_item_r4 : List Cond := [Cond.code yX6_takeDigits cX6_takeDigits 1 none, Cond.fieldLink RX6 74 "RoundsPerHour$Tape" "number" "I", Cond.constant RX6 144 (1000000), Cond.methodLink RX6 145 Lib.Math.min.name, Cond.static Lib.Math.min.name, Cond.initialized "java/lang/Math", Cond.code Lib.Math.min.name Lib.Math.min.code 2 (some .int), Cond.methodLink RX6 45 yX6_placesItem, Cond.instanceMethod yX6_placesItem, Cond.selects RX6 yX6_placesItem yX6_placesItem, Cond.code yX6_placesItem cX6_placesItem 1 (some .boolean), Cond.fieldLink RX6 19 "RoundsPerHour$Tape" "land" "LRoundsPerHour$Country;", Cond.fieldLink RX6 66 "RoundsPerHour$Country" "places" "I", Cond.methodLink RX6 70 yX6_isNumber, Cond.instanceMethod yX6_isNumber, Cond.selects RX6 yX6_isNumber yX6_isNumber, Cond.code yX6_isNumber cX6_isNumber 3 (some .boolean), Cond.static yX9_within, Cond.initialized RX9, Cond.code yX9_within cX9_within 3 (some .boolean), Cond.methodLink RX6 50 yX6_weatherItem, Cond.instanceMethod yX6_weatherItem, Cond.selects RX6 yX6_weatherItem yX6_weatherItem, Cond.code yX6_weatherItem cX6_weatherItem 1 (some .boolean)]
def wsX6_item_r5 : List Cond := [Cond.fieldLink RX6 77 "RoundsPerHour$Country" "weather" "I", Cond.methodLink RX6 55 yX6_thingItem, Cond.instanceMethod yX6_thingItem, Cond.selects RX6 yX6_thingItem yX6_thingItem, Cond.code yX6_thingItem cX6_thingItem 1 (some .boolean), Cond.fieldLink RX6 79 "RoundsPerHour$Country" "things" "I", Cond.fieldLink RX6 85 "RoundsPerHour$Tape" "gain" "I", Cond.fieldLink RX6 88 "RoundsPerHour$Tape" "time" "I", Cond.methodLink RX6 82 yX6_gainAndTime, Cond.instanceMethod yX6_gainAndTime, Cond.selects RX6 yX6_gainAndTime yX6_gainAndTime, Cond.code yX6_gainAndTime cX6_gainAndTime 2 (some .boolean), Cond.constant RX6 109 (999999), Cond.methodLink RX6 91 yX1_newThing, Cond.instanceMethod yX1_newThing, Cond.selects RX1 yX1_newThing yX1_newThing, Cond.initialized RX1, Cond.code yX1_newThing cX1_newThing 3 (some .int), Cond.fieldLink RX1 47 "RoundsPerHour$Country" "things" "I", Cond.fieldLink RX1 34 "RoundsPerHour$Country" "thingGain" "[I", Cond.fieldLink RX1 37 "RoundsPerHour$Country" "thingTime" "[I", Cond.methodLink RX6 58 yX6_kindTold, Cond.instanceMethod yX6_kindTold, Cond.selects RX6 yX6_kindTold yX6_kindTold]
def wsX6_item_r6 : List Cond := [Cond.code yX6_kindTold cX6_kindTold 1 (some .int), Cond.methodLink RX6 62 yX6_wayItem, Cond.instanceMethod yX6_wayItem, Cond.selects RX6 yX6_wayItem yX6_wayItem, Cond.code yX6_wayItem cX6_wayItem 5 (some .boolean), Cond.fieldLink RX6 95 "RoundsPerHour$Country" "ways" "I", Cond.fieldLink RX6 104 "RoundsPerHour$Country" "shut" "[I", Cond.methodLink RX6 98 yX1_newWay, Cond.instanceMethod yX1_newWay, Cond.selects RX1 yX1_newWay yX1_newWay, Cond.code yX1_newWay cX1_newWay 7 (some .int), Cond.fieldLink RX1 44 "RoundsPerHour$Country" "ways" "I", Cond.fieldLink RX1 15 "RoundsPerHour$Country" "kind" "[I", Cond.fieldLink RX1 19 "RoundsPerHour$Country" "from" "[I", Cond.fieldLink RX1 22 "RoundsPerHour$Country" "to" "[I", Cond.fieldLink RX1 25 "RoundsPerHour$Country" "gain" "[I", Cond.fieldLink RX1 28 "RoundsPerHour$Country" "time" "[I", Cond.fieldLink RX1 31 "RoundsPerHour$Country" "shut" "[I"]
def wsX6_item : List Cond := .code yX6_item cX6_item 1 (some .boolean) :: ((wsX6_item_r1 ++ (wsX6_item_r2 ++ (wsX6_item_r3 ++ (wsX6_item_r4 ++ (wsX6_item_r5 ++ wsX6_item_r6))))) ++ wsX60 ++ wsX10)
def wsX6_tellTo_r1 : List Cond := [Cond.fieldLink RX6 19 "RoundsPerHour$Tape" "land" "LRoundsPerHour$Country;", Cond.fieldLink RX6 23 "RoundsPerHour$Tape" "behind" "I", Cond.fieldLink RX6 33 "RoundsPerHour$Tape" "first" "I", Cond.fieldLink RX6 36 "RoundsPerHour$Tape" "sort" "I", Cond.methodLink RX6 26 yX6_next, Cond.instanceMethod yX6_next, Cond.selects RX6 yX6_next yX6_next, Cond.initialized RX6, Cond.code yX6_next cX6_next 1 none, Cond.fieldLink RX6 15 "RoundsPerHour$Tape" "length" "I", Cond.fieldLink RX6 9 "RoundsPerHour$Tape" "bytes" "[I", Cond.methodLink RX6 135 yX6_isLetter, Cond.static yX6_isLetter, Cond.code yX6_isLetter cX6_isLetter 1 (some .boolean), Cond.methodLink RX6 138 yX6_isDigit, Cond.static yX6_isDigit, Cond.code yX6_isDigit cX6_isDigit 1 (some .boolean), Cond.methodLink RX6 141 yX6_takeDigits, Cond.instanceMethod yX6_takeDigits, Cond.selects RX6 yX6_takeDigits yX6_takeDigits, Cond.code yX6_takeDigits cX6_takeDigits 1 none, Cond.fieldLink RX6 74 "RoundsPerHour$Tape" "number" "I", Cond.constant RX6 144 (1000000), Cond.methodLink RX6 145 Lib.Math.min.name]
def wsX6_tellTo_r2 : List Cond := [Cond.static Lib.Math.min.name, Cond.initialized "java/lang/Math", Cond.code Lib.Math.min.name Lib.Math.min.code 2 (some .int), Cond.methodLink RX6 29 yX6_item, Cond.instanceMethod yX6_item, Cond.selects RX6 yX6_item yX6_item, Cond.code yX6_item cX6_item 1 (some .boolean), Cond.methodLink RX6 41 yX6_isWord, Cond.instanceMethod yX6_isWord, Cond.selects RX6 yX6_isWord yX6_isWord, Cond.code yX6_isWord cX6_isWord 3 (some .boolean), Cond.methodLink RX6 127 yJ0_length_8abf5, Cond.instanceMethod yJ0_length_8abf5, Cond.selects RJ0 yJ0_length_8abf5 yJ0_length_8abf5, Cond.initialized RJ0, Cond.code yJ0_length_8abf5 cJ0_length_8abf5 1 (some .int), Cond.fieldLink RJ0 9 "java/lang/String" "value" "[B", Cond.methodLink RJ0 335 yJ0_coder_7d493, Cond.instanceMethod yJ0_coder_7d493, Cond.selects RJ0 yJ0_coder_7d493 yJ0_coder_7d493, Cond.code yJ0_coder_7d493 cJ0_coder_7d493 1 (some .byte), Cond.fieldLink RJ0 38 "java/lang/String" "COMPACT_STRINGS" "Z", Cond.fieldLink RJ0 15 "java/lang/String" "coder" "B", Cond.methodLink RX6 131 yJ0_charAt_5068e]
def wsX6_tellTo_r3 : List Cond := [Cond.instanceMethod yJ0_charAt_5068e, Cond.selects RJ0 yJ0_charAt_5068e yJ0_charAt_5068e, Cond.code yJ0_charAt_5068e cJ0_charAt_5068e 2 (some .char), Cond.methodLink RJ0 492 yJ0_isLatin1_aae02, Cond.instanceMethod yJ0_isLatin1_aae02, Cond.selects RJ0 yJ0_isLatin1_aae02 yJ0_isLatin1_aae02, Cond.code yJ0_isLatin1_aae02 cJ0_isLatin1_aae02 1 (some .boolean), Cond.methodLink RJ0 495 yJ1_charAt_3b067, Cond.static yJ1_charAt_3b067, Cond.initialized RJ1, Cond.code yJ1_charAt_3b067 cJ1_charAt_3b067 2 (some .char), Cond.methodLink RJ1 9 yJ0_checkIndex_df160, Cond.static yJ0_checkIndex_df160, Cond.code yJ0_checkIndex_df160 cJ0_checkIndex_df160 2 none, Cond.fieldLink RJ0 1053 "jdk/internal/util/Preconditions" "SIOOBE_FORMATTER" "Ljava/util/function/BiFunction;", Cond.methodLink RJ0 1059 yJ3_checkIndex_8e157, Cond.static yJ3_checkIndex_8e157, Cond.initialized RJ3, Cond.code yJ3_checkIndex_8e157 cJ3_checkIndex_8e157 3 (some .int), Cond.methodLink RJ0 498 yJ2_charAt_3b067, Cond.static yJ2_charAt_3b067, Cond.initialized RJ2, Cond.code yJ2_charAt_3b067 cJ2_charAt_3b067 2 (some .char), Cond.methodLink RJ2 67 yJ2_checkIndex_2214a]
def wsX6_tellTo_r4 : List Cond := [Cond.static yJ2_checkIndex_2214a, Cond.code yJ2_checkIndex_2214a cJ2_checkIndex_2214a 2 none, Cond.methodLink RJ2 48 yJ2_length_9d52b, Cond.static yJ2_length_9d52b, Cond.code yJ2_length_9d52b cJ2_length_9d52b 1 (some .int), Cond.methodLink RJ2 414 yJ0_checkIndex_df160, Cond.methodLink RJ2 71 yJ2_getChar_3b067, Cond.static yJ2_getChar_3b067, Cond.code yJ2_getChar_3b067 cJ2_getChar_3b067 2 (some .char), Cond.fieldLink RJ2 44 "java/lang/StringUTF16" "$assertionsDisabled" "Z", Cond.fieldLink RJ2 59 "java/lang/StringUTF16" "HI_BYTE_SHIFT" "I", Cond.fieldLink RJ2 63 "java/lang/StringUTF16" "LO_BYTE_SHIFT" "I", Cond.methodLink RX6 45 yX6_placesItem, Cond.instanceMethod yX6_placesItem, Cond.selects RX6 yX6_placesItem yX6_placesItem, Cond.code yX6_placesItem cX6_placesItem 1 (some .boolean), Cond.fieldLink RX6 66 "RoundsPerHour$Country" "places" "I", Cond.methodLink RX6 70 yX6_isNumber, Cond.instanceMethod yX6_isNumber, Cond.selects RX6 yX6_isNumber yX6_isNumber, Cond.code yX6_isNumber cX6_isNumber 3 (some .boolean), Cond.static yX9_within, Cond.initialized RX9, Cond.code yX9_within cX9_within 3 (some .boolean)]
def wsX6_tellTo_r5 : List Cond := [Cond.methodLink RX6 50 yX6_weatherItem, Cond.instanceMethod yX6_weatherItem, Cond.selects RX6 yX6_weatherItem yX6_weatherItem, Cond.code yX6_weatherItem cX6_weatherItem 1 (some .boolean), Cond.fieldLink RX6 77 "RoundsPerHour$Country" "weather" "I", Cond.methodLink RX6 55 yX6_thingItem, Cond.instanceMethod yX6_thingItem, Cond.selects RX6 yX6_thingItem yX6_thingItem, Cond.code yX6_thingItem cX6_thingItem 1 (some .boolean), Cond.fieldLink RX6 79 "RoundsPerHour$Country" "things" "I", Cond.fieldLink RX6 85 "RoundsPerHour$Tape" "gain" "I", Cond.fieldLink RX6 88 "RoundsPerHour$Tape" "time" "I", Cond.methodLink RX6 82 yX6_gainAndTime, Cond.instanceMethod yX6_gainAndTime, Cond.selects RX6 yX6_gainAndTime yX6_gainAndTime, Cond.code yX6_gainAndTime cX6_gainAndTime 2 (some .boolean), Cond.constant RX6 109 (999999), Cond.methodLink RX6 91 yX1_newThing, Cond.instanceMethod yX1_newThing, Cond.selects RX1 yX1_newThing yX1_newThing, Cond.initialized RX1, Cond.code yX1_newThing cX1_newThing 3 (some .int), Cond.fieldLink RX1 47 "RoundsPerHour$Country" "things" "I", Cond.fieldLink RX1 34 "RoundsPerHour$Country" "thingGain" "[I"]
def wsX6_tellTo_r6 : List Cond := [Cond.fieldLink RX1 37 "RoundsPerHour$Country" "thingTime" "[I", Cond.methodLink RX6 58 yX6_kindTold, Cond.instanceMethod yX6_kindTold, Cond.selects RX6 yX6_kindTold yX6_kindTold, Cond.code yX6_kindTold cX6_kindTold 1 (some .int), Cond.methodLink RX6 62 yX6_wayItem, Cond.instanceMethod yX6_wayItem, Cond.selects RX6 yX6_wayItem yX6_wayItem, Cond.code yX6_wayItem cX6_wayItem 5 (some .boolean), Cond.fieldLink RX6 95 "RoundsPerHour$Country" "ways" "I", Cond.fieldLink RX6 104 "RoundsPerHour$Country" "shut" "[I", Cond.methodLink RX6 98 yX1_newWay, Cond.instanceMethod yX1_newWay, Cond.selects RX1 yX1_newWay yX1_newWay, Cond.code yX1_newWay cX1_newWay 7 (some .int), Cond.fieldLink RX1 44 "RoundsPerHour$Country" "ways" "I", Cond.fieldLink RX1 15 "RoundsPerHour$Country" "kind" "[I", Cond.fieldLink RX1 19 "RoundsPerHour$Country" "from" "[I", Cond.fieldLink RX1 22 "RoundsPerHour$Country" "to" "[I", Cond.fieldLink RX1 25 "RoundsPerHour$Country" "gain" "[I", Cond.fieldLink RX1 28 "RoundsPerHour$Country" "time" "[I", Cond.fieldLink RX1 31 "RoundsPerHour$Country" "shut" "[I"]
def wsX6_tellTo : List Cond := .code yX6_tellTo cX6_tellTo 3 (some .int) :: ((wsX6_tellTo_r1 ++ (wsX6_tellTo_r2 ++ (wsX6_tellTo_r3 ++ (wsX6_tellTo_r4 ++ (wsX6_tellTo_r5 ++ wsX6_tellTo_r6))))) ++ wsX60 ++ wsX10)
def wsX7_init : List Cond := .code yX7_init cX7_init 1 none :: ([.classLink RX7 9 RX2, .instantiable RX2 1, .initialized RX2, .fieldLink RX7 12 "RoundsPerHour$TreeClimb" "joins" "LRoundsPerHour$Joins;", .instanceMethod yX0_init, .initialized RX0, .code yX0_init cX0_init 1 none, .methodLink RX0 3 objectInit, .instanceMethod objectInit, .code objectInit ⟨#[0xb1]⟩ 1 none, .arrayClass .long, .fieldLink RX0 9 "RoundsPerHour$Climb" "gains" "[J", .fieldLink RX0 15 "RoundsPerHour$Climb" "times" "[J", .fieldLink RX0 18 "RoundsPerHour$Climb" "weight" "[J", .instanceMethod yX2_init, .code yX2_init cX2_init 1 none, .methodLink RX2 3 objectInit, .arrayClass .int, .fieldLink RX2 9 "RoundsPerHour$Joins" "label" "[I"] ++ wsX20 ++ wsX70 ++ wsX30 ++ wsX80)
def wsX7_climbs_r1 : List Cond := [Cond.fieldLink RX7 18 "RoundsPerHour$TreeClimb" "land" "LRoundsPerHour$Country;", Cond.methodLink RX7 22 ⟨"RoundsPerHour$TreeClimb", "takeWays", "(LRoundsPerHour$Country;)V"⟩, Cond.sameMethod "RoundsPerHour$TreeClimb" "RoundsPerHour$Climb" "takeWays" "(LRoundsPerHour$Country;)V", Cond.selects RX7 ⟨"RoundsPerHour$TreeClimb", "takeWays", "(LRoundsPerHour$Country;)V"⟩ yX0_takeWays, Cond.instanceMethod yX0_takeWays, Cond.initialized RX0, Cond.code yX0_takeWays cX0_takeWays 3 none, Cond.fieldLink RX0 21 "RoundsPerHour$Country" "ways" "I", Cond.fieldLink RX0 27 "RoundsPerHour$Climb" "size" "I", Cond.fieldLink RX0 9 "RoundsPerHour$Climb" "gains" "[J", Cond.fieldLink RX0 15 "RoundsPerHour$Climb" "times" "[J", Cond.methodLink RX0 30 yX1_bringsOf, Cond.instanceMethod yX1_bringsOf, Cond.selects RX1 yX1_bringsOf yX1_bringsOf, Cond.initialized RX1, Cond.code yX1_bringsOf cX1_bringsOf 2 (some .int), Cond.fieldLink RX1 15 "RoundsPerHour$Country" "kind" "[I", Cond.fieldLink RX1 25 "RoundsPerHour$Country" "gain" "[I", Cond.fieldLink RX1 50 "RoundsPerHour$Country" "weather" "I", Cond.static yX9_brings, Cond.initialized RX9, Cond.code yX9_brings cX9_brings 3 (some .int), Cond.methodLink RX9 368 yX9_brings, Cond.methodLink RX0 34 yX1_lastsOf]
def wsX7_climbs_r2 : List Cond := [Cond.instanceMethod yX1_lastsOf, Cond.selects RX1 yX1_lastsOf yX1_lastsOf, Cond.code yX1_lastsOf cX1_lastsOf 2 (some .int), Cond.fieldLink RX1 28 "RoundsPerHour$Country" "time" "[I", Cond.static yX9_lasts, Cond.code yX9_lasts cX9_lasts 3 (some .int), Cond.methodLink RX9 371 yX9_lasts, Cond.methodLink RX7 26 ⟨"RoundsPerHour$TreeClimb", "runs", "()Z"⟩, Cond.sameMethod "RoundsPerHour$TreeClimb" "RoundsPerHour$Climb" "runs" "()Z", Cond.selects RX7 ⟨"RoundsPerHour$TreeClimb", "runs", "()Z"⟩ yX0_runs, Cond.instanceMethod yX0_runs, Cond.code yX0_runs cX0_runs 7 (some .boolean), Cond.fieldLink RX0 45 "RoundsPerHour$Climb" "steps" "I", Cond.fieldLink RX0 48 "RoundsPerHour$Climb" "baseAbove" "J", Cond.fieldLink RX0 56 "RoundsPerHour$Climb" "above" "J", Cond.fieldLink RX0 59 "RoundsPerHour$Climb" "baseBelow" "J", Cond.fieldLink RX0 62 "RoundsPerHour$Climb" "below" "J", Cond.fieldLink RX0 65 "RoundsPerHour$Climb" "best" "I", Cond.methodLink RX0 37 ⟨"RoundsPerHour$Climb", "weigh", "(JJ)V"⟩, Cond.sameMethod "RoundsPerHour$Climb" "RoundsPerHour$Climb" "weigh" "(JJ)V", Cond.selects RX3 ⟨"RoundsPerHour$Climb", "weigh", "(JJ)V"⟩ yX0_weigh, Cond.instanceMethod yX0_weigh, Cond.code yX0_weigh cX0_weigh 6 none, Cond.fieldLink RX0 18 "RoundsPerHour$Climb" "weight" "[J"]
def wsX7_climbs_r3 : List Cond := [Cond.selects RX7 ⟨"RoundsPerHour$Climb", "weigh", "(JJ)V"⟩ yX0_weigh, Cond.selects RX8 ⟨"RoundsPerHour$Climb", "weigh", "(JJ)V"⟩ yX0_weigh, Cond.methodLink RX0 41 ⟨"RoundsPerHour$Climb", "pick", "()I"⟩, Cond.sameMethod "RoundsPerHour$Climb" "RoundsPerHour$Climb" "pick" "()I", Cond.selects RX3 ⟨"RoundsPerHour$Climb", "pick", "()I"⟩ yX3_pick, Cond.instanceMethod yX3_pick, Cond.initialized RX3, Cond.code yX3_pick cX3_pick 5 (some .int), Cond.fieldLink RX3 7 "RoundsPerHour$LoadClimb" "most" "I", Cond.fieldLink RX3 18 "RoundsPerHour$LoadClimb" "size" "I", Cond.sameField "RoundsPerHour$LoadClimb" "RoundsPerHour$Climb" "size" "I", Cond.fieldLink RX3 46 "RoundsPerHour$LoadClimb" "weight" "[J", Cond.sameField "RoundsPerHour$LoadClimb" "RoundsPerHour$Climb" "weight" "[J", Cond.selects RX7 ⟨"RoundsPerHour$Climb", "pick", "()I"⟩ yX7_pick, Cond.instanceMethod yX7_pick, Cond.initialized RX7, Cond.code yX7_pick cX7_pick 4 (some .int), Cond.fieldLink RX7 12 "RoundsPerHour$TreeClimb" "joins" "LRoundsPerHour$Joins;", Cond.fieldLink RX7 33 "RoundsPerHour$Country" "places" "I", Cond.fieldLink RX7 43 "RoundsPerHour$Country" "from" "[I", Cond.fieldLink RX7 47 "RoundsPerHour$Country" "to" "[I", Cond.methodLink RX7 30 yX2_part, Cond.instanceMethod yX2_part, Cond.selects RX2 yX2_part yX2_part]
def wsX7_climbs_r4 : List Cond := [Cond.initialized RX2, Cond.code yX2_part cX2_part 2 none, Cond.fieldLink RX2 9 "RoundsPerHour$Joins" "label" "[I", Cond.methodLink RX7 39 yX7_heaviestJoining, Cond.instanceMethod yX7_heaviestJoining, Cond.selects RX7 yX7_heaviestJoining yX7_heaviestJoining, Cond.code yX7_heaviestJoining cX7_heaviestJoining 4 (some .int), Cond.fieldLink RX7 54 "RoundsPerHour$TreeClimb" "size" "I", Cond.sameField "RoundsPerHour$TreeClimb" "RoundsPerHour$Climb" "size" "I", Cond.fieldLink RX7 57 "RoundsPerHour$Country" "shut" "[I", Cond.fieldLink RX7 64 "RoundsPerHour$TreeClimb" "weight" "[J", Cond.sameField "RoundsPerHour$TreeClimb" "RoundsPerHour$Climb" "weight" "[J", Cond.methodLink RX7 60 yX2_apart, Cond.instanceMethod yX2_apart, Cond.selects RX2 yX2_apart yX2_apart, Cond.code yX2_apart cX2_apart 3 (some .boolean), Cond.methodLink RX7 50 yX2_join, Cond.instanceMethod yX2_join, Cond.selects RX2 yX2_join yX2_join, Cond.code yX2_join cX2_join 6 none, Cond.selects RX8 ⟨"RoundsPerHour$Climb", "pick", "()I"⟩ yX8_pick, Cond.instanceMethod yX8_pick, Cond.initialized RX8, Cond.code yX8_pick cX8_pick 2 (some .int)]
def wsX7_climbs_r5 : List Cond := [Cond.fieldLink RX8 9 "RoundsPerHour$WalkClimb" "height" "[J", Cond.fieldLink RX8 15 "RoundsPerHour$WalkClimb" "sets" "[I", Cond.fieldLink RX8 23 "RoundsPerHour$WalkClimb" "start" "I", Cond.fieldLink RX8 27 "RoundsPerHour$WalkClimb" "end" "I", Cond.methodLink RX8 38 yX8_leave, Cond.instanceMethod yX8_leave, Cond.selects RX8 yX8_leave yX8_leave, Cond.code yX8_leave cX8_leave 8 none, Cond.fieldLink RX8 42 "RoundsPerHour$WalkClimb" "size" "I", Cond.sameField "RoundsPerHour$WalkClimb" "RoundsPerHour$Climb" "size" "I", Cond.fieldLink RX8 19 "RoundsPerHour$WalkClimb" "land" "LRoundsPerHour$Country;", Cond.fieldLink RX8 45 "RoundsPerHour$Country" "to" "[I", Cond.fieldLink RX8 50 "RoundsPerHour$Country" "shut" "[I", Cond.fieldLink RX8 53 "RoundsPerHour$Country" "from" "[I", Cond.fieldLink RX8 56 "RoundsPerHour$WalkClimb" "weight" "[J", Cond.sameField "RoundsPerHour$WalkClimb" "RoundsPerHour$Climb" "weight" "[J", Cond.methodLink RX0 52 ⟨"RoundsPerHour$Climb", "together", "([JI)J"⟩, Cond.sameMethod "RoundsPerHour$Climb" "RoundsPerHour$Climb" "together" "([JI)J", Cond.selects RX3 ⟨"RoundsPerHour$Climb", "together", "([JI)J"⟩ yX0_together, Cond.instanceMethod yX0_together, Cond.code yX0_together cX0_together 6 (some .long), Cond.selects RX7 ⟨"RoundsPerHour$Climb", "together", "([JI)J"⟩ yX0_together, Cond.selects RX8 ⟨"RoundsPerHour$Climb", "together", "([JI)J"⟩ yX0_together]
def wsX7_climbs : List Cond := .code yX7_climbs cX7_climbs 2 (some .boolean) :: ((wsX7_climbs_r1 ++ (wsX7_climbs_r2 ++ (wsX7_climbs_r3 ++ (wsX7_climbs_r4 ++ wsX7_climbs_r5)))) ++ wsX70 ++ wsX10 ++ wsX30 ++ wsX80 ++ wsX20)
def wsX8_init : List Cond := .code yX8_init cX8_init 1 none :: ([.arrayClass .long, .fieldLink RX8 9 "RoundsPerHour$WalkClimb" "height" "[J", .arrayClass .int, .fieldLink RX8 15 "RoundsPerHour$WalkClimb" "sets" "[I", .instanceMethod yX0_init, .initialized RX0, .code yX0_init cX0_init 1 none, .methodLink RX0 3 objectInit, .instanceMethod objectInit, .code objectInit ⟨#[0xb1]⟩ 1 none, .fieldLink RX0 9 "RoundsPerHour$Climb" "gains" "[J", .fieldLink RX0 15 "RoundsPerHour$Climb" "times" "[J", .fieldLink RX0 18 "RoundsPerHour$Climb" "weight" "[J"] ++ wsX80 ++ wsX30 ++ wsX70)
def wsX8_climbs_r1 : List Cond := [Cond.fieldLink RX8 19 "RoundsPerHour$WalkClimb" "land" "LRoundsPerHour$Country;", Cond.fieldLink RX8 23 "RoundsPerHour$WalkClimb" "start" "I", Cond.fieldLink RX8 27 "RoundsPerHour$WalkClimb" "end" "I", Cond.methodLink RX8 30 ⟨"RoundsPerHour$WalkClimb", "takeWays", "(LRoundsPerHour$Country;)V"⟩, Cond.sameMethod "RoundsPerHour$WalkClimb" "RoundsPerHour$Climb" "takeWays" "(LRoundsPerHour$Country;)V", Cond.selects RX8 ⟨"RoundsPerHour$WalkClimb", "takeWays", "(LRoundsPerHour$Country;)V"⟩ yX0_takeWays, Cond.instanceMethod yX0_takeWays, Cond.initialized RX0, Cond.code yX0_takeWays cX0_takeWays 3 none, Cond.fieldLink RX0 21 "RoundsPerHour$Country" "ways" "I", Cond.fieldLink RX0 27 "RoundsPerHour$Climb" "size" "I", Cond.fieldLink RX0 9 "RoundsPerHour$Climb" "gains" "[J", Cond.fieldLink RX0 15 "RoundsPerHour$Climb" "times" "[J", Cond.methodLink RX0 30 yX1_bringsOf, Cond.instanceMethod yX1_bringsOf, Cond.selects RX1 yX1_bringsOf yX1_bringsOf, Cond.initialized RX1, Cond.code yX1_bringsOf cX1_bringsOf 2 (some .int), Cond.fieldLink RX1 15 "RoundsPerHour$Country" "kind" "[I", Cond.fieldLink RX1 25 "RoundsPerHour$Country" "gain" "[I", Cond.fieldLink RX1 50 "RoundsPerHour$Country" "weather" "I", Cond.static yX9_brings, Cond.initialized RX9, Cond.code yX9_brings cX9_brings 3 (some .int)]
def wsX8_climbs_r2 : List Cond := [Cond.methodLink RX9 368 yX9_brings, Cond.methodLink RX0 34 yX1_lastsOf, Cond.instanceMethod yX1_lastsOf, Cond.selects RX1 yX1_lastsOf yX1_lastsOf, Cond.code yX1_lastsOf cX1_lastsOf 2 (some .int), Cond.fieldLink RX1 28 "RoundsPerHour$Country" "time" "[I", Cond.static yX9_lasts, Cond.code yX9_lasts cX9_lasts 3 (some .int), Cond.methodLink RX9 371 yX9_lasts, Cond.methodLink RX8 34 ⟨"RoundsPerHour$WalkClimb", "runs", "()Z"⟩, Cond.sameMethod "RoundsPerHour$WalkClimb" "RoundsPerHour$Climb" "runs" "()Z", Cond.selects RX8 ⟨"RoundsPerHour$WalkClimb", "runs", "()Z"⟩ yX0_runs, Cond.instanceMethod yX0_runs, Cond.code yX0_runs cX0_runs 7 (some .boolean), Cond.fieldLink RX0 45 "RoundsPerHour$Climb" "steps" "I", Cond.fieldLink RX0 48 "RoundsPerHour$Climb" "baseAbove" "J", Cond.fieldLink RX0 56 "RoundsPerHour$Climb" "above" "J", Cond.fieldLink RX0 59 "RoundsPerHour$Climb" "baseBelow" "J", Cond.fieldLink RX0 62 "RoundsPerHour$Climb" "below" "J", Cond.fieldLink RX0 65 "RoundsPerHour$Climb" "best" "I", Cond.methodLink RX0 37 ⟨"RoundsPerHour$Climb", "weigh", "(JJ)V"⟩, Cond.sameMethod "RoundsPerHour$Climb" "RoundsPerHour$Climb" "weigh" "(JJ)V", Cond.selects RX3 ⟨"RoundsPerHour$Climb", "weigh", "(JJ)V"⟩ yX0_weigh, Cond.instanceMethod yX0_weigh]
def wsX8_climbs_r3 : List Cond := [Cond.code yX0_weigh cX0_weigh 6 none, Cond.fieldLink RX0 18 "RoundsPerHour$Climb" "weight" "[J", Cond.selects RX7 ⟨"RoundsPerHour$Climb", "weigh", "(JJ)V"⟩ yX0_weigh, Cond.selects RX8 ⟨"RoundsPerHour$Climb", "weigh", "(JJ)V"⟩ yX0_weigh, Cond.methodLink RX0 41 ⟨"RoundsPerHour$Climb", "pick", "()I"⟩, Cond.sameMethod "RoundsPerHour$Climb" "RoundsPerHour$Climb" "pick" "()I", Cond.selects RX3 ⟨"RoundsPerHour$Climb", "pick", "()I"⟩ yX3_pick, Cond.instanceMethod yX3_pick, Cond.initialized RX3, Cond.code yX3_pick cX3_pick 5 (some .int), Cond.fieldLink RX3 7 "RoundsPerHour$LoadClimb" "most" "I", Cond.fieldLink RX3 18 "RoundsPerHour$LoadClimb" "size" "I", Cond.sameField "RoundsPerHour$LoadClimb" "RoundsPerHour$Climb" "size" "I", Cond.fieldLink RX3 46 "RoundsPerHour$LoadClimb" "weight" "[J", Cond.sameField "RoundsPerHour$LoadClimb" "RoundsPerHour$Climb" "weight" "[J", Cond.selects RX7 ⟨"RoundsPerHour$Climb", "pick", "()I"⟩ yX7_pick, Cond.instanceMethod yX7_pick, Cond.initialized RX7, Cond.code yX7_pick cX7_pick 4 (some .int), Cond.fieldLink RX7 12 "RoundsPerHour$TreeClimb" "joins" "LRoundsPerHour$Joins;", Cond.fieldLink RX7 18 "RoundsPerHour$TreeClimb" "land" "LRoundsPerHour$Country;", Cond.fieldLink RX7 33 "RoundsPerHour$Country" "places" "I", Cond.fieldLink RX7 43 "RoundsPerHour$Country" "from" "[I", Cond.fieldLink RX7 47 "RoundsPerHour$Country" "to" "[I"]
def wsX8_climbs_r4 : List Cond := [Cond.methodLink RX7 30 yX2_part, Cond.instanceMethod yX2_part, Cond.selects RX2 yX2_part yX2_part, Cond.initialized RX2, Cond.code yX2_part cX2_part 2 none, Cond.fieldLink RX2 9 "RoundsPerHour$Joins" "label" "[I", Cond.methodLink RX7 39 yX7_heaviestJoining, Cond.instanceMethod yX7_heaviestJoining, Cond.selects RX7 yX7_heaviestJoining yX7_heaviestJoining, Cond.code yX7_heaviestJoining cX7_heaviestJoining 4 (some .int), Cond.fieldLink RX7 54 "RoundsPerHour$TreeClimb" "size" "I", Cond.sameField "RoundsPerHour$TreeClimb" "RoundsPerHour$Climb" "size" "I", Cond.fieldLink RX7 57 "RoundsPerHour$Country" "shut" "[I", Cond.fieldLink RX7 64 "RoundsPerHour$TreeClimb" "weight" "[J", Cond.sameField "RoundsPerHour$TreeClimb" "RoundsPerHour$Climb" "weight" "[J", Cond.methodLink RX7 60 yX2_apart, Cond.instanceMethod yX2_apart, Cond.selects RX2 yX2_apart yX2_apart, Cond.code yX2_apart cX2_apart 3 (some .boolean), Cond.methodLink RX7 50 yX2_join, Cond.instanceMethod yX2_join, Cond.selects RX2 yX2_join yX2_join, Cond.code yX2_join cX2_join 6 none, Cond.selects RX8 ⟨"RoundsPerHour$Climb", "pick", "()I"⟩ yX8_pick]
def wsX8_climbs_r5 : List Cond := [Cond.instanceMethod yX8_pick, Cond.initialized RX8, Cond.code yX8_pick cX8_pick 2 (some .int), Cond.fieldLink RX8 9 "RoundsPerHour$WalkClimb" "height" "[J", Cond.fieldLink RX8 15 "RoundsPerHour$WalkClimb" "sets" "[I", Cond.methodLink RX8 38 yX8_leave, Cond.instanceMethod yX8_leave, Cond.selects RX8 yX8_leave yX8_leave, Cond.code yX8_leave cX8_leave 8 none, Cond.fieldLink RX8 42 "RoundsPerHour$WalkClimb" "size" "I", Cond.sameField "RoundsPerHour$WalkClimb" "RoundsPerHour$Climb" "size" "I", Cond.fieldLink RX8 45 "RoundsPerHour$Country" "to" "[I", Cond.fieldLink RX8 50 "RoundsPerHour$Country" "shut" "[I", Cond.fieldLink RX8 53 "RoundsPerHour$Country" "from" "[I", Cond.fieldLink RX8 56 "RoundsPerHour$WalkClimb" "weight" "[J", Cond.sameField "RoundsPerHour$WalkClimb" "RoundsPerHour$Climb" "weight" "[J", Cond.methodLink RX0 52 ⟨"RoundsPerHour$Climb", "together", "([JI)J"⟩, Cond.sameMethod "RoundsPerHour$Climb" "RoundsPerHour$Climb" "together" "([JI)J", Cond.selects RX3 ⟨"RoundsPerHour$Climb", "together", "([JI)J"⟩ yX0_together, Cond.instanceMethod yX0_together, Cond.code yX0_together cX0_together 6 (some .long), Cond.selects RX7 ⟨"RoundsPerHour$Climb", "together", "([JI)J"⟩ yX0_together, Cond.selects RX8 ⟨"RoundsPerHour$Climb", "together", "([JI)J"⟩ yX0_together]
def wsX8_climbs : List Cond := .code yX8_climbs cX8_climbs 4 (some .boolean) :: ((wsX8_climbs_r1 ++ (wsX8_climbs_r2 ++ (wsX8_climbs_r3 ++ (wsX8_climbs_r4 ++ wsX8_climbs_r5)))) ++ wsX80 ++ wsX10 ++ wsX30 ++ wsX70 ++ wsX20)
def wsX9_init_r1 : List Cond := [Cond.methodLink RX9 3 objectInit, Cond.instanceMethod objectInit, Cond.code objectInit ⟨#[0xb1]⟩ 1 none, Cond.classLink RX9 9 RX1, Cond.instantiable RX1 12, Cond.initialized RX1, Cond.fieldLink RX9 12 "RoundsPerHour" "now" "LRoundsPerHour$Country;", Cond.fieldLink RX9 16 "RoundsPerHour" "kept" "LRoundsPerHour$Country;", Cond.fieldLink RX9 19 "RoundsPerHour" "draft" "LRoundsPerHour$Country;", Cond.classLink RX9 22 RX4, Cond.instantiable RX4 13, Cond.initialized RX4, Cond.fieldLink RX9 25 "RoundsPerHour" "rings" "LRoundsPerHour$Rings;", Cond.classLink RX9 29 RX7, Cond.instantiable RX7 12, Cond.initialized RX7, Cond.fieldLink RX9 32 "RoundsPerHour" "trees" "LRoundsPerHour$TreeClimb;", Cond.classLink RX9 36 RX8, Cond.instantiable RX8 15, Cond.initialized RX8, Cond.fieldLink RX9 39 "RoundsPerHour" "walks" "LRoundsPerHour$WalkClimb;", Cond.classLink RX9 43 RX3, Cond.instantiable RX3 11, Cond.initialized RX3]
def wsX9_init_r2 : List Cond := [Cond.fieldLink RX9 46 "RoundsPerHour" "loads" "LRoundsPerHour$LoadClimb;", Cond.classLink RX9 50 RX2, Cond.instantiable RX2 1, Cond.initialized RX2, Cond.fieldLink RX9 53 "RoundsPerHour" "joins" "LRoundsPerHour$Joins;", Cond.classLink RX9 57 RX6, Cond.instantiable RX6 9, Cond.initialized RX6, Cond.fieldLink RX9 60 "RoundsPerHour" "tape" "LRoundsPerHour$Tape;", Cond.classLink RX9 64 RX5, Cond.fieldLink RX9 66 "RoundsPerHour" "sheets" "[LRoundsPerHour$Sheet;", Cond.arrayClass .int, Cond.fieldLink RX9 70 "RoundsPerHour" "found" "[I", Cond.instantiable RX5 3, Cond.initialized RX5, Cond.methodLink RX9 11 yX1_init, Cond.instanceMethod yX1_init, Cond.code yX1_init cX1_init 1 none, Cond.methodLink RX1 3 objectInit, Cond.fieldLink RX1 9 "RoundsPerHour$Country" "places" "I", Cond.fieldLink RX1 15 "RoundsPerHour$Country" "kind" "[I", Cond.fieldLink RX1 19 "RoundsPerHour$Country" "from" "[I", Cond.fieldLink RX1 22 "RoundsPerHour$Country" "to" "[I", Cond.fieldLink RX1 25 "RoundsPerHour$Country" "gain" "[I"]
def wsX9_init_r3 : List Cond := [Cond.fieldLink RX1 28 "RoundsPerHour$Country" "time" "[I", Cond.fieldLink RX1 31 "RoundsPerHour$Country" "shut" "[I", Cond.fieldLink RX1 34 "RoundsPerHour$Country" "thingGain" "[I", Cond.fieldLink RX1 37 "RoundsPerHour$Country" "thingTime" "[I", Cond.instanceMethod yX4_init, Cond.code yX4_init cX4_init 1 none, Cond.methodLink RX4 3 objectInit, Cond.fieldLink RX4 9 "RoundsPerHour$Rings" "sets" "[I", Cond.arrayClass .long, Cond.fieldLink RX4 15 "RoundsPerHour$Rings" "above" "[J", Cond.fieldLink RX4 19 "RoundsPerHour$Rings" "below" "[J", Cond.fieldLink RX4 22 "RoundsPerHour$Rings" "height" "[J", Cond.arrayClass .boolean, Cond.fieldLink RX4 25 "RoundsPerHour$Rings" "reached" "[Z", Cond.fieldLink RX4 29 "RoundsPerHour$Rings" "leaving" "[I", Cond.fieldLink RX4 32 "RoundsPerHour$Rings" "wayOut" "[I", Cond.fieldLink RX4 35 "RoundsPerHour$Rings" "to" "[I", Cond.fieldLink RX4 38 "RoundsPerHour$Rings" "brings" "[J", Cond.fieldLink RX4 41 "RoundsPerHour$Rings" "lasts" "[J", Cond.instanceMethod yX7_init, Cond.code yX7_init cX7_init 1 none, Cond.classLink RX7 9 RX2, Cond.fieldLink RX7 12 "RoundsPerHour$TreeClimb" "joins" "LRoundsPerHour$Joins;", Cond.instanceMethod yX0_init]
def wsX9_init_r4 : List Cond := [Cond.initialized RX0, Cond.code yX0_init cX0_init 1 none, Cond.methodLink RX0 3 objectInit, Cond.fieldLink RX0 9 "RoundsPerHour$Climb" "gains" "[J", Cond.fieldLink RX0 15 "RoundsPerHour$Climb" "times" "[J", Cond.fieldLink RX0 18 "RoundsPerHour$Climb" "weight" "[J", Cond.instanceMethod yX2_init, Cond.code yX2_init cX2_init 1 none, Cond.methodLink RX2 3 objectInit, Cond.fieldLink RX2 9 "RoundsPerHour$Joins" "label" "[I", Cond.instanceMethod yX8_init, Cond.code yX8_init cX8_init 1 none, Cond.fieldLink RX8 9 "RoundsPerHour$WalkClimb" "height" "[J", Cond.fieldLink RX8 15 "RoundsPerHour$WalkClimb" "sets" "[I", Cond.instanceMethod yX3_init, Cond.code yX3_init cX3_init 1 none, Cond.instanceMethod yX6_init, Cond.code yX6_init cX6_init 1 none, Cond.methodLink RX6 3 objectInit, Cond.fieldLink RX6 9 "RoundsPerHour$Tape" "bytes" "[I", Cond.instanceMethod yX5_init, Cond.code yX5_init cX5_init 1 none, Cond.methodLink RX5 3 objectInit, Cond.fieldLink RX5 9 "RoundsPerHour$Sheet" "numbers" "[J"]
def wsX9_init : List Cond := .code yX9_init cX9_init 2 none :: ((wsX9_init_r1 ++ (wsX9_init_r2 ++ (wsX9_init_r3 ++ wsX9_init_r4))) ++ wsX10 ++ wsX90 ++ wsX40 ++ wsX70 ++ wsX80 ++ wsX30 ++ wsX20 ++ wsX60 ++ wsX50)
def wsX9_finding : List Cond := .code yX9_finding cX9_finding 2 (some .int) :: ([.fieldLink RX9 70 "RoundsPerHour" "found" "[I", .constant RX9 361 (-2000000001)] ++ wsX90)
def wsX9_places : List Cond := .code yX9_places cX9_places 3 (some .int) :: ([.fieldLink RX9 12 "RoundsPerHour" "now" "LRoundsPerHour$Country;", .fieldLink RX9 83 "RoundsPerHour$Country" "ways" "I", .fieldLink RX9 87 "RoundsPerHour$Country" "from" "[I", .fieldLink RX9 90 "RoundsPerHour$Country" "to" "[I", .fieldLink RX9 93 "RoundsPerHour$Country" "places" "I", .methodLink RX9 75 yX9_within, .static yX9_within, .initialized RX9, .code yX9_within cX9_within 3 (some .boolean), .methodLink RX9 79 yX9_finding, .instanceMethod yX9_finding, .selects RX9 yX9_finding yX9_finding, .code yX9_finding cX9_finding 2 (some .int), .fieldLink RX9 70 "RoundsPerHour" "found" "[I", .constant RX9 361 (-2000000001)] ++ wsX90 ++ wsX10)
def wsX9_weather : List Cond := .code yX9_weather cX9_weather 3 (some .int) :: ([.fieldLink RX9 12 "RoundsPerHour" "now" "LRoundsPerHour$Country;", .fieldLink RX9 96 "RoundsPerHour$Country" "weather" "I", .methodLink RX9 75 yX9_within, .static yX9_within, .initialized RX9, .code yX9_within cX9_within 3 (some .boolean), .methodLink RX9 79 yX9_finding, .instanceMethod yX9_finding, .selects RX9 yX9_finding yX9_finding, .code yX9_finding cX9_finding 2 (some .int), .fieldLink RX9 70 "RoundsPerHour" "found" "[I", .constant RX9 361 (-2000000001)] ++ wsX90 ++ wsX10)
def wsX9_isKind : List Cond := .code yX9_isKind cX9_isKind 1 (some .boolean) :: ([.methodLink RX9 75 yX9_within, .static yX9_within, .initialized RX9, .code yX9_within cX9_within 3 (some .boolean)])
def wsX9_isGain : List Cond := .code yX9_isGain cX9_isGain 1 (some .boolean) :: ([.constant RX9 362 (-999999999), .constant RX9 363 (999999999), .methodLink RX9 75 yX9_within, .static yX9_within, .initialized RX9, .code yX9_within cX9_within 3 (some .boolean)])
def wsX9_isTime : List Cond := .code yX9_isTime cX9_isTime 1 (some .boolean) :: ([.constant RX9 364 (999999), .methodLink RX9 75 yX9_within, .static yX9_within, .initialized RX9, .code yX9_within cX9_within 3 (some .boolean)])
def wsX9_way_r1 : List Cond := [Cond.fieldLink RX9 12 "RoundsPerHour" "now" "LRoundsPerHour$Country;", Cond.fieldLink RX9 83 "RoundsPerHour$Country" "ways" "I", Cond.methodLink RX9 99 yX1_isPlace, Cond.instanceMethod yX1_isPlace, Cond.selects RX1 yX1_isPlace yX1_isPlace, Cond.initialized RX1, Cond.code yX1_isPlace cX1_isPlace 2 (some .boolean), Cond.fieldLink RX1 9 "RoundsPerHour$Country" "places" "I", Cond.static yX9_within, Cond.initialized RX9, Cond.code yX9_within cX9_within 3 (some .boolean), Cond.methodLink RX9 103 yX9_isKind, Cond.static yX9_isKind, Cond.code yX9_isKind cX9_isKind 1 (some .boolean), Cond.methodLink RX9 75 yX9_within, Cond.methodLink RX9 106 yX9_isGain, Cond.static yX9_isGain, Cond.code yX9_isGain cX9_isGain 1 (some .boolean), Cond.constant RX9 362 (-999999999), Cond.constant RX9 363 (999999999), Cond.methodLink RX9 109 yX9_isTime, Cond.static yX9_isTime, Cond.code yX9_isTime cX9_isTime 1 (some .boolean), Cond.constant RX9 364 (999999)]
def wsX9_way_r2 : List Cond := [Cond.methodLink RX9 79 yX9_finding, Cond.instanceMethod yX9_finding, Cond.selects RX9 yX9_finding yX9_finding, Cond.code yX9_finding cX9_finding 2 (some .int), Cond.fieldLink RX9 70 "RoundsPerHour" "found" "[I", Cond.constant RX9 361 (-2000000001), Cond.methodLink RX9 112 yX1_newWay, Cond.instanceMethod yX1_newWay, Cond.selects RX1 yX1_newWay yX1_newWay, Cond.code yX1_newWay cX1_newWay 7 (some .int), Cond.fieldLink RX1 44 "RoundsPerHour$Country" "ways" "I", Cond.fieldLink RX1 15 "RoundsPerHour$Country" "kind" "[I", Cond.fieldLink RX1 19 "RoundsPerHour$Country" "from" "[I", Cond.fieldLink RX1 22 "RoundsPerHour$Country" "to" "[I", Cond.fieldLink RX1 25 "RoundsPerHour$Country" "gain" "[I", Cond.fieldLink RX1 28 "RoundsPerHour$Country" "time" "[I", Cond.fieldLink RX1 31 "RoundsPerHour$Country" "shut" "[I"]
def wsX9_way : List Cond := .code yX9_way cX9_way 7 (some .int) :: ((wsX9_way_r1 ++ wsX9_way_r2) ++ wsX90 ++ wsX10)
def wsX9_of_r1 : List Cond := [Cond.fieldLink RX9 12 "RoundsPerHour" "now" "LRoundsPerHour$Country;", Cond.fieldLink RX9 119 "RoundsPerHour$Country" "kind" "[I", Cond.fieldLink RX9 87 "RoundsPerHour$Country" "from" "[I", Cond.fieldLink RX9 90 "RoundsPerHour$Country" "to" "[I", Cond.fieldLink RX9 122 "RoundsPerHour$Country" "gain" "[I", Cond.fieldLink RX9 125 "RoundsPerHour$Country" "time" "[I", Cond.fieldLink RX9 128 "RoundsPerHour$Country" "shut" "[I", Cond.methodLink RX9 116 yX1_isWay, Cond.instanceMethod yX1_isWay, Cond.selects RX1 yX1_isWay yX1_isWay, Cond.initialized RX1, Cond.code yX1_isWay cX1_isWay 2 (some .boolean), Cond.fieldLink RX1 44 "RoundsPerHour$Country" "ways" "I", Cond.static yX9_within, Cond.initialized RX9, Cond.code yX9_within cX9_within 3 (some .boolean), Cond.methodLink RX9 79 yX9_finding, Cond.instanceMethod yX9_finding, Cond.selects RX9 yX9_finding yX9_finding, Cond.code yX9_finding cX9_finding 2 (some .int), Cond.fieldLink RX9 70 "RoundsPerHour" "found" "[I", Cond.constant RX9 361 (-2000000001), Cond.methodLink RX9 131 yX1_bringsOf, Cond.instanceMethod yX1_bringsOf]
def wsX9_of_r2 : List Cond := [Cond.selects RX1 yX1_bringsOf yX1_bringsOf, Cond.code yX1_bringsOf cX1_bringsOf 2 (some .int), Cond.fieldLink RX1 15 "RoundsPerHour$Country" "kind" "[I", Cond.fieldLink RX1 25 "RoundsPerHour$Country" "gain" "[I", Cond.fieldLink RX1 50 "RoundsPerHour$Country" "weather" "I", Cond.static yX9_brings, Cond.code yX9_brings cX9_brings 3 (some .int), Cond.methodLink RX9 368 yX9_brings, Cond.methodLink RX9 134 yX1_lastsOf, Cond.instanceMethod yX1_lastsOf, Cond.selects RX1 yX1_lastsOf yX1_lastsOf, Cond.code yX1_lastsOf cX1_lastsOf 2 (some .int), Cond.fieldLink RX1 28 "RoundsPerHour$Country" "time" "[I", Cond.static yX9_lasts, Cond.code yX9_lasts cX9_lasts 3 (some .int), Cond.methodLink RX9 371 yX9_lasts]
def wsX9_of : List Cond := .code yX9_of cX9_of 3 (some .int) :: ((wsX9_of_r1 ++ wsX9_of_r2) ++ wsX90 ++ wsX10)
def wsX9_canBecome_r1 : List Cond := [Cond.fieldLink RX9 12 "RoundsPerHour" "now" "LRoundsPerHour$Country;", Cond.fieldLink RX9 90 "RoundsPerHour$Country" "to" "[I", Cond.fieldLink RX9 87 "RoundsPerHour$Country" "from" "[I", Cond.methodLink RX9 103 yX9_isKind, Cond.static yX9_isKind, Cond.initialized RX9, Cond.code yX9_isKind cX9_isKind 1 (some .boolean), Cond.methodLink RX9 75 yX9_within, Cond.static yX9_within, Cond.code yX9_within cX9_within 3 (some .boolean), Cond.methodLink RX9 99 yX1_isPlace, Cond.instanceMethod yX1_isPlace, Cond.selects RX1 yX1_isPlace yX1_isPlace, Cond.initialized RX1, Cond.code yX1_isPlace cX1_isPlace 2 (some .boolean), Cond.fieldLink RX1 9 "RoundsPerHour$Country" "places" "I", Cond.methodLink RX9 106 yX9_isGain, Cond.static yX9_isGain, Cond.code yX9_isGain cX9_isGain 1 (some .boolean), Cond.constant RX9 362 (-999999999), Cond.constant RX9 363 (999999999), Cond.methodLink RX9 109 yX9_isTime, Cond.static yX9_isTime, Cond.code yX9_isTime cX9_isTime 1 (some .boolean)]
def wsX9_canBecome_r2 : List Cond := [Cond.constant RX9 364 (999999)]
def wsX9_canBecome : List Cond := .code yX9_canBecome cX9_canBecome 4 (some .boolean) :: ((wsX9_canBecome_r1 ++ wsX9_canBecome_r2) ++ wsX90 ++ wsX10)
def wsX9_put : List Cond := .code yX9_put cX9_put 4 (some .int) :: ([])
def wsX9_change_r1 : List Cond := [Cond.fieldLink RX9 12 "RoundsPerHour" "now" "LRoundsPerHour$Country;", Cond.fieldLink RX9 119 "RoundsPerHour$Country" "kind" "[I", Cond.fieldLink RX9 87 "RoundsPerHour$Country" "from" "[I", Cond.fieldLink RX9 90 "RoundsPerHour$Country" "to" "[I", Cond.fieldLink RX9 122 "RoundsPerHour$Country" "gain" "[I", Cond.fieldLink RX9 125 "RoundsPerHour$Country" "time" "[I", Cond.fieldLink RX9 128 "RoundsPerHour$Country" "shut" "[I", Cond.methodLink RX9 116 yX1_isWay, Cond.instanceMethod yX1_isWay, Cond.selects RX1 yX1_isWay yX1_isWay, Cond.initialized RX1, Cond.code yX1_isWay cX1_isWay 2 (some .boolean), Cond.fieldLink RX1 44 "RoundsPerHour$Country" "ways" "I", Cond.static yX9_within, Cond.initialized RX9, Cond.code yX9_within cX9_within 3 (some .boolean), Cond.methodLink RX9 137 yX9_canBecome, Cond.instanceMethod yX9_canBecome, Cond.selects RX9 yX9_canBecome yX9_canBecome, Cond.code yX9_canBecome cX9_canBecome 4 (some .boolean), Cond.methodLink RX9 103 yX9_isKind, Cond.static yX9_isKind, Cond.code yX9_isKind cX9_isKind 1 (some .boolean), Cond.methodLink RX9 75 yX9_within]
def wsX9_change_r2 : List Cond := [Cond.methodLink RX9 99 yX1_isPlace, Cond.instanceMethod yX1_isPlace, Cond.selects RX1 yX1_isPlace yX1_isPlace, Cond.code yX1_isPlace cX1_isPlace 2 (some .boolean), Cond.fieldLink RX1 9 "RoundsPerHour$Country" "places" "I", Cond.methodLink RX9 106 yX9_isGain, Cond.static yX9_isGain, Cond.code yX9_isGain cX9_isGain 1 (some .boolean), Cond.constant RX9 362 (-999999999), Cond.constant RX9 363 (999999999), Cond.methodLink RX9 109 yX9_isTime, Cond.static yX9_isTime, Cond.code yX9_isTime cX9_isTime 1 (some .boolean), Cond.constant RX9 364 (999999), Cond.methodLink RX9 79 yX9_finding, Cond.instanceMethod yX9_finding, Cond.selects RX9 yX9_finding yX9_finding, Cond.code yX9_finding cX9_finding 2 (some .int), Cond.fieldLink RX9 70 "RoundsPerHour" "found" "[I", Cond.constant RX9 361 (-2000000001), Cond.methodLink RX9 140 yX9_put, Cond.static yX9_put, Cond.code yX9_put cX9_put 4 (some .int)]
def wsX9_change : List Cond := .code yX9_change cX9_change 4 (some .int) :: ((wsX9_change_r1 ++ wsX9_change_r2) ++ wsX90 ++ wsX10)
def wsX9_isUnder : List Cond := .code yX9_isUnder cX9_isUnder 4 (some .boolean) :: ([.fieldLink RX9 365 "RoundsPerHour" "KIND_ABOVE" "[I"])
def wsX9_as_r1 : List Cond := [Cond.fieldLink RX9 12 "RoundsPerHour" "now" "LRoundsPerHour$Country;", Cond.fieldLink RX9 119 "RoundsPerHour$Country" "kind" "[I", Cond.fieldLink RX9 122 "RoundsPerHour$Country" "gain" "[I", Cond.methodLink RX9 116 yX1_isWay, Cond.instanceMethod yX1_isWay, Cond.selects RX1 yX1_isWay yX1_isWay, Cond.initialized RX1, Cond.code yX1_isWay cX1_isWay 2 (some .boolean), Cond.fieldLink RX1 44 "RoundsPerHour$Country" "ways" "I", Cond.static yX9_within, Cond.initialized RX9, Cond.code yX9_within cX9_within 3 (some .boolean), Cond.methodLink RX9 103 yX9_isKind, Cond.static yX9_isKind, Cond.code yX9_isKind cX9_isKind 1 (some .boolean), Cond.methodLink RX9 75 yX9_within, Cond.methodLink RX9 79 yX9_finding, Cond.instanceMethod yX9_finding, Cond.selects RX9 yX9_finding yX9_finding, Cond.code yX9_finding cX9_finding 2 (some .int), Cond.fieldLink RX9 70 "RoundsPerHour" "found" "[I", Cond.constant RX9 361 (-2000000001), Cond.methodLink RX9 144 yX9_isUnder, Cond.static yX9_isUnder]
def wsX9_as_r2 : List Cond := [Cond.code yX9_isUnder cX9_isUnder 4 (some .boolean), Cond.fieldLink RX9 365 "RoundsPerHour" "KIND_ABOVE" "[I"]
def wsX9_as : List Cond := .code yX9_as cX9_as 3 (some .int) :: ((wsX9_as_r1 ++ wsX9_as_r2) ++ wsX90 ++ wsX10)
def wsX9_thing_r1 : List Cond := [Cond.fieldLink RX9 12 "RoundsPerHour" "now" "LRoundsPerHour$Country;", Cond.fieldLink RX9 148 "RoundsPerHour$Country" "things" "I", Cond.methodLink RX9 106 yX9_isGain, Cond.static yX9_isGain, Cond.initialized RX9, Cond.code yX9_isGain cX9_isGain 1 (some .boolean), Cond.constant RX9 362 (-999999999), Cond.constant RX9 363 (999999999), Cond.methodLink RX9 75 yX9_within, Cond.static yX9_within, Cond.code yX9_within cX9_within 3 (some .boolean), Cond.methodLink RX9 109 yX9_isTime, Cond.static yX9_isTime, Cond.code yX9_isTime cX9_isTime 1 (some .boolean), Cond.constant RX9 364 (999999), Cond.methodLink RX9 79 yX9_finding, Cond.instanceMethod yX9_finding, Cond.selects RX9 yX9_finding yX9_finding, Cond.code yX9_finding cX9_finding 2 (some .int), Cond.fieldLink RX9 70 "RoundsPerHour" "found" "[I", Cond.constant RX9 361 (-2000000001), Cond.methodLink RX9 151 yX1_newThing, Cond.instanceMethod yX1_newThing, Cond.selects RX1 yX1_newThing yX1_newThing]
def wsX9_thing_r2 : List Cond := [Cond.initialized RX1, Cond.code yX1_newThing cX1_newThing 3 (some .int), Cond.fieldLink RX1 47 "RoundsPerHour$Country" "things" "I", Cond.fieldLink RX1 34 "RoundsPerHour$Country" "thingGain" "[I", Cond.fieldLink RX1 37 "RoundsPerHour$Country" "thingTime" "[I"]
def wsX9_thing : List Cond := .code yX9_thing cX9_thing 3 (some .int) :: ((wsX9_thing_r1 ++ wsX9_thing_r2) ++ wsX90 ++ wsX10)
def wsX9_alter_r1 : List Cond := [Cond.fieldLink RX9 12 "RoundsPerHour" "now" "LRoundsPerHour$Country;", Cond.fieldLink RX9 158 "RoundsPerHour$Country" "thingGain" "[I", Cond.fieldLink RX9 161 "RoundsPerHour$Country" "thingTime" "[I", Cond.methodLink RX9 155 yX1_isThingOrBase, Cond.instanceMethod yX1_isThingOrBase, Cond.selects RX1 yX1_isThingOrBase yX1_isThingOrBase, Cond.initialized RX1, Cond.code yX1_isThingOrBase cX1_isThingOrBase 2 (some .boolean), Cond.fieldLink RX1 47 "RoundsPerHour$Country" "things" "I", Cond.static yX9_within, Cond.initialized RX9, Cond.code yX9_within cX9_within 3 (some .boolean), Cond.methodLink RX9 79 yX9_finding, Cond.instanceMethod yX9_finding, Cond.selects RX9 yX9_finding yX9_finding, Cond.code yX9_finding cX9_finding 2 (some .int), Cond.fieldLink RX9 70 "RoundsPerHour" "found" "[I", Cond.constant RX9 361 (-2000000001), Cond.methodLink RX9 106 yX9_isGain, Cond.static yX9_isGain, Cond.code yX9_isGain cX9_isGain 1 (some .boolean), Cond.constant RX9 362 (-999999999), Cond.constant RX9 363 (999999999), Cond.methodLink RX9 75 yX9_within]
def wsX9_alter_r2 : List Cond := [Cond.methodLink RX9 140 yX9_put, Cond.static yX9_put, Cond.code yX9_put cX9_put 4 (some .int), Cond.methodLink RX9 109 yX9_isTime, Cond.static yX9_isTime, Cond.code yX9_isTime cX9_isTime 1 (some .boolean), Cond.constant RX9 364 (999999)]
def wsX9_alter : List Cond := .code yX9_alter cX9_alter 4 (some .int) :: ((wsX9_alter_r1 ++ wsX9_alter_r2) ++ wsX90 ++ wsX10)
def wsX9_its : List Cond := .code yX9_its cX9_its 3 (some .int) :: ([.fieldLink RX9 12 "RoundsPerHour" "now" "LRoundsPerHour$Country;", .fieldLink RX9 158 "RoundsPerHour$Country" "thingGain" "[I", .fieldLink RX9 161 "RoundsPerHour$Country" "thingTime" "[I", .methodLink RX9 155 yX1_isThingOrBase, .instanceMethod yX1_isThingOrBase, .selects RX1 yX1_isThingOrBase yX1_isThingOrBase, .initialized RX1, .code yX1_isThingOrBase cX1_isThingOrBase 2 (some .boolean), .fieldLink RX1 47 "RoundsPerHour$Country" "things" "I", .static yX9_within, .initialized RX9, .code yX9_within cX9_within 3 (some .boolean), .methodLink RX9 75 yX9_within, .methodLink RX9 79 yX9_finding, .instanceMethod yX9_finding, .selects RX9 yX9_finding yX9_finding, .code yX9_finding cX9_finding 2 (some .int), .fieldLink RX9 70 "RoundsPerHour" "found" "[I", .constant RX9 361 (-2000000001)] ++ wsX90 ++ wsX10)
def wsX9_longFinding : List Cond := .code yX9_longFinding cX9_longFinding 2 (some .long) :: ([.fieldLink RX9 70 "RoundsPerHour" "found" "[I", .constantLong RX9 203 (-4000000000000000001)] ++ wsX90)
def wsX9_bestRing_r1 : List Cond := [Cond.fieldLink RX9 25 "RoundsPerHour" "rings" "LRoundsPerHour$Rings;", Cond.fieldLink RX9 12 "RoundsPerHour" "now" "LRoundsPerHour$Country;", Cond.methodLink RX9 205 yX4_gather, Cond.instanceMethod yX4_gather, Cond.selects RX4 yX4_gather yX4_gather, Cond.initialized RX4, Cond.code yX4_gather cX4_gather 5 none, Cond.fieldLink RX4 44 "RoundsPerHour$Rings" "size" "I", Cond.fieldLink RX4 29 "RoundsPerHour$Rings" "leaving" "[I", Cond.fieldLink RX4 48 "RoundsPerHour$Country" "ways" "I", Cond.fieldLink RX4 35 "RoundsPerHour$Rings" "to" "[I", Cond.fieldLink RX4 53 "RoundsPerHour$Country" "to" "[I", Cond.fieldLink RX4 38 "RoundsPerHour$Rings" "brings" "[J", Cond.fieldLink RX4 41 "RoundsPerHour$Rings" "lasts" "[J", Cond.fieldLink RX4 61 "RoundsPerHour$Country" "shut" "[I", Cond.fieldLink RX4 64 "RoundsPerHour$Country" "from" "[I", Cond.fieldLink RX4 32 "RoundsPerHour$Rings" "wayOut" "[I", Cond.fieldLink RX4 67 "RoundsPerHour$Country" "places" "I", Cond.methodLink RX4 54 yX1_bringsOf, Cond.instanceMethod yX1_bringsOf, Cond.selects RX1 yX1_bringsOf yX1_bringsOf, Cond.initialized RX1, Cond.code yX1_bringsOf cX1_bringsOf 2 (some .int), Cond.fieldLink RX1 15 "RoundsPerHour$Country" "kind" "[I"]
def wsX9_bestRing_r2 : List Cond := [Cond.fieldLink RX1 25 "RoundsPerHour$Country" "gain" "[I", Cond.fieldLink RX1 50 "RoundsPerHour$Country" "weather" "I", Cond.static yX9_brings, Cond.initialized RX9, Cond.code yX9_brings cX9_brings 3 (some .int), Cond.methodLink RX9 368 yX9_brings, Cond.methodLink RX4 58 yX1_lastsOf, Cond.instanceMethod yX1_lastsOf, Cond.selects RX1 yX1_lastsOf yX1_lastsOf, Cond.code yX1_lastsOf cX1_lastsOf 2 (some .int), Cond.fieldLink RX1 28 "RoundsPerHour$Country" "time" "[I", Cond.static yX9_lasts, Cond.code yX9_lasts cX9_lasts 3 (some .int), Cond.methodLink RX9 371 yX9_lasts, Cond.methodLink RX4 70 yX4_goOn, Cond.instanceMethod yX4_goOn, Cond.selects RX4 yX4_goOn yX4_goOn, Cond.code yX4_goOn cX4_goOn 13 none, Cond.methodLink RX4 74 yX4_keep, Cond.instanceMethod yX4_keep, Cond.selects RX4 yX4_keep yX4_keep, Cond.code yX4_keep cX4_keep 6 none, Cond.fieldLink RX4 9 "RoundsPerHour$Rings" "sets" "[I", Cond.fieldLink RX4 15 "RoundsPerHour$Rings" "above" "[J"]
def wsX9_bestRing_r3 : List Cond := [Cond.fieldLink RX4 19 "RoundsPerHour$Rings" "below" "[J", Cond.methodLink RX9 209 yX4_best, Cond.instanceMethod yX4_best, Cond.selects RX4 yX4_best yX4_best, Cond.code yX4_best cX4_best 4 (some .int), Cond.methodLink RX4 84 yX4_order, Cond.instanceMethod yX4_order, Cond.selects RX4 yX4_order yX4_order, Cond.code yX4_order cX4_order 3 (some .int), Cond.methodLink RX4 78 yJ13_compare_74951, Cond.static yJ13_compare_74951, Cond.initialized RJ13, Cond.code yJ13_compare_74951 cJ13_compare_74951 4 (some .int)]
def wsX9_bestRing : List Cond := .code yX9_bestRing cX9_bestRing 1 (some .int) :: ((wsX9_bestRing_r1 ++ (wsX9_bestRing_r2 ++ wsX9_bestRing_r3)) ++ wsX90 ++ wsX40 ++ wsX10)
def wsX9_sharedBelowZero : List Cond := .code yX9_sharedBelowZero cX9_sharedBelowZero 11 (some .long) :: ([])
def wsX9_lowest : List Cond := .code yX9_lowest cX9_lowest 7 (some .long) :: ([.methodLink RX9 304 yX9_sharedBelowZero, .static yX9_sharedBelowZero, .initialized RX9, .code yX9_sharedBelowZero cX9_sharedBelowZero 11 (some .long)])
def wsX9_ring_r1 : List Cond := [Cond.fieldLink RX9 25 "RoundsPerHour" "rings" "LRoundsPerHour$Rings;", Cond.fieldLink RX9 172 "RoundsPerHour$Rings" "above" "[J", Cond.fieldLink RX9 176 "RoundsPerHour$Rings" "below" "[J", Cond.methodLink RX9 75 yX9_within, Cond.static yX9_within, Cond.initialized RX9, Cond.code yX9_within cX9_within 3 (some .boolean), Cond.methodLink RX9 164 yX9_longFinding, Cond.instanceMethod yX9_longFinding, Cond.selects RX9 yX9_longFinding yX9_longFinding, Cond.code yX9_longFinding cX9_longFinding 2 (some .long), Cond.fieldLink RX9 70 "RoundsPerHour" "found" "[I", Cond.constantLong RX9 203 (-4000000000000000001), Cond.methodLink RX9 168 yX9_bestRing, Cond.instanceMethod yX9_bestRing, Cond.selects RX9 yX9_bestRing yX9_bestRing, Cond.code yX9_bestRing cX9_bestRing 1 (some .int), Cond.fieldLink RX9 12 "RoundsPerHour" "now" "LRoundsPerHour$Country;", Cond.methodLink RX9 205 yX4_gather, Cond.instanceMethod yX4_gather, Cond.selects RX4 yX4_gather yX4_gather, Cond.initialized RX4, Cond.code yX4_gather cX4_gather 5 none, Cond.fieldLink RX4 44 "RoundsPerHour$Rings" "size" "I"]
def wsX9_ring_r2 : List Cond := [Cond.fieldLink RX4 29 "RoundsPerHour$Rings" "leaving" "[I", Cond.fieldLink RX4 48 "RoundsPerHour$Country" "ways" "I", Cond.fieldLink RX4 35 "RoundsPerHour$Rings" "to" "[I", Cond.fieldLink RX4 53 "RoundsPerHour$Country" "to" "[I", Cond.fieldLink RX4 38 "RoundsPerHour$Rings" "brings" "[J", Cond.fieldLink RX4 41 "RoundsPerHour$Rings" "lasts" "[J", Cond.fieldLink RX4 61 "RoundsPerHour$Country" "shut" "[I", Cond.fieldLink RX4 64 "RoundsPerHour$Country" "from" "[I", Cond.fieldLink RX4 32 "RoundsPerHour$Rings" "wayOut" "[I", Cond.fieldLink RX4 67 "RoundsPerHour$Country" "places" "I", Cond.methodLink RX4 54 yX1_bringsOf, Cond.instanceMethod yX1_bringsOf, Cond.selects RX1 yX1_bringsOf yX1_bringsOf, Cond.initialized RX1, Cond.code yX1_bringsOf cX1_bringsOf 2 (some .int), Cond.fieldLink RX1 15 "RoundsPerHour$Country" "kind" "[I", Cond.fieldLink RX1 25 "RoundsPerHour$Country" "gain" "[I", Cond.fieldLink RX1 50 "RoundsPerHour$Country" "weather" "I", Cond.static yX9_brings, Cond.code yX9_brings cX9_brings 3 (some .int), Cond.methodLink RX9 368 yX9_brings, Cond.methodLink RX4 58 yX1_lastsOf, Cond.instanceMethod yX1_lastsOf, Cond.selects RX1 yX1_lastsOf yX1_lastsOf]
def wsX9_ring_r3 : List Cond := [Cond.code yX1_lastsOf cX1_lastsOf 2 (some .int), Cond.fieldLink RX1 28 "RoundsPerHour$Country" "time" "[I", Cond.static yX9_lasts, Cond.code yX9_lasts cX9_lasts 3 (some .int), Cond.methodLink RX9 371 yX9_lasts, Cond.methodLink RX4 70 yX4_goOn, Cond.instanceMethod yX4_goOn, Cond.selects RX4 yX4_goOn yX4_goOn, Cond.code yX4_goOn cX4_goOn 13 none, Cond.methodLink RX4 74 yX4_keep, Cond.instanceMethod yX4_keep, Cond.selects RX4 yX4_keep yX4_keep, Cond.code yX4_keep cX4_keep 6 none, Cond.fieldLink RX4 9 "RoundsPerHour$Rings" "sets" "[I", Cond.fieldLink RX4 15 "RoundsPerHour$Rings" "above" "[J", Cond.fieldLink RX4 19 "RoundsPerHour$Rings" "below" "[J", Cond.methodLink RX9 209 yX4_best, Cond.instanceMethod yX4_best, Cond.selects RX4 yX4_best yX4_best, Cond.code yX4_best cX4_best 4 (some .int), Cond.methodLink RX4 84 yX4_order, Cond.instanceMethod yX4_order, Cond.selects RX4 yX4_order yX4_order, Cond.code yX4_order cX4_order 3 (some .int)]
def wsX9_ring_r4 : List Cond := [Cond.methodLink RX4 78 yJ13_compare_74951, Cond.static yJ13_compare_74951, Cond.initialized RJ13, Cond.code yJ13_compare_74951 cJ13_compare_74951 4 (some .int), Cond.methodLink RX9 179 yX9_lowest, Cond.static yX9_lowest, Cond.code yX9_lowest cX9_lowest 7 (some .long), Cond.methodLink RX9 304 yX9_sharedBelowZero, Cond.static yX9_sharedBelowZero, Cond.code yX9_sharedBelowZero cX9_sharedBelowZero 11 (some .long)]
def wsX9_ring : List Cond := .code yX9_ring cX9_ring 3 (some .long) :: ((wsX9_ring_r1 ++ (wsX9_ring_r2 ++ (wsX9_ring_r3 ++ wsX9_ring_r4))) ++ wsX90 ++ wsX40 ++ wsX10)
def wsX9_ringWays_r1 : List Cond := [Cond.fieldLink RX9 25 "RoundsPerHour" "rings" "LRoundsPerHour$Rings;", Cond.fieldLink RX9 183 "RoundsPerHour$Rings" "size" "I", Cond.fieldLink RX9 189 "RoundsPerHour$Rings" "sets" "[I", Cond.methodLink RX9 168 yX9_bestRing, Cond.instanceMethod yX9_bestRing, Cond.selects RX9 yX9_bestRing yX9_bestRing, Cond.initialized RX9, Cond.code yX9_bestRing cX9_bestRing 1 (some .int), Cond.fieldLink RX9 12 "RoundsPerHour" "now" "LRoundsPerHour$Country;", Cond.methodLink RX9 205 yX4_gather, Cond.instanceMethod yX4_gather, Cond.selects RX4 yX4_gather yX4_gather, Cond.initialized RX4, Cond.code yX4_gather cX4_gather 5 none, Cond.fieldLink RX4 44 "RoundsPerHour$Rings" "size" "I", Cond.fieldLink RX4 29 "RoundsPerHour$Rings" "leaving" "[I", Cond.fieldLink RX4 48 "RoundsPerHour$Country" "ways" "I", Cond.fieldLink RX4 35 "RoundsPerHour$Rings" "to" "[I", Cond.fieldLink RX4 53 "RoundsPerHour$Country" "to" "[I", Cond.fieldLink RX4 38 "RoundsPerHour$Rings" "brings" "[J", Cond.fieldLink RX4 41 "RoundsPerHour$Rings" "lasts" "[J", Cond.fieldLink RX4 61 "RoundsPerHour$Country" "shut" "[I", Cond.fieldLink RX4 64 "RoundsPerHour$Country" "from" "[I", Cond.fieldLink RX4 32 "RoundsPerHour$Rings" "wayOut" "[I"]
def wsX9_ringWays_r2 : List Cond := [Cond.fieldLink RX4 67 "RoundsPerHour$Country" "places" "I", Cond.methodLink RX4 54 yX1_bringsOf, Cond.instanceMethod yX1_bringsOf, Cond.selects RX1 yX1_bringsOf yX1_bringsOf, Cond.initialized RX1, Cond.code yX1_bringsOf cX1_bringsOf 2 (some .int), Cond.fieldLink RX1 15 "RoundsPerHour$Country" "kind" "[I", Cond.fieldLink RX1 25 "RoundsPerHour$Country" "gain" "[I", Cond.fieldLink RX1 50 "RoundsPerHour$Country" "weather" "I", Cond.static yX9_brings, Cond.code yX9_brings cX9_brings 3 (some .int), Cond.methodLink RX9 368 yX9_brings, Cond.methodLink RX4 58 yX1_lastsOf, Cond.instanceMethod yX1_lastsOf, Cond.selects RX1 yX1_lastsOf yX1_lastsOf, Cond.code yX1_lastsOf cX1_lastsOf 2 (some .int), Cond.fieldLink RX1 28 "RoundsPerHour$Country" "time" "[I", Cond.static yX9_lasts, Cond.code yX9_lasts cX9_lasts 3 (some .int), Cond.methodLink RX9 371 yX9_lasts, Cond.methodLink RX4 70 yX4_goOn, Cond.instanceMethod yX4_goOn, Cond.selects RX4 yX4_goOn yX4_goOn, Cond.code yX4_goOn cX4_goOn 13 none]
def wsX9_ringWays_r3 : List Cond := [Cond.methodLink RX4 74 yX4_keep, Cond.instanceMethod yX4_keep, Cond.selects RX4 yX4_keep yX4_keep, Cond.code yX4_keep cX4_keep 6 none, Cond.fieldLink RX4 9 "RoundsPerHour$Rings" "sets" "[I", Cond.fieldLink RX4 15 "RoundsPerHour$Rings" "above" "[J", Cond.fieldLink RX4 19 "RoundsPerHour$Rings" "below" "[J", Cond.methodLink RX9 209 yX4_best, Cond.instanceMethod yX4_best, Cond.selects RX4 yX4_best yX4_best, Cond.code yX4_best cX4_best 4 (some .int), Cond.methodLink RX4 84 yX4_order, Cond.instanceMethod yX4_order, Cond.selects RX4 yX4_order yX4_order, Cond.code yX4_order cX4_order 3 (some .int), Cond.methodLink RX4 78 yJ13_compare_74951, Cond.static yJ13_compare_74951, Cond.initialized RJ13, Cond.code yJ13_compare_74951 cJ13_compare_74951 4 (some .int), Cond.methodLink RX9 79 yX9_finding, Cond.instanceMethod yX9_finding, Cond.selects RX9 yX9_finding yX9_finding, Cond.code yX9_finding cX9_finding 2 (some .int), Cond.fieldLink RX9 70 "RoundsPerHour" "found" "[I"]
def wsX9_ringWays_r4 : List Cond := [Cond.constant RX9 361 (-2000000001), Cond.methodLink RX9 186 yX4_order]
def wsX9_ringWays : List Cond := .code yX9_ringWays cX9_ringWays 4 (some .int) :: ((wsX9_ringWays_r1 ++ (wsX9_ringWays_r2 ++ (wsX9_ringWays_r3 ++ wsX9_ringWays_r4))) ++ wsX90 ++ wsX40 ++ wsX10)
def wsX9_lift_r1 : List Cond := [Cond.fieldLink RX9 12 "RoundsPerHour" "now" "LRoundsPerHour$Country;", Cond.fieldLink RX9 25 "RoundsPerHour" "rings" "LRoundsPerHour$Rings;", Cond.fieldLink RX9 172 "RoundsPerHour$Rings" "above" "[J", Cond.fieldLink RX9 176 "RoundsPerHour$Rings" "below" "[J", Cond.fieldLink RX9 196 "RoundsPerHour$Rings" "height" "[J", Cond.methodLink RX9 99 yX1_isPlace, Cond.instanceMethod yX1_isPlace, Cond.selects RX1 yX1_isPlace yX1_isPlace, Cond.initialized RX1, Cond.code yX1_isPlace cX1_isPlace 2 (some .boolean), Cond.fieldLink RX1 9 "RoundsPerHour$Country" "places" "I", Cond.static yX9_within, Cond.initialized RX9, Cond.code yX9_within cX9_within 3 (some .boolean), Cond.methodLink RX9 164 yX9_longFinding, Cond.instanceMethod yX9_longFinding, Cond.selects RX9 yX9_longFinding yX9_longFinding, Cond.code yX9_longFinding cX9_longFinding 2 (some .long), Cond.fieldLink RX9 70 "RoundsPerHour" "found" "[I", Cond.constantLong RX9 203 (-4000000000000000001), Cond.methodLink RX9 168 yX9_bestRing, Cond.instanceMethod yX9_bestRing, Cond.selects RX9 yX9_bestRing yX9_bestRing, Cond.code yX9_bestRing cX9_bestRing 1 (some .int)]
def wsX9_lift_r2 : List Cond := [Cond.methodLink RX9 205 yX4_gather, Cond.instanceMethod yX4_gather, Cond.selects RX4 yX4_gather yX4_gather, Cond.initialized RX4, Cond.code yX4_gather cX4_gather 5 none, Cond.fieldLink RX4 44 "RoundsPerHour$Rings" "size" "I", Cond.fieldLink RX4 29 "RoundsPerHour$Rings" "leaving" "[I", Cond.fieldLink RX4 48 "RoundsPerHour$Country" "ways" "I", Cond.fieldLink RX4 35 "RoundsPerHour$Rings" "to" "[I", Cond.fieldLink RX4 53 "RoundsPerHour$Country" "to" "[I", Cond.fieldLink RX4 38 "RoundsPerHour$Rings" "brings" "[J", Cond.fieldLink RX4 41 "RoundsPerHour$Rings" "lasts" "[J", Cond.fieldLink RX4 61 "RoundsPerHour$Country" "shut" "[I", Cond.fieldLink RX4 64 "RoundsPerHour$Country" "from" "[I", Cond.fieldLink RX4 32 "RoundsPerHour$Rings" "wayOut" "[I", Cond.fieldLink RX4 67 "RoundsPerHour$Country" "places" "I", Cond.methodLink RX4 54 yX1_bringsOf, Cond.instanceMethod yX1_bringsOf, Cond.selects RX1 yX1_bringsOf yX1_bringsOf, Cond.code yX1_bringsOf cX1_bringsOf 2 (some .int), Cond.fieldLink RX1 15 "RoundsPerHour$Country" "kind" "[I", Cond.fieldLink RX1 25 "RoundsPerHour$Country" "gain" "[I", Cond.fieldLink RX1 50 "RoundsPerHour$Country" "weather" "I", Cond.static yX9_brings]
def wsX9_lift_r3 : List Cond := [Cond.code yX9_brings cX9_brings 3 (some .int), Cond.methodLink RX9 368 yX9_brings, Cond.methodLink RX4 58 yX1_lastsOf, Cond.instanceMethod yX1_lastsOf, Cond.selects RX1 yX1_lastsOf yX1_lastsOf, Cond.code yX1_lastsOf cX1_lastsOf 2 (some .int), Cond.fieldLink RX1 28 "RoundsPerHour$Country" "time" "[I", Cond.static yX9_lasts, Cond.code yX9_lasts cX9_lasts 3 (some .int), Cond.methodLink RX9 371 yX9_lasts, Cond.methodLink RX4 70 yX4_goOn, Cond.instanceMethod yX4_goOn, Cond.selects RX4 yX4_goOn yX4_goOn, Cond.code yX4_goOn cX4_goOn 13 none, Cond.methodLink RX4 74 yX4_keep, Cond.instanceMethod yX4_keep, Cond.selects RX4 yX4_keep yX4_keep, Cond.code yX4_keep cX4_keep 6 none, Cond.fieldLink RX4 9 "RoundsPerHour$Rings" "sets" "[I", Cond.fieldLink RX4 15 "RoundsPerHour$Rings" "above" "[J", Cond.fieldLink RX4 19 "RoundsPerHour$Rings" "below" "[J", Cond.methodLink RX9 209 yX4_best, Cond.instanceMethod yX4_best, Cond.selects RX4 yX4_best yX4_best]
def wsX9_lift_r4 : List Cond := [Cond.code yX4_best cX4_best 4 (some .int), Cond.methodLink RX4 84 yX4_order, Cond.instanceMethod yX4_order, Cond.selects RX4 yX4_order yX4_order, Cond.code yX4_order cX4_order 3 (some .int), Cond.methodLink RX4 78 yJ13_compare_74951, Cond.static yJ13_compare_74951, Cond.initialized RJ13, Cond.code yJ13_compare_74951 cJ13_compare_74951 4 (some .int), Cond.methodLink RX9 179 yX9_lowest, Cond.static yX9_lowest, Cond.code yX9_lowest cX9_lowest 7 (some .long), Cond.methodLink RX9 304 yX9_sharedBelowZero, Cond.static yX9_sharedBelowZero, Cond.code yX9_sharedBelowZero cX9_sharedBelowZero 11 (some .long), Cond.methodLink RX9 192 yX4_lifts, Cond.instanceMethod yX4_lifts, Cond.selects RX4 yX4_lifts yX4_lifts, Cond.code yX4_lifts cX4_lifts 10 (some .boolean), Cond.fieldLink RX4 25 "RoundsPerHour$Rings" "reached" "[Z", Cond.fieldLink RX4 22 "RoundsPerHour$Rings" "height" "[J", Cond.methodLink RX4 108 yX4_step, Cond.instanceMethod yX4_step, Cond.selects RX4 yX4_step yX4_step]
def wsX9_lift_r5 : List Cond := [Cond.code yX4_step cX4_step 5 none]
def wsX9_lift : List Cond := .code yX9_lift cX9_lift 8 (some .long) :: ((wsX9_lift_r1 ++ (wsX9_lift_r2 ++ (wsX9_lift_r3 ++ (wsX9_lift_r4 ++ wsX9_lift_r5)))) ++ wsX90 ++ wsX40 ++ wsX10)
def wsX9_productFits : List Cond := .code yX9_productFits cX9_productFits 4 (some .boolean) :: ([.constantLong RX9 374 (-1), .constantLong RX9 307 (-9223372036854775808)])
def wsX9_worth_r1 : List Cond := [Cond.fieldLink RX9 25 "RoundsPerHour" "rings" "LRoundsPerHour$Rings;", Cond.fieldLink RX9 172 "RoundsPerHour$Rings" "above" "[J", Cond.fieldLink RX9 176 "RoundsPerHour$Rings" "below" "[J", Cond.constantLong RX9 203 (-4000000000000000001), Cond.methodLink RX9 168 yX9_bestRing, Cond.instanceMethod yX9_bestRing, Cond.selects RX9 yX9_bestRing yX9_bestRing, Cond.initialized RX9, Cond.code yX9_bestRing cX9_bestRing 1 (some .int), Cond.fieldLink RX9 12 "RoundsPerHour" "now" "LRoundsPerHour$Country;", Cond.methodLink RX9 205 yX4_gather, Cond.instanceMethod yX4_gather, Cond.selects RX4 yX4_gather yX4_gather, Cond.initialized RX4, Cond.code yX4_gather cX4_gather 5 none, Cond.fieldLink RX4 44 "RoundsPerHour$Rings" "size" "I", Cond.fieldLink RX4 29 "RoundsPerHour$Rings" "leaving" "[I", Cond.fieldLink RX4 48 "RoundsPerHour$Country" "ways" "I", Cond.fieldLink RX4 35 "RoundsPerHour$Rings" "to" "[I", Cond.fieldLink RX4 53 "RoundsPerHour$Country" "to" "[I", Cond.fieldLink RX4 38 "RoundsPerHour$Rings" "brings" "[J", Cond.fieldLink RX4 41 "RoundsPerHour$Rings" "lasts" "[J", Cond.fieldLink RX4 61 "RoundsPerHour$Country" "shut" "[I", Cond.fieldLink RX4 64 "RoundsPerHour$Country" "from" "[I"]
def wsX9_worth_r2 : List Cond := [Cond.fieldLink RX4 32 "RoundsPerHour$Rings" "wayOut" "[I", Cond.fieldLink RX4 67 "RoundsPerHour$Country" "places" "I", Cond.methodLink RX4 54 yX1_bringsOf, Cond.instanceMethod yX1_bringsOf, Cond.selects RX1 yX1_bringsOf yX1_bringsOf, Cond.initialized RX1, Cond.code yX1_bringsOf cX1_bringsOf 2 (some .int), Cond.fieldLink RX1 15 "RoundsPerHour$Country" "kind" "[I", Cond.fieldLink RX1 25 "RoundsPerHour$Country" "gain" "[I", Cond.fieldLink RX1 50 "RoundsPerHour$Country" "weather" "I", Cond.static yX9_brings, Cond.code yX9_brings cX9_brings 3 (some .int), Cond.methodLink RX9 368 yX9_brings, Cond.methodLink RX4 58 yX1_lastsOf, Cond.instanceMethod yX1_lastsOf, Cond.selects RX1 yX1_lastsOf yX1_lastsOf, Cond.code yX1_lastsOf cX1_lastsOf 2 (some .int), Cond.fieldLink RX1 28 "RoundsPerHour$Country" "time" "[I", Cond.static yX9_lasts, Cond.code yX9_lasts cX9_lasts 3 (some .int), Cond.methodLink RX9 371 yX9_lasts, Cond.methodLink RX4 70 yX4_goOn, Cond.instanceMethod yX4_goOn, Cond.selects RX4 yX4_goOn yX4_goOn]
def wsX9_worth_r3 : List Cond := [Cond.code yX4_goOn cX4_goOn 13 none, Cond.methodLink RX4 74 yX4_keep, Cond.instanceMethod yX4_keep, Cond.selects RX4 yX4_keep yX4_keep, Cond.code yX4_keep cX4_keep 6 none, Cond.fieldLink RX4 9 "RoundsPerHour$Rings" "sets" "[I", Cond.fieldLink RX4 15 "RoundsPerHour$Rings" "above" "[J", Cond.fieldLink RX4 19 "RoundsPerHour$Rings" "below" "[J", Cond.methodLink RX9 209 yX4_best, Cond.instanceMethod yX4_best, Cond.selects RX4 yX4_best yX4_best, Cond.code yX4_best cX4_best 4 (some .int), Cond.methodLink RX4 84 yX4_order, Cond.instanceMethod yX4_order, Cond.selects RX4 yX4_order yX4_order, Cond.code yX4_order cX4_order 3 (some .int), Cond.methodLink RX4 78 yJ13_compare_74951, Cond.static yJ13_compare_74951, Cond.initialized RJ13, Cond.code yJ13_compare_74951 cJ13_compare_74951 4 (some .int), Cond.methodLink RX9 164 yX9_longFinding, Cond.instanceMethod yX9_longFinding, Cond.selects RX9 yX9_longFinding yX9_longFinding, Cond.code yX9_longFinding cX9_longFinding 2 (some .long)]
def wsX9_worth_r4 : List Cond := [Cond.fieldLink RX9 70 "RoundsPerHour" "found" "[I", Cond.methodLink RX9 179 yX9_lowest, Cond.static yX9_lowest, Cond.code yX9_lowest cX9_lowest 7 (some .long), Cond.methodLink RX9 304 yX9_sharedBelowZero, Cond.static yX9_sharedBelowZero, Cond.code yX9_sharedBelowZero cX9_sharedBelowZero 11 (some .long), Cond.methodLink RX9 199 yX9_productFits, Cond.static yX9_productFits, Cond.code yX9_productFits cX9_productFits 4 (some .boolean), Cond.constantLong RX9 374 (-1), Cond.constantLong RX9 307 (-9223372036854775808)]
def wsX9_worth : List Cond := .code yX9_worth cX9_worth 10 (some .long) :: ((wsX9_worth_r1 ++ (wsX9_worth_r2 ++ (wsX9_worth_r3 ++ wsX9_worth_r4))) ++ wsX90 ++ wsX40 ++ wsX10)
def wsX9_raise_r1 : List Cond := [Cond.fieldLink RX9 12 "RoundsPerHour" "now" "LRoundsPerHour$Country;", Cond.fieldLink RX9 25 "RoundsPerHour" "rings" "LRoundsPerHour$Rings;", Cond.constantLong RX9 212 (1000000000), Cond.fieldLink RX9 183 "RoundsPerHour$Rings" "size" "I", Cond.fieldLink RX9 189 "RoundsPerHour$Rings" "sets" "[I", Cond.fieldLink RX9 172 "RoundsPerHour$Rings" "above" "[J", Cond.fieldLink RX9 122 "RoundsPerHour$Country" "gain" "[I", Cond.constantLong RX9 214 (-999999999), Cond.fieldLink RX9 176 "RoundsPerHour$Rings" "below" "[J", Cond.methodLink RX9 220 Lib.MathLoose.min_long.x, Cond.static Lib.MathLoose.min_long.x, Cond.initialized "java/lang/Math", Cond.code Lib.MathLoose.min_long.x Lib.MathLoose.min_long.code 4 (some .long), Cond.constantLong RX9 226 (999999999), Cond.methodLink RX9 228 Lib.MathLoose.max_long.x, Cond.static Lib.MathLoose.max_long.x, Cond.code Lib.MathLoose.max_long.x Lib.MathLoose.max_long.code 4 (some .long), Cond.methodLink RX9 116 yX1_isWay, Cond.instanceMethod yX1_isWay, Cond.selects RX1 yX1_isWay yX1_isWay, Cond.initialized RX1, Cond.code yX1_isWay cX1_isWay 2 (some .boolean), Cond.fieldLink RX1 44 "RoundsPerHour$Country" "ways" "I", Cond.static yX9_within]
def wsX9_raise_r2 : List Cond := [Cond.initialized RX9, Cond.code yX9_within cX9_within 3 (some .boolean), Cond.methodLink RX9 79 yX9_finding, Cond.instanceMethod yX9_finding, Cond.selects RX9 yX9_finding yX9_finding, Cond.code yX9_finding cX9_finding 2 (some .int), Cond.fieldLink RX9 70 "RoundsPerHour" "found" "[I", Cond.constant RX9 361 (-2000000001), Cond.methodLink RX9 205 yX4_gather, Cond.instanceMethod yX4_gather, Cond.selects RX4 yX4_gather yX4_gather, Cond.initialized RX4, Cond.code yX4_gather cX4_gather 5 none, Cond.fieldLink RX4 44 "RoundsPerHour$Rings" "size" "I", Cond.fieldLink RX4 29 "RoundsPerHour$Rings" "leaving" "[I", Cond.fieldLink RX4 48 "RoundsPerHour$Country" "ways" "I", Cond.fieldLink RX4 35 "RoundsPerHour$Rings" "to" "[I", Cond.fieldLink RX4 53 "RoundsPerHour$Country" "to" "[I", Cond.fieldLink RX4 38 "RoundsPerHour$Rings" "brings" "[J", Cond.fieldLink RX4 41 "RoundsPerHour$Rings" "lasts" "[J", Cond.fieldLink RX4 61 "RoundsPerHour$Country" "shut" "[I", Cond.fieldLink RX4 64 "RoundsPerHour$Country" "from" "[I", Cond.fieldLink RX4 32 "RoundsPerHour$Rings" "wayOut" "[I", Cond.fieldLink RX4 67 "RoundsPerHour$Country" "places" "I"]
def wsX9_raise_r3 : List Cond := [Cond.methodLink RX4 54 yX1_bringsOf, Cond.instanceMethod yX1_bringsOf, Cond.selects RX1 yX1_bringsOf yX1_bringsOf, Cond.code yX1_bringsOf cX1_bringsOf 2 (some .int), Cond.fieldLink RX1 15 "RoundsPerHour$Country" "kind" "[I", Cond.fieldLink RX1 25 "RoundsPerHour$Country" "gain" "[I", Cond.fieldLink RX1 50 "RoundsPerHour$Country" "weather" "I", Cond.static yX9_brings, Cond.code yX9_brings cX9_brings 3 (some .int), Cond.methodLink RX9 368 yX9_brings, Cond.methodLink RX4 58 yX1_lastsOf, Cond.instanceMethod yX1_lastsOf, Cond.selects RX1 yX1_lastsOf yX1_lastsOf, Cond.code yX1_lastsOf cX1_lastsOf 2 (some .int), Cond.fieldLink RX1 28 "RoundsPerHour$Country" "time" "[I", Cond.static yX9_lasts, Cond.code yX9_lasts cX9_lasts 3 (some .int), Cond.methodLink RX9 371 yX9_lasts, Cond.methodLink RX4 70 yX4_goOn, Cond.instanceMethod yX4_goOn, Cond.selects RX4 yX4_goOn yX4_goOn, Cond.code yX4_goOn cX4_goOn 13 none, Cond.methodLink RX4 74 yX4_keep, Cond.instanceMethod yX4_keep]
def wsX9_raise_r4 : List Cond := [Cond.selects RX4 yX4_keep yX4_keep, Cond.code yX4_keep cX4_keep 6 none, Cond.fieldLink RX4 9 "RoundsPerHour$Rings" "sets" "[I", Cond.fieldLink RX4 15 "RoundsPerHour$Rings" "above" "[J", Cond.fieldLink RX4 19 "RoundsPerHour$Rings" "below" "[J", Cond.methodLink RX9 209 yX4_best, Cond.instanceMethod yX4_best, Cond.selects RX4 yX4_best yX4_best, Cond.code yX4_best cX4_best 4 (some .int), Cond.methodLink RX4 84 yX4_order, Cond.instanceMethod yX4_order, Cond.selects RX4 yX4_order yX4_order, Cond.code yX4_order cX4_order 3 (some .int), Cond.methodLink RX4 78 yJ13_compare_74951, Cond.static yJ13_compare_74951, Cond.initialized RJ13, Cond.code yJ13_compare_74951 cJ13_compare_74951 4 (some .int), Cond.methodLink RX9 216 yX4_missingTo, Cond.instanceMethod yX4_missingTo, Cond.selects RX4 yX4_missingTo yX4_missingTo, Cond.code yX4_missingTo cX4_missingTo 8 (some .long), Cond.methodLink RX4 102 yJ9_floorDiv_f86c9, Cond.static yJ9_floorDiv_f86c9, Cond.initialized RJ9]
def wsX9_raise_r5 : List Cond := [Cond.code yJ9_floorDiv_f86c9 cJ9_floorDiv_f86c9 6 (some .long)]
def wsX9_raise : List Cond := .code yX9_raise cX9_raise 11 (some .int) :: ((wsX9_raise_r1 ++ (wsX9_raise_r2 ++ (wsX9_raise_r3 ++ (wsX9_raise_r4 ++ wsX9_raise_r5)))) ++ wsX90 ++ wsX40 ++ wsX10)
def wsX9_lose_r1 : List Cond := [Cond.fieldLink RX9 12 "RoundsPerHour" "now" "LRoundsPerHour$Country;", Cond.fieldLink RX9 83 "RoundsPerHour$Country" "ways" "I", Cond.fieldLink RX9 128 "RoundsPerHour$Country" "shut" "[I", Cond.fieldLink RX9 25 "RoundsPerHour" "rings" "LRoundsPerHour$Rings;", Cond.methodLink RX9 168 yX9_bestRing, Cond.instanceMethod yX9_bestRing, Cond.selects RX9 yX9_bestRing yX9_bestRing, Cond.initialized RX9, Cond.code yX9_bestRing cX9_bestRing 1 (some .int), Cond.methodLink RX9 205 yX4_gather, Cond.instanceMethod yX4_gather, Cond.selects RX4 yX4_gather yX4_gather, Cond.initialized RX4, Cond.code yX4_gather cX4_gather 5 none, Cond.fieldLink RX4 44 "RoundsPerHour$Rings" "size" "I", Cond.fieldLink RX4 29 "RoundsPerHour$Rings" "leaving" "[I", Cond.fieldLink RX4 48 "RoundsPerHour$Country" "ways" "I", Cond.fieldLink RX4 35 "RoundsPerHour$Rings" "to" "[I", Cond.fieldLink RX4 53 "RoundsPerHour$Country" "to" "[I", Cond.fieldLink RX4 38 "RoundsPerHour$Rings" "brings" "[J", Cond.fieldLink RX4 41 "RoundsPerHour$Rings" "lasts" "[J", Cond.fieldLink RX4 61 "RoundsPerHour$Country" "shut" "[I", Cond.fieldLink RX4 64 "RoundsPerHour$Country" "from" "[I", Cond.fieldLink RX4 32 "RoundsPerHour$Rings" "wayOut" "[I"]
def wsX9_lose_r2 : List Cond := [Cond.fieldLink RX4 67 "RoundsPerHour$Country" "places" "I", Cond.methodLink RX4 54 yX1_bringsOf, Cond.instanceMethod yX1_bringsOf, Cond.selects RX1 yX1_bringsOf yX1_bringsOf, Cond.initialized RX1, Cond.code yX1_bringsOf cX1_bringsOf 2 (some .int), Cond.fieldLink RX1 15 "RoundsPerHour$Country" "kind" "[I", Cond.fieldLink RX1 25 "RoundsPerHour$Country" "gain" "[I", Cond.fieldLink RX1 50 "RoundsPerHour$Country" "weather" "I", Cond.static yX9_brings, Cond.code yX9_brings cX9_brings 3 (some .int), Cond.methodLink RX9 368 yX9_brings, Cond.methodLink RX4 58 yX1_lastsOf, Cond.instanceMethod yX1_lastsOf, Cond.selects RX1 yX1_lastsOf yX1_lastsOf, Cond.code yX1_lastsOf cX1_lastsOf 2 (some .int), Cond.fieldLink RX1 28 "RoundsPerHour$Country" "time" "[I", Cond.static yX9_lasts, Cond.code yX9_lasts cX9_lasts 3 (some .int), Cond.methodLink RX9 371 yX9_lasts, Cond.methodLink RX4 70 yX4_goOn, Cond.instanceMethod yX4_goOn, Cond.selects RX4 yX4_goOn yX4_goOn, Cond.code yX4_goOn cX4_goOn 13 none]
def wsX9_lose_r3 : List Cond := [Cond.methodLink RX4 74 yX4_keep, Cond.instanceMethod yX4_keep, Cond.selects RX4 yX4_keep yX4_keep, Cond.code yX4_keep cX4_keep 6 none, Cond.fieldLink RX4 9 "RoundsPerHour$Rings" "sets" "[I", Cond.fieldLink RX4 15 "RoundsPerHour$Rings" "above" "[J", Cond.fieldLink RX4 19 "RoundsPerHour$Rings" "below" "[J", Cond.methodLink RX9 209 yX4_best, Cond.instanceMethod yX4_best, Cond.selects RX4 yX4_best yX4_best, Cond.code yX4_best cX4_best 4 (some .int), Cond.methodLink RX4 84 yX4_order, Cond.instanceMethod yX4_order, Cond.selects RX4 yX4_order yX4_order, Cond.code yX4_order cX4_order 3 (some .int), Cond.methodLink RX4 78 yJ13_compare_74951, Cond.static yJ13_compare_74951, Cond.initialized RJ13, Cond.code yJ13_compare_74951 cJ13_compare_74951 4 (some .int), Cond.methodLink RX9 79 yX9_finding, Cond.instanceMethod yX9_finding, Cond.selects RX9 yX9_finding yX9_finding, Cond.code yX9_finding cX9_finding 2 (some .int), Cond.fieldLink RX9 70 "RoundsPerHour" "found" "[I"]
def wsX9_lose_r4 : List Cond := [Cond.constant RX9 361 (-2000000001), Cond.methodLink RX9 186 yX4_order]
def wsX9_lose : List Cond := .code yX9_lose cX9_lose 5 (some .int) :: ((wsX9_lose_r1 ++ (wsX9_lose_r2 ++ (wsX9_lose_r3 ++ wsX9_lose_r4))) ++ wsX90 ++ wsX10 ++ wsX40)
def wsX9_kind_r1 : List Cond := [Cond.fieldLink RX9 12 "RoundsPerHour" "now" "LRoundsPerHour$Country;", Cond.fieldLink RX9 19 "RoundsPerHour" "draft" "LRoundsPerHour$Country;", Cond.fieldLink RX9 25 "RoundsPerHour" "rings" "LRoundsPerHour$Rings;", Cond.fieldLink RX9 119 "RoundsPerHour$Country" "kind" "[I", Cond.methodLink RX9 116 yX1_isWay, Cond.instanceMethod yX1_isWay, Cond.selects RX1 yX1_isWay yX1_isWay, Cond.initialized RX1, Cond.code yX1_isWay cX1_isWay 2 (some .boolean), Cond.fieldLink RX1 44 "RoundsPerHour$Country" "ways" "I", Cond.static yX9_within, Cond.initialized RX9, Cond.code yX9_within cX9_within 3 (some .boolean), Cond.methodLink RX9 79 yX9_finding, Cond.instanceMethod yX9_finding, Cond.selects RX9 yX9_finding yX9_finding, Cond.code yX9_finding cX9_finding 2 (some .int), Cond.fieldLink RX9 70 "RoundsPerHour" "found" "[I", Cond.constant RX9 361 (-2000000001), Cond.methodLink RX9 168 yX9_bestRing, Cond.instanceMethod yX9_bestRing, Cond.selects RX9 yX9_bestRing yX9_bestRing, Cond.code yX9_bestRing cX9_bestRing 1 (some .int), Cond.methodLink RX9 205 yX4_gather]
def wsX9_kind_r2 : List Cond := [Cond.instanceMethod yX4_gather, Cond.selects RX4 yX4_gather yX4_gather, Cond.initialized RX4, Cond.code yX4_gather cX4_gather 5 none, Cond.fieldLink RX4 44 "RoundsPerHour$Rings" "size" "I", Cond.fieldLink RX4 29 "RoundsPerHour$Rings" "leaving" "[I", Cond.fieldLink RX4 48 "RoundsPerHour$Country" "ways" "I", Cond.fieldLink RX4 35 "RoundsPerHour$Rings" "to" "[I", Cond.fieldLink RX4 53 "RoundsPerHour$Country" "to" "[I", Cond.fieldLink RX4 38 "RoundsPerHour$Rings" "brings" "[J", Cond.fieldLink RX4 41 "RoundsPerHour$Rings" "lasts" "[J", Cond.fieldLink RX4 61 "RoundsPerHour$Country" "shut" "[I", Cond.fieldLink RX4 64 "RoundsPerHour$Country" "from" "[I", Cond.fieldLink RX4 32 "RoundsPerHour$Rings" "wayOut" "[I", Cond.fieldLink RX4 67 "RoundsPerHour$Country" "places" "I", Cond.methodLink RX4 54 yX1_bringsOf, Cond.instanceMethod yX1_bringsOf, Cond.selects RX1 yX1_bringsOf yX1_bringsOf, Cond.code yX1_bringsOf cX1_bringsOf 2 (some .int), Cond.fieldLink RX1 15 "RoundsPerHour$Country" "kind" "[I", Cond.fieldLink RX1 25 "RoundsPerHour$Country" "gain" "[I", Cond.fieldLink RX1 50 "RoundsPerHour$Country" "weather" "I", Cond.static yX9_brings, Cond.code yX9_brings cX9_brings 3 (some .int)]
def wsX9_kind_r3 : List Cond := [Cond.methodLink RX9 368 yX9_brings, Cond.methodLink RX4 58 yX1_lastsOf, Cond.instanceMethod yX1_lastsOf, Cond.selects RX1 yX1_lastsOf yX1_lastsOf, Cond.code yX1_lastsOf cX1_lastsOf 2 (some .int), Cond.fieldLink RX1 28 "RoundsPerHour$Country" "time" "[I", Cond.static yX9_lasts, Cond.code yX9_lasts cX9_lasts 3 (some .int), Cond.methodLink RX9 371 yX9_lasts, Cond.methodLink RX4 70 yX4_goOn, Cond.instanceMethod yX4_goOn, Cond.selects RX4 yX4_goOn yX4_goOn, Cond.code yX4_goOn cX4_goOn 13 none, Cond.methodLink RX4 74 yX4_keep, Cond.instanceMethod yX4_keep, Cond.selects RX4 yX4_keep yX4_keep, Cond.code yX4_keep cX4_keep 6 none, Cond.fieldLink RX4 9 "RoundsPerHour$Rings" "sets" "[I", Cond.fieldLink RX4 15 "RoundsPerHour$Rings" "above" "[J", Cond.fieldLink RX4 19 "RoundsPerHour$Rings" "below" "[J", Cond.methodLink RX9 209 yX4_best, Cond.instanceMethod yX4_best, Cond.selects RX4 yX4_best yX4_best, Cond.code yX4_best cX4_best 4 (some .int)]
def wsX9_kind_r4 : List Cond := [Cond.methodLink RX4 84 yX4_order, Cond.instanceMethod yX4_order, Cond.selects RX4 yX4_order yX4_order, Cond.code yX4_order cX4_order 3 (some .int), Cond.methodLink RX4 78 yJ13_compare_74951, Cond.static yJ13_compare_74951, Cond.initialized RJ13, Cond.code yJ13_compare_74951 cJ13_compare_74951 4 (some .int), Cond.methodLink RX9 231 yX1_become, Cond.instanceMethod yX1_become, Cond.selects RX1 yX1_become yX1_become, Cond.code yX1_become cX1_become 2 none, Cond.fieldLink RX1 9 "RoundsPerHour$Country" "places" "I", Cond.fieldLink RX1 47 "RoundsPerHour$Country" "things" "I", Cond.methodLink RX1 80 arraycopyName, Cond.native arraycopyName, Cond.static arraycopyName, Cond.initialized "java/lang/System", Cond.fieldLink RX1 19 "RoundsPerHour$Country" "from" "[I", Cond.fieldLink RX1 22 "RoundsPerHour$Country" "to" "[I", Cond.fieldLink RX1 31 "RoundsPerHour$Country" "shut" "[I", Cond.fieldLink RX1 34 "RoundsPerHour$Country" "thingGain" "[I", Cond.fieldLink RX1 37 "RoundsPerHour$Country" "thingTime" "[I", Cond.methodLink RX9 235 yX4_forget]
def wsX9_kind_r5 : List Cond := [Cond.instanceMethod yX4_forget, Cond.selects RX4 yX4_forget yX4_forget, Cond.code yX4_forget cX4_forget 1 none, Cond.fieldLink RX4 88 "RoundsPerHour$Rings" "peakBelow" "J", Cond.methodLink RX9 238 yX4_rises, Cond.instanceMethod yX4_rises, Cond.selects RX4 yX4_rises yX4_rises, Cond.code yX4_rises cX4_rises 3 (some .boolean), Cond.fieldLink RX4 99 "RoundsPerHour$Rings" "peakAbove" "J", Cond.methodLink RX4 92 yX4_gather, Cond.methodLink RX4 96 yX4_best]
def wsX9_kind : List Cond := .code yX9_kind cX9_kind 4 (some .int) :: ((wsX9_kind_r1 ++ (wsX9_kind_r2 ++ (wsX9_kind_r3 ++ (wsX9_kind_r4 ++ wsX9_kind_r5)))) ++ wsX90 ++ wsX10 ++ wsX40)
def wsX9_season_r1 : List Cond := [Cond.fieldLink RX9 19 "RoundsPerHour" "draft" "LRoundsPerHour$Country;", Cond.fieldLink RX9 12 "RoundsPerHour" "now" "LRoundsPerHour$Country;", Cond.fieldLink RX9 25 "RoundsPerHour" "rings" "LRoundsPerHour$Rings;", Cond.fieldLink RX9 96 "RoundsPerHour$Country" "weather" "I", Cond.methodLink RX9 168 yX9_bestRing, Cond.instanceMethod yX9_bestRing, Cond.selects RX9 yX9_bestRing yX9_bestRing, Cond.initialized RX9, Cond.code yX9_bestRing cX9_bestRing 1 (some .int), Cond.methodLink RX9 205 yX4_gather, Cond.instanceMethod yX4_gather, Cond.selects RX4 yX4_gather yX4_gather, Cond.initialized RX4, Cond.code yX4_gather cX4_gather 5 none, Cond.fieldLink RX4 44 "RoundsPerHour$Rings" "size" "I", Cond.fieldLink RX4 29 "RoundsPerHour$Rings" "leaving" "[I", Cond.fieldLink RX4 48 "RoundsPerHour$Country" "ways" "I", Cond.fieldLink RX4 35 "RoundsPerHour$Rings" "to" "[I", Cond.fieldLink RX4 53 "RoundsPerHour$Country" "to" "[I", Cond.fieldLink RX4 38 "RoundsPerHour$Rings" "brings" "[J", Cond.fieldLink RX4 41 "RoundsPerHour$Rings" "lasts" "[J", Cond.fieldLink RX4 61 "RoundsPerHour$Country" "shut" "[I", Cond.fieldLink RX4 64 "RoundsPerHour$Country" "from" "[I", Cond.fieldLink RX4 32 "RoundsPerHour$Rings" "wayOut" "[I"]
def wsX9_season_r2 : List Cond := [Cond.fieldLink RX4 67 "RoundsPerHour$Country" "places" "I", Cond.methodLink RX4 54 yX1_bringsOf, Cond.instanceMethod yX1_bringsOf, Cond.selects RX1 yX1_bringsOf yX1_bringsOf, Cond.initialized RX1, Cond.code yX1_bringsOf cX1_bringsOf 2 (some .int), Cond.fieldLink RX1 15 "RoundsPerHour$Country" "kind" "[I", Cond.fieldLink RX1 25 "RoundsPerHour$Country" "gain" "[I", Cond.fieldLink RX1 50 "RoundsPerHour$Country" "weather" "I", Cond.static yX9_brings, Cond.code yX9_brings cX9_brings 3 (some .int), Cond.methodLink RX9 368 yX9_brings, Cond.methodLink RX4 58 yX1_lastsOf, Cond.instanceMethod yX1_lastsOf, Cond.selects RX1 yX1_lastsOf yX1_lastsOf, Cond.code yX1_lastsOf cX1_lastsOf 2 (some .int), Cond.fieldLink RX1 28 "RoundsPerHour$Country" "time" "[I", Cond.static yX9_lasts, Cond.code yX9_lasts cX9_lasts 3 (some .int), Cond.methodLink RX9 371 yX9_lasts, Cond.methodLink RX4 70 yX4_goOn, Cond.instanceMethod yX4_goOn, Cond.selects RX4 yX4_goOn yX4_goOn, Cond.code yX4_goOn cX4_goOn 13 none]
def wsX9_season_r3 : List Cond := [Cond.methodLink RX4 74 yX4_keep, Cond.instanceMethod yX4_keep, Cond.selects RX4 yX4_keep yX4_keep, Cond.code yX4_keep cX4_keep 6 none, Cond.fieldLink RX4 9 "RoundsPerHour$Rings" "sets" "[I", Cond.fieldLink RX4 15 "RoundsPerHour$Rings" "above" "[J", Cond.fieldLink RX4 19 "RoundsPerHour$Rings" "below" "[J", Cond.methodLink RX9 209 yX4_best, Cond.instanceMethod yX4_best, Cond.selects RX4 yX4_best yX4_best, Cond.code yX4_best cX4_best 4 (some .int), Cond.methodLink RX4 84 yX4_order, Cond.instanceMethod yX4_order, Cond.selects RX4 yX4_order yX4_order, Cond.code yX4_order cX4_order 3 (some .int), Cond.methodLink RX4 78 yJ13_compare_74951, Cond.static yJ13_compare_74951, Cond.initialized RJ13, Cond.code yJ13_compare_74951 cJ13_compare_74951 4 (some .int), Cond.methodLink RX9 79 yX9_finding, Cond.instanceMethod yX9_finding, Cond.selects RX9 yX9_finding yX9_finding, Cond.code yX9_finding cX9_finding 2 (some .int), Cond.fieldLink RX9 70 "RoundsPerHour" "found" "[I"]
def wsX9_season_r4 : List Cond := [Cond.constant RX9 361 (-2000000001), Cond.methodLink RX9 231 yX1_become, Cond.instanceMethod yX1_become, Cond.selects RX1 yX1_become yX1_become, Cond.code yX1_become cX1_become 2 none, Cond.fieldLink RX1 9 "RoundsPerHour$Country" "places" "I", Cond.fieldLink RX1 44 "RoundsPerHour$Country" "ways" "I", Cond.fieldLink RX1 47 "RoundsPerHour$Country" "things" "I", Cond.methodLink RX1 80 arraycopyName, Cond.native arraycopyName, Cond.static arraycopyName, Cond.initialized "java/lang/System", Cond.fieldLink RX1 19 "RoundsPerHour$Country" "from" "[I", Cond.fieldLink RX1 22 "RoundsPerHour$Country" "to" "[I", Cond.fieldLink RX1 31 "RoundsPerHour$Country" "shut" "[I", Cond.fieldLink RX1 34 "RoundsPerHour$Country" "thingGain" "[I", Cond.fieldLink RX1 37 "RoundsPerHour$Country" "thingTime" "[I", Cond.methodLink RX9 235 yX4_forget, Cond.instanceMethod yX4_forget, Cond.selects RX4 yX4_forget yX4_forget, Cond.code yX4_forget cX4_forget 1 none, Cond.fieldLink RX4 88 "RoundsPerHour$Rings" "peakBelow" "J", Cond.methodLink RX9 238 yX4_rises, Cond.instanceMethod yX4_rises]
def wsX9_season_r5 : List Cond := [Cond.selects RX4 yX4_rises yX4_rises, Cond.code yX4_rises cX4_rises 3 (some .boolean), Cond.fieldLink RX4 99 "RoundsPerHour$Rings" "peakAbove" "J", Cond.methodLink RX4 92 yX4_gather, Cond.methodLink RX4 96 yX4_best]
def wsX9_season : List Cond := .code yX9_season cX9_season 3 (some .int) :: ((wsX9_season_r1 ++ (wsX9_season_r2 ++ (wsX9_season_r3 ++ (wsX9_season_r4 ++ wsX9_season_r5)))) ++ wsX90 ++ wsX10 ++ wsX40)
def wsX9_told : List Cond := .code yX9_told cX9_told 4 (some .long) :: ([.fieldLink RX9 255 "RoundsPerHour$Climb" "best" "I", .fieldLink RX9 259 "RoundsPerHour$Climb" "steps" "I", .fieldLink RX9 262 "RoundsPerHour$Climb" "above" "J", .fieldLink RX9 265 "RoundsPerHour$Climb" "below" "J", .methodLink RX9 164 yX9_longFinding, .instanceMethod yX9_longFinding, .selects RX9 yX9_longFinding yX9_longFinding, .initialized RX9, .code yX9_longFinding cX9_longFinding 2 (some .long), .fieldLink RX9 70 "RoundsPerHour" "found" "[I", .constantLong RX9 203 (-4000000000000000001), .methodLink RX9 179 yX9_lowest, .static yX9_lowest, .code yX9_lowest cX9_lowest 7 (some .long), .methodLink RX9 304 yX9_sharedBelowZero, .static yX9_sharedBelowZero, .code yX9_sharedBelowZero cX9_sharedBelowZero 11 (some .long)] ++ wsX30 ++ wsX70 ++ wsX80 ++ wsX90)
def wsX9_tree_r1 : List Cond := [Cond.fieldLink RX9 32 "RoundsPerHour" "trees" "LRoundsPerHour$TreeClimb;", Cond.fieldLink RX9 12 "RoundsPerHour" "now" "LRoundsPerHour$Country;", Cond.methodLink RX9 75 yX9_within, Cond.static yX9_within, Cond.initialized RX9, Cond.code yX9_within cX9_within 3 (some .boolean), Cond.methodLink RX9 164 yX9_longFinding, Cond.instanceMethod yX9_longFinding, Cond.selects RX9 yX9_longFinding yX9_longFinding, Cond.code yX9_longFinding cX9_longFinding 2 (some .long), Cond.fieldLink RX9 70 "RoundsPerHour" "found" "[I", Cond.constantLong RX9 203 (-4000000000000000001), Cond.methodLink RX9 242 yX7_climbs, Cond.instanceMethod yX7_climbs, Cond.selects RX7 yX7_climbs yX7_climbs, Cond.initialized RX7, Cond.code yX7_climbs cX7_climbs 2 (some .boolean), Cond.fieldLink RX7 18 "RoundsPerHour$TreeClimb" "land" "LRoundsPerHour$Country;", Cond.methodLink RX7 22 ⟨"RoundsPerHour$TreeClimb", "takeWays", "(LRoundsPerHour$Country;)V"⟩, Cond.sameMethod "RoundsPerHour$TreeClimb" "RoundsPerHour$Climb" "takeWays" "(LRoundsPerHour$Country;)V", Cond.selects RX7 ⟨"RoundsPerHour$TreeClimb", "takeWays", "(LRoundsPerHour$Country;)V"⟩ yX0_takeWays, Cond.instanceMethod yX0_takeWays, Cond.initialized RX0, Cond.code yX0_takeWays cX0_takeWays 3 none]
def wsX9_tree_r2 : List Cond := [Cond.fieldLink RX0 21 "RoundsPerHour$Country" "ways" "I", Cond.fieldLink RX0 27 "RoundsPerHour$Climb" "size" "I", Cond.fieldLink RX0 9 "RoundsPerHour$Climb" "gains" "[J", Cond.fieldLink RX0 15 "RoundsPerHour$Climb" "times" "[J", Cond.methodLink RX0 30 yX1_bringsOf, Cond.instanceMethod yX1_bringsOf, Cond.selects RX1 yX1_bringsOf yX1_bringsOf, Cond.initialized RX1, Cond.code yX1_bringsOf cX1_bringsOf 2 (some .int), Cond.fieldLink RX1 15 "RoundsPerHour$Country" "kind" "[I", Cond.fieldLink RX1 25 "RoundsPerHour$Country" "gain" "[I", Cond.fieldLink RX1 50 "RoundsPerHour$Country" "weather" "I", Cond.static yX9_brings, Cond.code yX9_brings cX9_brings 3 (some .int), Cond.methodLink RX9 368 yX9_brings, Cond.methodLink RX0 34 yX1_lastsOf, Cond.instanceMethod yX1_lastsOf, Cond.selects RX1 yX1_lastsOf yX1_lastsOf, Cond.code yX1_lastsOf cX1_lastsOf 2 (some .int), Cond.fieldLink RX1 28 "RoundsPerHour$Country" "time" "[I", Cond.static yX9_lasts, Cond.code yX9_lasts cX9_lasts 3 (some .int), Cond.methodLink RX9 371 yX9_lasts, Cond.methodLink RX7 26 ⟨"RoundsPerHour$TreeClimb", "runs", "()Z"⟩]
def wsX9_tree_r3 : List Cond := [Cond.sameMethod "RoundsPerHour$TreeClimb" "RoundsPerHour$Climb" "runs" "()Z", Cond.selects RX7 ⟨"RoundsPerHour$TreeClimb", "runs", "()Z"⟩ yX0_runs, Cond.instanceMethod yX0_runs, Cond.code yX0_runs cX0_runs 7 (some .boolean), Cond.fieldLink RX0 45 "RoundsPerHour$Climb" "steps" "I", Cond.fieldLink RX0 48 "RoundsPerHour$Climb" "baseAbove" "J", Cond.fieldLink RX0 56 "RoundsPerHour$Climb" "above" "J", Cond.fieldLink RX0 59 "RoundsPerHour$Climb" "baseBelow" "J", Cond.fieldLink RX0 62 "RoundsPerHour$Climb" "below" "J", Cond.fieldLink RX0 65 "RoundsPerHour$Climb" "best" "I", Cond.methodLink RX0 37 ⟨"RoundsPerHour$Climb", "weigh", "(JJ)V"⟩, Cond.sameMethod "RoundsPerHour$Climb" "RoundsPerHour$Climb" "weigh" "(JJ)V", Cond.selects RX3 ⟨"RoundsPerHour$Climb", "weigh", "(JJ)V"⟩ yX0_weigh, Cond.instanceMethod yX0_weigh, Cond.code yX0_weigh cX0_weigh 6 none, Cond.fieldLink RX0 18 "RoundsPerHour$Climb" "weight" "[J", Cond.selects RX7 ⟨"RoundsPerHour$Climb", "weigh", "(JJ)V"⟩ yX0_weigh, Cond.selects RX8 ⟨"RoundsPerHour$Climb", "weigh", "(JJ)V"⟩ yX0_weigh, Cond.methodLink RX0 41 ⟨"RoundsPerHour$Climb", "pick", "()I"⟩, Cond.sameMethod "RoundsPerHour$Climb" "RoundsPerHour$Climb" "pick" "()I", Cond.selects RX3 ⟨"RoundsPerHour$Climb", "pick", "()I"⟩ yX3_pick, Cond.instanceMethod yX3_pick, Cond.initialized RX3, Cond.code yX3_pick cX3_pick 5 (some .int)]
def wsX9_tree_r4 : List Cond := [Cond.fieldLink RX3 7 "RoundsPerHour$LoadClimb" "most" "I", Cond.fieldLink RX3 18 "RoundsPerHour$LoadClimb" "size" "I", Cond.sameField "RoundsPerHour$LoadClimb" "RoundsPerHour$Climb" "size" "I", Cond.fieldLink RX3 46 "RoundsPerHour$LoadClimb" "weight" "[J", Cond.sameField "RoundsPerHour$LoadClimb" "RoundsPerHour$Climb" "weight" "[J", Cond.selects RX7 ⟨"RoundsPerHour$Climb", "pick", "()I"⟩ yX7_pick, Cond.instanceMethod yX7_pick, Cond.code yX7_pick cX7_pick 4 (some .int), Cond.fieldLink RX7 12 "RoundsPerHour$TreeClimb" "joins" "LRoundsPerHour$Joins;", Cond.fieldLink RX7 33 "RoundsPerHour$Country" "places" "I", Cond.fieldLink RX7 43 "RoundsPerHour$Country" "from" "[I", Cond.fieldLink RX7 47 "RoundsPerHour$Country" "to" "[I", Cond.methodLink RX7 30 yX2_part, Cond.instanceMethod yX2_part, Cond.selects RX2 yX2_part yX2_part, Cond.initialized RX2, Cond.code yX2_part cX2_part 2 none, Cond.fieldLink RX2 9 "RoundsPerHour$Joins" "label" "[I", Cond.methodLink RX7 39 yX7_heaviestJoining, Cond.instanceMethod yX7_heaviestJoining, Cond.selects RX7 yX7_heaviestJoining yX7_heaviestJoining, Cond.code yX7_heaviestJoining cX7_heaviestJoining 4 (some .int), Cond.fieldLink RX7 54 "RoundsPerHour$TreeClimb" "size" "I", Cond.sameField "RoundsPerHour$TreeClimb" "RoundsPerHour$Climb" "size" "I"]
def wsX9_tree_r5 : List Cond := [Cond.fieldLink RX7 57 "RoundsPerHour$Country" "shut" "[I", Cond.fieldLink RX7 64 "RoundsPerHour$TreeClimb" "weight" "[J", Cond.sameField "RoundsPerHour$TreeClimb" "RoundsPerHour$Climb" "weight" "[J", Cond.methodLink RX7 60 yX2_apart, Cond.instanceMethod yX2_apart, Cond.selects RX2 yX2_apart yX2_apart, Cond.code yX2_apart cX2_apart 3 (some .boolean), Cond.methodLink RX7 50 yX2_join, Cond.instanceMethod yX2_join, Cond.selects RX2 yX2_join yX2_join, Cond.code yX2_join cX2_join 6 none, Cond.selects RX8 ⟨"RoundsPerHour$Climb", "pick", "()I"⟩ yX8_pick, Cond.instanceMethod yX8_pick, Cond.initialized RX8, Cond.code yX8_pick cX8_pick 2 (some .int), Cond.fieldLink RX8 9 "RoundsPerHour$WalkClimb" "height" "[J", Cond.fieldLink RX8 15 "RoundsPerHour$WalkClimb" "sets" "[I", Cond.fieldLink RX8 23 "RoundsPerHour$WalkClimb" "start" "I", Cond.fieldLink RX8 27 "RoundsPerHour$WalkClimb" "end" "I", Cond.methodLink RX8 38 yX8_leave, Cond.instanceMethod yX8_leave, Cond.selects RX8 yX8_leave yX8_leave, Cond.code yX8_leave cX8_leave 8 none, Cond.fieldLink RX8 42 "RoundsPerHour$WalkClimb" "size" "I"]
def wsX9_tree_r6 : List Cond := [Cond.sameField "RoundsPerHour$WalkClimb" "RoundsPerHour$Climb" "size" "I", Cond.fieldLink RX8 19 "RoundsPerHour$WalkClimb" "land" "LRoundsPerHour$Country;", Cond.fieldLink RX8 45 "RoundsPerHour$Country" "to" "[I", Cond.fieldLink RX8 50 "RoundsPerHour$Country" "shut" "[I", Cond.fieldLink RX8 53 "RoundsPerHour$Country" "from" "[I", Cond.fieldLink RX8 56 "RoundsPerHour$WalkClimb" "weight" "[J", Cond.sameField "RoundsPerHour$WalkClimb" "RoundsPerHour$Climb" "weight" "[J", Cond.methodLink RX0 52 ⟨"RoundsPerHour$Climb", "together", "([JI)J"⟩, Cond.sameMethod "RoundsPerHour$Climb" "RoundsPerHour$Climb" "together" "([JI)J", Cond.selects RX3 ⟨"RoundsPerHour$Climb", "together", "([JI)J"⟩ yX0_together, Cond.instanceMethod yX0_together, Cond.code yX0_together cX0_together 6 (some .long), Cond.selects RX7 ⟨"RoundsPerHour$Climb", "together", "([JI)J"⟩ yX0_together, Cond.selects RX8 ⟨"RoundsPerHour$Climb", "together", "([JI)J"⟩ yX0_together, Cond.methodLink RX9 245 yX9_told, Cond.instanceMethod yX9_told, Cond.selects RX9 yX9_told yX9_told, Cond.code yX9_told cX9_told 4 (some .long), Cond.fieldLink RX9 255 "RoundsPerHour$Climb" "best" "I", Cond.fieldLink RX9 259 "RoundsPerHour$Climb" "steps" "I", Cond.fieldLink RX9 262 "RoundsPerHour$Climb" "above" "J", Cond.fieldLink RX9 265 "RoundsPerHour$Climb" "below" "J", Cond.methodLink RX9 179 yX9_lowest, Cond.static yX9_lowest]
def wsX9_tree_r7 : List Cond := [Cond.code yX9_lowest cX9_lowest 7 (some .long), Cond.methodLink RX9 304 yX9_sharedBelowZero, Cond.static yX9_sharedBelowZero, Cond.code yX9_sharedBelowZero cX9_sharedBelowZero 11 (some .long)]
def wsX9_tree : List Cond := .code yX9_tree cX9_tree 2 (some .long) :: ((wsX9_tree_r1 ++ (wsX9_tree_r2 ++ (wsX9_tree_r3 ++ (wsX9_tree_r4 ++ (wsX9_tree_r5 ++ (wsX9_tree_r6 ++ wsX9_tree_r7)))))) ++ wsX90 ++ wsX70 ++ wsX10 ++ wsX30 ++ wsX80 ++ wsX20)
def wsX9_walk_r1 : List Cond := [Cond.fieldLink RX9 12 "RoundsPerHour" "now" "LRoundsPerHour$Country;", Cond.fieldLink RX9 39 "RoundsPerHour" "walks" "LRoundsPerHour$WalkClimb;", Cond.methodLink RX9 99 yX1_isPlace, Cond.instanceMethod yX1_isPlace, Cond.selects RX1 yX1_isPlace yX1_isPlace, Cond.initialized RX1, Cond.code yX1_isPlace cX1_isPlace 2 (some .boolean), Cond.fieldLink RX1 9 "RoundsPerHour$Country" "places" "I", Cond.static yX9_within, Cond.initialized RX9, Cond.code yX9_within cX9_within 3 (some .boolean), Cond.methodLink RX9 75 yX9_within, Cond.methodLink RX9 164 yX9_longFinding, Cond.instanceMethod yX9_longFinding, Cond.selects RX9 yX9_longFinding yX9_longFinding, Cond.code yX9_longFinding cX9_longFinding 2 (some .long), Cond.fieldLink RX9 70 "RoundsPerHour" "found" "[I", Cond.constantLong RX9 203 (-4000000000000000001), Cond.methodLink RX9 249 yX8_climbs, Cond.instanceMethod yX8_climbs, Cond.selects RX8 yX8_climbs yX8_climbs, Cond.initialized RX8, Cond.code yX8_climbs cX8_climbs 4 (some .boolean), Cond.fieldLink RX8 19 "RoundsPerHour$WalkClimb" "land" "LRoundsPerHour$Country;"]
def wsX9_walk_r2 : List Cond := [Cond.fieldLink RX8 23 "RoundsPerHour$WalkClimb" "start" "I", Cond.fieldLink RX8 27 "RoundsPerHour$WalkClimb" "end" "I", Cond.methodLink RX8 30 ⟨"RoundsPerHour$WalkClimb", "takeWays", "(LRoundsPerHour$Country;)V"⟩, Cond.sameMethod "RoundsPerHour$WalkClimb" "RoundsPerHour$Climb" "takeWays" "(LRoundsPerHour$Country;)V", Cond.selects RX8 ⟨"RoundsPerHour$WalkClimb", "takeWays", "(LRoundsPerHour$Country;)V"⟩ yX0_takeWays, Cond.instanceMethod yX0_takeWays, Cond.initialized RX0, Cond.code yX0_takeWays cX0_takeWays 3 none, Cond.fieldLink RX0 21 "RoundsPerHour$Country" "ways" "I", Cond.fieldLink RX0 27 "RoundsPerHour$Climb" "size" "I", Cond.fieldLink RX0 9 "RoundsPerHour$Climb" "gains" "[J", Cond.fieldLink RX0 15 "RoundsPerHour$Climb" "times" "[J", Cond.methodLink RX0 30 yX1_bringsOf, Cond.instanceMethod yX1_bringsOf, Cond.selects RX1 yX1_bringsOf yX1_bringsOf, Cond.code yX1_bringsOf cX1_bringsOf 2 (some .int), Cond.fieldLink RX1 15 "RoundsPerHour$Country" "kind" "[I", Cond.fieldLink RX1 25 "RoundsPerHour$Country" "gain" "[I", Cond.fieldLink RX1 50 "RoundsPerHour$Country" "weather" "I", Cond.static yX9_brings, Cond.code yX9_brings cX9_brings 3 (some .int), Cond.methodLink RX9 368 yX9_brings, Cond.methodLink RX0 34 yX1_lastsOf, Cond.instanceMethod yX1_lastsOf]
def wsX9_walk_r3 : List Cond := [Cond.selects RX1 yX1_lastsOf yX1_lastsOf, Cond.code yX1_lastsOf cX1_lastsOf 2 (some .int), Cond.fieldLink RX1 28 "RoundsPerHour$Country" "time" "[I", Cond.static yX9_lasts, Cond.code yX9_lasts cX9_lasts 3 (some .int), Cond.methodLink RX9 371 yX9_lasts, Cond.methodLink RX8 34 ⟨"RoundsPerHour$WalkClimb", "runs", "()Z"⟩, Cond.sameMethod "RoundsPerHour$WalkClimb" "RoundsPerHour$Climb" "runs" "()Z", Cond.selects RX8 ⟨"RoundsPerHour$WalkClimb", "runs", "()Z"⟩ yX0_runs, Cond.instanceMethod yX0_runs, Cond.code yX0_runs cX0_runs 7 (some .boolean), Cond.fieldLink RX0 45 "RoundsPerHour$Climb" "steps" "I", Cond.fieldLink RX0 48 "RoundsPerHour$Climb" "baseAbove" "J", Cond.fieldLink RX0 56 "RoundsPerHour$Climb" "above" "J", Cond.fieldLink RX0 59 "RoundsPerHour$Climb" "baseBelow" "J", Cond.fieldLink RX0 62 "RoundsPerHour$Climb" "below" "J", Cond.fieldLink RX0 65 "RoundsPerHour$Climb" "best" "I", Cond.methodLink RX0 37 ⟨"RoundsPerHour$Climb", "weigh", "(JJ)V"⟩, Cond.sameMethod "RoundsPerHour$Climb" "RoundsPerHour$Climb" "weigh" "(JJ)V", Cond.selects RX3 ⟨"RoundsPerHour$Climb", "weigh", "(JJ)V"⟩ yX0_weigh, Cond.instanceMethod yX0_weigh, Cond.code yX0_weigh cX0_weigh 6 none, Cond.fieldLink RX0 18 "RoundsPerHour$Climb" "weight" "[J", Cond.selects RX7 ⟨"RoundsPerHour$Climb", "weigh", "(JJ)V"⟩ yX0_weigh]
def wsX9_walk_r4 : List Cond := [Cond.selects RX8 ⟨"RoundsPerHour$Climb", "weigh", "(JJ)V"⟩ yX0_weigh, Cond.methodLink RX0 41 ⟨"RoundsPerHour$Climb", "pick", "()I"⟩, Cond.sameMethod "RoundsPerHour$Climb" "RoundsPerHour$Climb" "pick" "()I", Cond.selects RX3 ⟨"RoundsPerHour$Climb", "pick", "()I"⟩ yX3_pick, Cond.instanceMethod yX3_pick, Cond.initialized RX3, Cond.code yX3_pick cX3_pick 5 (some .int), Cond.fieldLink RX3 7 "RoundsPerHour$LoadClimb" "most" "I", Cond.fieldLink RX3 18 "RoundsPerHour$LoadClimb" "size" "I", Cond.sameField "RoundsPerHour$LoadClimb" "RoundsPerHour$Climb" "size" "I", Cond.fieldLink RX3 46 "RoundsPerHour$LoadClimb" "weight" "[J", Cond.sameField "RoundsPerHour$LoadClimb" "RoundsPerHour$Climb" "weight" "[J", Cond.selects RX7 ⟨"RoundsPerHour$Climb", "pick", "()I"⟩ yX7_pick, Cond.instanceMethod yX7_pick, Cond.initialized RX7, Cond.code yX7_pick cX7_pick 4 (some .int), Cond.fieldLink RX7 12 "RoundsPerHour$TreeClimb" "joins" "LRoundsPerHour$Joins;", Cond.fieldLink RX7 18 "RoundsPerHour$TreeClimb" "land" "LRoundsPerHour$Country;", Cond.fieldLink RX7 33 "RoundsPerHour$Country" "places" "I", Cond.fieldLink RX7 43 "RoundsPerHour$Country" "from" "[I", Cond.fieldLink RX7 47 "RoundsPerHour$Country" "to" "[I", Cond.methodLink RX7 30 yX2_part, Cond.instanceMethod yX2_part, Cond.selects RX2 yX2_part yX2_part]
def wsX9_walk_r5 : List Cond := [Cond.initialized RX2, Cond.code yX2_part cX2_part 2 none, Cond.fieldLink RX2 9 "RoundsPerHour$Joins" "label" "[I", Cond.methodLink RX7 39 yX7_heaviestJoining, Cond.instanceMethod yX7_heaviestJoining, Cond.selects RX7 yX7_heaviestJoining yX7_heaviestJoining, Cond.code yX7_heaviestJoining cX7_heaviestJoining 4 (some .int), Cond.fieldLink RX7 54 "RoundsPerHour$TreeClimb" "size" "I", Cond.sameField "RoundsPerHour$TreeClimb" "RoundsPerHour$Climb" "size" "I", Cond.fieldLink RX7 57 "RoundsPerHour$Country" "shut" "[I", Cond.fieldLink RX7 64 "RoundsPerHour$TreeClimb" "weight" "[J", Cond.sameField "RoundsPerHour$TreeClimb" "RoundsPerHour$Climb" "weight" "[J", Cond.methodLink RX7 60 yX2_apart, Cond.instanceMethod yX2_apart, Cond.selects RX2 yX2_apart yX2_apart, Cond.code yX2_apart cX2_apart 3 (some .boolean), Cond.methodLink RX7 50 yX2_join, Cond.instanceMethod yX2_join, Cond.selects RX2 yX2_join yX2_join, Cond.code yX2_join cX2_join 6 none, Cond.selects RX8 ⟨"RoundsPerHour$Climb", "pick", "()I"⟩ yX8_pick, Cond.instanceMethod yX8_pick, Cond.code yX8_pick cX8_pick 2 (some .int), Cond.fieldLink RX8 9 "RoundsPerHour$WalkClimb" "height" "[J"]
def wsX9_walk_r6 : List Cond := [Cond.fieldLink RX8 15 "RoundsPerHour$WalkClimb" "sets" "[I", Cond.methodLink RX8 38 yX8_leave, Cond.instanceMethod yX8_leave, Cond.selects RX8 yX8_leave yX8_leave, Cond.code yX8_leave cX8_leave 8 none, Cond.fieldLink RX8 42 "RoundsPerHour$WalkClimb" "size" "I", Cond.sameField "RoundsPerHour$WalkClimb" "RoundsPerHour$Climb" "size" "I", Cond.fieldLink RX8 45 "RoundsPerHour$Country" "to" "[I", Cond.fieldLink RX8 50 "RoundsPerHour$Country" "shut" "[I", Cond.fieldLink RX8 53 "RoundsPerHour$Country" "from" "[I", Cond.fieldLink RX8 56 "RoundsPerHour$WalkClimb" "weight" "[J", Cond.sameField "RoundsPerHour$WalkClimb" "RoundsPerHour$Climb" "weight" "[J", Cond.methodLink RX0 52 ⟨"RoundsPerHour$Climb", "together", "([JI)J"⟩, Cond.sameMethod "RoundsPerHour$Climb" "RoundsPerHour$Climb" "together" "([JI)J", Cond.selects RX3 ⟨"RoundsPerHour$Climb", "together", "([JI)J"⟩ yX0_together, Cond.instanceMethod yX0_together, Cond.code yX0_together cX0_together 6 (some .long), Cond.selects RX7 ⟨"RoundsPerHour$Climb", "together", "([JI)J"⟩ yX0_together, Cond.selects RX8 ⟨"RoundsPerHour$Climb", "together", "([JI)J"⟩ yX0_together, Cond.methodLink RX9 245 yX9_told, Cond.instanceMethod yX9_told, Cond.selects RX9 yX9_told yX9_told, Cond.code yX9_told cX9_told 4 (some .long), Cond.fieldLink RX9 255 "RoundsPerHour$Climb" "best" "I"]
def wsX9_walk_r7 : List Cond := [Cond.fieldLink RX9 259 "RoundsPerHour$Climb" "steps" "I", Cond.fieldLink RX9 262 "RoundsPerHour$Climb" "above" "J", Cond.fieldLink RX9 265 "RoundsPerHour$Climb" "below" "J", Cond.methodLink RX9 179 yX9_lowest, Cond.static yX9_lowest, Cond.code yX9_lowest cX9_lowest 7 (some .long), Cond.methodLink RX9 304 yX9_sharedBelowZero, Cond.static yX9_sharedBelowZero, Cond.code yX9_sharedBelowZero cX9_sharedBelowZero 11 (some .long)]
def wsX9_walk : List Cond := .code yX9_walk cX9_walk 5 (some .long) :: ((wsX9_walk_r1 ++ (wsX9_walk_r2 ++ (wsX9_walk_r3 ++ (wsX9_walk_r4 ++ (wsX9_walk_r5 ++ (wsX9_walk_r6 ++ wsX9_walk_r7)))))) ++ wsX90 ++ wsX10 ++ wsX80 ++ wsX30 ++ wsX70 ++ wsX20)
def wsX9_load_r1 : List Cond := [Cond.fieldLink RX9 12 "RoundsPerHour" "now" "LRoundsPerHour$Country;", Cond.fieldLink RX9 148 "RoundsPerHour$Country" "things" "I", Cond.fieldLink RX9 46 "RoundsPerHour" "loads" "LRoundsPerHour$LoadClimb;", Cond.methodLink RX9 75 yX9_within, Cond.static yX9_within, Cond.initialized RX9, Cond.code yX9_within cX9_within 3 (some .boolean), Cond.methodLink RX9 164 yX9_longFinding, Cond.instanceMethod yX9_longFinding, Cond.selects RX9 yX9_longFinding yX9_longFinding, Cond.code yX9_longFinding cX9_longFinding 2 (some .long), Cond.fieldLink RX9 70 "RoundsPerHour" "found" "[I", Cond.constantLong RX9 203 (-4000000000000000001), Cond.methodLink RX9 252 yX3_climbs, Cond.instanceMethod yX3_climbs, Cond.selects RX3 yX3_climbs yX3_climbs, Cond.initialized RX3, Cond.code yX3_climbs cX3_climbs 4 (some .boolean), Cond.fieldLink RX3 7 "RoundsPerHour$LoadClimb" "most" "I", Cond.fieldLink RX3 13 "RoundsPerHour$Country" "things" "I", Cond.fieldLink RX3 18 "RoundsPerHour$LoadClimb" "size" "I", Cond.sameField "RoundsPerHour$LoadClimb" "RoundsPerHour$Climb" "size" "I", Cond.fieldLink RX3 21 "RoundsPerHour$Country" "thingGain" "[I", Cond.fieldLink RX3 25 "RoundsPerHour$LoadClimb" "baseAbove" "J"]
def wsX9_load_r2 : List Cond := [Cond.sameField "RoundsPerHour$LoadClimb" "RoundsPerHour$Climb" "baseAbove" "J", Cond.fieldLink RX3 29 "RoundsPerHour$Country" "thingTime" "[I", Cond.fieldLink RX3 32 "RoundsPerHour$LoadClimb" "baseBelow" "J", Cond.sameField "RoundsPerHour$LoadClimb" "RoundsPerHour$Climb" "baseBelow" "J", Cond.fieldLink RX3 35 "RoundsPerHour$LoadClimb" "gains" "[J", Cond.sameField "RoundsPerHour$LoadClimb" "RoundsPerHour$Climb" "gains" "[J", Cond.fieldLink RX3 39 "RoundsPerHour$LoadClimb" "times" "[J", Cond.sameField "RoundsPerHour$LoadClimb" "RoundsPerHour$Climb" "times" "[J", Cond.methodLink RX3 42 ⟨"RoundsPerHour$LoadClimb", "runs", "()Z"⟩, Cond.sameMethod "RoundsPerHour$LoadClimb" "RoundsPerHour$Climb" "runs" "()Z", Cond.selects RX3 ⟨"RoundsPerHour$LoadClimb", "runs", "()Z"⟩ yX0_runs, Cond.instanceMethod yX0_runs, Cond.initialized RX0, Cond.code yX0_runs cX0_runs 7 (some .boolean), Cond.fieldLink RX0 45 "RoundsPerHour$Climb" "steps" "I", Cond.fieldLink RX0 48 "RoundsPerHour$Climb" "baseAbove" "J", Cond.fieldLink RX0 9 "RoundsPerHour$Climb" "gains" "[J", Cond.fieldLink RX0 56 "RoundsPerHour$Climb" "above" "J", Cond.fieldLink RX0 59 "RoundsPerHour$Climb" "baseBelow" "J", Cond.fieldLink RX0 15 "RoundsPerHour$Climb" "times" "[J", Cond.fieldLink RX0 62 "RoundsPerHour$Climb" "below" "J", Cond.fieldLink RX0 65 "RoundsPerHour$Climb" "best" "I", Cond.methodLink RX0 37 ⟨"RoundsPerHour$Climb", "weigh", "(JJ)V"⟩, Cond.sameMethod "RoundsPerHour$Climb" "RoundsPerHour$Climb" "weigh" "(JJ)V"]
def wsX9_load_r3 : List Cond := [Cond.selects RX3 ⟨"RoundsPerHour$Climb", "weigh", "(JJ)V"⟩ yX0_weigh, Cond.instanceMethod yX0_weigh, Cond.code yX0_weigh cX0_weigh 6 none, Cond.fieldLink RX0 27 "RoundsPerHour$Climb" "size" "I", Cond.fieldLink RX0 18 "RoundsPerHour$Climb" "weight" "[J", Cond.selects RX7 ⟨"RoundsPerHour$Climb", "weigh", "(JJ)V"⟩ yX0_weigh, Cond.selects RX8 ⟨"RoundsPerHour$Climb", "weigh", "(JJ)V"⟩ yX0_weigh, Cond.methodLink RX0 41 ⟨"RoundsPerHour$Climb", "pick", "()I"⟩, Cond.sameMethod "RoundsPerHour$Climb" "RoundsPerHour$Climb" "pick" "()I", Cond.selects RX3 ⟨"RoundsPerHour$Climb", "pick", "()I"⟩ yX3_pick, Cond.instanceMethod yX3_pick, Cond.code yX3_pick cX3_pick 5 (some .int), Cond.fieldLink RX3 46 "RoundsPerHour$LoadClimb" "weight" "[J", Cond.sameField "RoundsPerHour$LoadClimb" "RoundsPerHour$Climb" "weight" "[J", Cond.selects RX7 ⟨"RoundsPerHour$Climb", "pick", "()I"⟩ yX7_pick, Cond.instanceMethod yX7_pick, Cond.initialized RX7, Cond.code yX7_pick cX7_pick 4 (some .int), Cond.fieldLink RX7 12 "RoundsPerHour$TreeClimb" "joins" "LRoundsPerHour$Joins;", Cond.fieldLink RX7 18 "RoundsPerHour$TreeClimb" "land" "LRoundsPerHour$Country;", Cond.fieldLink RX7 33 "RoundsPerHour$Country" "places" "I", Cond.fieldLink RX7 43 "RoundsPerHour$Country" "from" "[I", Cond.fieldLink RX7 47 "RoundsPerHour$Country" "to" "[I", Cond.methodLink RX7 30 yX2_part]
def wsX9_load_r4 : List Cond := [Cond.instanceMethod yX2_part, Cond.selects RX2 yX2_part yX2_part, Cond.initialized RX2, Cond.code yX2_part cX2_part 2 none, Cond.fieldLink RX2 9 "RoundsPerHour$Joins" "label" "[I", Cond.methodLink RX7 39 yX7_heaviestJoining, Cond.instanceMethod yX7_heaviestJoining, Cond.selects RX7 yX7_heaviestJoining yX7_heaviestJoining, Cond.code yX7_heaviestJoining cX7_heaviestJoining 4 (some .int), Cond.fieldLink RX7 54 "RoundsPerHour$TreeClimb" "size" "I", Cond.sameField "RoundsPerHour$TreeClimb" "RoundsPerHour$Climb" "size" "I", Cond.fieldLink RX7 57 "RoundsPerHour$Country" "shut" "[I", Cond.fieldLink RX7 64 "RoundsPerHour$TreeClimb" "weight" "[J", Cond.sameField "RoundsPerHour$TreeClimb" "RoundsPerHour$Climb" "weight" "[J", Cond.methodLink RX7 60 yX2_apart, Cond.instanceMethod yX2_apart, Cond.selects RX2 yX2_apart yX2_apart, Cond.code yX2_apart cX2_apart 3 (some .boolean), Cond.methodLink RX7 50 yX2_join, Cond.instanceMethod yX2_join, Cond.selects RX2 yX2_join yX2_join, Cond.code yX2_join cX2_join 6 none, Cond.selects RX8 ⟨"RoundsPerHour$Climb", "pick", "()I"⟩ yX8_pick, Cond.instanceMethod yX8_pick]
def wsX9_load_r5 : List Cond := [Cond.initialized RX8, Cond.code yX8_pick cX8_pick 2 (some .int), Cond.fieldLink RX8 9 "RoundsPerHour$WalkClimb" "height" "[J", Cond.fieldLink RX8 15 "RoundsPerHour$WalkClimb" "sets" "[I", Cond.fieldLink RX8 23 "RoundsPerHour$WalkClimb" "start" "I", Cond.fieldLink RX8 27 "RoundsPerHour$WalkClimb" "end" "I", Cond.methodLink RX8 38 yX8_leave, Cond.instanceMethod yX8_leave, Cond.selects RX8 yX8_leave yX8_leave, Cond.code yX8_leave cX8_leave 8 none, Cond.fieldLink RX8 42 "RoundsPerHour$WalkClimb" "size" "I", Cond.sameField "RoundsPerHour$WalkClimb" "RoundsPerHour$Climb" "size" "I", Cond.fieldLink RX8 19 "RoundsPerHour$WalkClimb" "land" "LRoundsPerHour$Country;", Cond.fieldLink RX8 45 "RoundsPerHour$Country" "to" "[I", Cond.fieldLink RX8 50 "RoundsPerHour$Country" "shut" "[I", Cond.fieldLink RX8 53 "RoundsPerHour$Country" "from" "[I", Cond.fieldLink RX8 56 "RoundsPerHour$WalkClimb" "weight" "[J", Cond.sameField "RoundsPerHour$WalkClimb" "RoundsPerHour$Climb" "weight" "[J", Cond.methodLink RX0 52 ⟨"RoundsPerHour$Climb", "together", "([JI)J"⟩, Cond.sameMethod "RoundsPerHour$Climb" "RoundsPerHour$Climb" "together" "([JI)J", Cond.selects RX3 ⟨"RoundsPerHour$Climb", "together", "([JI)J"⟩ yX0_together, Cond.instanceMethod yX0_together, Cond.code yX0_together cX0_together 6 (some .long), Cond.selects RX7 ⟨"RoundsPerHour$Climb", "together", "([JI)J"⟩ yX0_together]
def wsX9_load_r6 : List Cond := [Cond.selects RX8 ⟨"RoundsPerHour$Climb", "together", "([JI)J"⟩ yX0_together, Cond.methodLink RX9 245 yX9_told, Cond.instanceMethod yX9_told, Cond.selects RX9 yX9_told yX9_told, Cond.code yX9_told cX9_told 4 (some .long), Cond.fieldLink RX9 255 "RoundsPerHour$Climb" "best" "I", Cond.fieldLink RX9 259 "RoundsPerHour$Climb" "steps" "I", Cond.fieldLink RX9 262 "RoundsPerHour$Climb" "above" "J", Cond.fieldLink RX9 265 "RoundsPerHour$Climb" "below" "J", Cond.methodLink RX9 179 yX9_lowest, Cond.static yX9_lowest, Cond.code yX9_lowest cX9_lowest 7 (some .long), Cond.methodLink RX9 304 yX9_sharedBelowZero, Cond.static yX9_sharedBelowZero, Cond.code yX9_sharedBelowZero cX9_sharedBelowZero 11 (some .long)]
def wsX9_load : List Cond := .code yX9_load cX9_load 3 (some .long) :: ((wsX9_load_r1 ++ (wsX9_load_r2 ++ (wsX9_load_r3 ++ (wsX9_load_r4 ++ (wsX9_load_r5 ++ wsX9_load_r6))))) ++ wsX90 ++ wsX10 ++ wsX30 ++ wsX70 ++ wsX80 ++ wsX20)
def wsX9_isChoice_r1 : List Cond := [Cond.fieldLink RX9 12 "RoundsPerHour" "now" "LRoundsPerHour$Country;", Cond.fieldLink RX9 53 "RoundsPerHour" "joins" "LRoundsPerHour$Joins;", Cond.fieldLink RX9 148 "RoundsPerHour$Country" "things" "I", Cond.methodLink RX9 282 yX1_isOpenSet, Cond.instanceMethod yX1_isOpenSet, Cond.selects RX1 yX1_isOpenSet yX1_isOpenSet, Cond.initialized RX1, Cond.code yX1_isOpenSet cX1_isOpenSet 3 (some .boolean), Cond.fieldLink RX1 44 "RoundsPerHour$Country" "ways" "I", Cond.fieldLink RX1 31 "RoundsPerHour$Country" "shut" "[I", Cond.methodLink RX9 285 yX1_isRing, Cond.instanceMethod yX1_isRing, Cond.selects RX1 yX1_isRing yX1_isRing, Cond.code yX1_isRing cX1_isRing 7 (some .boolean), Cond.fieldLink RX1 19 "RoundsPerHour$Country" "from" "[I", Cond.fieldLink RX1 22 "RoundsPerHour$Country" "to" "[I", Cond.methodLink RX1 60 yX1_firstFrom, Cond.instanceMethod yX1_firstFrom, Cond.selects RX1 yX1_firstFrom yX1_firstFrom, Cond.code yX1_firstFrom cX1_firstFrom 4 (some .int), Cond.methodLink RX1 64 yJ6_bitCount_0f7a4, Cond.static yJ6_bitCount_0f7a4, Cond.initialized RJ6, Cond.code yJ6_bitCount_0f7a4 cJ6_bitCount_0f7a4 1 (some .int)]
def wsX9_isChoice_r2 : List Cond := [Cond.constant RJ6 265 (1431655765), Cond.constant RJ6 266 (858993459), Cond.constant RJ6 267 (252645135), Cond.methodLink RX9 288 yX2_isTree, Cond.instanceMethod yX2_isTree, Cond.selects RX2 yX2_isTree yX2_isTree, Cond.initialized RX2, Cond.code yX2_isTree cX2_isTree 4 (some .boolean), Cond.fieldLink RX2 21 "RoundsPerHour$Country" "places" "I", Cond.fieldLink RX2 30 "RoundsPerHour$Country" "ways" "I", Cond.fieldLink RX2 33 "RoundsPerHour$Country" "from" "[I", Cond.fieldLink RX2 36 "RoundsPerHour$Country" "to" "[I", Cond.methodLink RX2 15 yJ6_bitCount_0f7a4, Cond.methodLink RX2 27 yX2_part, Cond.instanceMethod yX2_part, Cond.selects RX2 yX2_part yX2_part, Cond.code yX2_part cX2_part 2 none, Cond.fieldLink RX2 9 "RoundsPerHour$Joins" "label" "[I", Cond.methodLink RX2 39 yX2_apart, Cond.instanceMethod yX2_apart, Cond.selects RX2 yX2_apart yX2_apart, Cond.code yX2_apart cX2_apart 3 (some .boolean), Cond.methodLink RX2 43 yX2_join, Cond.instanceMethod yX2_join]
def wsX9_isChoice_r3 : List Cond := [Cond.selects RX2 yX2_join yX2_join, Cond.code yX2_join cX2_join 6 none]
def wsX9_isChoice : List Cond := .code yX9_isChoice cX9_isChoice 3 (some .boolean) :: ((wsX9_isChoice_r1 ++ (wsX9_isChoice_r2 ++ wsX9_isChoice_r3)) ++ wsX90 ++ wsX10 ++ wsX20)
def wsX9_ratio_r1 : List Cond := [Cond.fieldLink RX9 12 "RoundsPerHour" "now" "LRoundsPerHour$Country;", Cond.methodLink RX9 75 yX9_within, Cond.static yX9_within, Cond.initialized RX9, Cond.code yX9_within cX9_within 3 (some .boolean), Cond.methodLink RX9 164 yX9_longFinding, Cond.instanceMethod yX9_longFinding, Cond.selects RX9 yX9_longFinding yX9_longFinding, Cond.code yX9_longFinding cX9_longFinding 2 (some .long), Cond.fieldLink RX9 70 "RoundsPerHour" "found" "[I", Cond.constantLong RX9 203 (-4000000000000000001), Cond.methodLink RX9 267 yX9_isChoice, Cond.instanceMethod yX9_isChoice, Cond.selects RX9 yX9_isChoice yX9_isChoice, Cond.code yX9_isChoice cX9_isChoice 3 (some .boolean), Cond.fieldLink RX9 53 "RoundsPerHour" "joins" "LRoundsPerHour$Joins;", Cond.fieldLink RX9 148 "RoundsPerHour$Country" "things" "I", Cond.methodLink RX9 282 yX1_isOpenSet, Cond.instanceMethod yX1_isOpenSet, Cond.selects RX1 yX1_isOpenSet yX1_isOpenSet, Cond.initialized RX1, Cond.code yX1_isOpenSet cX1_isOpenSet 3 (some .boolean), Cond.fieldLink RX1 44 "RoundsPerHour$Country" "ways" "I", Cond.fieldLink RX1 31 "RoundsPerHour$Country" "shut" "[I"]
def wsX9_ratio_r2 : List Cond := [Cond.methodLink RX9 285 yX1_isRing, Cond.instanceMethod yX1_isRing, Cond.selects RX1 yX1_isRing yX1_isRing, Cond.code yX1_isRing cX1_isRing 7 (some .boolean), Cond.fieldLink RX1 19 "RoundsPerHour$Country" "from" "[I", Cond.fieldLink RX1 22 "RoundsPerHour$Country" "to" "[I", Cond.methodLink RX1 60 yX1_firstFrom, Cond.instanceMethod yX1_firstFrom, Cond.selects RX1 yX1_firstFrom yX1_firstFrom, Cond.code yX1_firstFrom cX1_firstFrom 4 (some .int), Cond.methodLink RX1 64 yJ6_bitCount_0f7a4, Cond.static yJ6_bitCount_0f7a4, Cond.initialized RJ6, Cond.code yJ6_bitCount_0f7a4 cJ6_bitCount_0f7a4 1 (some .int), Cond.constant RJ6 265 (1431655765), Cond.constant RJ6 266 (858993459), Cond.constant RJ6 267 (252645135), Cond.methodLink RX9 288 yX2_isTree, Cond.instanceMethod yX2_isTree, Cond.selects RX2 yX2_isTree yX2_isTree, Cond.initialized RX2, Cond.code yX2_isTree cX2_isTree 4 (some .boolean), Cond.fieldLink RX2 21 "RoundsPerHour$Country" "places" "I", Cond.fieldLink RX2 30 "RoundsPerHour$Country" "ways" "I"]
def wsX9_ratio_r3 : List Cond := [Cond.fieldLink RX2 33 "RoundsPerHour$Country" "from" "[I", Cond.fieldLink RX2 36 "RoundsPerHour$Country" "to" "[I", Cond.methodLink RX2 15 yJ6_bitCount_0f7a4, Cond.methodLink RX2 27 yX2_part, Cond.instanceMethod yX2_part, Cond.selects RX2 yX2_part yX2_part, Cond.code yX2_part cX2_part 2 none, Cond.fieldLink RX2 9 "RoundsPerHour$Joins" "label" "[I", Cond.methodLink RX2 39 yX2_apart, Cond.instanceMethod yX2_apart, Cond.selects RX2 yX2_apart yX2_apart, Cond.code yX2_apart cX2_apart 3 (some .boolean), Cond.methodLink RX2 43 yX2_join, Cond.instanceMethod yX2_join, Cond.selects RX2 yX2_join yX2_join, Cond.code yX2_join cX2_join 6 none, Cond.methodLink RX9 270 yX1_gainTogether, Cond.instanceMethod yX1_gainTogether, Cond.selects RX1 yX1_gainTogether yX1_gainTogether, Cond.code yX1_gainTogether cX1_gainTogether 2 (some .long), Cond.fieldLink RX1 34 "RoundsPerHour$Country" "thingGain" "[I", Cond.methodLink RX1 76 yX1_sumWithBase, Cond.instanceMethod yX1_sumWithBase, Cond.selects RX1 yX1_sumWithBase yX1_sumWithBase]
def wsX9_ratio_r4 : List Cond := [Cond.code yX1_sumWithBase cX1_sumWithBase 6 (some .long), Cond.fieldLink RX1 47 "RoundsPerHour$Country" "things" "I", Cond.methodLink RX9 273 yX1_timeTogether, Cond.instanceMethod yX1_timeTogether, Cond.selects RX1 yX1_timeTogether yX1_timeTogether, Cond.code yX1_timeTogether cX1_timeTogether 2 (some .long), Cond.fieldLink RX1 37 "RoundsPerHour$Country" "thingTime" "[I", Cond.methodLink RX9 179 yX9_lowest, Cond.static yX9_lowest, Cond.code yX9_lowest cX9_lowest 7 (some .long), Cond.methodLink RX9 304 yX9_sharedBelowZero, Cond.static yX9_sharedBelowZero, Cond.code yX9_sharedBelowZero cX9_sharedBelowZero 11 (some .long), Cond.methodLink RX9 276 yX1_bringTogether, Cond.instanceMethod yX1_bringTogether, Cond.selects RX1 yX1_bringTogether yX1_bringTogether, Cond.code yX1_bringTogether cX1_bringTogether 5 (some .long), Cond.methodLink RX1 70 yX1_bringsOf, Cond.instanceMethod yX1_bringsOf, Cond.selects RX1 yX1_bringsOf yX1_bringsOf, Cond.code yX1_bringsOf cX1_bringsOf 2 (some .int), Cond.fieldLink RX1 15 "RoundsPerHour$Country" "kind" "[I", Cond.fieldLink RX1 25 "RoundsPerHour$Country" "gain" "[I", Cond.fieldLink RX1 50 "RoundsPerHour$Country" "weather" "I"]
def wsX9_ratio_r5 : List Cond := [Cond.static yX9_brings, Cond.code yX9_brings cX9_brings 3 (some .int), Cond.methodLink RX9 368 yX9_brings, Cond.methodLink RX9 279 yX1_lastTogether, Cond.instanceMethod yX1_lastTogether, Cond.selects RX1 yX1_lastTogether yX1_lastTogether, Cond.code yX1_lastTogether cX1_lastTogether 5 (some .long), Cond.methodLink RX1 73 yX1_lastsOf, Cond.instanceMethod yX1_lastsOf, Cond.selects RX1 yX1_lastsOf yX1_lastsOf, Cond.code yX1_lastsOf cX1_lastsOf 2 (some .int), Cond.fieldLink RX1 28 "RoundsPerHour$Country" "time" "[I", Cond.static yX9_lasts, Cond.code yX9_lasts cX9_lasts 3 (some .int), Cond.methodLink RX9 371 yX9_lasts]
def wsX9_ratio : List Cond := .code yX9_ratio cX9_ratio 4 (some .long) :: ((wsX9_ratio_r1 ++ (wsX9_ratio_r2 ++ (wsX9_ratio_r3 ++ (wsX9_ratio_r4 ++ wsX9_ratio_r5)))) ++ wsX90 ++ wsX10 ++ wsX20)
def wsX9_sheetFault : List Cond := .code yX9_sheetFault cX9_sheetFault 2 (some .int) :: ([.fieldLink RX9 66 "RoundsPerHour" "sheets" "[LRoundsPerHour$Sheet;", .fieldLink RX9 340 "RoundsPerHour$Sheet" "bits" "I", .methodLink RX9 75 yX9_within, .static yX9_within, .initialized RX9, .code yX9_within cX9_within 3 (some .boolean)] ++ wsX90 ++ wsX50)
def wsX9_fractionFault : List Cond := .code yX9_fractionFault cX9_fractionFault 6 (some .int) :: ([.fieldLink RX9 66 "RoundsPerHour" "sheets" "[LRoundsPerHour$Sheet;", .fieldLink RX9 295 "RoundsPerHour$Sheet" "numbers" "[J", .methodLink RX9 315 yX9_sheetFault, .instanceMethod yX9_sheetFault, .selects RX9 yX9_sheetFault yX9_sheetFault, .initialized RX9, .code yX9_sheetFault cX9_sheetFault 2 (some .int), .fieldLink RX9 340 "RoundsPerHour$Sheet" "bits" "I", .methodLink RX9 75 yX9_within, .static yX9_within, .code yX9_within cX9_within 3 (some .boolean), .methodLink RX9 318 yX5_hasFraction, .instanceMethod yX5_hasFraction, .selects RX5 yX5_hasFraction yX5_hasFraction, .initialized RX5, .code yX5_hasFraction cX5_hasFraction 2 (some .boolean), .fieldLink RX5 19 "RoundsPerHour$Sheet" "size" "I"] ++ wsX90 ++ wsX50)
def wsX9_compare_r1 : List Cond := [Cond.fieldLink RX9 66 "RoundsPerHour" "sheets" "[LRoundsPerHour$Sheet;", Cond.fieldLink RX9 295 "RoundsPerHour$Sheet" "numbers" "[J", Cond.methodLink RX9 291 yX9_fractionFault, Cond.instanceMethod yX9_fractionFault, Cond.selects RX9 yX9_fractionFault yX9_fractionFault, Cond.initialized RX9, Cond.code yX9_fractionFault cX9_fractionFault 6 (some .int), Cond.methodLink RX9 315 yX9_sheetFault, Cond.instanceMethod yX9_sheetFault, Cond.selects RX9 yX9_sheetFault yX9_sheetFault, Cond.code yX9_sheetFault cX9_sheetFault 2 (some .int), Cond.fieldLink RX9 340 "RoundsPerHour$Sheet" "bits" "I", Cond.methodLink RX9 75 yX9_within, Cond.static yX9_within, Cond.code yX9_within cX9_within 3 (some .boolean), Cond.methodLink RX9 318 yX5_hasFraction, Cond.instanceMethod yX5_hasFraction, Cond.selects RX5 yX5_hasFraction yX5_hasFraction, Cond.initialized RX5, Cond.code yX5_hasFraction cX5_hasFraction 2 (some .boolean), Cond.fieldLink RX5 19 "RoundsPerHour$Sheet" "size" "I", Cond.methodLink RX9 79 yX9_finding, Cond.instanceMethod yX9_finding, Cond.selects RX9 yX9_finding yX9_finding]
def wsX9_compare_r2 : List Cond := [Cond.code yX9_finding cX9_finding 2 (some .int), Cond.fieldLink RX9 70 "RoundsPerHour" "found" "[I", Cond.constant RX9 361 (-2000000001), Cond.methodLink RX9 199 yX9_productFits, Cond.static yX9_productFits, Cond.code yX9_productFits cX9_productFits 4 (some .boolean), Cond.constantLong RX9 374 (-1), Cond.constantLong RX9 307 (-9223372036854775808), Cond.methodLink RX9 298 yJ13_compare_74951, Cond.static yJ13_compare_74951, Cond.initialized RJ13, Cond.code yJ13_compare_74951 cJ13_compare_74951 4 (some .int)]
def wsX9_compare : List Cond := .code yX9_compare cX9_compare 7 (some .int) :: ((wsX9_compare_r1 ++ wsX9_compare_r2) ++ wsX90 ++ wsX50)
def wsX9_reduce_r1 : List Cond := [Cond.fieldLink RX9 66 "RoundsPerHour" "sheets" "[LRoundsPerHour$Sheet;", Cond.fieldLink RX9 295 "RoundsPerHour$Sheet" "numbers" "[J", Cond.constantLong RX9 307 (-9223372036854775808), Cond.methodLink RX9 291 yX9_fractionFault, Cond.instanceMethod yX9_fractionFault, Cond.selects RX9 yX9_fractionFault yX9_fractionFault, Cond.initialized RX9, Cond.code yX9_fractionFault cX9_fractionFault 6 (some .int), Cond.methodLink RX9 315 yX9_sheetFault, Cond.instanceMethod yX9_sheetFault, Cond.selects RX9 yX9_sheetFault yX9_sheetFault, Cond.code yX9_sheetFault cX9_sheetFault 2 (some .int), Cond.fieldLink RX9 340 "RoundsPerHour$Sheet" "bits" "I", Cond.methodLink RX9 75 yX9_within, Cond.static yX9_within, Cond.code yX9_within cX9_within 3 (some .boolean), Cond.methodLink RX9 318 yX5_hasFraction, Cond.instanceMethod yX5_hasFraction, Cond.selects RX5 yX5_hasFraction yX5_hasFraction, Cond.initialized RX5, Cond.code yX5_hasFraction cX5_hasFraction 2 (some .boolean), Cond.fieldLink RX5 19 "RoundsPerHour$Sheet" "size" "I", Cond.methodLink RX9 164 yX9_longFinding, Cond.instanceMethod yX9_longFinding]
def wsX9_reduce_r2 : List Cond := [Cond.selects RX9 yX9_longFinding yX9_longFinding, Cond.code yX9_longFinding cX9_longFinding 2 (some .long), Cond.fieldLink RX9 70 "RoundsPerHour" "found" "[I", Cond.constantLong RX9 203 (-4000000000000000001), Cond.methodLink RX9 304 yX9_sharedBelowZero, Cond.static yX9_sharedBelowZero, Cond.code yX9_sharedBelowZero cX9_sharedBelowZero 11 (some .long), Cond.methodLink RX9 309 yX5_put, Cond.instanceMethod yX5_put, Cond.selects RX5 yX5_put yX5_put, Cond.code yX5_put cX5_put 4 none, Cond.fieldLink RX5 15 "RoundsPerHour$Sheet" "bits" "I", Cond.fieldLink RX5 9 "RoundsPerHour$Sheet" "numbers" "[J"]
def wsX9_reduce : List Cond := .code yX9_reduce cX9_reduce 11 (some .long) :: ((wsX9_reduce_r1 ++ wsX9_reduce_r2) ++ wsX90 ++ wsX50)
def wsX9_sumFits : List Cond := .code yX9_sumFits cX9_sumFits 6 (some .boolean) :: ([])
def wsX9_add_r1 : List Cond := [Cond.fieldLink RX9 66 "RoundsPerHour" "sheets" "[LRoundsPerHour$Sheet;", Cond.fieldLink RX9 295 "RoundsPerHour$Sheet" "numbers" "[J", Cond.methodLink RX9 291 yX9_fractionFault, Cond.instanceMethod yX9_fractionFault, Cond.selects RX9 yX9_fractionFault yX9_fractionFault, Cond.initialized RX9, Cond.code yX9_fractionFault cX9_fractionFault 6 (some .int), Cond.methodLink RX9 315 yX9_sheetFault, Cond.instanceMethod yX9_sheetFault, Cond.selects RX9 yX9_sheetFault yX9_sheetFault, Cond.code yX9_sheetFault cX9_sheetFault 2 (some .int), Cond.fieldLink RX9 340 "RoundsPerHour$Sheet" "bits" "I", Cond.methodLink RX9 75 yX9_within, Cond.static yX9_within, Cond.code yX9_within cX9_within 3 (some .boolean), Cond.methodLink RX9 318 yX5_hasFraction, Cond.instanceMethod yX5_hasFraction, Cond.selects RX5 yX5_hasFraction yX5_hasFraction, Cond.initialized RX5, Cond.code yX5_hasFraction cX5_hasFraction 2 (some .boolean), Cond.fieldLink RX5 19 "RoundsPerHour$Sheet" "size" "I", Cond.methodLink RX9 79 yX9_finding, Cond.instanceMethod yX9_finding, Cond.selects RX9 yX9_finding yX9_finding]
def wsX9_add_r2 : List Cond := [Cond.code yX9_finding cX9_finding 2 (some .int), Cond.fieldLink RX9 70 "RoundsPerHour" "found" "[I", Cond.constant RX9 361 (-2000000001), Cond.methodLink RX9 199 yX9_productFits, Cond.static yX9_productFits, Cond.code yX9_productFits cX9_productFits 4 (some .boolean), Cond.constantLong RX9 374 (-1), Cond.constantLong RX9 307 (-9223372036854775808), Cond.methodLink RX9 312 yX9_sumFits, Cond.static yX9_sumFits, Cond.code yX9_sumFits cX9_sumFits 6 (some .boolean), Cond.methodLink RX9 309 yX5_put, Cond.instanceMethod yX5_put, Cond.selects RX5 yX5_put yX5_put, Cond.code yX5_put cX5_put 4 none, Cond.fieldLink RX5 15 "RoundsPerHour$Sheet" "bits" "I", Cond.fieldLink RX5 9 "RoundsPerHour$Sheet" "numbers" "[J"]
def wsX9_add : List Cond := .code yX9_add cX9_add 14 (some .int) :: ((wsX9_add_r1 ++ wsX9_add_r2) ++ wsX90 ++ wsX50)
def wsX9_feed : List Cond := .code yX9_feed cX9_feed 4 (some .int) :: ([.fieldLink RX9 60 "RoundsPerHour" "tape" "LRoundsPerHour$Tape;", .fieldLink RX9 321 "RoundsPerHour$Tape" "length" "I", .methodLink RX9 75 yX9_within, .static yX9_within, .initialized RX9, .code yX9_within cX9_within 3 (some .boolean), .methodLink RX9 79 yX9_finding, .instanceMethod yX9_finding, .selects RX9 yX9_finding yX9_finding, .code yX9_finding cX9_finding 2 (some .int), .fieldLink RX9 70 "RoundsPerHour" "found" "[I", .constant RX9 361 (-2000000001), .methodLink RX9 324 yX6_append, .instanceMethod yX6_append, .selects RX6 yX6_append yX6_append, .initialized RX6, .code yX6_append cX6_append 2 none, .fieldLink RX6 15 "RoundsPerHour$Tape" "length" "I", .fieldLink RX6 9 "RoundsPerHour$Tape" "bytes" "[I"] ++ wsX90 ++ wsX60)
def wsX9_wipe : List Cond := .code yX9_wipe cX9_wipe 2 (some .int) :: ([.fieldLink RX9 60 "RoundsPerHour" "tape" "LRoundsPerHour$Tape;", .fieldLink RX9 321 "RoundsPerHour$Tape" "length" "I"] ++ wsX90 ++ wsX60)
def wsX9_text_r1 : List Cond := [Cond.fieldLink RX9 19 "RoundsPerHour" "draft" "LRoundsPerHour$Country;", Cond.fieldLink RX9 12 "RoundsPerHour" "now" "LRoundsPerHour$Country;", Cond.fieldLink RX9 60 "RoundsPerHour" "tape" "LRoundsPerHour$Tape;", Cond.fieldLink RX9 321 "RoundsPerHour$Tape" "length" "I", Cond.methodLink RX9 231 yX1_become, Cond.instanceMethod yX1_become, Cond.selects RX1 yX1_become yX1_become, Cond.initialized RX1, Cond.code yX1_become cX1_become 2 none, Cond.fieldLink RX1 9 "RoundsPerHour$Country" "places" "I", Cond.fieldLink RX1 50 "RoundsPerHour$Country" "weather" "I", Cond.fieldLink RX1 44 "RoundsPerHour$Country" "ways" "I", Cond.fieldLink RX1 47 "RoundsPerHour$Country" "things" "I", Cond.fieldLink RX1 15 "RoundsPerHour$Country" "kind" "[I", Cond.methodLink RX1 80 arraycopyName, Cond.native arraycopyName, Cond.static arraycopyName, Cond.initialized "java/lang/System", Cond.fieldLink RX1 19 "RoundsPerHour$Country" "from" "[I", Cond.fieldLink RX1 22 "RoundsPerHour$Country" "to" "[I", Cond.fieldLink RX1 25 "RoundsPerHour$Country" "gain" "[I", Cond.fieldLink RX1 28 "RoundsPerHour$Country" "time" "[I", Cond.fieldLink RX1 31 "RoundsPerHour$Country" "shut" "[I", Cond.fieldLink RX1 34 "RoundsPerHour$Country" "thingGain" "[I"]
def wsX9_text_r2 : List Cond := [Cond.fieldLink RX1 37 "RoundsPerHour$Country" "thingTime" "[I", Cond.methodLink RX9 328 yX6_tellTo, Cond.instanceMethod yX6_tellTo, Cond.selects RX6 yX6_tellTo yX6_tellTo, Cond.initialized RX6, Cond.code yX6_tellTo cX6_tellTo 3 (some .int), Cond.fieldLink RX6 19 "RoundsPerHour$Tape" "land" "LRoundsPerHour$Country;", Cond.fieldLink RX6 23 "RoundsPerHour$Tape" "behind" "I", Cond.fieldLink RX6 33 "RoundsPerHour$Tape" "first" "I", Cond.fieldLink RX6 36 "RoundsPerHour$Tape" "sort" "I", Cond.methodLink RX6 26 yX6_next, Cond.instanceMethod yX6_next, Cond.selects RX6 yX6_next yX6_next, Cond.code yX6_next cX6_next 1 none, Cond.fieldLink RX6 15 "RoundsPerHour$Tape" "length" "I", Cond.fieldLink RX6 9 "RoundsPerHour$Tape" "bytes" "[I", Cond.methodLink RX6 135 yX6_isLetter, Cond.static yX6_isLetter, Cond.code yX6_isLetter cX6_isLetter 1 (some .boolean), Cond.methodLink RX6 138 yX6_isDigit, Cond.static yX6_isDigit, Cond.code yX6_isDigit cX6_isDigit 1 (some .boolean), Cond.methodLink RX6 141 yX6_takeDigits, Cond.instanceMethod yX6_takeDigits]
def wsX9_text_r3 : List Cond := [Cond.selects RX6 yX6_takeDigits yX6_takeDigits, Cond.code yX6_takeDigits cX6_takeDigits 1 none, Cond.fieldLink RX6 74 "RoundsPerHour$Tape" "number" "I", Cond.constant RX6 144 (1000000), Cond.methodLink RX6 145 Lib.Math.min.name, Cond.static Lib.Math.min.name, Cond.initialized "java/lang/Math", Cond.code Lib.Math.min.name Lib.Math.min.code 2 (some .int), Cond.methodLink RX6 29 yX6_item, Cond.instanceMethod yX6_item, Cond.selects RX6 yX6_item yX6_item, Cond.code yX6_item cX6_item 1 (some .boolean), Cond.methodLink RX6 41 yX6_isWord, Cond.instanceMethod yX6_isWord, Cond.selects RX6 yX6_isWord yX6_isWord, Cond.code yX6_isWord cX6_isWord 3 (some .boolean), Cond.methodLink RX6 127 yJ0_length_8abf5, Cond.instanceMethod yJ0_length_8abf5, Cond.selects RJ0 yJ0_length_8abf5 yJ0_length_8abf5, Cond.initialized RJ0, Cond.code yJ0_length_8abf5 cJ0_length_8abf5 1 (some .int), Cond.fieldLink RJ0 9 "java/lang/String" "value" "[B", Cond.methodLink RJ0 335 yJ0_coder_7d493, Cond.instanceMethod yJ0_coder_7d493]
def wsX9_text_r4 : List Cond := [Cond.selects RJ0 yJ0_coder_7d493 yJ0_coder_7d493, Cond.code yJ0_coder_7d493 cJ0_coder_7d493 1 (some .byte), Cond.fieldLink RJ0 38 "java/lang/String" "COMPACT_STRINGS" "Z", Cond.fieldLink RJ0 15 "java/lang/String" "coder" "B", Cond.methodLink RX6 131 yJ0_charAt_5068e, Cond.instanceMethod yJ0_charAt_5068e, Cond.selects RJ0 yJ0_charAt_5068e yJ0_charAt_5068e, Cond.code yJ0_charAt_5068e cJ0_charAt_5068e 2 (some .char), Cond.methodLink RJ0 492 yJ0_isLatin1_aae02, Cond.instanceMethod yJ0_isLatin1_aae02, Cond.selects RJ0 yJ0_isLatin1_aae02 yJ0_isLatin1_aae02, Cond.code yJ0_isLatin1_aae02 cJ0_isLatin1_aae02 1 (some .boolean), Cond.methodLink RJ0 495 yJ1_charAt_3b067, Cond.static yJ1_charAt_3b067, Cond.initialized RJ1, Cond.code yJ1_charAt_3b067 cJ1_charAt_3b067 2 (some .char), Cond.methodLink RJ1 9 yJ0_checkIndex_df160, Cond.static yJ0_checkIndex_df160, Cond.code yJ0_checkIndex_df160 cJ0_checkIndex_df160 2 none, Cond.fieldLink RJ0 1053 "jdk/internal/util/Preconditions" "SIOOBE_FORMATTER" "Ljava/util/function/BiFunction;", Cond.methodLink RJ0 1059 yJ3_checkIndex_8e157, Cond.static yJ3_checkIndex_8e157, Cond.initialized RJ3, Cond.code yJ3_checkIndex_8e157 cJ3_checkIndex_8e157 3 (some .int)]
def wsX9_text_r5 : List Cond := [Cond.methodLink RJ0 498 yJ2_charAt_3b067, Cond.static yJ2_charAt_3b067, Cond.initialized RJ2, Cond.code yJ2_charAt_3b067 cJ2_charAt_3b067 2 (some .char), Cond.methodLink RJ2 67 yJ2_checkIndex_2214a, Cond.static yJ2_checkIndex_2214a, Cond.code yJ2_checkIndex_2214a cJ2_checkIndex_2214a 2 none, Cond.methodLink RJ2 48 yJ2_length_9d52b, Cond.static yJ2_length_9d52b, Cond.code yJ2_length_9d52b cJ2_length_9d52b 1 (some .int), Cond.methodLink RJ2 414 yJ0_checkIndex_df160, Cond.methodLink RJ2 71 yJ2_getChar_3b067, Cond.static yJ2_getChar_3b067, Cond.code yJ2_getChar_3b067 cJ2_getChar_3b067 2 (some .char), Cond.fieldLink RJ2 44 "java/lang/StringUTF16" "$assertionsDisabled" "Z", Cond.fieldLink RJ2 59 "java/lang/StringUTF16" "HI_BYTE_SHIFT" "I", Cond.fieldLink RJ2 63 "java/lang/StringUTF16" "LO_BYTE_SHIFT" "I", Cond.methodLink RX6 45 yX6_placesItem, Cond.instanceMethod yX6_placesItem, Cond.selects RX6 yX6_placesItem yX6_placesItem, Cond.code yX6_placesItem cX6_placesItem 1 (some .boolean), Cond.fieldLink RX6 66 "RoundsPerHour$Country" "places" "I", Cond.methodLink RX6 70 yX6_isNumber, Cond.instanceMethod yX6_isNumber]
def wsX9_text_r6 : List Cond := [Cond.selects RX6 yX6_isNumber yX6_isNumber, Cond.code yX6_isNumber cX6_isNumber 3 (some .boolean), Cond.static yX9_within, Cond.initialized RX9, Cond.code yX9_within cX9_within 3 (some .boolean), Cond.methodLink RX6 50 yX6_weatherItem, Cond.instanceMethod yX6_weatherItem, Cond.selects RX6 yX6_weatherItem yX6_weatherItem, Cond.code yX6_weatherItem cX6_weatherItem 1 (some .boolean), Cond.fieldLink RX6 77 "RoundsPerHour$Country" "weather" "I", Cond.methodLink RX6 55 yX6_thingItem, Cond.instanceMethod yX6_thingItem, Cond.selects RX6 yX6_thingItem yX6_thingItem, Cond.code yX6_thingItem cX6_thingItem 1 (some .boolean), Cond.fieldLink RX6 79 "RoundsPerHour$Country" "things" "I", Cond.fieldLink RX6 85 "RoundsPerHour$Tape" "gain" "I", Cond.fieldLink RX6 88 "RoundsPerHour$Tape" "time" "I", Cond.methodLink RX6 82 yX6_gainAndTime, Cond.instanceMethod yX6_gainAndTime, Cond.selects RX6 yX6_gainAndTime yX6_gainAndTime, Cond.code yX6_gainAndTime cX6_gainAndTime 2 (some .boolean), Cond.constant RX6 109 (999999), Cond.methodLink RX6 91 yX1_newThing, Cond.instanceMethod yX1_newThing]
def wsX9_text_r7 : List Cond := [Cond.selects RX1 yX1_newThing yX1_newThing, Cond.code yX1_newThing cX1_newThing 3 (some .int), Cond.methodLink RX6 58 yX6_kindTold, Cond.instanceMethod yX6_kindTold, Cond.selects RX6 yX6_kindTold yX6_kindTold, Cond.code yX6_kindTold cX6_kindTold 1 (some .int), Cond.methodLink RX6 62 yX6_wayItem, Cond.instanceMethod yX6_wayItem, Cond.selects RX6 yX6_wayItem yX6_wayItem, Cond.code yX6_wayItem cX6_wayItem 5 (some .boolean), Cond.fieldLink RX6 95 "RoundsPerHour$Country" "ways" "I", Cond.fieldLink RX6 104 "RoundsPerHour$Country" "shut" "[I", Cond.methodLink RX6 98 yX1_newWay, Cond.instanceMethod yX1_newWay, Cond.selects RX1 yX1_newWay yX1_newWay, Cond.code yX1_newWay cX1_newWay 7 (some .int)]
def wsX9_text : List Cond := .code yX9_text cX9_text 2 (some .int) :: ((wsX9_text_r1 ++ (wsX9_text_r2 ++ (wsX9_text_r3 ++ (wsX9_text_r4 ++ (wsX9_text_r5 ++ (wsX9_text_r6 ++ wsX9_text_r7)))))) ++ wsX90 ++ wsX60 ++ wsX10)
def wsX9_sheet : List Cond := .code yX9_sheet cX9_sheet 4 (some .int) :: ([.fieldLink RX9 66 "RoundsPerHour" "sheets" "[LRoundsPerHour$Sheet;", .fieldLink RX9 336 "RoundsPerHour$Sheet" "size" "I", .methodLink RX9 75 yX9_within, .static yX9_within, .initialized RX9, .code yX9_within cX9_within 3 (some .boolean), .methodLink RX9 79 yX9_finding, .instanceMethod yX9_finding, .selects RX9 yX9_finding yX9_finding, .code yX9_finding cX9_finding 2 (some .int), .fieldLink RX9 70 "RoundsPerHour" "found" "[I", .constant RX9 361 (-2000000001), .methodLink RX9 332 yX5_begin, .instanceMethod yX5_begin, .selects RX5 yX5_begin yX5_begin, .initialized RX5, .code yX5_begin cX5_begin 4 none, .fieldLink RX5 15 "RoundsPerHour$Sheet" "bits" "I", .fieldLink RX5 19 "RoundsPerHour$Sheet" "size" "I", .fieldLink RX5 9 "RoundsPerHour$Sheet" "numbers" "[J"] ++ wsX90 ++ wsX50)
def wsX9_numberFault : List Cond := .code yX9_numberFault cX9_numberFault 4 (some .int) :: ([.fieldLink RX9 66 "RoundsPerHour" "sheets" "[LRoundsPerHour$Sheet;", .fieldLink RX9 336 "RoundsPerHour$Sheet" "size" "I", .methodLink RX9 315 yX9_sheetFault, .instanceMethod yX9_sheetFault, .selects RX9 yX9_sheetFault yX9_sheetFault, .initialized RX9, .code yX9_sheetFault cX9_sheetFault 2 (some .int), .fieldLink RX9 340 "RoundsPerHour$Sheet" "bits" "I", .methodLink RX9 75 yX9_within, .static yX9_within, .code yX9_within cX9_within 3 (some .boolean)] ++ wsX90 ++ wsX50)
def wsX9_write_r1 : List Cond := [Cond.fieldLink RX9 66 "RoundsPerHour" "sheets" "[LRoundsPerHour$Sheet;", Cond.methodLink RX9 337 yX9_numberFault, Cond.instanceMethod yX9_numberFault, Cond.selects RX9 yX9_numberFault yX9_numberFault, Cond.initialized RX9, Cond.code yX9_numberFault cX9_numberFault 4 (some .int), Cond.fieldLink RX9 336 "RoundsPerHour$Sheet" "size" "I", Cond.methodLink RX9 315 yX9_sheetFault, Cond.instanceMethod yX9_sheetFault, Cond.selects RX9 yX9_sheetFault yX9_sheetFault, Cond.code yX9_sheetFault cX9_sheetFault 2 (some .int), Cond.fieldLink RX9 340 "RoundsPerHour$Sheet" "bits" "I", Cond.methodLink RX9 75 yX9_within, Cond.static yX9_within, Cond.code yX9_within cX9_within 3 (some .boolean), Cond.methodLink RX9 79 yX9_finding, Cond.instanceMethod yX9_finding, Cond.selects RX9 yX9_finding yX9_finding, Cond.code yX9_finding cX9_finding 2 (some .int), Cond.fieldLink RX9 70 "RoundsPerHour" "found" "[I", Cond.constant RX9 361 (-2000000001), Cond.methodLink RX9 309 yX5_put, Cond.instanceMethod yX5_put, Cond.selects RX5 yX5_put yX5_put]
def wsX9_write_r2 : List Cond := [Cond.initialized RX5, Cond.code yX5_put cX5_put 4 none, Cond.fieldLink RX5 15 "RoundsPerHour$Sheet" "bits" "I", Cond.fieldLink RX5 9 "RoundsPerHour$Sheet" "numbers" "[J"]
def wsX9_write : List Cond := .code yX9_write cX9_write 6 (some .int) :: ((wsX9_write_r1 ++ wsX9_write_r2) ++ wsX90 ++ wsX50)
def wsX9_read : List Cond := .code yX9_read cX9_read 4 (some .long) :: ([.fieldLink RX9 66 "RoundsPerHour" "sheets" "[LRoundsPerHour$Sheet;", .fieldLink RX9 295 "RoundsPerHour$Sheet" "numbers" "[J", .methodLink RX9 337 yX9_numberFault, .instanceMethod yX9_numberFault, .selects RX9 yX9_numberFault yX9_numberFault, .initialized RX9, .code yX9_numberFault cX9_numberFault 4 (some .int), .fieldLink RX9 336 "RoundsPerHour$Sheet" "size" "I", .methodLink RX9 315 yX9_sheetFault, .instanceMethod yX9_sheetFault, .selects RX9 yX9_sheetFault yX9_sheetFault, .code yX9_sheetFault cX9_sheetFault 2 (some .int), .fieldLink RX9 340 "RoundsPerHour$Sheet" "bits" "I", .methodLink RX9 75 yX9_within, .static yX9_within, .code yX9_within cX9_within 3 (some .boolean), .methodLink RX9 164 yX9_longFinding, .instanceMethod yX9_longFinding, .selects RX9 yX9_longFinding yX9_longFinding, .code yX9_longFinding cX9_longFinding 2 (some .long), .fieldLink RX9 70 "RoundsPerHour" "found" "[I", .constantLong RX9 203 (-4000000000000000001)] ++ wsX90 ++ wsX50)
def wsX9_copy : List Cond := .code yX9_copy cX9_copy 6 (some .int) :: ([.fieldLink RX9 66 "RoundsPerHour" "sheets" "[LRoundsPerHour$Sheet;", .fieldLink RX9 340 "RoundsPerHour$Sheet" "bits" "I", .fieldLink RX9 295 "RoundsPerHour$Sheet" "numbers" "[J", .methodLink RX9 346 arraycopyName, .native arraycopyName, .static arraycopyName, .initialized "java/lang/System", .methodLink RX9 75 yX9_within, .static yX9_within, .initialized RX9, .code yX9_within cX9_within 3 (some .boolean), .methodLink RX9 79 yX9_finding, .instanceMethod yX9_finding, .selects RX9 yX9_finding yX9_finding, .code yX9_finding cX9_finding 2 (some .int), .fieldLink RX9 70 "RoundsPerHour" "found" "[I", .constant RX9 361 (-2000000001), .methodLink RX9 343 yX5_hasRun, .instanceMethod yX5_hasRun, .selects RX5 yX5_hasRun yX5_hasRun, .initialized RX5, .code yX5_hasRun cX5_hasRun 3 (some .boolean), .fieldLink RX5 19 "RoundsPerHour$Sheet" "size" "I"] ++ wsX90 ++ wsX50)
def wsX9_lays_r1 : List Cond := [Cond.fieldLink RX9 66 "RoundsPerHour" "sheets" "[LRoundsPerHour$Sheet;", Cond.fieldLink RX9 336 "RoundsPerHour$Sheet" "size" "I", Cond.fieldLink RX9 12 "RoundsPerHour" "now" "LRoundsPerHour$Country;", Cond.fieldLink RX9 83 "RoundsPerHour$Country" "ways" "I", Cond.methodLink RX9 352 Lib.Math.min.name, Cond.static Lib.Math.min.name, Cond.initialized "java/lang/Math", Cond.code Lib.Math.min.name Lib.Math.min.code 2 (some .int), Cond.fieldLink RX9 295 "RoundsPerHour$Sheet" "numbers" "[J", Cond.constantLong RX9 214 (-999999999), Cond.constantLong RX9 226 (999999999), Cond.fieldLink RX9 122 "RoundsPerHour$Country" "gain" "[I", Cond.methodLink RX9 315 yX9_sheetFault, Cond.instanceMethod yX9_sheetFault, Cond.selects RX9 yX9_sheetFault yX9_sheetFault, Cond.initialized RX9, Cond.code yX9_sheetFault cX9_sheetFault 2 (some .int), Cond.fieldLink RX9 340 "RoundsPerHour$Sheet" "bits" "I", Cond.methodLink RX9 75 yX9_within, Cond.static yX9_within, Cond.code yX9_within cX9_within 3 (some .boolean), Cond.methodLink RX9 79 yX9_finding, Cond.instanceMethod yX9_finding, Cond.selects RX9 yX9_finding yX9_finding]
def wsX9_lays_r2 : List Cond := [Cond.code yX9_finding cX9_finding 2 (some .int), Cond.fieldLink RX9 70 "RoundsPerHour" "found" "[I", Cond.constant RX9 361 (-2000000001)]
def wsX9_lays : List Cond := .code yX9_lays cX9_lays 8 (some .int) :: ((wsX9_lays_r1 ++ wsX9_lays_r2) ++ wsX90 ++ wsX50 ++ wsX10)
def wsX9_image : List Cond := .code yX9_image cX9_image 1 (some .int) :: ([.fieldLink RX9 16 "RoundsPerHour" "kept" "LRoundsPerHour$Country;", .fieldLink RX9 12 "RoundsPerHour" "now" "LRoundsPerHour$Country;", .fieldLink RX9 354 "RoundsPerHour" "isKept" "Z", .methodLink RX9 231 yX1_become, .instanceMethod yX1_become, .selects RX1 yX1_become yX1_become, .initialized RX1, .code yX1_become cX1_become 2 none, .fieldLink RX1 9 "RoundsPerHour$Country" "places" "I", .fieldLink RX1 50 "RoundsPerHour$Country" "weather" "I", .fieldLink RX1 44 "RoundsPerHour$Country" "ways" "I", .fieldLink RX1 47 "RoundsPerHour$Country" "things" "I", .fieldLink RX1 15 "RoundsPerHour$Country" "kind" "[I", .methodLink RX1 80 arraycopyName, .native arraycopyName, .static arraycopyName, .initialized "java/lang/System", .fieldLink RX1 19 "RoundsPerHour$Country" "from" "[I", .fieldLink RX1 22 "RoundsPerHour$Country" "to" "[I", .fieldLink RX1 25 "RoundsPerHour$Country" "gain" "[I", .fieldLink RX1 28 "RoundsPerHour$Country" "time" "[I", .fieldLink RX1 31 "RoundsPerHour$Country" "shut" "[I", .fieldLink RX1 34 "RoundsPerHour$Country" "thingGain" "[I", .fieldLink RX1 37 "RoundsPerHour$Country" "thingTime" "[I"] ++ wsX90 ++ wsX10)
def wsX9_undo_r1 : List Cond := [Cond.fieldLink RX9 354 "RoundsPerHour" "isKept" "Z", Cond.fieldLink RX9 12 "RoundsPerHour" "now" "LRoundsPerHour$Country;", Cond.fieldLink RX9 16 "RoundsPerHour" "kept" "LRoundsPerHour$Country;", Cond.fieldLink RX9 83 "RoundsPerHour$Country" "ways" "I", Cond.methodLink RX9 79 yX9_finding, Cond.instanceMethod yX9_finding, Cond.selects RX9 yX9_finding yX9_finding, Cond.initialized RX9, Cond.code yX9_finding cX9_finding 2 (some .int), Cond.fieldLink RX9 70 "RoundsPerHour" "found" "[I", Cond.constant RX9 361 (-2000000001), Cond.methodLink RX9 231 yX1_become, Cond.instanceMethod yX1_become, Cond.selects RX1 yX1_become yX1_become, Cond.initialized RX1, Cond.code yX1_become cX1_become 2 none, Cond.fieldLink RX1 9 "RoundsPerHour$Country" "places" "I", Cond.fieldLink RX1 50 "RoundsPerHour$Country" "weather" "I", Cond.fieldLink RX1 44 "RoundsPerHour$Country" "ways" "I", Cond.fieldLink RX1 47 "RoundsPerHour$Country" "things" "I", Cond.fieldLink RX1 15 "RoundsPerHour$Country" "kind" "[I", Cond.methodLink RX1 80 arraycopyName, Cond.native arraycopyName, Cond.static arraycopyName]
def wsX9_undo_r2 : List Cond := [Cond.initialized "java/lang/System", Cond.fieldLink RX1 19 "RoundsPerHour$Country" "from" "[I", Cond.fieldLink RX1 22 "RoundsPerHour$Country" "to" "[I", Cond.fieldLink RX1 25 "RoundsPerHour$Country" "gain" "[I", Cond.fieldLink RX1 28 "RoundsPerHour$Country" "time" "[I", Cond.fieldLink RX1 31 "RoundsPerHour$Country" "shut" "[I", Cond.fieldLink RX1 34 "RoundsPerHour$Country" "thingGain" "[I", Cond.fieldLink RX1 37 "RoundsPerHour$Country" "thingTime" "[I"]
def wsX9_undo : List Cond := .code yX9_undo cX9_undo 1 (some .int) :: ((wsX9_undo_r1 ++ wsX9_undo_r2) ++ wsX90 ++ wsX10)
def wsX9_tear : List Cond := .code yX9_tear cX9_tear 2 (some .int) :: ([.fieldLink RX9 354 "RoundsPerHour" "isKept" "Z"] ++ wsX90)
def wsX9_count : List Cond := .code yX9_count cX9_count 2 (some .int) :: ([.fieldLink RX9 12 "RoundsPerHour" "now" "LRoundsPerHour$Country;", .fieldLink RX9 93 "RoundsPerHour$Country" "places" "I", .fieldLink RX9 83 "RoundsPerHour$Country" "ways" "I", .fieldLink RX9 148 "RoundsPerHour$Country" "things" "I", .fieldLink RX9 96 "RoundsPerHour$Country" "weather" "I", .fieldLink RX9 60 "RoundsPerHour" "tape" "LRoundsPerHour$Tape;", .fieldLink RX9 321 "RoundsPerHour$Tape" "length" "I", .methodLink RX9 358 yX1_shutWays, .instanceMethod yX1_shutWays, .selects RX1 yX1_shutWays yX1_shutWays, .initialized RX1, .code yX1_shutWays cX1_shutWays 3 (some .int), .fieldLink RX1 44 "RoundsPerHour$Country" "ways" "I", .fieldLink RX1 31 "RoundsPerHour$Country" "shut" "[I", .methodLink RX9 79 yX9_finding, .instanceMethod yX9_finding, .selects RX9 yX9_finding yX9_finding, .initialized RX9, .code yX9_finding cX9_finding 2 (some .int), .fieldLink RX9 70 "RoundsPerHour" "found" "[I", .constant RX9 361 (-2000000001)] ++ wsX90 ++ wsX10 ++ wsX60)
def wsX9_status : List Cond := .code yX9_status cX9_status 4 (some .int) :: ([.fieldLink RX9 70 "RoundsPerHour" "found" "[I", .methodLink RX9 75 yX9_within, .static yX9_within, .initialized RX9, .code yX9_within cX9_within 3 (some .boolean), .methodLink RX9 79 yX9_finding, .instanceMethod yX9_finding, .selects RX9 yX9_finding yX9_finding, .code yX9_finding cX9_finding 2 (some .int), .constant RX9 361 (-2000000001)] ++ wsX90)
def wsX10_init : List Cond := .code yX10_init cX10_init 1 none :: ([.methodLink RX10 3 objectInit, .instanceMethod objectInit, .code objectInit ⟨#[0xb1]⟩ 1 none, .arrayClass .int, .fieldLink RX10 9 "RoundsPerHourModel" "found" "[I", .fieldLink RX10 15 "RoundsPerHourModel" "places" "I", .fieldLink RX10 19 "RoundsPerHourModel" "way" "[I", .fieldLink RX10 22 "RoundsPerHourModel" "thing" "[I", .fieldLink RX10 25 "RoundsPerHourModel" "base" "[I", .arrayClass .long, .fieldLink RX10 28 "RoundsPerHourModel" "lifted" "[J", .fieldLink RX10 32 "RoundsPerHourModel" "bitsOf" "[I", .fieldLink RX10 35 "RoundsPerHourModel" "sizeOf" "[I", .fieldLink RX10 38 "RoundsPerHourModel" "number" "[J", .fieldLink RX10 41 "RoundsPerHourModel" "moved" "[J", .fieldLink RX10 44 "RoundsPerHourModel" "tape" "[I", .arrayClass .char, .fieldLink RX10 47 "RoundsPerHourModel" "words" "[C", .fieldLink RX10 51 "RoundsPerHourModel" "kept" "[I"] ++ wsX100)
def wsX10_in : List Cond := .code yX10_in cX10_in 6 (some .boolean) :: ([])
def wsX10_finds : List Cond := .code yX10_finds cX10_finds 2 (some .int) :: ([.fieldLink RX10 9 "RoundsPerHourModel" "found" "[I", .constant RX10 54 (-2000000001)] ++ wsX100)
def wsX10_farFinds : List Cond := .code yX10_farFinds cX10_farFinds 2 (some .long) :: ([.fieldLink RX10 9 "RoundsPerHourModel" "found" "[I", .constantLong RX10 55 (-4000000000000000001)] ++ wsX100)
def wsX10_at : List Cond := .code yX10_at cX10_at 3 (some .int) :: ([.fieldLink RX10 19 "RoundsPerHourModel" "way" "[I"] ++ wsX100)
def wsX10_isPlace : List Cond := .code yX10_isPlace cX10_isPlace 2 (some .boolean) :: ([.fieldLink RX10 15 "RoundsPerHourModel" "places" "I", .methodLink RX10 57 yX10_in, .static yX10_in, .initialized RX10, .code yX10_in cX10_in 6 (some .boolean)] ++ wsX100)
def wsX10_isWay : List Cond := .code yX10_isWay cX10_isWay 2 (some .boolean) :: ([.fieldLink RX10 61 "RoundsPerHourModel" "ways" "I", .methodLink RX10 57 yX10_in, .static yX10_in, .initialized RX10, .code yX10_in cX10_in 6 (some .boolean)] ++ wsX100)
def wsX10_isGain : List Cond := .code yX10_isGain cX10_isGain 2 (some .boolean) :: ([.constantLong RX10 64 (-999999999), .constantLong RX10 66 (999999999), .methodLink RX10 57 yX10_in, .static yX10_in, .initialized RX10, .code yX10_in cX10_in 6 (some .boolean)])
def wsX10_isTime : List Cond := .code yX10_isTime cX10_isTime 1 (some .boolean) :: ([.constantLong RX10 68 (999999), .methodLink RX10 57 yX10_in, .static yX10_in, .initialized RX10, .code yX10_in cX10_in 6 (some .boolean)])
def wsX10_brings : List Cond := .code yX10_brings cX10_brings 3 (some .int) :: ([.fieldLink RX10 74 "RoundsPerHourModel" "weather" "I", .methodLink RX10 70 yX10_at, .instanceMethod yX10_at, .selects RX10 yX10_at yX10_at, .initialized RX10, .code yX10_at cX10_at 3 (some .int), .fieldLink RX10 19 "RoundsPerHourModel" "way" "[I"] ++ wsX100)
def wsX10_lasts : List Cond := .code yX10_lasts cX10_lasts 3 (some .int) :: ([.fieldLink RX10 74 "RoundsPerHourModel" "weather" "I", .methodLink RX10 70 yX10_at, .instanceMethod yX10_at, .selects RX10 yX10_at yX10_at, .initialized RX10, .code yX10_at cX10_at 3 (some .int), .fieldLink RX10 19 "RoundsPerHourModel" "way" "[I"] ++ wsX100)
def wsX10_places : List Cond := .code yX10_places cX10_places 3 (some .int) :: ([.constantLong RX10 77 (2), .constantLong RX10 79 (6), .fieldLink RX10 61 "RoundsPerHourModel" "ways" "I", .fieldLink RX10 15 "RoundsPerHourModel" "places" "I", .methodLink RX10 57 yX10_in, .static yX10_in, .initialized RX10, .code yX10_in cX10_in 6 (some .boolean), .methodLink RX10 81 yX10_finds, .instanceMethod yX10_finds, .selects RX10 yX10_finds yX10_finds, .code yX10_finds cX10_finds 2 (some .int), .fieldLink RX10 9 "RoundsPerHourModel" "found" "[I", .constant RX10 54 (-2000000001), .methodLink RX10 70 yX10_at, .instanceMethod yX10_at, .selects RX10 yX10_at yX10_at, .code yX10_at cX10_at 3 (some .int), .fieldLink RX10 19 "RoundsPerHourModel" "way" "[I"] ++ wsX100)
def wsX10_weather : List Cond := .code yX10_weather cX10_weather 3 (some .int) :: ([.constantLong RX10 85 (5), .fieldLink RX10 74 "RoundsPerHourModel" "weather" "I", .methodLink RX10 57 yX10_in, .static yX10_in, .initialized RX10, .code yX10_in cX10_in 6 (some .boolean), .methodLink RX10 81 yX10_finds, .instanceMethod yX10_finds, .selects RX10 yX10_finds yX10_finds, .code yX10_finds cX10_finds 2 (some .int), .fieldLink RX10 9 "RoundsPerHourModel" "found" "[I", .constant RX10 54 (-2000000001)] ++ wsX100)
def wsX10_addWay : List Cond := .code yX10_addWay cX10_addWay 7 none :: ([.fieldLink RX10 61 "RoundsPerHourModel" "ways" "I", .fieldLink RX10 19 "RoundsPerHourModel" "way" "[I"] ++ wsX100)
def wsX10_way_r1 : List Cond := [Cond.constantLong RX10 85 (5), Cond.fieldLink RX10 61 "RoundsPerHourModel" "ways" "I", Cond.methodLink RX10 57 yX10_in, Cond.static yX10_in, Cond.initialized RX10, Cond.code yX10_in cX10_in 6 (some .boolean), Cond.methodLink RX10 87 yX10_isPlace, Cond.instanceMethod yX10_isPlace, Cond.selects RX10 yX10_isPlace yX10_isPlace, Cond.code yX10_isPlace cX10_isPlace 2 (some .boolean), Cond.fieldLink RX10 15 "RoundsPerHourModel" "places" "I", Cond.methodLink RX10 91 yX10_isGain, Cond.static yX10_isGain, Cond.code yX10_isGain cX10_isGain 2 (some .boolean), Cond.constantLong RX10 64 (-999999999), Cond.constantLong RX10 66 (999999999), Cond.methodLink RX10 95 yX10_isTime, Cond.static yX10_isTime, Cond.code yX10_isTime cX10_isTime 1 (some .boolean), Cond.constantLong RX10 68 (999999), Cond.methodLink RX10 81 yX10_finds, Cond.instanceMethod yX10_finds, Cond.selects RX10 yX10_finds yX10_finds, Cond.code yX10_finds cX10_finds 2 (some .int)]
def wsX10_way_r2 : List Cond := [Cond.fieldLink RX10 9 "RoundsPerHourModel" "found" "[I", Cond.constant RX10 54 (-2000000001), Cond.methodLink RX10 98 yX10_addWay, Cond.instanceMethod yX10_addWay, Cond.selects RX10 yX10_addWay yX10_addWay, Cond.code yX10_addWay cX10_addWay 7 none, Cond.fieldLink RX10 19 "RoundsPerHourModel" "way" "[I"]
def wsX10_way : List Cond := .code yX10_way cX10_way 6 (some .int) :: ((wsX10_way_r1 ++ wsX10_way_r2) ++ wsX100)
def wsX10_of_r1 : List Cond := [Cond.constantLong RX10 105 (7), Cond.methodLink RX10 102 yX10_isWay, Cond.instanceMethod yX10_isWay, Cond.selects RX10 yX10_isWay yX10_isWay, Cond.initialized RX10, Cond.code yX10_isWay cX10_isWay 2 (some .boolean), Cond.fieldLink RX10 61 "RoundsPerHourModel" "ways" "I", Cond.methodLink RX10 57 yX10_in, Cond.static yX10_in, Cond.code yX10_in cX10_in 6 (some .boolean), Cond.methodLink RX10 81 yX10_finds, Cond.instanceMethod yX10_finds, Cond.selects RX10 yX10_finds yX10_finds, Cond.code yX10_finds cX10_finds 2 (some .int), Cond.fieldLink RX10 9 "RoundsPerHourModel" "found" "[I", Cond.constant RX10 54 (-2000000001), Cond.methodLink RX10 70 yX10_at, Cond.instanceMethod yX10_at, Cond.selects RX10 yX10_at yX10_at, Cond.code yX10_at cX10_at 3 (some .int), Cond.fieldLink RX10 19 "RoundsPerHourModel" "way" "[I", Cond.methodLink RX10 107 yX10_brings, Cond.instanceMethod yX10_brings, Cond.selects RX10 yX10_brings yX10_brings]
def wsX10_of_r2 : List Cond := [Cond.code yX10_brings cX10_brings 3 (some .int), Cond.fieldLink RX10 74 "RoundsPerHourModel" "weather" "I", Cond.methodLink RX10 110 yX10_lasts, Cond.instanceMethod yX10_lasts, Cond.selects RX10 yX10_lasts yX10_lasts, Cond.code yX10_lasts cX10_lasts 3 (some .int)]
def wsX10_of : List Cond := .code yX10_of cX10_of 3 (some .int) :: ((wsX10_of_r1 ++ wsX10_of_r2) ++ wsX100)
def wsX10_mayBe : List Cond := .code yX10_mayBe cX10_mayBe 4 (some .boolean) :: ([.constantLong RX10 85 (5), .methodLink RX10 57 yX10_in, .static yX10_in, .initialized RX10, .code yX10_in cX10_in 6 (some .boolean), .methodLink RX10 87 yX10_isPlace, .instanceMethod yX10_isPlace, .selects RX10 yX10_isPlace yX10_isPlace, .code yX10_isPlace cX10_isPlace 2 (some .boolean), .fieldLink RX10 15 "RoundsPerHourModel" "places" "I", .methodLink RX10 70 yX10_at, .instanceMethod yX10_at, .selects RX10 yX10_at yX10_at, .code yX10_at cX10_at 3 (some .int), .fieldLink RX10 19 "RoundsPerHourModel" "way" "[I", .methodLink RX10 91 yX10_isGain, .static yX10_isGain, .code yX10_isGain cX10_isGain 2 (some .boolean), .constantLong RX10 64 (-999999999), .constantLong RX10 66 (999999999), .methodLink RX10 95 yX10_isTime, .static yX10_isTime, .code yX10_isTime cX10_isTime 1 (some .boolean), .constantLong RX10 68 (999999)] ++ wsX100)
def wsX10_change_r1 : List Cond := [Cond.fieldLink RX10 19 "RoundsPerHourModel" "way" "[I", Cond.methodLink RX10 102 yX10_isWay, Cond.instanceMethod yX10_isWay, Cond.selects RX10 yX10_isWay yX10_isWay, Cond.initialized RX10, Cond.code yX10_isWay cX10_isWay 2 (some .boolean), Cond.fieldLink RX10 61 "RoundsPerHourModel" "ways" "I", Cond.methodLink RX10 57 yX10_in, Cond.static yX10_in, Cond.code yX10_in cX10_in 6 (some .boolean), Cond.methodLink RX10 113 yX10_mayBe, Cond.instanceMethod yX10_mayBe, Cond.selects RX10 yX10_mayBe yX10_mayBe, Cond.code yX10_mayBe cX10_mayBe 4 (some .boolean), Cond.constantLong RX10 85 (5), Cond.methodLink RX10 87 yX10_isPlace, Cond.instanceMethod yX10_isPlace, Cond.selects RX10 yX10_isPlace yX10_isPlace, Cond.code yX10_isPlace cX10_isPlace 2 (some .boolean), Cond.fieldLink RX10 15 "RoundsPerHourModel" "places" "I", Cond.methodLink RX10 70 yX10_at, Cond.instanceMethod yX10_at, Cond.selects RX10 yX10_at yX10_at, Cond.code yX10_at cX10_at 3 (some .int)]
def wsX10_change_r2 : List Cond := [Cond.methodLink RX10 91 yX10_isGain, Cond.static yX10_isGain, Cond.code yX10_isGain cX10_isGain 2 (some .boolean), Cond.constantLong RX10 64 (-999999999), Cond.constantLong RX10 66 (999999999), Cond.methodLink RX10 95 yX10_isTime, Cond.static yX10_isTime, Cond.code yX10_isTime cX10_isTime 1 (some .boolean), Cond.constantLong RX10 68 (999999), Cond.methodLink RX10 81 yX10_finds, Cond.instanceMethod yX10_finds, Cond.selects RX10 yX10_finds yX10_finds, Cond.code yX10_finds cX10_finds 2 (some .int), Cond.fieldLink RX10 9 "RoundsPerHourModel" "found" "[I", Cond.constant RX10 54 (-2000000001)]
def wsX10_change : List Cond := .code yX10_change cX10_change 5 (some .int) :: ((wsX10_change_r1 ++ wsX10_change_r2) ++ wsX100)
def wsX10_as : List Cond := .code yX10_as cX10_as 5 (some .int) :: ([.constantLong RX10 85 (5), .methodLink RX10 102 yX10_isWay, .instanceMethod yX10_isWay, .selects RX10 yX10_isWay yX10_isWay, .initialized RX10, .code yX10_isWay cX10_isWay 2 (some .boolean), .fieldLink RX10 61 "RoundsPerHourModel" "ways" "I", .methodLink RX10 57 yX10_in, .static yX10_in, .code yX10_in cX10_in 6 (some .boolean), .methodLink RX10 81 yX10_finds, .instanceMethod yX10_finds, .selects RX10 yX10_finds yX10_finds, .code yX10_finds cX10_finds 2 (some .int), .fieldLink RX10 9 "RoundsPerHourModel" "found" "[I", .constant RX10 54 (-2000000001), .methodLink RX10 70 yX10_at, .instanceMethod yX10_at, .selects RX10 yX10_at yX10_at, .code yX10_at cX10_at 3 (some .int), .fieldLink RX10 19 "RoundsPerHourModel" "way" "[I"] ++ wsX100)
def wsX10_thing : List Cond := .code yX10_thing cX10_thing 3 (some .int) :: ([.fieldLink RX10 117 "RoundsPerHourModel" "things" "I", .fieldLink RX10 22 "RoundsPerHourModel" "thing" "[I", .methodLink RX10 91 yX10_isGain, .static yX10_isGain, .initialized RX10, .code yX10_isGain cX10_isGain 2 (some .boolean), .constantLong RX10 64 (-999999999), .constantLong RX10 66 (999999999), .methodLink RX10 57 yX10_in, .static yX10_in, .code yX10_in cX10_in 6 (some .boolean), .methodLink RX10 95 yX10_isTime, .static yX10_isTime, .code yX10_isTime cX10_isTime 1 (some .boolean), .constantLong RX10 68 (999999), .methodLink RX10 81 yX10_finds, .instanceMethod yX10_finds, .selects RX10 yX10_finds yX10_finds, .code yX10_finds cX10_finds 2 (some .int), .fieldLink RX10 9 "RoundsPerHourModel" "found" "[I", .constant RX10 54 (-2000000001)] ++ wsX100)
def wsX10_isThing : List Cond := .code yX10_isThing cX10_isThing 2 (some .boolean) :: ([.constantLong RX10 120 (-1), .fieldLink RX10 117 "RoundsPerHourModel" "things" "I", .methodLink RX10 57 yX10_in, .static yX10_in, .initialized RX10, .code yX10_in cX10_in 6 (some .boolean)] ++ wsX100)
def wsX10_alter_r1 : List Cond := [Cond.fieldLink RX10 25 "RoundsPerHourModel" "base" "[I", Cond.fieldLink RX10 22 "RoundsPerHourModel" "thing" "[I", Cond.methodLink RX10 122 yX10_isThing, Cond.instanceMethod yX10_isThing, Cond.selects RX10 yX10_isThing yX10_isThing, Cond.initialized RX10, Cond.code yX10_isThing cX10_isThing 2 (some .boolean), Cond.constantLong RX10 120 (-1), Cond.fieldLink RX10 117 "RoundsPerHourModel" "things" "I", Cond.methodLink RX10 57 yX10_in, Cond.static yX10_in, Cond.code yX10_in cX10_in 6 (some .boolean), Cond.methodLink RX10 91 yX10_isGain, Cond.static yX10_isGain, Cond.code yX10_isGain cX10_isGain 2 (some .boolean), Cond.constantLong RX10 64 (-999999999), Cond.constantLong RX10 66 (999999999), Cond.methodLink RX10 95 yX10_isTime, Cond.static yX10_isTime, Cond.code yX10_isTime cX10_isTime 1 (some .boolean), Cond.constantLong RX10 68 (999999), Cond.methodLink RX10 81 yX10_finds, Cond.instanceMethod yX10_finds, Cond.selects RX10 yX10_finds yX10_finds]
def wsX10_alter_r2 : List Cond := [Cond.code yX10_finds cX10_finds 2 (some .int), Cond.fieldLink RX10 9 "RoundsPerHourModel" "found" "[I", Cond.constant RX10 54 (-2000000001)]
def wsX10_alter : List Cond := .code yX10_alter cX10_alter 5 (some .int) :: ((wsX10_alter_r1 ++ wsX10_alter_r2) ++ wsX100)
def wsX10_its : List Cond := .code yX10_its cX10_its 3 (some .int) :: ([.fieldLink RX10 25 "RoundsPerHourModel" "base" "[I", .fieldLink RX10 22 "RoundsPerHourModel" "thing" "[I", .methodLink RX10 122 yX10_isThing, .instanceMethod yX10_isThing, .selects RX10 yX10_isThing yX10_isThing, .initialized RX10, .code yX10_isThing cX10_isThing 2 (some .boolean), .constantLong RX10 120 (-1), .fieldLink RX10 117 "RoundsPerHourModel" "things" "I", .methodLink RX10 57 yX10_in, .static yX10_in, .code yX10_in cX10_in 6 (some .boolean), .methodLink RX10 81 yX10_finds, .instanceMethod yX10_finds, .selects RX10 yX10_finds yX10_finds, .code yX10_finds cX10_finds 2 (some .int), .fieldLink RX10 9 "RoundsPerHourModel" "found" "[I", .constant RX10 54 (-2000000001)] ++ wsX100)
def wsX10_common : List Cond := .code yX10_common cX10_common 10 (some .long) :: ([])
def wsX10_lowest : List Cond := .code yX10_lowest cX10_lowest 7 (some .long) :: ([.methodLink RX10 125 yX10_common, .static yX10_common, .initialized RX10, .code yX10_common cX10_common 10 (some .long)])
def wsX10_openWays : List Cond := .code yX10_openWays cX10_openWays 3 (some .int) :: ([.fieldLink RX10 61 "RoundsPerHourModel" "ways" "I", .methodLink RX10 70 yX10_at, .instanceMethod yX10_at, .selects RX10 yX10_at yX10_at, .initialized RX10, .code yX10_at cX10_at 3 (some .int), .fieldLink RX10 19 "RoundsPerHourModel" "way" "[I"] ++ wsX100)
def wsX10_closes : List Cond := .code yX10_closes cX10_closes 8 none :: ([.fieldLink RX10 129 "RoundsPerHourModel" "must" "I", .fieldLink RX10 132 "RoundsPerHourModel" "isAny" "Z", .fieldLink RX10 136 "RoundsPerHourModel" "topBelow" "J", .fieldLink RX10 140 "RoundsPerHourModel" "topAbove" "J", .fieldLink RX10 143 "RoundsPerHourModel" "topWays" "I"] ++ wsX100)
def wsX10_goesRound_r1 : List Cond := [Cond.fieldLink RX10 61 "RoundsPerHourModel" "ways" "I", Cond.fieldLink RX10 146 "RoundsPerHourModel" "open" "I", Cond.methodLink RX10 70 yX10_at, Cond.instanceMethod yX10_at, Cond.selects RX10 yX10_at yX10_at, Cond.initialized RX10, Cond.code yX10_at cX10_at 3 (some .int), Cond.fieldLink RX10 19 "RoundsPerHourModel" "way" "[I", Cond.methodLink RX10 107 yX10_brings, Cond.instanceMethod yX10_brings, Cond.selects RX10 yX10_brings yX10_brings, Cond.code yX10_brings cX10_brings 3 (some .int), Cond.fieldLink RX10 74 "RoundsPerHourModel" "weather" "I", Cond.methodLink RX10 110 yX10_lasts, Cond.instanceMethod yX10_lasts, Cond.selects RX10 yX10_lasts yX10_lasts, Cond.code yX10_lasts cX10_lasts 3 (some .int), Cond.methodLink RX10 149 yX10_closes, Cond.instanceMethod yX10_closes, Cond.selects RX10 yX10_closes yX10_closes, Cond.code yX10_closes cX10_closes 8 none, Cond.fieldLink RX10 129 "RoundsPerHourModel" "must" "I", Cond.fieldLink RX10 132 "RoundsPerHourModel" "isAny" "Z", Cond.fieldLink RX10 136 "RoundsPerHourModel" "topBelow" "J"]
def wsX10_goesRound_r2 : List Cond := [Cond.fieldLink RX10 140 "RoundsPerHourModel" "topAbove" "J", Cond.fieldLink RX10 143 "RoundsPerHourModel" "topWays" "I", Cond.methodLink RX10 153 yX10_goesRound, Cond.instanceMethod yX10_goesRound, Cond.selects RX10 yX10_goesRound yX10_goesRound]
def wsX10_goesRound : List Cond := .code yX10_goesRound cX10_goesRound 15 none :: ((wsX10_goesRound_r1 ++ wsX10_goesRound_r2) ++ wsX100)
def wsX10_rings_r1 : List Cond := [Cond.fieldLink RX10 146 "RoundsPerHourModel" "open" "I", Cond.fieldLink RX10 129 "RoundsPerHourModel" "must" "I", Cond.fieldLink RX10 132 "RoundsPerHourModel" "isAny" "Z", Cond.fieldLink RX10 143 "RoundsPerHourModel" "topWays" "I", Cond.fieldLink RX10 15 "RoundsPerHourModel" "places" "I", Cond.methodLink RX10 153 yX10_goesRound, Cond.instanceMethod yX10_goesRound, Cond.selects RX10 yX10_goesRound yX10_goesRound, Cond.initialized RX10, Cond.code yX10_goesRound cX10_goesRound 15 none, Cond.fieldLink RX10 61 "RoundsPerHourModel" "ways" "I", Cond.methodLink RX10 70 yX10_at, Cond.instanceMethod yX10_at, Cond.selects RX10 yX10_at yX10_at, Cond.code yX10_at cX10_at 3 (some .int), Cond.fieldLink RX10 19 "RoundsPerHourModel" "way" "[I", Cond.methodLink RX10 107 yX10_brings, Cond.instanceMethod yX10_brings, Cond.selects RX10 yX10_brings yX10_brings, Cond.code yX10_brings cX10_brings 3 (some .int), Cond.fieldLink RX10 74 "RoundsPerHourModel" "weather" "I", Cond.methodLink RX10 110 yX10_lasts, Cond.instanceMethod yX10_lasts, Cond.selects RX10 yX10_lasts yX10_lasts]
def wsX10_rings_r2 : List Cond := [Cond.code yX10_lasts cX10_lasts 3 (some .int), Cond.methodLink RX10 149 yX10_closes, Cond.instanceMethod yX10_closes, Cond.selects RX10 yX10_closes yX10_closes, Cond.code yX10_closes cX10_closes 8 none, Cond.fieldLink RX10 136 "RoundsPerHourModel" "topBelow" "J", Cond.fieldLink RX10 140 "RoundsPerHourModel" "topAbove" "J"]
def wsX10_rings : List Cond := .code yX10_rings cX10_rings 4 (some .boolean) :: ((wsX10_rings_r1 ++ wsX10_rings_r2) ++ wsX100)
def wsX10_ringsNow_r1 : List Cond := [Cond.methodLink RX10 157 yX10_openWays, Cond.instanceMethod yX10_openWays, Cond.selects RX10 yX10_openWays yX10_openWays, Cond.initialized RX10, Cond.code yX10_openWays cX10_openWays 3 (some .int), Cond.fieldLink RX10 61 "RoundsPerHourModel" "ways" "I", Cond.methodLink RX10 70 yX10_at, Cond.instanceMethod yX10_at, Cond.selects RX10 yX10_at yX10_at, Cond.code yX10_at cX10_at 3 (some .int), Cond.fieldLink RX10 19 "RoundsPerHourModel" "way" "[I", Cond.methodLink RX10 161 yX10_rings, Cond.instanceMethod yX10_rings, Cond.selects RX10 yX10_rings yX10_rings, Cond.code yX10_rings cX10_rings 4 (some .boolean), Cond.fieldLink RX10 146 "RoundsPerHourModel" "open" "I", Cond.fieldLink RX10 129 "RoundsPerHourModel" "must" "I", Cond.fieldLink RX10 132 "RoundsPerHourModel" "isAny" "Z", Cond.fieldLink RX10 143 "RoundsPerHourModel" "topWays" "I", Cond.fieldLink RX10 15 "RoundsPerHourModel" "places" "I", Cond.methodLink RX10 153 yX10_goesRound, Cond.instanceMethod yX10_goesRound, Cond.selects RX10 yX10_goesRound yX10_goesRound, Cond.code yX10_goesRound cX10_goesRound 15 none]
def wsX10_ringsNow_r2 : List Cond := [Cond.methodLink RX10 107 yX10_brings, Cond.instanceMethod yX10_brings, Cond.selects RX10 yX10_brings yX10_brings, Cond.code yX10_brings cX10_brings 3 (some .int), Cond.fieldLink RX10 74 "RoundsPerHourModel" "weather" "I", Cond.methodLink RX10 110 yX10_lasts, Cond.instanceMethod yX10_lasts, Cond.selects RX10 yX10_lasts yX10_lasts, Cond.code yX10_lasts cX10_lasts 3 (some .int), Cond.methodLink RX10 149 yX10_closes, Cond.instanceMethod yX10_closes, Cond.selects RX10 yX10_closes yX10_closes, Cond.code yX10_closes cX10_closes 8 none, Cond.fieldLink RX10 136 "RoundsPerHourModel" "topBelow" "J", Cond.fieldLink RX10 140 "RoundsPerHourModel" "topAbove" "J"]
def wsX10_ringsNow : List Cond := .code yX10_ringsNow cX10_ringsNow 1 (some .boolean) :: ((wsX10_ringsNow_r1 ++ wsX10_ringsNow_r2) ++ wsX100)
def wsX10_ring_r1 : List Cond := [Cond.fieldLink RX10 140 "RoundsPerHourModel" "topAbove" "J", Cond.fieldLink RX10 136 "RoundsPerHourModel" "topBelow" "J", Cond.methodLink RX10 57 yX10_in, Cond.static yX10_in, Cond.initialized RX10, Cond.code yX10_in cX10_in 6 (some .boolean), Cond.methodLink RX10 165 yX10_farFinds, Cond.instanceMethod yX10_farFinds, Cond.selects RX10 yX10_farFinds yX10_farFinds, Cond.code yX10_farFinds cX10_farFinds 2 (some .long), Cond.fieldLink RX10 9 "RoundsPerHourModel" "found" "[I", Cond.constantLong RX10 55 (-4000000000000000001), Cond.methodLink RX10 169 yX10_ringsNow, Cond.instanceMethod yX10_ringsNow, Cond.selects RX10 yX10_ringsNow yX10_ringsNow, Cond.code yX10_ringsNow cX10_ringsNow 1 (some .boolean), Cond.methodLink RX10 157 yX10_openWays, Cond.instanceMethod yX10_openWays, Cond.selects RX10 yX10_openWays yX10_openWays, Cond.code yX10_openWays cX10_openWays 3 (some .int), Cond.fieldLink RX10 61 "RoundsPerHourModel" "ways" "I", Cond.methodLink RX10 70 yX10_at, Cond.instanceMethod yX10_at, Cond.selects RX10 yX10_at yX10_at]
def wsX10_ring_r2 : List Cond := [Cond.code yX10_at cX10_at 3 (some .int), Cond.fieldLink RX10 19 "RoundsPerHourModel" "way" "[I", Cond.methodLink RX10 161 yX10_rings, Cond.instanceMethod yX10_rings, Cond.selects RX10 yX10_rings yX10_rings, Cond.code yX10_rings cX10_rings 4 (some .boolean), Cond.fieldLink RX10 146 "RoundsPerHourModel" "open" "I", Cond.fieldLink RX10 129 "RoundsPerHourModel" "must" "I", Cond.fieldLink RX10 132 "RoundsPerHourModel" "isAny" "Z", Cond.fieldLink RX10 143 "RoundsPerHourModel" "topWays" "I", Cond.fieldLink RX10 15 "RoundsPerHourModel" "places" "I", Cond.methodLink RX10 153 yX10_goesRound, Cond.instanceMethod yX10_goesRound, Cond.selects RX10 yX10_goesRound yX10_goesRound, Cond.code yX10_goesRound cX10_goesRound 15 none, Cond.methodLink RX10 107 yX10_brings, Cond.instanceMethod yX10_brings, Cond.selects RX10 yX10_brings yX10_brings, Cond.code yX10_brings cX10_brings 3 (some .int), Cond.fieldLink RX10 74 "RoundsPerHourModel" "weather" "I", Cond.methodLink RX10 110 yX10_lasts, Cond.instanceMethod yX10_lasts, Cond.selects RX10 yX10_lasts yX10_lasts, Cond.code yX10_lasts cX10_lasts 3 (some .int)]
def wsX10_ring_r3 : List Cond := [Cond.methodLink RX10 149 yX10_closes, Cond.instanceMethod yX10_closes, Cond.selects RX10 yX10_closes yX10_closes, Cond.code yX10_closes cX10_closes 8 none, Cond.methodLink RX10 173 yX10_lowest, Cond.static yX10_lowest, Cond.code yX10_lowest cX10_lowest 7 (some .long), Cond.methodLink RX10 125 yX10_common, Cond.static yX10_common, Cond.code yX10_common cX10_common 10 (some .long)]
def wsX10_ring : List Cond := .code yX10_ring cX10_ring 2 (some .long) :: ((wsX10_ring_r1 ++ (wsX10_ring_r2 ++ wsX10_ring_r3)) ++ wsX100)
def wsX10_ringWays_r1 : List Cond := [Cond.fieldLink RX10 143 "RoundsPerHourModel" "topWays" "I", Cond.methodLink RX10 169 yX10_ringsNow, Cond.instanceMethod yX10_ringsNow, Cond.selects RX10 yX10_ringsNow yX10_ringsNow, Cond.initialized RX10, Cond.code yX10_ringsNow cX10_ringsNow 1 (some .boolean), Cond.methodLink RX10 157 yX10_openWays, Cond.instanceMethod yX10_openWays, Cond.selects RX10 yX10_openWays yX10_openWays, Cond.code yX10_openWays cX10_openWays 3 (some .int), Cond.fieldLink RX10 61 "RoundsPerHourModel" "ways" "I", Cond.methodLink RX10 70 yX10_at, Cond.instanceMethod yX10_at, Cond.selects RX10 yX10_at yX10_at, Cond.code yX10_at cX10_at 3 (some .int), Cond.fieldLink RX10 19 "RoundsPerHourModel" "way" "[I", Cond.methodLink RX10 161 yX10_rings, Cond.instanceMethod yX10_rings, Cond.selects RX10 yX10_rings yX10_rings, Cond.code yX10_rings cX10_rings 4 (some .boolean), Cond.fieldLink RX10 146 "RoundsPerHourModel" "open" "I", Cond.fieldLink RX10 129 "RoundsPerHourModel" "must" "I", Cond.fieldLink RX10 132 "RoundsPerHourModel" "isAny" "Z", Cond.fieldLink RX10 15 "RoundsPerHourModel" "places" "I"]
def wsX10_ringWays_r2 : List Cond := [Cond.methodLink RX10 153 yX10_goesRound, Cond.instanceMethod yX10_goesRound, Cond.selects RX10 yX10_goesRound yX10_goesRound, Cond.code yX10_goesRound cX10_goesRound 15 none, Cond.methodLink RX10 107 yX10_brings, Cond.instanceMethod yX10_brings, Cond.selects RX10 yX10_brings yX10_brings, Cond.code yX10_brings cX10_brings 3 (some .int), Cond.fieldLink RX10 74 "RoundsPerHourModel" "weather" "I", Cond.methodLink RX10 110 yX10_lasts, Cond.instanceMethod yX10_lasts, Cond.selects RX10 yX10_lasts yX10_lasts, Cond.code yX10_lasts cX10_lasts 3 (some .int), Cond.methodLink RX10 149 yX10_closes, Cond.instanceMethod yX10_closes, Cond.selects RX10 yX10_closes yX10_closes, Cond.code yX10_closes cX10_closes 8 none, Cond.fieldLink RX10 136 "RoundsPerHourModel" "topBelow" "J", Cond.fieldLink RX10 140 "RoundsPerHourModel" "topAbove" "J", Cond.methodLink RX10 81 yX10_finds, Cond.instanceMethod yX10_finds, Cond.selects RX10 yX10_finds yX10_finds, Cond.code yX10_finds cX10_finds 2 (some .int), Cond.fieldLink RX10 9 "RoundsPerHourModel" "found" "[I"]
def wsX10_ringWays_r3 : List Cond := [Cond.constant RX10 54 (-2000000001)]
def wsX10_ringWays : List Cond := .code yX10_ringWays cX10_ringWays 1 (some .int) :: ((wsX10_ringWays_r1 ++ (wsX10_ringWays_r2 ++ wsX10_ringWays_r3)) ++ wsX100)
def wsX10_lifts : List Cond := .code yX10_lifts cX10_lifts 11 (some .boolean) :: ([.fieldLink RX10 61 "RoundsPerHourModel" "ways" "I", .fieldLink RX10 28 "RoundsPerHourModel" "lifted" "[J", .constantLong RX10 177 (-9223372036854775808), .methodLink RX10 70 yX10_at, .instanceMethod yX10_at, .selects RX10 yX10_at yX10_at, .initialized RX10, .code yX10_at cX10_at 3 (some .int), .fieldLink RX10 19 "RoundsPerHourModel" "way" "[I", .methodLink RX10 107 yX10_brings, .instanceMethod yX10_brings, .selects RX10 yX10_brings yX10_brings, .code yX10_brings cX10_brings 3 (some .int), .fieldLink RX10 74 "RoundsPerHourModel" "weather" "I", .methodLink RX10 110 yX10_lasts, .instanceMethod yX10_lasts, .selects RX10 yX10_lasts yX10_lasts, .code yX10_lasts cX10_lasts 3 (some .int)] ++ wsX100)
def wsX10_lift_r1 : List Cond := [Cond.fieldLink RX10 140 "RoundsPerHourModel" "topAbove" "J", Cond.fieldLink RX10 136 "RoundsPerHourModel" "topBelow" "J", Cond.fieldLink RX10 15 "RoundsPerHourModel" "places" "I", Cond.fieldLink RX10 28 "RoundsPerHourModel" "lifted" "[J", Cond.constantLong RX10 177 (-9223372036854775808), Cond.methodLink RX10 87 yX10_isPlace, Cond.instanceMethod yX10_isPlace, Cond.selects RX10 yX10_isPlace yX10_isPlace, Cond.initialized RX10, Cond.code yX10_isPlace cX10_isPlace 2 (some .boolean), Cond.methodLink RX10 57 yX10_in, Cond.static yX10_in, Cond.code yX10_in cX10_in 6 (some .boolean), Cond.methodLink RX10 165 yX10_farFinds, Cond.instanceMethod yX10_farFinds, Cond.selects RX10 yX10_farFinds yX10_farFinds, Cond.code yX10_farFinds cX10_farFinds 2 (some .long), Cond.fieldLink RX10 9 "RoundsPerHourModel" "found" "[I", Cond.constantLong RX10 55 (-4000000000000000001), Cond.methodLink RX10 169 yX10_ringsNow, Cond.instanceMethod yX10_ringsNow, Cond.selects RX10 yX10_ringsNow yX10_ringsNow, Cond.code yX10_ringsNow cX10_ringsNow 1 (some .boolean), Cond.methodLink RX10 157 yX10_openWays]
def wsX10_lift_r2 : List Cond := [Cond.instanceMethod yX10_openWays, Cond.selects RX10 yX10_openWays yX10_openWays, Cond.code yX10_openWays cX10_openWays 3 (some .int), Cond.fieldLink RX10 61 "RoundsPerHourModel" "ways" "I", Cond.methodLink RX10 70 yX10_at, Cond.instanceMethod yX10_at, Cond.selects RX10 yX10_at yX10_at, Cond.code yX10_at cX10_at 3 (some .int), Cond.fieldLink RX10 19 "RoundsPerHourModel" "way" "[I", Cond.methodLink RX10 161 yX10_rings, Cond.instanceMethod yX10_rings, Cond.selects RX10 yX10_rings yX10_rings, Cond.code yX10_rings cX10_rings 4 (some .boolean), Cond.fieldLink RX10 146 "RoundsPerHourModel" "open" "I", Cond.fieldLink RX10 129 "RoundsPerHourModel" "must" "I", Cond.fieldLink RX10 132 "RoundsPerHourModel" "isAny" "Z", Cond.fieldLink RX10 143 "RoundsPerHourModel" "topWays" "I", Cond.methodLink RX10 153 yX10_goesRound, Cond.instanceMethod yX10_goesRound, Cond.selects RX10 yX10_goesRound yX10_goesRound, Cond.code yX10_goesRound cX10_goesRound 15 none, Cond.methodLink RX10 107 yX10_brings, Cond.instanceMethod yX10_brings, Cond.selects RX10 yX10_brings yX10_brings]
def wsX10_lift_r3 : List Cond := [Cond.code yX10_brings cX10_brings 3 (some .int), Cond.fieldLink RX10 74 "RoundsPerHourModel" "weather" "I", Cond.methodLink RX10 110 yX10_lasts, Cond.instanceMethod yX10_lasts, Cond.selects RX10 yX10_lasts yX10_lasts, Cond.code yX10_lasts cX10_lasts 3 (some .int), Cond.methodLink RX10 149 yX10_closes, Cond.instanceMethod yX10_closes, Cond.selects RX10 yX10_closes yX10_closes, Cond.code yX10_closes cX10_closes 8 none, Cond.methodLink RX10 173 yX10_lowest, Cond.static yX10_lowest, Cond.code yX10_lowest cX10_lowest 7 (some .long), Cond.methodLink RX10 125 yX10_common, Cond.static yX10_common, Cond.code yX10_common cX10_common 10 (some .long), Cond.methodLink RX10 179 yX10_lifts, Cond.instanceMethod yX10_lifts, Cond.selects RX10 yX10_lifts yX10_lifts, Cond.code yX10_lifts cX10_lifts 11 (some .boolean)]
def wsX10_lift : List Cond := .code yX10_lift cX10_lift 8 (some .long) :: ((wsX10_lift_r1 ++ (wsX10_lift_r2 ++ wsX10_lift_r3)) ++ wsX100)
def wsX10_product : List Cond := .code yX10_product cX10_product 7 (some .long) :: ([.fieldLink RX10 183 "RoundsPerHourModel" "hasRoom" "Z", .constantLong RX10 120 (-1), .constantLong RX10 177 (-9223372036854775808)] ++ wsX100)
def wsX10_sum : List Cond := .code yX10_sum cX10_sum 7 (some .long) :: ([.fieldLink RX10 183 "RoundsPerHourModel" "hasRoom" "Z"] ++ wsX100)
def wsX10_worth_r1 : List Cond := [Cond.fieldLink RX10 183 "RoundsPerHourModel" "hasRoom" "Z", Cond.fieldLink RX10 140 "RoundsPerHourModel" "topAbove" "J", Cond.fieldLink RX10 136 "RoundsPerHourModel" "topBelow" "J", Cond.constantLong RX10 189 (-4000000000000000000), Cond.methodLink RX10 169 yX10_ringsNow, Cond.instanceMethod yX10_ringsNow, Cond.selects RX10 yX10_ringsNow yX10_ringsNow, Cond.initialized RX10, Cond.code yX10_ringsNow cX10_ringsNow 1 (some .boolean), Cond.methodLink RX10 157 yX10_openWays, Cond.instanceMethod yX10_openWays, Cond.selects RX10 yX10_openWays yX10_openWays, Cond.code yX10_openWays cX10_openWays 3 (some .int), Cond.fieldLink RX10 61 "RoundsPerHourModel" "ways" "I", Cond.methodLink RX10 70 yX10_at, Cond.instanceMethod yX10_at, Cond.selects RX10 yX10_at yX10_at, Cond.code yX10_at cX10_at 3 (some .int), Cond.fieldLink RX10 19 "RoundsPerHourModel" "way" "[I", Cond.methodLink RX10 161 yX10_rings, Cond.instanceMethod yX10_rings, Cond.selects RX10 yX10_rings yX10_rings, Cond.code yX10_rings cX10_rings 4 (some .boolean), Cond.fieldLink RX10 146 "RoundsPerHourModel" "open" "I"]
def wsX10_worth_r2 : List Cond := [Cond.fieldLink RX10 129 "RoundsPerHourModel" "must" "I", Cond.fieldLink RX10 132 "RoundsPerHourModel" "isAny" "Z", Cond.fieldLink RX10 143 "RoundsPerHourModel" "topWays" "I", Cond.fieldLink RX10 15 "RoundsPerHourModel" "places" "I", Cond.methodLink RX10 153 yX10_goesRound, Cond.instanceMethod yX10_goesRound, Cond.selects RX10 yX10_goesRound yX10_goesRound, Cond.code yX10_goesRound cX10_goesRound 15 none, Cond.methodLink RX10 107 yX10_brings, Cond.instanceMethod yX10_brings, Cond.selects RX10 yX10_brings yX10_brings, Cond.code yX10_brings cX10_brings 3 (some .int), Cond.fieldLink RX10 74 "RoundsPerHourModel" "weather" "I", Cond.methodLink RX10 110 yX10_lasts, Cond.instanceMethod yX10_lasts, Cond.selects RX10 yX10_lasts yX10_lasts, Cond.code yX10_lasts cX10_lasts 3 (some .int), Cond.methodLink RX10 149 yX10_closes, Cond.instanceMethod yX10_closes, Cond.selects RX10 yX10_closes yX10_closes, Cond.code yX10_closes cX10_closes 8 none, Cond.methodLink RX10 165 yX10_farFinds, Cond.instanceMethod yX10_farFinds, Cond.selects RX10 yX10_farFinds yX10_farFinds]
def wsX10_worth_r3 : List Cond := [Cond.code yX10_farFinds cX10_farFinds 2 (some .long), Cond.fieldLink RX10 9 "RoundsPerHourModel" "found" "[I", Cond.constantLong RX10 55 (-4000000000000000001), Cond.methodLink RX10 173 yX10_lowest, Cond.static yX10_lowest, Cond.code yX10_lowest cX10_lowest 7 (some .long), Cond.methodLink RX10 125 yX10_common, Cond.static yX10_common, Cond.code yX10_common cX10_common 10 (some .long), Cond.methodLink RX10 186 yX10_product, Cond.instanceMethod yX10_product, Cond.selects RX10 yX10_product yX10_product, Cond.code yX10_product cX10_product 7 (some .long), Cond.constantLong RX10 120 (-1), Cond.constantLong RX10 177 (-9223372036854775808)]
def wsX10_worth : List Cond := .code yX10_worth cX10_worth 5 (some .long) :: ((wsX10_worth_r1 ++ (wsX10_worth_r2 ++ wsX10_worth_r3)) ++ wsX100)
def wsX10_isRaised_r1 : List Cond := [Cond.fieldLink RX10 19 "RoundsPerHourModel" "way" "[I", Cond.fieldLink RX10 140 "RoundsPerHourModel" "topAbove" "J", Cond.fieldLink RX10 136 "RoundsPerHourModel" "topBelow" "J", Cond.methodLink RX10 161 yX10_rings, Cond.instanceMethod yX10_rings, Cond.selects RX10 yX10_rings yX10_rings, Cond.initialized RX10, Cond.code yX10_rings cX10_rings 4 (some .boolean), Cond.fieldLink RX10 146 "RoundsPerHourModel" "open" "I", Cond.fieldLink RX10 129 "RoundsPerHourModel" "must" "I", Cond.fieldLink RX10 132 "RoundsPerHourModel" "isAny" "Z", Cond.fieldLink RX10 143 "RoundsPerHourModel" "topWays" "I", Cond.fieldLink RX10 15 "RoundsPerHourModel" "places" "I", Cond.methodLink RX10 153 yX10_goesRound, Cond.instanceMethod yX10_goesRound, Cond.selects RX10 yX10_goesRound yX10_goesRound, Cond.code yX10_goesRound cX10_goesRound 15 none, Cond.fieldLink RX10 61 "RoundsPerHourModel" "ways" "I", Cond.methodLink RX10 70 yX10_at, Cond.instanceMethod yX10_at, Cond.selects RX10 yX10_at yX10_at, Cond.code yX10_at cX10_at 3 (some .int), Cond.methodLink RX10 107 yX10_brings, Cond.instanceMethod yX10_brings]
def wsX10_isRaised_r2 : List Cond := [Cond.selects RX10 yX10_brings yX10_brings, Cond.code yX10_brings cX10_brings 3 (some .int), Cond.fieldLink RX10 74 "RoundsPerHourModel" "weather" "I", Cond.methodLink RX10 110 yX10_lasts, Cond.instanceMethod yX10_lasts, Cond.selects RX10 yX10_lasts yX10_lasts, Cond.code yX10_lasts cX10_lasts 3 (some .int), Cond.methodLink RX10 149 yX10_closes, Cond.instanceMethod yX10_closes, Cond.selects RX10 yX10_closes yX10_closes, Cond.code yX10_closes cX10_closes 8 none]
def wsX10_isRaised : List Cond := .code yX10_isRaised cX10_isRaised 8 (some .boolean) :: ((wsX10_isRaised_r1 ++ wsX10_isRaised_r2) ++ wsX100)
def wsX10_raised_r1 : List Cond := [Cond.constant RX10 191 (-999999999), Cond.fieldLink RX10 140 "RoundsPerHourModel" "topAbove" "J", Cond.fieldLink RX10 136 "RoundsPerHourModel" "topBelow" "J", Cond.constant RX10 192 (999999999), Cond.methodLink RX10 157 yX10_openWays, Cond.instanceMethod yX10_openWays, Cond.selects RX10 yX10_openWays yX10_openWays, Cond.initialized RX10, Cond.code yX10_openWays cX10_openWays 3 (some .int), Cond.fieldLink RX10 61 "RoundsPerHourModel" "ways" "I", Cond.methodLink RX10 70 yX10_at, Cond.instanceMethod yX10_at, Cond.selects RX10 yX10_at yX10_at, Cond.code yX10_at cX10_at 3 (some .int), Cond.fieldLink RX10 19 "RoundsPerHourModel" "way" "[I", Cond.methodLink RX10 161 yX10_rings, Cond.instanceMethod yX10_rings, Cond.selects RX10 yX10_rings yX10_rings, Cond.code yX10_rings cX10_rings 4 (some .boolean), Cond.fieldLink RX10 146 "RoundsPerHourModel" "open" "I", Cond.fieldLink RX10 129 "RoundsPerHourModel" "must" "I", Cond.fieldLink RX10 132 "RoundsPerHourModel" "isAny" "Z", Cond.fieldLink RX10 143 "RoundsPerHourModel" "topWays" "I", Cond.fieldLink RX10 15 "RoundsPerHourModel" "places" "I"]
def wsX10_raised_r2 : List Cond := [Cond.methodLink RX10 153 yX10_goesRound, Cond.instanceMethod yX10_goesRound, Cond.selects RX10 yX10_goesRound yX10_goesRound, Cond.code yX10_goesRound cX10_goesRound 15 none, Cond.methodLink RX10 107 yX10_brings, Cond.instanceMethod yX10_brings, Cond.selects RX10 yX10_brings yX10_brings, Cond.code yX10_brings cX10_brings 3 (some .int), Cond.fieldLink RX10 74 "RoundsPerHourModel" "weather" "I", Cond.methodLink RX10 110 yX10_lasts, Cond.instanceMethod yX10_lasts, Cond.selects RX10 yX10_lasts yX10_lasts, Cond.code yX10_lasts cX10_lasts 3 (some .int), Cond.methodLink RX10 149 yX10_closes, Cond.instanceMethod yX10_closes, Cond.selects RX10 yX10_closes yX10_closes, Cond.code yX10_closes cX10_closes 8 none, Cond.methodLink RX10 81 yX10_finds, Cond.instanceMethod yX10_finds, Cond.selects RX10 yX10_finds yX10_finds, Cond.code yX10_finds cX10_finds 2 (some .int), Cond.fieldLink RX10 9 "RoundsPerHourModel" "found" "[I", Cond.constant RX10 54 (-2000000001), Cond.methodLink RX10 193 yX10_isRaised]
def wsX10_raised_r3 : List Cond := [Cond.instanceMethod yX10_isRaised, Cond.selects RX10 yX10_isRaised yX10_isRaised, Cond.code yX10_isRaised cX10_isRaised 8 (some .boolean)]
def wsX10_raised : List Cond := .code yX10_raised cX10_raised 10 (some .int) :: ((wsX10_raised_r1 ++ (wsX10_raised_r2 ++ wsX10_raised_r3)) ++ wsX100)
def wsX10_raise_r1 : List Cond := [Cond.fieldLink RX10 19 "RoundsPerHourModel" "way" "[I", Cond.methodLink RX10 102 yX10_isWay, Cond.instanceMethod yX10_isWay, Cond.selects RX10 yX10_isWay yX10_isWay, Cond.initialized RX10, Cond.code yX10_isWay cX10_isWay 2 (some .boolean), Cond.fieldLink RX10 61 "RoundsPerHourModel" "ways" "I", Cond.methodLink RX10 57 yX10_in, Cond.static yX10_in, Cond.code yX10_in cX10_in 6 (some .boolean), Cond.methodLink RX10 81 yX10_finds, Cond.instanceMethod yX10_finds, Cond.selects RX10 yX10_finds yX10_finds, Cond.code yX10_finds cX10_finds 2 (some .int), Cond.fieldLink RX10 9 "RoundsPerHourModel" "found" "[I", Cond.constant RX10 54 (-2000000001), Cond.methodLink RX10 70 yX10_at, Cond.instanceMethod yX10_at, Cond.selects RX10 yX10_at yX10_at, Cond.code yX10_at cX10_at 3 (some .int), Cond.methodLink RX10 197 yX10_raised, Cond.instanceMethod yX10_raised, Cond.selects RX10 yX10_raised yX10_raised, Cond.code yX10_raised cX10_raised 10 (some .int)]
def wsX10_raise_r2 : List Cond := [Cond.constant RX10 191 (-999999999), Cond.fieldLink RX10 140 "RoundsPerHourModel" "topAbove" "J", Cond.fieldLink RX10 136 "RoundsPerHourModel" "topBelow" "J", Cond.constant RX10 192 (999999999), Cond.methodLink RX10 157 yX10_openWays, Cond.instanceMethod yX10_openWays, Cond.selects RX10 yX10_openWays yX10_openWays, Cond.code yX10_openWays cX10_openWays 3 (some .int), Cond.methodLink RX10 161 yX10_rings, Cond.instanceMethod yX10_rings, Cond.selects RX10 yX10_rings yX10_rings, Cond.code yX10_rings cX10_rings 4 (some .boolean), Cond.fieldLink RX10 146 "RoundsPerHourModel" "open" "I", Cond.fieldLink RX10 129 "RoundsPerHourModel" "must" "I", Cond.fieldLink RX10 132 "RoundsPerHourModel" "isAny" "Z", Cond.fieldLink RX10 143 "RoundsPerHourModel" "topWays" "I", Cond.fieldLink RX10 15 "RoundsPerHourModel" "places" "I", Cond.methodLink RX10 153 yX10_goesRound, Cond.instanceMethod yX10_goesRound, Cond.selects RX10 yX10_goesRound yX10_goesRound, Cond.code yX10_goesRound cX10_goesRound 15 none, Cond.methodLink RX10 107 yX10_brings, Cond.instanceMethod yX10_brings, Cond.selects RX10 yX10_brings yX10_brings]
def wsX10_raise_r3 : List Cond := [Cond.code yX10_brings cX10_brings 3 (some .int), Cond.fieldLink RX10 74 "RoundsPerHourModel" "weather" "I", Cond.methodLink RX10 110 yX10_lasts, Cond.instanceMethod yX10_lasts, Cond.selects RX10 yX10_lasts yX10_lasts, Cond.code yX10_lasts cX10_lasts 3 (some .int), Cond.methodLink RX10 149 yX10_closes, Cond.instanceMethod yX10_closes, Cond.selects RX10 yX10_closes yX10_closes, Cond.code yX10_closes cX10_closes 8 none, Cond.methodLink RX10 193 yX10_isRaised, Cond.instanceMethod yX10_isRaised, Cond.selects RX10 yX10_isRaised yX10_isRaised, Cond.code yX10_isRaised cX10_isRaised 8 (some .boolean)]
def wsX10_raise : List Cond := .code yX10_raise cX10_raise 4 (some .int) :: ((wsX10_raise_r1 ++ (wsX10_raise_r2 ++ wsX10_raise_r3)) ++ wsX100)
def wsX10_lose_r1 : List Cond := [Cond.fieldLink RX10 61 "RoundsPerHourModel" "ways" "I", Cond.fieldLink RX10 140 "RoundsPerHourModel" "topAbove" "J", Cond.fieldLink RX10 136 "RoundsPerHourModel" "topBelow" "J", Cond.methodLink RX10 169 yX10_ringsNow, Cond.instanceMethod yX10_ringsNow, Cond.selects RX10 yX10_ringsNow yX10_ringsNow, Cond.initialized RX10, Cond.code yX10_ringsNow cX10_ringsNow 1 (some .boolean), Cond.methodLink RX10 157 yX10_openWays, Cond.instanceMethod yX10_openWays, Cond.selects RX10 yX10_openWays yX10_openWays, Cond.code yX10_openWays cX10_openWays 3 (some .int), Cond.methodLink RX10 70 yX10_at, Cond.instanceMethod yX10_at, Cond.selects RX10 yX10_at yX10_at, Cond.code yX10_at cX10_at 3 (some .int), Cond.fieldLink RX10 19 "RoundsPerHourModel" "way" "[I", Cond.methodLink RX10 161 yX10_rings, Cond.instanceMethod yX10_rings, Cond.selects RX10 yX10_rings yX10_rings, Cond.code yX10_rings cX10_rings 4 (some .boolean), Cond.fieldLink RX10 146 "RoundsPerHourModel" "open" "I", Cond.fieldLink RX10 129 "RoundsPerHourModel" "must" "I", Cond.fieldLink RX10 132 "RoundsPerHourModel" "isAny" "Z"]
def wsX10_lose_r2 : List Cond := [Cond.fieldLink RX10 143 "RoundsPerHourModel" "topWays" "I", Cond.fieldLink RX10 15 "RoundsPerHourModel" "places" "I", Cond.methodLink RX10 153 yX10_goesRound, Cond.instanceMethod yX10_goesRound, Cond.selects RX10 yX10_goesRound yX10_goesRound, Cond.code yX10_goesRound cX10_goesRound 15 none, Cond.methodLink RX10 107 yX10_brings, Cond.instanceMethod yX10_brings, Cond.selects RX10 yX10_brings yX10_brings, Cond.code yX10_brings cX10_brings 3 (some .int), Cond.fieldLink RX10 74 "RoundsPerHourModel" "weather" "I", Cond.methodLink RX10 110 yX10_lasts, Cond.instanceMethod yX10_lasts, Cond.selects RX10 yX10_lasts yX10_lasts, Cond.code yX10_lasts cX10_lasts 3 (some .int), Cond.methodLink RX10 149 yX10_closes, Cond.instanceMethod yX10_closes, Cond.selects RX10 yX10_closes yX10_closes, Cond.code yX10_closes cX10_closes 8 none, Cond.methodLink RX10 81 yX10_finds, Cond.instanceMethod yX10_finds, Cond.selects RX10 yX10_finds yX10_finds, Cond.code yX10_finds cX10_finds 2 (some .int), Cond.fieldLink RX10 9 "RoundsPerHourModel" "found" "[I"]
def wsX10_lose_r3 : List Cond := [Cond.constant RX10 54 (-2000000001)]
def wsX10_lose : List Cond := .code yX10_lose cX10_lose 9 (some .int) :: ((wsX10_lose_r1 ++ (wsX10_lose_r2 ++ wsX10_lose_r3)) ++ wsX100)
def wsX10_kind_r1 : List Cond := [Cond.fieldLink RX10 19 "RoundsPerHourModel" "way" "[I", Cond.fieldLink RX10 140 "RoundsPerHourModel" "topAbove" "J", Cond.fieldLink RX10 136 "RoundsPerHourModel" "topBelow" "J", Cond.methodLink RX10 102 yX10_isWay, Cond.instanceMethod yX10_isWay, Cond.selects RX10 yX10_isWay yX10_isWay, Cond.initialized RX10, Cond.code yX10_isWay cX10_isWay 2 (some .boolean), Cond.fieldLink RX10 61 "RoundsPerHourModel" "ways" "I", Cond.methodLink RX10 57 yX10_in, Cond.static yX10_in, Cond.code yX10_in cX10_in 6 (some .boolean), Cond.methodLink RX10 81 yX10_finds, Cond.instanceMethod yX10_finds, Cond.selects RX10 yX10_finds yX10_finds, Cond.code yX10_finds cX10_finds 2 (some .int), Cond.fieldLink RX10 9 "RoundsPerHourModel" "found" "[I", Cond.constant RX10 54 (-2000000001), Cond.methodLink RX10 169 yX10_ringsNow, Cond.instanceMethod yX10_ringsNow, Cond.selects RX10 yX10_ringsNow yX10_ringsNow, Cond.code yX10_ringsNow cX10_ringsNow 1 (some .boolean), Cond.methodLink RX10 157 yX10_openWays, Cond.instanceMethod yX10_openWays]
def wsX10_kind_r2 : List Cond := [Cond.selects RX10 yX10_openWays yX10_openWays, Cond.code yX10_openWays cX10_openWays 3 (some .int), Cond.methodLink RX10 70 yX10_at, Cond.instanceMethod yX10_at, Cond.selects RX10 yX10_at yX10_at, Cond.code yX10_at cX10_at 3 (some .int), Cond.methodLink RX10 161 yX10_rings, Cond.instanceMethod yX10_rings, Cond.selects RX10 yX10_rings yX10_rings, Cond.code yX10_rings cX10_rings 4 (some .boolean), Cond.fieldLink RX10 146 "RoundsPerHourModel" "open" "I", Cond.fieldLink RX10 129 "RoundsPerHourModel" "must" "I", Cond.fieldLink RX10 132 "RoundsPerHourModel" "isAny" "Z", Cond.fieldLink RX10 143 "RoundsPerHourModel" "topWays" "I", Cond.fieldLink RX10 15 "RoundsPerHourModel" "places" "I", Cond.methodLink RX10 153 yX10_goesRound, Cond.instanceMethod yX10_goesRound, Cond.selects RX10 yX10_goesRound yX10_goesRound, Cond.code yX10_goesRound cX10_goesRound 15 none, Cond.methodLink RX10 107 yX10_brings, Cond.instanceMethod yX10_brings, Cond.selects RX10 yX10_brings yX10_brings, Cond.code yX10_brings cX10_brings 3 (some .int), Cond.fieldLink RX10 74 "RoundsPerHourModel" "weather" "I"]
def wsX10_kind_r3 : List Cond := [Cond.methodLink RX10 110 yX10_lasts, Cond.instanceMethod yX10_lasts, Cond.selects RX10 yX10_lasts yX10_lasts, Cond.code yX10_lasts cX10_lasts 3 (some .int), Cond.methodLink RX10 149 yX10_closes, Cond.instanceMethod yX10_closes, Cond.selects RX10 yX10_closes yX10_closes, Cond.code yX10_closes cX10_closes 8 none]
def wsX10_kind : List Cond := .code yX10_kind cX10_kind 9 (some .int) :: ((wsX10_kind_r1 ++ (wsX10_kind_r2 ++ wsX10_kind_r3)) ++ wsX100)
def wsX10_season_r1 : List Cond := [Cond.fieldLink RX10 74 "RoundsPerHourModel" "weather" "I", Cond.fieldLink RX10 140 "RoundsPerHourModel" "topAbove" "J", Cond.fieldLink RX10 136 "RoundsPerHourModel" "topBelow" "J", Cond.methodLink RX10 169 yX10_ringsNow, Cond.instanceMethod yX10_ringsNow, Cond.selects RX10 yX10_ringsNow yX10_ringsNow, Cond.initialized RX10, Cond.code yX10_ringsNow cX10_ringsNow 1 (some .boolean), Cond.methodLink RX10 157 yX10_openWays, Cond.instanceMethod yX10_openWays, Cond.selects RX10 yX10_openWays yX10_openWays, Cond.code yX10_openWays cX10_openWays 3 (some .int), Cond.fieldLink RX10 61 "RoundsPerHourModel" "ways" "I", Cond.methodLink RX10 70 yX10_at, Cond.instanceMethod yX10_at, Cond.selects RX10 yX10_at yX10_at, Cond.code yX10_at cX10_at 3 (some .int), Cond.fieldLink RX10 19 "RoundsPerHourModel" "way" "[I", Cond.methodLink RX10 161 yX10_rings, Cond.instanceMethod yX10_rings, Cond.selects RX10 yX10_rings yX10_rings, Cond.code yX10_rings cX10_rings 4 (some .boolean), Cond.fieldLink RX10 146 "RoundsPerHourModel" "open" "I", Cond.fieldLink RX10 129 "RoundsPerHourModel" "must" "I"]
def wsX10_season_r2 : List Cond := [Cond.fieldLink RX10 132 "RoundsPerHourModel" "isAny" "Z", Cond.fieldLink RX10 143 "RoundsPerHourModel" "topWays" "I", Cond.fieldLink RX10 15 "RoundsPerHourModel" "places" "I", Cond.methodLink RX10 153 yX10_goesRound, Cond.instanceMethod yX10_goesRound, Cond.selects RX10 yX10_goesRound yX10_goesRound, Cond.code yX10_goesRound cX10_goesRound 15 none, Cond.methodLink RX10 107 yX10_brings, Cond.instanceMethod yX10_brings, Cond.selects RX10 yX10_brings yX10_brings, Cond.code yX10_brings cX10_brings 3 (some .int), Cond.methodLink RX10 110 yX10_lasts, Cond.instanceMethod yX10_lasts, Cond.selects RX10 yX10_lasts yX10_lasts, Cond.code yX10_lasts cX10_lasts 3 (some .int), Cond.methodLink RX10 149 yX10_closes, Cond.instanceMethod yX10_closes, Cond.selects RX10 yX10_closes yX10_closes, Cond.code yX10_closes cX10_closes 8 none, Cond.methodLink RX10 81 yX10_finds, Cond.instanceMethod yX10_finds, Cond.selects RX10 yX10_finds yX10_finds, Cond.code yX10_finds cX10_finds 2 (some .int), Cond.fieldLink RX10 9 "RoundsPerHourModel" "found" "[I"]
def wsX10_season_r3 : List Cond := [Cond.constant RX10 54 (-2000000001)]
def wsX10_season : List Cond := .code yX10_season cX10_season 8 (some .int) :: ((wsX10_season_r1 ++ (wsX10_season_r2 ++ wsX10_season_r3)) ++ wsX100)
def wsX10_bits : List Cond := .code yX10_bits cX10_bits 3 (some .int) :: ([])
def wsX10_wayFrom : List Cond := .code yX10_wayFrom cX10_wayFrom 6 (some .int) :: ([.fieldLink RX10 61 "RoundsPerHourModel" "ways" "I", .methodLink RX10 70 yX10_at, .instanceMethod yX10_at, .selects RX10 yX10_at yX10_at, .initialized RX10, .code yX10_at cX10_at 3 (some .int), .fieldLink RX10 19 "RoundsPerHourModel" "way" "[I"] ++ wsX100)
def wsX10_isRound : List Cond := .code yX10_isRound cX10_isRound 8 (some .boolean) :: ([.methodLink RX10 70 yX10_at, .instanceMethod yX10_at, .selects RX10 yX10_at yX10_at, .initialized RX10, .code yX10_at cX10_at 3 (some .int), .fieldLink RX10 19 "RoundsPerHourModel" "way" "[I", .methodLink RX10 200 yX10_wayFrom, .instanceMethod yX10_wayFrom, .selects RX10 yX10_wayFrom yX10_wayFrom, .code yX10_wayFrom cX10_wayFrom 6 (some .int), .fieldLink RX10 61 "RoundsPerHourModel" "ways" "I"] ++ wsX100)
def wsX10_joinsAll : List Cond := .code yX10_joinsAll cX10_joinsAll 6 (some .boolean) :: ([.fieldLink RX10 15 "RoundsPerHourModel" "places" "I", .fieldLink RX10 61 "RoundsPerHourModel" "ways" "I", .methodLink RX10 203 yX10_bits, .static yX10_bits, .initialized RX10, .code yX10_bits cX10_bits 3 (some .int), .methodLink RX10 70 yX10_at, .instanceMethod yX10_at, .selects RX10 yX10_at yX10_at, .code yX10_at cX10_at 3 (some .int), .fieldLink RX10 19 "RoundsPerHourModel" "way" "[I"] ++ wsX100)
def wsX10_rises : List Cond := .code yX10_rises cX10_rises 5 (some .boolean) :: ([.fieldLink RX10 206 "RoundsPerHourModel" "goesFrom" "I", .fieldLink RX10 209 "RoundsPerHourModel" "goesTo" "I", .methodLink RX10 200 yX10_wayFrom, .instanceMethod yX10_wayFrom, .selects RX10 yX10_wayFrom yX10_wayFrom, .initialized RX10, .code yX10_wayFrom cX10_wayFrom 6 (some .int), .fieldLink RX10 61 "RoundsPerHourModel" "ways" "I", .methodLink RX10 70 yX10_at, .instanceMethod yX10_at, .selects RX10 yX10_at yX10_at, .code yX10_at cX10_at 3 (some .int), .fieldLink RX10 19 "RoundsPerHourModel" "way" "[I"] ++ wsX100)
def wsX10_isChoice_r1 : List Cond := [Cond.fieldLink RX10 212 "RoundsPerHourModel" "sort" "I", Cond.fieldLink RX10 215 "RoundsPerHourModel" "many" "I", Cond.methodLink RX10 203 yX10_bits, Cond.static yX10_bits, Cond.initialized RX10, Cond.code yX10_bits cX10_bits 3 (some .int), Cond.methodLink RX10 157 yX10_openWays, Cond.instanceMethod yX10_openWays, Cond.selects RX10 yX10_openWays yX10_openWays, Cond.code yX10_openWays cX10_openWays 3 (some .int), Cond.fieldLink RX10 61 "RoundsPerHourModel" "ways" "I", Cond.methodLink RX10 70 yX10_at, Cond.instanceMethod yX10_at, Cond.selects RX10 yX10_at yX10_at, Cond.code yX10_at cX10_at 3 (some .int), Cond.fieldLink RX10 19 "RoundsPerHourModel" "way" "[I", Cond.methodLink RX10 218 yX10_isRound, Cond.instanceMethod yX10_isRound, Cond.selects RX10 yX10_isRound yX10_isRound, Cond.code yX10_isRound cX10_isRound 8 (some .boolean), Cond.methodLink RX10 200 yX10_wayFrom, Cond.instanceMethod yX10_wayFrom, Cond.selects RX10 yX10_wayFrom yX10_wayFrom, Cond.code yX10_wayFrom cX10_wayFrom 6 (some .int)]
def wsX10_isChoice_r2 : List Cond := [Cond.methodLink RX10 221 yX10_joinsAll, Cond.instanceMethod yX10_joinsAll, Cond.selects RX10 yX10_joinsAll yX10_joinsAll, Cond.code yX10_joinsAll cX10_joinsAll 6 (some .boolean), Cond.fieldLink RX10 15 "RoundsPerHourModel" "places" "I", Cond.methodLink RX10 224 yX10_rises, Cond.instanceMethod yX10_rises, Cond.selects RX10 yX10_rises yX10_rises, Cond.code yX10_rises cX10_rises 5 (some .boolean), Cond.fieldLink RX10 206 "RoundsPerHourModel" "goesFrom" "I", Cond.fieldLink RX10 209 "RoundsPerHourModel" "goesTo" "I"]
def wsX10_isChoice : List Cond := .code yX10_isChoice cX10_isChoice 2 (some .boolean) :: ((wsX10_isChoice_r1 ++ wsX10_isChoice_r2) ++ wsX100)
def wsX10_aboveOf : List Cond := .code yX10_aboveOf cX10_aboveOf 5 (some .long) :: ([.fieldLink RX10 212 "RoundsPerHourModel" "sort" "I", .fieldLink RX10 25 "RoundsPerHourModel" "base" "[I", .fieldLink RX10 22 "RoundsPerHourModel" "thing" "[I", .methodLink RX10 107 yX10_brings, .instanceMethod yX10_brings, .selects RX10 yX10_brings yX10_brings, .initialized RX10, .code yX10_brings cX10_brings 3 (some .int), .fieldLink RX10 74 "RoundsPerHourModel" "weather" "I", .methodLink RX10 70 yX10_at, .instanceMethod yX10_at, .selects RX10 yX10_at yX10_at, .code yX10_at cX10_at 3 (some .int), .fieldLink RX10 19 "RoundsPerHourModel" "way" "[I"] ++ wsX100)
def wsX10_belowOf : List Cond := .code yX10_belowOf cX10_belowOf 5 (some .long) :: ([.fieldLink RX10 212 "RoundsPerHourModel" "sort" "I", .fieldLink RX10 25 "RoundsPerHourModel" "base" "[I", .fieldLink RX10 22 "RoundsPerHourModel" "thing" "[I", .methodLink RX10 110 yX10_lasts, .instanceMethod yX10_lasts, .selects RX10 yX10_lasts yX10_lasts, .initialized RX10, .code yX10_lasts cX10_lasts 3 (some .int), .fieldLink RX10 74 "RoundsPerHourModel" "weather" "I", .methodLink RX10 70 yX10_at, .instanceMethod yX10_at, .selects RX10 yX10_at yX10_at, .code yX10_at cX10_at 3 (some .int), .fieldLink RX10 19 "RoundsPerHourModel" "way" "[I"] ++ wsX100)
def wsX10_allSets : List Cond := .code yX10_allSets cX10_allSets 1 (some .int) :: ([.fieldLink RX10 212 "RoundsPerHourModel" "sort" "I", .fieldLink RX10 117 "RoundsPerHourModel" "things" "I", .fieldLink RX10 61 "RoundsPerHourModel" "ways" "I"] ++ wsX100)
def wsX10_leastChoice_r1 : List Cond := [Cond.methodLink RX10 227 yX10_allSets, Cond.instanceMethod yX10_allSets, Cond.selects RX10 yX10_allSets yX10_allSets, Cond.initialized RX10, Cond.code yX10_allSets cX10_allSets 1 (some .int), Cond.fieldLink RX10 212 "RoundsPerHourModel" "sort" "I", Cond.fieldLink RX10 117 "RoundsPerHourModel" "things" "I", Cond.fieldLink RX10 61 "RoundsPerHourModel" "ways" "I", Cond.methodLink RX10 230 yX10_isChoice, Cond.instanceMethod yX10_isChoice, Cond.selects RX10 yX10_isChoice yX10_isChoice, Cond.code yX10_isChoice cX10_isChoice 2 (some .boolean), Cond.fieldLink RX10 215 "RoundsPerHourModel" "many" "I", Cond.methodLink RX10 203 yX10_bits, Cond.static yX10_bits, Cond.code yX10_bits cX10_bits 3 (some .int), Cond.methodLink RX10 157 yX10_openWays, Cond.instanceMethod yX10_openWays, Cond.selects RX10 yX10_openWays yX10_openWays, Cond.code yX10_openWays cX10_openWays 3 (some .int), Cond.methodLink RX10 70 yX10_at, Cond.instanceMethod yX10_at, Cond.selects RX10 yX10_at yX10_at, Cond.code yX10_at cX10_at 3 (some .int)]
def wsX10_leastChoice_r2 : List Cond := [Cond.fieldLink RX10 19 "RoundsPerHourModel" "way" "[I", Cond.methodLink RX10 218 yX10_isRound, Cond.instanceMethod yX10_isRound, Cond.selects RX10 yX10_isRound yX10_isRound, Cond.code yX10_isRound cX10_isRound 8 (some .boolean), Cond.methodLink RX10 200 yX10_wayFrom, Cond.instanceMethod yX10_wayFrom, Cond.selects RX10 yX10_wayFrom yX10_wayFrom, Cond.code yX10_wayFrom cX10_wayFrom 6 (some .int), Cond.methodLink RX10 221 yX10_joinsAll, Cond.instanceMethod yX10_joinsAll, Cond.selects RX10 yX10_joinsAll yX10_joinsAll, Cond.code yX10_joinsAll cX10_joinsAll 6 (some .boolean), Cond.fieldLink RX10 15 "RoundsPerHourModel" "places" "I", Cond.methodLink RX10 224 yX10_rises, Cond.instanceMethod yX10_rises, Cond.selects RX10 yX10_rises yX10_rises, Cond.code yX10_rises cX10_rises 5 (some .boolean), Cond.fieldLink RX10 206 "RoundsPerHourModel" "goesFrom" "I", Cond.fieldLink RX10 209 "RoundsPerHourModel" "goesTo" "I"]
def wsX10_leastChoice : List Cond := .code yX10_leastChoice cX10_leastChoice 2 (some .int) :: ((wsX10_leastChoice_r1 ++ wsX10_leastChoice_r2) ++ wsX100)
def wsX10_nextChoice_r1 : List Cond := [Cond.methodLink RX10 227 yX10_allSets, Cond.instanceMethod yX10_allSets, Cond.selects RX10 yX10_allSets yX10_allSets, Cond.initialized RX10, Cond.code yX10_allSets cX10_allSets 1 (some .int), Cond.fieldLink RX10 212 "RoundsPerHourModel" "sort" "I", Cond.fieldLink RX10 117 "RoundsPerHourModel" "things" "I", Cond.fieldLink RX10 61 "RoundsPerHourModel" "ways" "I", Cond.methodLink RX10 230 yX10_isChoice, Cond.instanceMethod yX10_isChoice, Cond.selects RX10 yX10_isChoice yX10_isChoice, Cond.code yX10_isChoice cX10_isChoice 2 (some .boolean), Cond.fieldLink RX10 215 "RoundsPerHourModel" "many" "I", Cond.methodLink RX10 203 yX10_bits, Cond.static yX10_bits, Cond.code yX10_bits cX10_bits 3 (some .int), Cond.methodLink RX10 157 yX10_openWays, Cond.instanceMethod yX10_openWays, Cond.selects RX10 yX10_openWays yX10_openWays, Cond.code yX10_openWays cX10_openWays 3 (some .int), Cond.methodLink RX10 70 yX10_at, Cond.instanceMethod yX10_at, Cond.selects RX10 yX10_at yX10_at, Cond.code yX10_at cX10_at 3 (some .int)]
def wsX10_nextChoice_r2 : List Cond := [Cond.fieldLink RX10 19 "RoundsPerHourModel" "way" "[I", Cond.methodLink RX10 218 yX10_isRound, Cond.instanceMethod yX10_isRound, Cond.selects RX10 yX10_isRound yX10_isRound, Cond.code yX10_isRound cX10_isRound 8 (some .boolean), Cond.methodLink RX10 200 yX10_wayFrom, Cond.instanceMethod yX10_wayFrom, Cond.selects RX10 yX10_wayFrom yX10_wayFrom, Cond.code yX10_wayFrom cX10_wayFrom 6 (some .int), Cond.methodLink RX10 221 yX10_joinsAll, Cond.instanceMethod yX10_joinsAll, Cond.selects RX10 yX10_joinsAll yX10_joinsAll, Cond.code yX10_joinsAll cX10_joinsAll 6 (some .boolean), Cond.fieldLink RX10 15 "RoundsPerHourModel" "places" "I", Cond.methodLink RX10 224 yX10_rises, Cond.instanceMethod yX10_rises, Cond.selects RX10 yX10_rises yX10_rises, Cond.code yX10_rises cX10_rises 5 (some .boolean), Cond.fieldLink RX10 206 "RoundsPerHourModel" "goesFrom" "I", Cond.fieldLink RX10 209 "RoundsPerHourModel" "goesTo" "I", Cond.methodLink RX10 233 yX10_aboveOf, Cond.instanceMethod yX10_aboveOf, Cond.selects RX10 yX10_aboveOf yX10_aboveOf, Cond.code yX10_aboveOf cX10_aboveOf 5 (some .long)]
def wsX10_nextChoice_r3 : List Cond := [Cond.fieldLink RX10 25 "RoundsPerHourModel" "base" "[I", Cond.fieldLink RX10 22 "RoundsPerHourModel" "thing" "[I", Cond.methodLink RX10 107 yX10_brings, Cond.instanceMethod yX10_brings, Cond.selects RX10 yX10_brings yX10_brings, Cond.code yX10_brings cX10_brings 3 (some .int), Cond.fieldLink RX10 74 "RoundsPerHourModel" "weather" "I", Cond.methodLink RX10 236 yX10_belowOf, Cond.instanceMethod yX10_belowOf, Cond.selects RX10 yX10_belowOf yX10_belowOf, Cond.code yX10_belowOf cX10_belowOf 5 (some .long), Cond.methodLink RX10 110 yX10_lasts, Cond.instanceMethod yX10_lasts, Cond.selects RX10 yX10_lasts yX10_lasts, Cond.code yX10_lasts cX10_lasts 3 (some .int)]
def wsX10_nextChoice : List Cond := .code yX10_nextChoice cX10_nextChoice 11 (some .int) :: ((wsX10_nextChoice_r1 ++ (wsX10_nextChoice_r2 ++ wsX10_nextChoice_r3)) ++ wsX100)
def wsX10_leastLike_r1 : List Cond := [Cond.methodLink RX10 230 yX10_isChoice, Cond.instanceMethod yX10_isChoice, Cond.selects RX10 yX10_isChoice yX10_isChoice, Cond.initialized RX10, Cond.code yX10_isChoice cX10_isChoice 2 (some .boolean), Cond.fieldLink RX10 212 "RoundsPerHourModel" "sort" "I", Cond.fieldLink RX10 215 "RoundsPerHourModel" "many" "I", Cond.methodLink RX10 203 yX10_bits, Cond.static yX10_bits, Cond.code yX10_bits cX10_bits 3 (some .int), Cond.methodLink RX10 157 yX10_openWays, Cond.instanceMethod yX10_openWays, Cond.selects RX10 yX10_openWays yX10_openWays, Cond.code yX10_openWays cX10_openWays 3 (some .int), Cond.fieldLink RX10 61 "RoundsPerHourModel" "ways" "I", Cond.methodLink RX10 70 yX10_at, Cond.instanceMethod yX10_at, Cond.selects RX10 yX10_at yX10_at, Cond.code yX10_at cX10_at 3 (some .int), Cond.fieldLink RX10 19 "RoundsPerHourModel" "way" "[I", Cond.methodLink RX10 218 yX10_isRound, Cond.instanceMethod yX10_isRound, Cond.selects RX10 yX10_isRound yX10_isRound, Cond.code yX10_isRound cX10_isRound 8 (some .boolean)]
def wsX10_leastLike_r2 : List Cond := [Cond.methodLink RX10 200 yX10_wayFrom, Cond.instanceMethod yX10_wayFrom, Cond.selects RX10 yX10_wayFrom yX10_wayFrom, Cond.code yX10_wayFrom cX10_wayFrom 6 (some .int), Cond.methodLink RX10 221 yX10_joinsAll, Cond.instanceMethod yX10_joinsAll, Cond.selects RX10 yX10_joinsAll yX10_joinsAll, Cond.code yX10_joinsAll cX10_joinsAll 6 (some .boolean), Cond.fieldLink RX10 15 "RoundsPerHourModel" "places" "I", Cond.methodLink RX10 224 yX10_rises, Cond.instanceMethod yX10_rises, Cond.selects RX10 yX10_rises yX10_rises, Cond.code yX10_rises cX10_rises 5 (some .boolean), Cond.fieldLink RX10 206 "RoundsPerHourModel" "goesFrom" "I", Cond.fieldLink RX10 209 "RoundsPerHourModel" "goesTo" "I", Cond.methodLink RX10 233 yX10_aboveOf, Cond.instanceMethod yX10_aboveOf, Cond.selects RX10 yX10_aboveOf yX10_aboveOf, Cond.code yX10_aboveOf cX10_aboveOf 5 (some .long), Cond.fieldLink RX10 25 "RoundsPerHourModel" "base" "[I", Cond.fieldLink RX10 22 "RoundsPerHourModel" "thing" "[I", Cond.methodLink RX10 107 yX10_brings, Cond.instanceMethod yX10_brings, Cond.selects RX10 yX10_brings yX10_brings]
def wsX10_leastLike_r3 : List Cond := [Cond.code yX10_brings cX10_brings 3 (some .int), Cond.fieldLink RX10 74 "RoundsPerHourModel" "weather" "I", Cond.methodLink RX10 236 yX10_belowOf, Cond.instanceMethod yX10_belowOf, Cond.selects RX10 yX10_belowOf yX10_belowOf, Cond.code yX10_belowOf cX10_belowOf 5 (some .long), Cond.methodLink RX10 110 yX10_lasts, Cond.instanceMethod yX10_lasts, Cond.selects RX10 yX10_lasts yX10_lasts, Cond.code yX10_lasts cX10_lasts 3 (some .int)]
def wsX10_leastLike : List Cond := .code yX10_leastLike cX10_leastLike 6 (some .int) :: ((wsX10_leastLike_r1 ++ (wsX10_leastLike_r2 ++ wsX10_leastLike_r3)) ++ wsX100)
def wsX10_climbed_r1 : List Cond := [Cond.methodLink RX10 233 yX10_aboveOf, Cond.instanceMethod yX10_aboveOf, Cond.selects RX10 yX10_aboveOf yX10_aboveOf, Cond.initialized RX10, Cond.code yX10_aboveOf cX10_aboveOf 5 (some .long), Cond.fieldLink RX10 212 "RoundsPerHourModel" "sort" "I", Cond.fieldLink RX10 25 "RoundsPerHourModel" "base" "[I", Cond.fieldLink RX10 22 "RoundsPerHourModel" "thing" "[I", Cond.methodLink RX10 107 yX10_brings, Cond.instanceMethod yX10_brings, Cond.selects RX10 yX10_brings yX10_brings, Cond.code yX10_brings cX10_brings 3 (some .int), Cond.fieldLink RX10 74 "RoundsPerHourModel" "weather" "I", Cond.methodLink RX10 70 yX10_at, Cond.instanceMethod yX10_at, Cond.selects RX10 yX10_at yX10_at, Cond.code yX10_at cX10_at 3 (some .int), Cond.fieldLink RX10 19 "RoundsPerHourModel" "way" "[I", Cond.methodLink RX10 236 yX10_belowOf, Cond.instanceMethod yX10_belowOf, Cond.selects RX10 yX10_belowOf yX10_belowOf, Cond.code yX10_belowOf cX10_belowOf 5 (some .long), Cond.methodLink RX10 110 yX10_lasts, Cond.instanceMethod yX10_lasts]
def wsX10_climbed_r2 : List Cond := [Cond.selects RX10 yX10_lasts yX10_lasts, Cond.code yX10_lasts cX10_lasts 3 (some .int), Cond.methodLink RX10 239 yX10_nextChoice, Cond.instanceMethod yX10_nextChoice, Cond.selects RX10 yX10_nextChoice yX10_nextChoice, Cond.code yX10_nextChoice cX10_nextChoice 11 (some .int), Cond.methodLink RX10 227 yX10_allSets, Cond.instanceMethod yX10_allSets, Cond.selects RX10 yX10_allSets yX10_allSets, Cond.code yX10_allSets cX10_allSets 1 (some .int), Cond.fieldLink RX10 117 "RoundsPerHourModel" "things" "I", Cond.fieldLink RX10 61 "RoundsPerHourModel" "ways" "I", Cond.methodLink RX10 230 yX10_isChoice, Cond.instanceMethod yX10_isChoice, Cond.selects RX10 yX10_isChoice yX10_isChoice, Cond.code yX10_isChoice cX10_isChoice 2 (some .boolean), Cond.fieldLink RX10 215 "RoundsPerHourModel" "many" "I", Cond.methodLink RX10 203 yX10_bits, Cond.static yX10_bits, Cond.code yX10_bits cX10_bits 3 (some .int), Cond.methodLink RX10 157 yX10_openWays, Cond.instanceMethod yX10_openWays, Cond.selects RX10 yX10_openWays yX10_openWays, Cond.code yX10_openWays cX10_openWays 3 (some .int)]
def wsX10_climbed_r3 : List Cond := [Cond.methodLink RX10 218 yX10_isRound, Cond.instanceMethod yX10_isRound, Cond.selects RX10 yX10_isRound yX10_isRound, Cond.code yX10_isRound cX10_isRound 8 (some .boolean), Cond.methodLink RX10 200 yX10_wayFrom, Cond.instanceMethod yX10_wayFrom, Cond.selects RX10 yX10_wayFrom yX10_wayFrom, Cond.code yX10_wayFrom cX10_wayFrom 6 (some .int), Cond.methodLink RX10 221 yX10_joinsAll, Cond.instanceMethod yX10_joinsAll, Cond.selects RX10 yX10_joinsAll yX10_joinsAll, Cond.code yX10_joinsAll cX10_joinsAll 6 (some .boolean), Cond.fieldLink RX10 15 "RoundsPerHourModel" "places" "I", Cond.methodLink RX10 224 yX10_rises, Cond.instanceMethod yX10_rises, Cond.selects RX10 yX10_rises yX10_rises, Cond.code yX10_rises cX10_rises 5 (some .boolean), Cond.fieldLink RX10 206 "RoundsPerHourModel" "goesFrom" "I", Cond.fieldLink RX10 209 "RoundsPerHourModel" "goesTo" "I", Cond.methodLink RX10 173 yX10_lowest, Cond.static yX10_lowest, Cond.code yX10_lowest cX10_lowest 7 (some .long), Cond.methodLink RX10 125 yX10_common, Cond.static yX10_common]
def wsX10_climbed_r4 : List Cond := [Cond.code yX10_common cX10_common 10 (some .long), Cond.methodLink RX10 243 yX10_leastLike, Cond.instanceMethod yX10_leastLike, Cond.selects RX10 yX10_leastLike yX10_leastLike, Cond.code yX10_leastLike cX10_leastLike 6 (some .int)]
def wsX10_climbed : List Cond := .code yX10_climbed cX10_climbed 10 (some .long) :: ((wsX10_climbed_r1 ++ (wsX10_climbed_r2 ++ (wsX10_climbed_r3 ++ wsX10_climbed_r4))) ++ wsX100)
def wsX10_told_r1 : List Cond := [Cond.methodLink RX10 246 yX10_leastChoice, Cond.instanceMethod yX10_leastChoice, Cond.selects RX10 yX10_leastChoice yX10_leastChoice, Cond.initialized RX10, Cond.code yX10_leastChoice cX10_leastChoice 2 (some .int), Cond.methodLink RX10 227 yX10_allSets, Cond.instanceMethod yX10_allSets, Cond.selects RX10 yX10_allSets yX10_allSets, Cond.code yX10_allSets cX10_allSets 1 (some .int), Cond.fieldLink RX10 212 "RoundsPerHourModel" "sort" "I", Cond.fieldLink RX10 117 "RoundsPerHourModel" "things" "I", Cond.fieldLink RX10 61 "RoundsPerHourModel" "ways" "I", Cond.methodLink RX10 230 yX10_isChoice, Cond.instanceMethod yX10_isChoice, Cond.selects RX10 yX10_isChoice yX10_isChoice, Cond.code yX10_isChoice cX10_isChoice 2 (some .boolean), Cond.fieldLink RX10 215 "RoundsPerHourModel" "many" "I", Cond.methodLink RX10 203 yX10_bits, Cond.static yX10_bits, Cond.code yX10_bits cX10_bits 3 (some .int), Cond.methodLink RX10 157 yX10_openWays, Cond.instanceMethod yX10_openWays, Cond.selects RX10 yX10_openWays yX10_openWays, Cond.code yX10_openWays cX10_openWays 3 (some .int)]
def wsX10_told_r2 : List Cond := [Cond.methodLink RX10 70 yX10_at, Cond.instanceMethod yX10_at, Cond.selects RX10 yX10_at yX10_at, Cond.code yX10_at cX10_at 3 (some .int), Cond.fieldLink RX10 19 "RoundsPerHourModel" "way" "[I", Cond.methodLink RX10 218 yX10_isRound, Cond.instanceMethod yX10_isRound, Cond.selects RX10 yX10_isRound yX10_isRound, Cond.code yX10_isRound cX10_isRound 8 (some .boolean), Cond.methodLink RX10 200 yX10_wayFrom, Cond.instanceMethod yX10_wayFrom, Cond.selects RX10 yX10_wayFrom yX10_wayFrom, Cond.code yX10_wayFrom cX10_wayFrom 6 (some .int), Cond.methodLink RX10 221 yX10_joinsAll, Cond.instanceMethod yX10_joinsAll, Cond.selects RX10 yX10_joinsAll yX10_joinsAll, Cond.code yX10_joinsAll cX10_joinsAll 6 (some .boolean), Cond.fieldLink RX10 15 "RoundsPerHourModel" "places" "I", Cond.methodLink RX10 224 yX10_rises, Cond.instanceMethod yX10_rises, Cond.selects RX10 yX10_rises yX10_rises, Cond.code yX10_rises cX10_rises 5 (some .boolean), Cond.fieldLink RX10 206 "RoundsPerHourModel" "goesFrom" "I", Cond.fieldLink RX10 209 "RoundsPerHourModel" "goesTo" "I"]
def wsX10_told_r3 : List Cond := [Cond.methodLink RX10 165 yX10_farFinds, Cond.instanceMethod yX10_farFinds, Cond.selects RX10 yX10_farFinds yX10_farFinds, Cond.code yX10_farFinds cX10_farFinds 2 (some .long), Cond.fieldLink RX10 9 "RoundsPerHourModel" "found" "[I", Cond.constantLong RX10 55 (-4000000000000000001), Cond.methodLink RX10 249 yX10_climbed, Cond.instanceMethod yX10_climbed, Cond.selects RX10 yX10_climbed yX10_climbed, Cond.code yX10_climbed cX10_climbed 10 (some .long), Cond.methodLink RX10 233 yX10_aboveOf, Cond.instanceMethod yX10_aboveOf, Cond.selects RX10 yX10_aboveOf yX10_aboveOf, Cond.code yX10_aboveOf cX10_aboveOf 5 (some .long), Cond.fieldLink RX10 25 "RoundsPerHourModel" "base" "[I", Cond.fieldLink RX10 22 "RoundsPerHourModel" "thing" "[I", Cond.methodLink RX10 107 yX10_brings, Cond.instanceMethod yX10_brings, Cond.selects RX10 yX10_brings yX10_brings, Cond.code yX10_brings cX10_brings 3 (some .int), Cond.fieldLink RX10 74 "RoundsPerHourModel" "weather" "I", Cond.methodLink RX10 236 yX10_belowOf, Cond.instanceMethod yX10_belowOf, Cond.selects RX10 yX10_belowOf yX10_belowOf]
def wsX10_told_r4 : List Cond := [Cond.code yX10_belowOf cX10_belowOf 5 (some .long), Cond.methodLink RX10 110 yX10_lasts, Cond.instanceMethod yX10_lasts, Cond.selects RX10 yX10_lasts yX10_lasts, Cond.code yX10_lasts cX10_lasts 3 (some .int), Cond.methodLink RX10 239 yX10_nextChoice, Cond.instanceMethod yX10_nextChoice, Cond.selects RX10 yX10_nextChoice yX10_nextChoice, Cond.code yX10_nextChoice cX10_nextChoice 11 (some .int), Cond.methodLink RX10 173 yX10_lowest, Cond.static yX10_lowest, Cond.code yX10_lowest cX10_lowest 7 (some .long), Cond.methodLink RX10 125 yX10_common, Cond.static yX10_common, Cond.code yX10_common cX10_common 10 (some .long), Cond.methodLink RX10 243 yX10_leastLike, Cond.instanceMethod yX10_leastLike, Cond.selects RX10 yX10_leastLike yX10_leastLike, Cond.code yX10_leastLike cX10_leastLike 6 (some .int)]
def wsX10_told : List Cond := .code yX10_told cX10_told 3 (some .long) :: ((wsX10_told_r1 ++ (wsX10_told_r2 ++ (wsX10_told_r3 ++ wsX10_told_r4))) ++ wsX100)
def wsX10_tree_r1 : List Cond := [Cond.constantLong RX10 253 (3), Cond.fieldLink RX10 212 "RoundsPerHourModel" "sort" "I", Cond.methodLink RX10 57 yX10_in, Cond.static yX10_in, Cond.initialized RX10, Cond.code yX10_in cX10_in 6 (some .boolean), Cond.methodLink RX10 165 yX10_farFinds, Cond.instanceMethod yX10_farFinds, Cond.selects RX10 yX10_farFinds yX10_farFinds, Cond.code yX10_farFinds cX10_farFinds 2 (some .long), Cond.fieldLink RX10 9 "RoundsPerHourModel" "found" "[I", Cond.constantLong RX10 55 (-4000000000000000001), Cond.methodLink RX10 255 yX10_told, Cond.instanceMethod yX10_told, Cond.selects RX10 yX10_told yX10_told, Cond.code yX10_told cX10_told 3 (some .long), Cond.methodLink RX10 246 yX10_leastChoice, Cond.instanceMethod yX10_leastChoice, Cond.selects RX10 yX10_leastChoice yX10_leastChoice, Cond.code yX10_leastChoice cX10_leastChoice 2 (some .int), Cond.methodLink RX10 227 yX10_allSets, Cond.instanceMethod yX10_allSets, Cond.selects RX10 yX10_allSets yX10_allSets, Cond.code yX10_allSets cX10_allSets 1 (some .int)]
def wsX10_tree_r2 : List Cond := [Cond.fieldLink RX10 117 "RoundsPerHourModel" "things" "I", Cond.fieldLink RX10 61 "RoundsPerHourModel" "ways" "I", Cond.methodLink RX10 230 yX10_isChoice, Cond.instanceMethod yX10_isChoice, Cond.selects RX10 yX10_isChoice yX10_isChoice, Cond.code yX10_isChoice cX10_isChoice 2 (some .boolean), Cond.fieldLink RX10 215 "RoundsPerHourModel" "many" "I", Cond.methodLink RX10 203 yX10_bits, Cond.static yX10_bits, Cond.code yX10_bits cX10_bits 3 (some .int), Cond.methodLink RX10 157 yX10_openWays, Cond.instanceMethod yX10_openWays, Cond.selects RX10 yX10_openWays yX10_openWays, Cond.code yX10_openWays cX10_openWays 3 (some .int), Cond.methodLink RX10 70 yX10_at, Cond.instanceMethod yX10_at, Cond.selects RX10 yX10_at yX10_at, Cond.code yX10_at cX10_at 3 (some .int), Cond.fieldLink RX10 19 "RoundsPerHourModel" "way" "[I", Cond.methodLink RX10 218 yX10_isRound, Cond.instanceMethod yX10_isRound, Cond.selects RX10 yX10_isRound yX10_isRound, Cond.code yX10_isRound cX10_isRound 8 (some .boolean), Cond.methodLink RX10 200 yX10_wayFrom]
def wsX10_tree_r3 : List Cond := [Cond.instanceMethod yX10_wayFrom, Cond.selects RX10 yX10_wayFrom yX10_wayFrom, Cond.code yX10_wayFrom cX10_wayFrom 6 (some .int), Cond.methodLink RX10 221 yX10_joinsAll, Cond.instanceMethod yX10_joinsAll, Cond.selects RX10 yX10_joinsAll yX10_joinsAll, Cond.code yX10_joinsAll cX10_joinsAll 6 (some .boolean), Cond.fieldLink RX10 15 "RoundsPerHourModel" "places" "I", Cond.methodLink RX10 224 yX10_rises, Cond.instanceMethod yX10_rises, Cond.selects RX10 yX10_rises yX10_rises, Cond.code yX10_rises cX10_rises 5 (some .boolean), Cond.fieldLink RX10 206 "RoundsPerHourModel" "goesFrom" "I", Cond.fieldLink RX10 209 "RoundsPerHourModel" "goesTo" "I", Cond.methodLink RX10 249 yX10_climbed, Cond.instanceMethod yX10_climbed, Cond.selects RX10 yX10_climbed yX10_climbed, Cond.code yX10_climbed cX10_climbed 10 (some .long), Cond.methodLink RX10 233 yX10_aboveOf, Cond.instanceMethod yX10_aboveOf, Cond.selects RX10 yX10_aboveOf yX10_aboveOf, Cond.code yX10_aboveOf cX10_aboveOf 5 (some .long), Cond.fieldLink RX10 25 "RoundsPerHourModel" "base" "[I", Cond.fieldLink RX10 22 "RoundsPerHourModel" "thing" "[I"]
def wsX10_tree_r4 : List Cond := [Cond.methodLink RX10 107 yX10_brings, Cond.instanceMethod yX10_brings, Cond.selects RX10 yX10_brings yX10_brings, Cond.code yX10_brings cX10_brings 3 (some .int), Cond.fieldLink RX10 74 "RoundsPerHourModel" "weather" "I", Cond.methodLink RX10 236 yX10_belowOf, Cond.instanceMethod yX10_belowOf, Cond.selects RX10 yX10_belowOf yX10_belowOf, Cond.code yX10_belowOf cX10_belowOf 5 (some .long), Cond.methodLink RX10 110 yX10_lasts, Cond.instanceMethod yX10_lasts, Cond.selects RX10 yX10_lasts yX10_lasts, Cond.code yX10_lasts cX10_lasts 3 (some .int), Cond.methodLink RX10 239 yX10_nextChoice, Cond.instanceMethod yX10_nextChoice, Cond.selects RX10 yX10_nextChoice yX10_nextChoice, Cond.code yX10_nextChoice cX10_nextChoice 11 (some .int), Cond.methodLink RX10 173 yX10_lowest, Cond.static yX10_lowest, Cond.code yX10_lowest cX10_lowest 7 (some .long), Cond.methodLink RX10 125 yX10_common, Cond.static yX10_common, Cond.code yX10_common cX10_common 10 (some .long), Cond.methodLink RX10 243 yX10_leastLike]
def wsX10_tree_r5 : List Cond := [Cond.instanceMethod yX10_leastLike, Cond.selects RX10 yX10_leastLike yX10_leastLike, Cond.code yX10_leastLike cX10_leastLike 6 (some .int)]
def wsX10_tree : List Cond := .code yX10_tree cX10_tree 2 (some .long) :: ((wsX10_tree_r1 ++ (wsX10_tree_r2 ++ (wsX10_tree_r3 ++ (wsX10_tree_r4 ++ wsX10_tree_r5)))) ++ wsX100)
def wsX10_walk_r1 : List Cond := [Cond.constantLong RX10 253 (3), Cond.fieldLink RX10 212 "RoundsPerHourModel" "sort" "I", Cond.fieldLink RX10 206 "RoundsPerHourModel" "goesFrom" "I", Cond.fieldLink RX10 209 "RoundsPerHourModel" "goesTo" "I", Cond.methodLink RX10 57 yX10_in, Cond.static yX10_in, Cond.initialized RX10, Cond.code yX10_in cX10_in 6 (some .boolean), Cond.methodLink RX10 87 yX10_isPlace, Cond.instanceMethod yX10_isPlace, Cond.selects RX10 yX10_isPlace yX10_isPlace, Cond.code yX10_isPlace cX10_isPlace 2 (some .boolean), Cond.fieldLink RX10 15 "RoundsPerHourModel" "places" "I", Cond.methodLink RX10 165 yX10_farFinds, Cond.instanceMethod yX10_farFinds, Cond.selects RX10 yX10_farFinds yX10_farFinds, Cond.code yX10_farFinds cX10_farFinds 2 (some .long), Cond.fieldLink RX10 9 "RoundsPerHourModel" "found" "[I", Cond.constantLong RX10 55 (-4000000000000000001), Cond.methodLink RX10 255 yX10_told, Cond.instanceMethod yX10_told, Cond.selects RX10 yX10_told yX10_told, Cond.code yX10_told cX10_told 3 (some .long), Cond.methodLink RX10 246 yX10_leastChoice]
def wsX10_walk_r2 : List Cond := [Cond.instanceMethod yX10_leastChoice, Cond.selects RX10 yX10_leastChoice yX10_leastChoice, Cond.code yX10_leastChoice cX10_leastChoice 2 (some .int), Cond.methodLink RX10 227 yX10_allSets, Cond.instanceMethod yX10_allSets, Cond.selects RX10 yX10_allSets yX10_allSets, Cond.code yX10_allSets cX10_allSets 1 (some .int), Cond.fieldLink RX10 117 "RoundsPerHourModel" "things" "I", Cond.fieldLink RX10 61 "RoundsPerHourModel" "ways" "I", Cond.methodLink RX10 230 yX10_isChoice, Cond.instanceMethod yX10_isChoice, Cond.selects RX10 yX10_isChoice yX10_isChoice, Cond.code yX10_isChoice cX10_isChoice 2 (some .boolean), Cond.fieldLink RX10 215 "RoundsPerHourModel" "many" "I", Cond.methodLink RX10 203 yX10_bits, Cond.static yX10_bits, Cond.code yX10_bits cX10_bits 3 (some .int), Cond.methodLink RX10 157 yX10_openWays, Cond.instanceMethod yX10_openWays, Cond.selects RX10 yX10_openWays yX10_openWays, Cond.code yX10_openWays cX10_openWays 3 (some .int), Cond.methodLink RX10 70 yX10_at, Cond.instanceMethod yX10_at, Cond.selects RX10 yX10_at yX10_at]
def wsX10_walk_r3 : List Cond := [Cond.code yX10_at cX10_at 3 (some .int), Cond.fieldLink RX10 19 "RoundsPerHourModel" "way" "[I", Cond.methodLink RX10 218 yX10_isRound, Cond.instanceMethod yX10_isRound, Cond.selects RX10 yX10_isRound yX10_isRound, Cond.code yX10_isRound cX10_isRound 8 (some .boolean), Cond.methodLink RX10 200 yX10_wayFrom, Cond.instanceMethod yX10_wayFrom, Cond.selects RX10 yX10_wayFrom yX10_wayFrom, Cond.code yX10_wayFrom cX10_wayFrom 6 (some .int), Cond.methodLink RX10 221 yX10_joinsAll, Cond.instanceMethod yX10_joinsAll, Cond.selects RX10 yX10_joinsAll yX10_joinsAll, Cond.code yX10_joinsAll cX10_joinsAll 6 (some .boolean), Cond.methodLink RX10 224 yX10_rises, Cond.instanceMethod yX10_rises, Cond.selects RX10 yX10_rises yX10_rises, Cond.code yX10_rises cX10_rises 5 (some .boolean), Cond.methodLink RX10 249 yX10_climbed, Cond.instanceMethod yX10_climbed, Cond.selects RX10 yX10_climbed yX10_climbed, Cond.code yX10_climbed cX10_climbed 10 (some .long), Cond.methodLink RX10 233 yX10_aboveOf, Cond.instanceMethod yX10_aboveOf]
def wsX10_walk_r4 : List Cond := [Cond.selects RX10 yX10_aboveOf yX10_aboveOf, Cond.code yX10_aboveOf cX10_aboveOf 5 (some .long), Cond.fieldLink RX10 25 "RoundsPerHourModel" "base" "[I", Cond.fieldLink RX10 22 "RoundsPerHourModel" "thing" "[I", Cond.methodLink RX10 107 yX10_brings, Cond.instanceMethod yX10_brings, Cond.selects RX10 yX10_brings yX10_brings, Cond.code yX10_brings cX10_brings 3 (some .int), Cond.fieldLink RX10 74 "RoundsPerHourModel" "weather" "I", Cond.methodLink RX10 236 yX10_belowOf, Cond.instanceMethod yX10_belowOf, Cond.selects RX10 yX10_belowOf yX10_belowOf, Cond.code yX10_belowOf cX10_belowOf 5 (some .long), Cond.methodLink RX10 110 yX10_lasts, Cond.instanceMethod yX10_lasts, Cond.selects RX10 yX10_lasts yX10_lasts, Cond.code yX10_lasts cX10_lasts 3 (some .int), Cond.methodLink RX10 239 yX10_nextChoice, Cond.instanceMethod yX10_nextChoice, Cond.selects RX10 yX10_nextChoice yX10_nextChoice, Cond.code yX10_nextChoice cX10_nextChoice 11 (some .int), Cond.methodLink RX10 173 yX10_lowest, Cond.static yX10_lowest, Cond.code yX10_lowest cX10_lowest 7 (some .long)]
def wsX10_walk_r5 : List Cond := [Cond.methodLink RX10 125 yX10_common, Cond.static yX10_common, Cond.code yX10_common cX10_common 10 (some .long), Cond.methodLink RX10 243 yX10_leastLike, Cond.instanceMethod yX10_leastLike, Cond.selects RX10 yX10_leastLike yX10_leastLike, Cond.code yX10_leastLike cX10_leastLike 6 (some .int)]
def wsX10_walk : List Cond := .code yX10_walk cX10_walk 4 (some .long) :: ((wsX10_walk_r1 ++ (wsX10_walk_r2 ++ (wsX10_walk_r3 ++ (wsX10_walk_r4 ++ wsX10_walk_r5)))) ++ wsX100)
def wsX10_load_r1 : List Cond := [Cond.constantLong RX10 253 (3), Cond.fieldLink RX10 117 "RoundsPerHourModel" "things" "I", Cond.fieldLink RX10 212 "RoundsPerHourModel" "sort" "I", Cond.fieldLink RX10 215 "RoundsPerHourModel" "many" "I", Cond.methodLink RX10 57 yX10_in, Cond.static yX10_in, Cond.initialized RX10, Cond.code yX10_in cX10_in 6 (some .boolean), Cond.methodLink RX10 165 yX10_farFinds, Cond.instanceMethod yX10_farFinds, Cond.selects RX10 yX10_farFinds yX10_farFinds, Cond.code yX10_farFinds cX10_farFinds 2 (some .long), Cond.fieldLink RX10 9 "RoundsPerHourModel" "found" "[I", Cond.constantLong RX10 55 (-4000000000000000001), Cond.methodLink RX10 255 yX10_told, Cond.instanceMethod yX10_told, Cond.selects RX10 yX10_told yX10_told, Cond.code yX10_told cX10_told 3 (some .long), Cond.methodLink RX10 246 yX10_leastChoice, Cond.instanceMethod yX10_leastChoice, Cond.selects RX10 yX10_leastChoice yX10_leastChoice, Cond.code yX10_leastChoice cX10_leastChoice 2 (some .int), Cond.methodLink RX10 227 yX10_allSets, Cond.instanceMethod yX10_allSets]
def wsX10_load_r2 : List Cond := [Cond.selects RX10 yX10_allSets yX10_allSets, Cond.code yX10_allSets cX10_allSets 1 (some .int), Cond.fieldLink RX10 61 "RoundsPerHourModel" "ways" "I", Cond.methodLink RX10 230 yX10_isChoice, Cond.instanceMethod yX10_isChoice, Cond.selects RX10 yX10_isChoice yX10_isChoice, Cond.code yX10_isChoice cX10_isChoice 2 (some .boolean), Cond.methodLink RX10 203 yX10_bits, Cond.static yX10_bits, Cond.code yX10_bits cX10_bits 3 (some .int), Cond.methodLink RX10 157 yX10_openWays, Cond.instanceMethod yX10_openWays, Cond.selects RX10 yX10_openWays yX10_openWays, Cond.code yX10_openWays cX10_openWays 3 (some .int), Cond.methodLink RX10 70 yX10_at, Cond.instanceMethod yX10_at, Cond.selects RX10 yX10_at yX10_at, Cond.code yX10_at cX10_at 3 (some .int), Cond.fieldLink RX10 19 "RoundsPerHourModel" "way" "[I", Cond.methodLink RX10 218 yX10_isRound, Cond.instanceMethod yX10_isRound, Cond.selects RX10 yX10_isRound yX10_isRound, Cond.code yX10_isRound cX10_isRound 8 (some .boolean), Cond.methodLink RX10 200 yX10_wayFrom]
def wsX10_load_r3 : List Cond := [Cond.instanceMethod yX10_wayFrom, Cond.selects RX10 yX10_wayFrom yX10_wayFrom, Cond.code yX10_wayFrom cX10_wayFrom 6 (some .int), Cond.methodLink RX10 221 yX10_joinsAll, Cond.instanceMethod yX10_joinsAll, Cond.selects RX10 yX10_joinsAll yX10_joinsAll, Cond.code yX10_joinsAll cX10_joinsAll 6 (some .boolean), Cond.fieldLink RX10 15 "RoundsPerHourModel" "places" "I", Cond.methodLink RX10 224 yX10_rises, Cond.instanceMethod yX10_rises, Cond.selects RX10 yX10_rises yX10_rises, Cond.code yX10_rises cX10_rises 5 (some .boolean), Cond.fieldLink RX10 206 "RoundsPerHourModel" "goesFrom" "I", Cond.fieldLink RX10 209 "RoundsPerHourModel" "goesTo" "I", Cond.methodLink RX10 249 yX10_climbed, Cond.instanceMethod yX10_climbed, Cond.selects RX10 yX10_climbed yX10_climbed, Cond.code yX10_climbed cX10_climbed 10 (some .long), Cond.methodLink RX10 233 yX10_aboveOf, Cond.instanceMethod yX10_aboveOf, Cond.selects RX10 yX10_aboveOf yX10_aboveOf, Cond.code yX10_aboveOf cX10_aboveOf 5 (some .long), Cond.fieldLink RX10 25 "RoundsPerHourModel" "base" "[I", Cond.fieldLink RX10 22 "RoundsPerHourModel" "thing" "[I"]
def wsX10_load_r4 : List Cond := [Cond.methodLink RX10 107 yX10_brings, Cond.instanceMethod yX10_brings, Cond.selects RX10 yX10_brings yX10_brings, Cond.code yX10_brings cX10_brings 3 (some .int), Cond.fieldLink RX10 74 "RoundsPerHourModel" "weather" "I", Cond.methodLink RX10 236 yX10_belowOf, Cond.instanceMethod yX10_belowOf, Cond.selects RX10 yX10_belowOf yX10_belowOf, Cond.code yX10_belowOf cX10_belowOf 5 (some .long), Cond.methodLink RX10 110 yX10_lasts, Cond.instanceMethod yX10_lasts, Cond.selects RX10 yX10_lasts yX10_lasts, Cond.code yX10_lasts cX10_lasts 3 (some .int), Cond.methodLink RX10 239 yX10_nextChoice, Cond.instanceMethod yX10_nextChoice, Cond.selects RX10 yX10_nextChoice yX10_nextChoice, Cond.code yX10_nextChoice cX10_nextChoice 11 (some .int), Cond.methodLink RX10 173 yX10_lowest, Cond.static yX10_lowest, Cond.code yX10_lowest cX10_lowest 7 (some .long), Cond.methodLink RX10 125 yX10_common, Cond.static yX10_common, Cond.code yX10_common cX10_common 10 (some .long), Cond.methodLink RX10 243 yX10_leastLike]
def wsX10_load_r5 : List Cond := [Cond.instanceMethod yX10_leastLike, Cond.selects RX10 yX10_leastLike yX10_leastLike, Cond.code yX10_leastLike cX10_leastLike 6 (some .int)]
def wsX10_load : List Cond := .code yX10_load cX10_load 3 (some .long) :: ((wsX10_load_r1 ++ (wsX10_load_r2 ++ (wsX10_load_r3 ++ (wsX10_load_r4 ++ wsX10_load_r5)))) ++ wsX100)
def wsX10_ratio_r1 : List Cond := [Cond.constantLong RX10 77 (2), Cond.fieldLink RX10 212 "RoundsPerHourModel" "sort" "I", Cond.fieldLink RX10 215 "RoundsPerHourModel" "many" "I", Cond.methodLink RX10 57 yX10_in, Cond.static yX10_in, Cond.initialized RX10, Cond.code yX10_in cX10_in 6 (some .boolean), Cond.methodLink RX10 165 yX10_farFinds, Cond.instanceMethod yX10_farFinds, Cond.selects RX10 yX10_farFinds yX10_farFinds, Cond.code yX10_farFinds cX10_farFinds 2 (some .long), Cond.fieldLink RX10 9 "RoundsPerHourModel" "found" "[I", Cond.constantLong RX10 55 (-4000000000000000001), Cond.methodLink RX10 203 yX10_bits, Cond.static yX10_bits, Cond.code yX10_bits cX10_bits 3 (some .int), Cond.methodLink RX10 227 yX10_allSets, Cond.instanceMethod yX10_allSets, Cond.selects RX10 yX10_allSets yX10_allSets, Cond.code yX10_allSets cX10_allSets 1 (some .int), Cond.fieldLink RX10 117 "RoundsPerHourModel" "things" "I", Cond.fieldLink RX10 61 "RoundsPerHourModel" "ways" "I", Cond.methodLink RX10 230 yX10_isChoice, Cond.instanceMethod yX10_isChoice]
def wsX10_ratio_r2 : List Cond := [Cond.selects RX10 yX10_isChoice yX10_isChoice, Cond.code yX10_isChoice cX10_isChoice 2 (some .boolean), Cond.methodLink RX10 157 yX10_openWays, Cond.instanceMethod yX10_openWays, Cond.selects RX10 yX10_openWays yX10_openWays, Cond.code yX10_openWays cX10_openWays 3 (some .int), Cond.methodLink RX10 70 yX10_at, Cond.instanceMethod yX10_at, Cond.selects RX10 yX10_at yX10_at, Cond.code yX10_at cX10_at 3 (some .int), Cond.fieldLink RX10 19 "RoundsPerHourModel" "way" "[I", Cond.methodLink RX10 218 yX10_isRound, Cond.instanceMethod yX10_isRound, Cond.selects RX10 yX10_isRound yX10_isRound, Cond.code yX10_isRound cX10_isRound 8 (some .boolean), Cond.methodLink RX10 200 yX10_wayFrom, Cond.instanceMethod yX10_wayFrom, Cond.selects RX10 yX10_wayFrom yX10_wayFrom, Cond.code yX10_wayFrom cX10_wayFrom 6 (some .int), Cond.methodLink RX10 221 yX10_joinsAll, Cond.instanceMethod yX10_joinsAll, Cond.selects RX10 yX10_joinsAll yX10_joinsAll, Cond.code yX10_joinsAll cX10_joinsAll 6 (some .boolean), Cond.fieldLink RX10 15 "RoundsPerHourModel" "places" "I"]
def wsX10_ratio_r3 : List Cond := [Cond.methodLink RX10 224 yX10_rises, Cond.instanceMethod yX10_rises, Cond.selects RX10 yX10_rises yX10_rises, Cond.code yX10_rises cX10_rises 5 (some .boolean), Cond.fieldLink RX10 206 "RoundsPerHourModel" "goesFrom" "I", Cond.fieldLink RX10 209 "RoundsPerHourModel" "goesTo" "I", Cond.methodLink RX10 233 yX10_aboveOf, Cond.instanceMethod yX10_aboveOf, Cond.selects RX10 yX10_aboveOf yX10_aboveOf, Cond.code yX10_aboveOf cX10_aboveOf 5 (some .long), Cond.fieldLink RX10 25 "RoundsPerHourModel" "base" "[I", Cond.fieldLink RX10 22 "RoundsPerHourModel" "thing" "[I", Cond.methodLink RX10 107 yX10_brings, Cond.instanceMethod yX10_brings, Cond.selects RX10 yX10_brings yX10_brings, Cond.code yX10_brings cX10_brings 3 (some .int), Cond.fieldLink RX10 74 "RoundsPerHourModel" "weather" "I", Cond.methodLink RX10 236 yX10_belowOf, Cond.instanceMethod yX10_belowOf, Cond.selects RX10 yX10_belowOf yX10_belowOf, Cond.code yX10_belowOf cX10_belowOf 5 (some .long), Cond.methodLink RX10 110 yX10_lasts, Cond.instanceMethod yX10_lasts, Cond.selects RX10 yX10_lasts yX10_lasts]
def wsX10_ratio_r4 : List Cond := [Cond.code yX10_lasts cX10_lasts 3 (some .int), Cond.methodLink RX10 173 yX10_lowest, Cond.static yX10_lowest, Cond.code yX10_lowest cX10_lowest 7 (some .long), Cond.methodLink RX10 125 yX10_common, Cond.static yX10_common, Cond.code yX10_common cX10_common 10 (some .long)]
def wsX10_ratio : List Cond := .code yX10_ratio cX10_ratio 4 (some .long) :: ((wsX10_ratio_r1 ++ (wsX10_ratio_r2 ++ (wsX10_ratio_r3 ++ wsX10_ratio_r4))) ++ wsX100)
def wsX10_isSheet : List Cond := .code yX10_isSheet cX10_isSheet 1 (some .boolean) :: ([.constantLong RX10 253 (3), .methodLink RX10 57 yX10_in, .static yX10_in, .initialized RX10, .code yX10_in cX10_in 6 (some .boolean)])
def wsX10_narrow : List Cond := .code yX10_narrow cX10_narrow 3 (some .long) :: ([])
def wsX10_wrong : List Cond := .code yX10_wrong cX10_wrong 4 (some .int) :: ([.fieldLink RX10 32 "RoundsPerHourModel" "bitsOf" "[I", .fieldLink RX10 35 "RoundsPerHourModel" "sizeOf" "[I", .fieldLink RX10 38 "RoundsPerHourModel" "number" "[J", .methodLink RX10 258 yX10_isSheet, .static yX10_isSheet, .initialized RX10, .code yX10_isSheet cX10_isSheet 1 (some .boolean), .constantLong RX10 253 (3), .methodLink RX10 57 yX10_in, .static yX10_in, .code yX10_in cX10_in 6 (some .boolean)] ++ wsX100)
def wsX10_compare_r1 : List Cond := [Cond.fieldLink RX10 183 "RoundsPerHourModel" "hasRoom" "Z", Cond.fieldLink RX10 38 "RoundsPerHourModel" "number" "[J", Cond.methodLink RX10 261 yX10_wrong, Cond.instanceMethod yX10_wrong, Cond.selects RX10 yX10_wrong yX10_wrong, Cond.initialized RX10, Cond.code yX10_wrong cX10_wrong 4 (some .int), Cond.fieldLink RX10 32 "RoundsPerHourModel" "bitsOf" "[I", Cond.fieldLink RX10 35 "RoundsPerHourModel" "sizeOf" "[I", Cond.methodLink RX10 258 yX10_isSheet, Cond.static yX10_isSheet, Cond.code yX10_isSheet cX10_isSheet 1 (some .boolean), Cond.constantLong RX10 253 (3), Cond.methodLink RX10 57 yX10_in, Cond.static yX10_in, Cond.code yX10_in cX10_in 6 (some .boolean), Cond.methodLink RX10 81 yX10_finds, Cond.instanceMethod yX10_finds, Cond.selects RX10 yX10_finds yX10_finds, Cond.code yX10_finds cX10_finds 2 (some .int), Cond.fieldLink RX10 9 "RoundsPerHourModel" "found" "[I", Cond.constant RX10 54 (-2000000001), Cond.methodLink RX10 186 yX10_product, Cond.instanceMethod yX10_product]
def wsX10_compare_r2 : List Cond := [Cond.selects RX10 yX10_product yX10_product, Cond.code yX10_product cX10_product 7 (some .long), Cond.constantLong RX10 120 (-1), Cond.constantLong RX10 177 (-9223372036854775808)]
def wsX10_compare : List Cond := .code yX10_compare cX10_compare 12 (some .int) :: ((wsX10_compare_r1 ++ wsX10_compare_r2) ++ wsX100)
def wsX10_reduce_r1 : List Cond := [Cond.fieldLink RX10 38 "RoundsPerHourModel" "number" "[J", Cond.constantLong RX10 177 (-9223372036854775808), Cond.fieldLink RX10 32 "RoundsPerHourModel" "bitsOf" "[I", Cond.methodLink RX10 261 yX10_wrong, Cond.instanceMethod yX10_wrong, Cond.selects RX10 yX10_wrong yX10_wrong, Cond.initialized RX10, Cond.code yX10_wrong cX10_wrong 4 (some .int), Cond.fieldLink RX10 35 "RoundsPerHourModel" "sizeOf" "[I", Cond.methodLink RX10 258 yX10_isSheet, Cond.static yX10_isSheet, Cond.code yX10_isSheet cX10_isSheet 1 (some .boolean), Cond.constantLong RX10 253 (3), Cond.methodLink RX10 57 yX10_in, Cond.static yX10_in, Cond.code yX10_in cX10_in 6 (some .boolean), Cond.methodLink RX10 165 yX10_farFinds, Cond.instanceMethod yX10_farFinds, Cond.selects RX10 yX10_farFinds yX10_farFinds, Cond.code yX10_farFinds cX10_farFinds 2 (some .long), Cond.fieldLink RX10 9 "RoundsPerHourModel" "found" "[I", Cond.constantLong RX10 55 (-4000000000000000001), Cond.methodLink RX10 265 yX10_narrow, Cond.static yX10_narrow]
def wsX10_reduce_r2 : List Cond := [Cond.code yX10_narrow cX10_narrow 3 (some .long)]
def wsX10_reduce : List Cond := .code yX10_reduce cX10_reduce 19 (some .long) :: ((wsX10_reduce_r1 ++ wsX10_reduce_r2) ++ wsX100)
def wsX10_add_r1 : List Cond := [Cond.fieldLink RX10 183 "RoundsPerHourModel" "hasRoom" "Z", Cond.fieldLink RX10 38 "RoundsPerHourModel" "number" "[J", Cond.fieldLink RX10 32 "RoundsPerHourModel" "bitsOf" "[I", Cond.methodLink RX10 261 yX10_wrong, Cond.instanceMethod yX10_wrong, Cond.selects RX10 yX10_wrong yX10_wrong, Cond.initialized RX10, Cond.code yX10_wrong cX10_wrong 4 (some .int), Cond.fieldLink RX10 35 "RoundsPerHourModel" "sizeOf" "[I", Cond.methodLink RX10 258 yX10_isSheet, Cond.static yX10_isSheet, Cond.code yX10_isSheet cX10_isSheet 1 (some .boolean), Cond.constantLong RX10 253 (3), Cond.methodLink RX10 57 yX10_in, Cond.static yX10_in, Cond.code yX10_in cX10_in 6 (some .boolean), Cond.methodLink RX10 81 yX10_finds, Cond.instanceMethod yX10_finds, Cond.selects RX10 yX10_finds yX10_finds, Cond.code yX10_finds cX10_finds 2 (some .int), Cond.fieldLink RX10 9 "RoundsPerHourModel" "found" "[I", Cond.constant RX10 54 (-2000000001), Cond.methodLink RX10 186 yX10_product, Cond.instanceMethod yX10_product]
def wsX10_add_r2 : List Cond := [Cond.selects RX10 yX10_product yX10_product, Cond.code yX10_product cX10_product 7 (some .long), Cond.constantLong RX10 120 (-1), Cond.constantLong RX10 177 (-9223372036854775808), Cond.methodLink RX10 269 yX10_sum, Cond.instanceMethod yX10_sum, Cond.selects RX10 yX10_sum yX10_sum, Cond.code yX10_sum cX10_sum 7 (some .long), Cond.methodLink RX10 265 yX10_narrow, Cond.static yX10_narrow, Cond.code yX10_narrow cX10_narrow 3 (some .long)]
def wsX10_add : List Cond := .code yX10_add cX10_add 15 (some .int) :: ((wsX10_add_r1 ++ wsX10_add_r2) ++ wsX100)
def wsX10_feed : List Cond := .code yX10_feed cX10_feed 4 (some .int) :: ([.constantLong RX10 272 (4), .fieldLink RX10 274 "RoundsPerHourModel" "taped" "I", .fieldLink RX10 44 "RoundsPerHourModel" "tape" "[I", .methodLink RX10 57 yX10_in, .static yX10_in, .initialized RX10, .code yX10_in cX10_in 6 (some .boolean), .methodLink RX10 81 yX10_finds, .instanceMethod yX10_finds, .selects RX10 yX10_finds yX10_finds, .code yX10_finds cX10_finds 2 (some .int), .fieldLink RX10 9 "RoundsPerHourModel" "found" "[I", .constant RX10 54 (-2000000001)] ++ wsX100)
def wsX10_wipe : List Cond := .code yX10_wipe cX10_wipe 2 (some .int) :: ([.fieldLink RX10 274 "RoundsPerHourModel" "taped" "I"] ++ wsX100)
def wsX10_byteAt : List Cond := .code yX10_byteAt cX10_byteAt 2 (some .int) :: ([.fieldLink RX10 274 "RoundsPerHourModel" "taped" "I", .fieldLink RX10 44 "RoundsPerHourModel" "tape" "[I"] ++ wsX100)
def wsX10_isWordFrom : List Cond := .code yX10_isWordFrom cX10_isWordFrom 4 (some .boolean) :: ([.fieldLink RX10 277 "RoundsPerHourModel" "read" "I", .fieldLink RX10 280 "RoundsPerHourModel" "began" "I", .fieldLink RX10 47 "RoundsPerHourModel" "words" "[C", .methodLink RX10 283 yX10_byteAt, .instanceMethod yX10_byteAt, .selects RX10 yX10_byteAt yX10_byteAt, .initialized RX10, .code yX10_byteAt cX10_byteAt 2 (some .int), .fieldLink RX10 274 "RoundsPerHourModel" "taped" "I", .fieldLink RX10 44 "RoundsPerHourModel" "tape" "[I"] ++ wsX100)
def wsX10_next : List Cond := .code yX10_next cX10_next 3 none :: ([.fieldLink RX10 277 "RoundsPerHourModel" "read" "I", .fieldLink RX10 280 "RoundsPerHourModel" "began" "I", .fieldLink RX10 286 "RoundsPerHourModel" "token" "I", .constantLong RX10 289 (97), .constantLong RX10 291 (122), .constantLong RX10 296 (48), .constantLong RX10 298 (57), .fieldLink RX10 300 "RoundsPerHourModel" "value" "I", .constant RX10 303 (999999), .methodLink RX10 283 yX10_byteAt, .instanceMethod yX10_byteAt, .selects RX10 yX10_byteAt yX10_byteAt, .initialized RX10, .code yX10_byteAt cX10_byteAt 2 (some .int), .fieldLink RX10 274 "RoundsPerHourModel" "taped" "I", .fieldLink RX10 44 "RoundsPerHourModel" "tape" "[I", .methodLink RX10 57 yX10_in, .static yX10_in, .code yX10_in cX10_in 6 (some .boolean), .methodLink RX10 293 yX10_isWordFrom, .instanceMethod yX10_isWordFrom, .selects RX10 yX10_isWordFrom yX10_isWordFrom, .code yX10_isWordFrom cX10_isWordFrom 4 (some .boolean), .fieldLink RX10 47 "RoundsPerHourModel" "words" "[C"] ++ wsX100)
def wsX10_isWord : List Cond := .code yX10_isWord cX10_isWord 2 (some .boolean) :: ([.fieldLink RX10 286 "RoundsPerHourModel" "token" "I"] ++ wsX100)
def wsX10_takesNumber_r1 : List Cond := [Cond.fieldLink RX10 286 "RoundsPerHourModel" "token" "I", Cond.fieldLink RX10 300 "RoundsPerHourModel" "value" "I", Cond.fieldLink RX10 304 "RoundsPerHourModel" "last" "I", Cond.methodLink RX10 57 yX10_in, Cond.static yX10_in, Cond.initialized RX10, Cond.code yX10_in cX10_in 6 (some .boolean), Cond.methodLink RX10 307 yX10_next, Cond.instanceMethod yX10_next, Cond.selects RX10 yX10_next yX10_next, Cond.code yX10_next cX10_next 3 none, Cond.fieldLink RX10 277 "RoundsPerHourModel" "read" "I", Cond.fieldLink RX10 280 "RoundsPerHourModel" "began" "I", Cond.constantLong RX10 289 (97), Cond.constantLong RX10 291 (122), Cond.constantLong RX10 296 (48), Cond.constantLong RX10 298 (57), Cond.constant RX10 303 (999999), Cond.methodLink RX10 283 yX10_byteAt, Cond.instanceMethod yX10_byteAt, Cond.selects RX10 yX10_byteAt yX10_byteAt, Cond.code yX10_byteAt cX10_byteAt 2 (some .int), Cond.fieldLink RX10 274 "RoundsPerHourModel" "taped" "I", Cond.fieldLink RX10 44 "RoundsPerHourModel" "tape" "[I"]
def wsX10_takesNumber_r2 : List Cond := [Cond.methodLink RX10 293 yX10_isWordFrom, Cond.instanceMethod yX10_isWordFrom, Cond.selects RX10 yX10_isWordFrom yX10_isWordFrom, Cond.code yX10_isWordFrom cX10_isWordFrom 4 (some .boolean), Cond.fieldLink RX10 47 "RoundsPerHourModel" "words" "[C"]
def wsX10_takesNumber : List Cond := .code yX10_takesNumber cX10_takesNumber 3 (some .boolean) :: ((wsX10_takesNumber_r1 ++ wsX10_takesNumber_r2) ++ wsX100)
def wsX10_readsGainAndTime_r1 : List Cond := [Cond.fieldLink RX10 310 "RoundsPerHourModel" "toldGain" "I", Cond.fieldLink RX10 313 "RoundsPerHourModel" "toldTime" "I", Cond.constant RX10 303 (999999), Cond.fieldLink RX10 304 "RoundsPerHourModel" "last" "I", Cond.methodLink RX10 316 yX10_isWord, Cond.instanceMethod yX10_isWord, Cond.selects RX10 yX10_isWord yX10_isWord, Cond.initialized RX10, Cond.code yX10_isWord cX10_isWord 2 (some .boolean), Cond.fieldLink RX10 286 "RoundsPerHourModel" "token" "I", Cond.methodLink RX10 307 yX10_next, Cond.instanceMethod yX10_next, Cond.selects RX10 yX10_next yX10_next, Cond.code yX10_next cX10_next 3 none, Cond.fieldLink RX10 277 "RoundsPerHourModel" "read" "I", Cond.fieldLink RX10 280 "RoundsPerHourModel" "began" "I", Cond.constantLong RX10 289 (97), Cond.constantLong RX10 291 (122), Cond.constantLong RX10 296 (48), Cond.constantLong RX10 298 (57), Cond.fieldLink RX10 300 "RoundsPerHourModel" "value" "I", Cond.methodLink RX10 283 yX10_byteAt, Cond.instanceMethod yX10_byteAt, Cond.selects RX10 yX10_byteAt yX10_byteAt]
def wsX10_readsGainAndTime_r2 : List Cond := [Cond.code yX10_byteAt cX10_byteAt 2 (some .int), Cond.fieldLink RX10 274 "RoundsPerHourModel" "taped" "I", Cond.fieldLink RX10 44 "RoundsPerHourModel" "tape" "[I", Cond.methodLink RX10 57 yX10_in, Cond.static yX10_in, Cond.code yX10_in cX10_in 6 (some .boolean), Cond.methodLink RX10 293 yX10_isWordFrom, Cond.instanceMethod yX10_isWordFrom, Cond.selects RX10 yX10_isWordFrom yX10_isWordFrom, Cond.code yX10_isWordFrom cX10_isWordFrom 4 (some .boolean), Cond.fieldLink RX10 47 "RoundsPerHourModel" "words" "[C", Cond.methodLink RX10 319 yX10_takesNumber, Cond.instanceMethod yX10_takesNumber, Cond.selects RX10 yX10_takesNumber yX10_takesNumber, Cond.code yX10_takesNumber cX10_takesNumber 3 (some .boolean)]
def wsX10_readsGainAndTime : List Cond := .code yX10_readsGainAndTime cX10_readsGainAndTime 2 (some .boolean) :: ((wsX10_readsGainAndTime_r1 ++ wsX10_readsGainAndTime_r2) ++ wsX100)
def wsX10_readsWay_r1 : List Cond := [Cond.fieldLink RX10 61 "RoundsPerHourModel" "ways" "I", Cond.fieldLink RX10 15 "RoundsPerHourModel" "places" "I", Cond.fieldLink RX10 304 "RoundsPerHourModel" "last" "I", Cond.fieldLink RX10 286 "RoundsPerHourModel" "token" "I", Cond.fieldLink RX10 300 "RoundsPerHourModel" "value" "I", Cond.fieldLink RX10 310 "RoundsPerHourModel" "toldGain" "I", Cond.fieldLink RX10 313 "RoundsPerHourModel" "toldTime" "I", Cond.fieldLink RX10 19 "RoundsPerHourModel" "way" "[I", Cond.methodLink RX10 307 yX10_next, Cond.instanceMethod yX10_next, Cond.selects RX10 yX10_next yX10_next, Cond.initialized RX10, Cond.code yX10_next cX10_next 3 none, Cond.fieldLink RX10 277 "RoundsPerHourModel" "read" "I", Cond.fieldLink RX10 280 "RoundsPerHourModel" "began" "I", Cond.constantLong RX10 289 (97), Cond.constantLong RX10 291 (122), Cond.constantLong RX10 296 (48), Cond.constantLong RX10 298 (57), Cond.constant RX10 303 (999999), Cond.methodLink RX10 283 yX10_byteAt, Cond.instanceMethod yX10_byteAt, Cond.selects RX10 yX10_byteAt yX10_byteAt, Cond.code yX10_byteAt cX10_byteAt 2 (some .int)]
def wsX10_readsWay_r2 : List Cond := [Cond.fieldLink RX10 274 "RoundsPerHourModel" "taped" "I", Cond.fieldLink RX10 44 "RoundsPerHourModel" "tape" "[I", Cond.methodLink RX10 57 yX10_in, Cond.static yX10_in, Cond.code yX10_in cX10_in 6 (some .boolean), Cond.methodLink RX10 293 yX10_isWordFrom, Cond.instanceMethod yX10_isWordFrom, Cond.selects RX10 yX10_isWordFrom yX10_isWordFrom, Cond.code yX10_isWordFrom cX10_isWordFrom 4 (some .boolean), Cond.fieldLink RX10 47 "RoundsPerHourModel" "words" "[C", Cond.methodLink RX10 319 yX10_takesNumber, Cond.instanceMethod yX10_takesNumber, Cond.selects RX10 yX10_takesNumber yX10_takesNumber, Cond.code yX10_takesNumber cX10_takesNumber 3 (some .boolean), Cond.methodLink RX10 322 yX10_readsGainAndTime, Cond.instanceMethod yX10_readsGainAndTime, Cond.selects RX10 yX10_readsGainAndTime yX10_readsGainAndTime, Cond.code yX10_readsGainAndTime cX10_readsGainAndTime 2 (some .boolean), Cond.methodLink RX10 316 yX10_isWord, Cond.instanceMethod yX10_isWord, Cond.selects RX10 yX10_isWord yX10_isWord, Cond.code yX10_isWord cX10_isWord 2 (some .boolean), Cond.methodLink RX10 98 yX10_addWay, Cond.instanceMethod yX10_addWay]
def wsX10_readsWay_r3 : List Cond := [Cond.selects RX10 yX10_addWay yX10_addWay, Cond.code yX10_addWay cX10_addWay 7 none]
def wsX10_readsWay : List Cond := .code yX10_readsWay cX10_readsWay 4 (some .boolean) :: ((wsX10_readsWay_r1 ++ (wsX10_readsWay_r2 ++ wsX10_readsWay_r3)) ++ wsX100)
def wsX10_readsThing_r1 : List Cond := [Cond.fieldLink RX10 117 "RoundsPerHourModel" "things" "I", Cond.fieldLink RX10 22 "RoundsPerHourModel" "thing" "[I", Cond.fieldLink RX10 310 "RoundsPerHourModel" "toldGain" "I", Cond.fieldLink RX10 313 "RoundsPerHourModel" "toldTime" "I", Cond.methodLink RX10 307 yX10_next, Cond.instanceMethod yX10_next, Cond.selects RX10 yX10_next yX10_next, Cond.initialized RX10, Cond.code yX10_next cX10_next 3 none, Cond.fieldLink RX10 277 "RoundsPerHourModel" "read" "I", Cond.fieldLink RX10 280 "RoundsPerHourModel" "began" "I", Cond.fieldLink RX10 286 "RoundsPerHourModel" "token" "I", Cond.constantLong RX10 289 (97), Cond.constantLong RX10 291 (122), Cond.constantLong RX10 296 (48), Cond.constantLong RX10 298 (57), Cond.fieldLink RX10 300 "RoundsPerHourModel" "value" "I", Cond.constant RX10 303 (999999), Cond.methodLink RX10 283 yX10_byteAt, Cond.instanceMethod yX10_byteAt, Cond.selects RX10 yX10_byteAt yX10_byteAt, Cond.code yX10_byteAt cX10_byteAt 2 (some .int), Cond.fieldLink RX10 274 "RoundsPerHourModel" "taped" "I", Cond.fieldLink RX10 44 "RoundsPerHourModel" "tape" "[I"]
def wsX10_readsThing_r2 : List Cond := [Cond.methodLink RX10 57 yX10_in, Cond.static yX10_in, Cond.code yX10_in cX10_in 6 (some .boolean), Cond.methodLink RX10 293 yX10_isWordFrom, Cond.instanceMethod yX10_isWordFrom, Cond.selects RX10 yX10_isWordFrom yX10_isWordFrom, Cond.code yX10_isWordFrom cX10_isWordFrom 4 (some .boolean), Cond.fieldLink RX10 47 "RoundsPerHourModel" "words" "[C", Cond.methodLink RX10 322 yX10_readsGainAndTime, Cond.instanceMethod yX10_readsGainAndTime, Cond.selects RX10 yX10_readsGainAndTime yX10_readsGainAndTime, Cond.code yX10_readsGainAndTime cX10_readsGainAndTime 2 (some .boolean), Cond.fieldLink RX10 304 "RoundsPerHourModel" "last" "I", Cond.methodLink RX10 316 yX10_isWord, Cond.instanceMethod yX10_isWord, Cond.selects RX10 yX10_isWord yX10_isWord, Cond.code yX10_isWord cX10_isWord 2 (some .boolean), Cond.methodLink RX10 319 yX10_takesNumber, Cond.instanceMethod yX10_takesNumber, Cond.selects RX10 yX10_takesNumber yX10_takesNumber, Cond.code yX10_takesNumber cX10_takesNumber 3 (some .boolean)]
def wsX10_readsThing : List Cond := .code yX10_readsThing cX10_readsThing 1 (some .boolean) :: ((wsX10_readsThing_r1 ++ wsX10_readsThing_r2) ++ wsX100)
def wsX10_readsItem_r1 : List Cond := [Cond.fieldLink RX10 286 "RoundsPerHourModel" "token" "I", Cond.constantLong RX10 85 (5), Cond.fieldLink RX10 15 "RoundsPerHourModel" "places" "I", Cond.fieldLink RX10 304 "RoundsPerHourModel" "last" "I", Cond.fieldLink RX10 74 "RoundsPerHourModel" "weather" "I", Cond.methodLink RX10 57 yX10_in, Cond.static yX10_in, Cond.initialized RX10, Cond.code yX10_in cX10_in 6 (some .boolean), Cond.methodLink RX10 325 yX10_readsWay, Cond.instanceMethod yX10_readsWay, Cond.selects RX10 yX10_readsWay yX10_readsWay, Cond.code yX10_readsWay cX10_readsWay 4 (some .boolean), Cond.fieldLink RX10 61 "RoundsPerHourModel" "ways" "I", Cond.fieldLink RX10 300 "RoundsPerHourModel" "value" "I", Cond.fieldLink RX10 310 "RoundsPerHourModel" "toldGain" "I", Cond.fieldLink RX10 313 "RoundsPerHourModel" "toldTime" "I", Cond.fieldLink RX10 19 "RoundsPerHourModel" "way" "[I", Cond.methodLink RX10 307 yX10_next, Cond.instanceMethod yX10_next, Cond.selects RX10 yX10_next yX10_next, Cond.code yX10_next cX10_next 3 none, Cond.fieldLink RX10 277 "RoundsPerHourModel" "read" "I", Cond.fieldLink RX10 280 "RoundsPerHourModel" "began" "I"]
def wsX10_readsItem_r2 : List Cond := [Cond.constantLong RX10 289 (97), Cond.constantLong RX10 291 (122), Cond.constantLong RX10 296 (48), Cond.constantLong RX10 298 (57), Cond.constant RX10 303 (999999), Cond.methodLink RX10 283 yX10_byteAt, Cond.instanceMethod yX10_byteAt, Cond.selects RX10 yX10_byteAt yX10_byteAt, Cond.code yX10_byteAt cX10_byteAt 2 (some .int), Cond.fieldLink RX10 274 "RoundsPerHourModel" "taped" "I", Cond.fieldLink RX10 44 "RoundsPerHourModel" "tape" "[I", Cond.methodLink RX10 293 yX10_isWordFrom, Cond.instanceMethod yX10_isWordFrom, Cond.selects RX10 yX10_isWordFrom yX10_isWordFrom, Cond.code yX10_isWordFrom cX10_isWordFrom 4 (some .boolean), Cond.fieldLink RX10 47 "RoundsPerHourModel" "words" "[C", Cond.methodLink RX10 319 yX10_takesNumber, Cond.instanceMethod yX10_takesNumber, Cond.selects RX10 yX10_takesNumber yX10_takesNumber, Cond.code yX10_takesNumber cX10_takesNumber 3 (some .boolean), Cond.methodLink RX10 322 yX10_readsGainAndTime, Cond.instanceMethod yX10_readsGainAndTime, Cond.selects RX10 yX10_readsGainAndTime yX10_readsGainAndTime, Cond.code yX10_readsGainAndTime cX10_readsGainAndTime 2 (some .boolean)]
def wsX10_readsItem_r3 : List Cond := [Cond.methodLink RX10 316 yX10_isWord, Cond.instanceMethod yX10_isWord, Cond.selects RX10 yX10_isWord yX10_isWord, Cond.code yX10_isWord cX10_isWord 2 (some .boolean), Cond.methodLink RX10 98 yX10_addWay, Cond.instanceMethod yX10_addWay, Cond.selects RX10 yX10_addWay yX10_addWay, Cond.code yX10_addWay cX10_addWay 7 none, Cond.methodLink RX10 328 yX10_readsThing, Cond.instanceMethod yX10_readsThing, Cond.selects RX10 yX10_readsThing yX10_readsThing, Cond.code yX10_readsThing cX10_readsThing 1 (some .boolean), Cond.fieldLink RX10 117 "RoundsPerHourModel" "things" "I", Cond.fieldLink RX10 22 "RoundsPerHourModel" "thing" "[I"]
def wsX10_readsItem : List Cond := .code yX10_readsItem cX10_readsItem 2 (some .boolean) :: ((wsX10_readsItem_r1 ++ (wsX10_readsItem_r2 ++ wsX10_readsItem_r3)) ++ wsX100)
def wsX10_text_r1 : List Cond := [Cond.fieldLink RX10 15 "RoundsPerHourModel" "places" "I", Cond.fieldLink RX10 74 "RoundsPerHourModel" "weather" "I", Cond.fieldLink RX10 61 "RoundsPerHourModel" "ways" "I", Cond.fieldLink RX10 117 "RoundsPerHourModel" "things" "I", Cond.fieldLink RX10 277 "RoundsPerHourModel" "read" "I", Cond.fieldLink RX10 286 "RoundsPerHourModel" "token" "I", Cond.fieldLink RX10 274 "RoundsPerHourModel" "taped" "I", Cond.fieldLink RX10 280 "RoundsPerHourModel" "began" "I", Cond.methodLink RX10 307 yX10_next, Cond.instanceMethod yX10_next, Cond.selects RX10 yX10_next yX10_next, Cond.initialized RX10, Cond.code yX10_next cX10_next 3 none, Cond.constantLong RX10 289 (97), Cond.constantLong RX10 291 (122), Cond.constantLong RX10 296 (48), Cond.constantLong RX10 298 (57), Cond.fieldLink RX10 300 "RoundsPerHourModel" "value" "I", Cond.constant RX10 303 (999999), Cond.methodLink RX10 283 yX10_byteAt, Cond.instanceMethod yX10_byteAt, Cond.selects RX10 yX10_byteAt yX10_byteAt, Cond.code yX10_byteAt cX10_byteAt 2 (some .int), Cond.fieldLink RX10 44 "RoundsPerHourModel" "tape" "[I"]
def wsX10_text_r2 : List Cond := [Cond.methodLink RX10 57 yX10_in, Cond.static yX10_in, Cond.code yX10_in cX10_in 6 (some .boolean), Cond.methodLink RX10 293 yX10_isWordFrom, Cond.instanceMethod yX10_isWordFrom, Cond.selects RX10 yX10_isWordFrom yX10_isWordFrom, Cond.code yX10_isWordFrom cX10_isWordFrom 4 (some .boolean), Cond.fieldLink RX10 47 "RoundsPerHourModel" "words" "[C", Cond.methodLink RX10 331 yX10_readsItem, Cond.instanceMethod yX10_readsItem, Cond.selects RX10 yX10_readsItem yX10_readsItem, Cond.code yX10_readsItem cX10_readsItem 2 (some .boolean), Cond.constantLong RX10 85 (5), Cond.fieldLink RX10 304 "RoundsPerHourModel" "last" "I", Cond.methodLink RX10 325 yX10_readsWay, Cond.instanceMethod yX10_readsWay, Cond.selects RX10 yX10_readsWay yX10_readsWay, Cond.code yX10_readsWay cX10_readsWay 4 (some .boolean), Cond.fieldLink RX10 310 "RoundsPerHourModel" "toldGain" "I", Cond.fieldLink RX10 313 "RoundsPerHourModel" "toldTime" "I", Cond.fieldLink RX10 19 "RoundsPerHourModel" "way" "[I", Cond.methodLink RX10 319 yX10_takesNumber, Cond.instanceMethod yX10_takesNumber, Cond.selects RX10 yX10_takesNumber yX10_takesNumber]
def wsX10_text_r3 : List Cond := [Cond.code yX10_takesNumber cX10_takesNumber 3 (some .boolean), Cond.methodLink RX10 322 yX10_readsGainAndTime, Cond.instanceMethod yX10_readsGainAndTime, Cond.selects RX10 yX10_readsGainAndTime yX10_readsGainAndTime, Cond.code yX10_readsGainAndTime cX10_readsGainAndTime 2 (some .boolean), Cond.methodLink RX10 316 yX10_isWord, Cond.instanceMethod yX10_isWord, Cond.selects RX10 yX10_isWord yX10_isWord, Cond.code yX10_isWord cX10_isWord 2 (some .boolean), Cond.methodLink RX10 98 yX10_addWay, Cond.instanceMethod yX10_addWay, Cond.selects RX10 yX10_addWay yX10_addWay, Cond.code yX10_addWay cX10_addWay 7 none, Cond.methodLink RX10 328 yX10_readsThing, Cond.instanceMethod yX10_readsThing, Cond.selects RX10 yX10_readsThing yX10_readsThing, Cond.code yX10_readsThing cX10_readsThing 1 (some .boolean), Cond.fieldLink RX10 22 "RoundsPerHourModel" "thing" "[I"]
def wsX10_text : List Cond := .code yX10_text cX10_text 7 (some .int) :: ((wsX10_text_r1 ++ (wsX10_text_r2 ++ wsX10_text_r3)) ++ wsX100)
def wsX10_sheet : List Cond := .code yX10_sheet cX10_sheet 5 (some .int) :: ([.fieldLink RX10 32 "RoundsPerHourModel" "bitsOf" "[I", .fieldLink RX10 35 "RoundsPerHourModel" "sizeOf" "[I", .fieldLink RX10 38 "RoundsPerHourModel" "number" "[J", .methodLink RX10 258 yX10_isSheet, .static yX10_isSheet, .initialized RX10, .code yX10_isSheet cX10_isSheet 1 (some .boolean), .constantLong RX10 253 (3), .methodLink RX10 57 yX10_in, .static yX10_in, .code yX10_in cX10_in 6 (some .boolean), .methodLink RX10 81 yX10_finds, .instanceMethod yX10_finds, .selects RX10 yX10_finds yX10_finds, .code yX10_finds cX10_finds 2 (some .int), .fieldLink RX10 9 "RoundsPerHourModel" "found" "[I", .constant RX10 54 (-2000000001)] ++ wsX100)
def wsX10_lacks : List Cond := .code yX10_lacks cX10_lacks 3 (some .int) :: ([.fieldLink RX10 32 "RoundsPerHourModel" "bitsOf" "[I", .fieldLink RX10 35 "RoundsPerHourModel" "sizeOf" "[I", .methodLink RX10 258 yX10_isSheet, .static yX10_isSheet, .initialized RX10, .code yX10_isSheet cX10_isSheet 1 (some .boolean), .constantLong RX10 253 (3), .methodLink RX10 57 yX10_in, .static yX10_in, .code yX10_in cX10_in 6 (some .boolean)] ++ wsX100)
def wsX10_write : List Cond := .code yX10_write cX10_write 6 (some .int) :: ([.fieldLink RX10 38 "RoundsPerHourModel" "number" "[J", .fieldLink RX10 32 "RoundsPerHourModel" "bitsOf" "[I", .methodLink RX10 334 yX10_lacks, .instanceMethod yX10_lacks, .selects RX10 yX10_lacks yX10_lacks, .initialized RX10, .code yX10_lacks cX10_lacks 3 (some .int), .fieldLink RX10 35 "RoundsPerHourModel" "sizeOf" "[I", .methodLink RX10 258 yX10_isSheet, .static yX10_isSheet, .code yX10_isSheet cX10_isSheet 1 (some .boolean), .constantLong RX10 253 (3), .methodLink RX10 57 yX10_in, .static yX10_in, .code yX10_in cX10_in 6 (some .boolean), .methodLink RX10 81 yX10_finds, .instanceMethod yX10_finds, .selects RX10 yX10_finds yX10_finds, .code yX10_finds cX10_finds 2 (some .int), .fieldLink RX10 9 "RoundsPerHourModel" "found" "[I", .constant RX10 54 (-2000000001), .methodLink RX10 265 yX10_narrow, .static yX10_narrow, .code yX10_narrow cX10_narrow 3 (some .long)] ++ wsX100)
def wsX10_read : List Cond := .code yX10_read cX10_read 4 (some .long) :: ([.fieldLink RX10 38 "RoundsPerHourModel" "number" "[J", .methodLink RX10 334 yX10_lacks, .instanceMethod yX10_lacks, .selects RX10 yX10_lacks yX10_lacks, .initialized RX10, .code yX10_lacks cX10_lacks 3 (some .int), .fieldLink RX10 32 "RoundsPerHourModel" "bitsOf" "[I", .fieldLink RX10 35 "RoundsPerHourModel" "sizeOf" "[I", .methodLink RX10 258 yX10_isSheet, .static yX10_isSheet, .code yX10_isSheet cX10_isSheet 1 (some .boolean), .constantLong RX10 253 (3), .methodLink RX10 57 yX10_in, .static yX10_in, .code yX10_in cX10_in 6 (some .boolean), .methodLink RX10 165 yX10_farFinds, .instanceMethod yX10_farFinds, .selects RX10 yX10_farFinds yX10_farFinds, .code yX10_farFinds cX10_farFinds 2 (some .long), .fieldLink RX10 9 "RoundsPerHourModel" "found" "[I", .constantLong RX10 55 (-4000000000000000001)] ++ wsX100)
def wsX10_copy : List Cond := .code yX10_copy cX10_copy 7 (some .int) :: ([.fieldLink RX10 32 "RoundsPerHourModel" "bitsOf" "[I", .fieldLink RX10 35 "RoundsPerHourModel" "sizeOf" "[I", .fieldLink RX10 41 "RoundsPerHourModel" "moved" "[J", .fieldLink RX10 38 "RoundsPerHourModel" "number" "[J", .methodLink RX10 258 yX10_isSheet, .static yX10_isSheet, .initialized RX10, .code yX10_isSheet cX10_isSheet 1 (some .boolean), .constantLong RX10 253 (3), .methodLink RX10 57 yX10_in, .static yX10_in, .code yX10_in cX10_in 6 (some .boolean), .methodLink RX10 81 yX10_finds, .instanceMethod yX10_finds, .selects RX10 yX10_finds yX10_finds, .code yX10_finds cX10_finds 2 (some .int), .fieldLink RX10 9 "RoundsPerHourModel" "found" "[I", .constant RX10 54 (-2000000001)] ++ wsX100)
def wsX10_lays : List Cond := .code yX10_lays cX10_lays 4 (some .int) :: ([.fieldLink RX10 32 "RoundsPerHourModel" "bitsOf" "[I", .fieldLink RX10 35 "RoundsPerHourModel" "sizeOf" "[I", .fieldLink RX10 61 "RoundsPerHourModel" "ways" "I", .fieldLink RX10 38 "RoundsPerHourModel" "number" "[J", .fieldLink RX10 19 "RoundsPerHourModel" "way" "[I", .methodLink RX10 258 yX10_isSheet, .static yX10_isSheet, .initialized RX10, .code yX10_isSheet cX10_isSheet 1 (some .boolean), .constantLong RX10 253 (3), .methodLink RX10 57 yX10_in, .static yX10_in, .code yX10_in cX10_in 6 (some .boolean), .methodLink RX10 81 yX10_finds, .instanceMethod yX10_finds, .selects RX10 yX10_finds yX10_finds, .code yX10_finds cX10_finds 2 (some .int), .fieldLink RX10 9 "RoundsPerHourModel" "found" "[I", .constant RX10 54 (-2000000001), .methodLink RX10 91 yX10_isGain, .static yX10_isGain, .code yX10_isGain cX10_isGain 2 (some .boolean), .constantLong RX10 64 (-999999999), .constantLong RX10 66 (999999999)] ++ wsX100)
def wsX10_image : List Cond := .code yX10_image cX10_image 2 (some .int) :: ([.fieldLink RX10 51 "RoundsPerHourModel" "kept" "[I", .fieldLink RX10 15 "RoundsPerHourModel" "places" "I", .fieldLink RX10 74 "RoundsPerHourModel" "weather" "I", .fieldLink RX10 61 "RoundsPerHourModel" "ways" "I", .fieldLink RX10 117 "RoundsPerHourModel" "things" "I", .fieldLink RX10 25 "RoundsPerHourModel" "base" "[I", .fieldLink RX10 19 "RoundsPerHourModel" "way" "[I", .fieldLink RX10 22 "RoundsPerHourModel" "thing" "[I", .fieldLink RX10 337 "RoundsPerHourModel" "isKept" "Z"] ++ wsX100)
def wsX10_undo : List Cond := .code yX10_undo cX10_undo 2 (some .int) :: ([.fieldLink RX10 337 "RoundsPerHourModel" "isKept" "Z", .fieldLink RX10 51 "RoundsPerHourModel" "kept" "[I", .fieldLink RX10 15 "RoundsPerHourModel" "places" "I", .fieldLink RX10 74 "RoundsPerHourModel" "weather" "I", .fieldLink RX10 61 "RoundsPerHourModel" "ways" "I", .fieldLink RX10 117 "RoundsPerHourModel" "things" "I", .fieldLink RX10 25 "RoundsPerHourModel" "base" "[I", .fieldLink RX10 19 "RoundsPerHourModel" "way" "[I", .fieldLink RX10 22 "RoundsPerHourModel" "thing" "[I", .methodLink RX10 81 yX10_finds, .instanceMethod yX10_finds, .selects RX10 yX10_finds yX10_finds, .initialized RX10, .code yX10_finds cX10_finds 2 (some .int), .fieldLink RX10 9 "RoundsPerHourModel" "found" "[I", .constant RX10 54 (-2000000001)] ++ wsX100)
def wsX10_tear : List Cond := .code yX10_tear cX10_tear 2 (some .int) :: ([.fieldLink RX10 337 "RoundsPerHourModel" "isKept" "Z"] ++ wsX100)
def wsX10_count : List Cond := .code yX10_count cX10_count 2 (some .int) :: ([.fieldLink RX10 15 "RoundsPerHourModel" "places" "I", .fieldLink RX10 61 "RoundsPerHourModel" "ways" "I", .fieldLink RX10 117 "RoundsPerHourModel" "things" "I", .fieldLink RX10 74 "RoundsPerHourModel" "weather" "I", .fieldLink RX10 274 "RoundsPerHourModel" "taped" "I", .methodLink RX10 157 yX10_openWays, .instanceMethod yX10_openWays, .selects RX10 yX10_openWays yX10_openWays, .initialized RX10, .code yX10_openWays cX10_openWays 3 (some .int), .methodLink RX10 70 yX10_at, .instanceMethod yX10_at, .selects RX10 yX10_at yX10_at, .code yX10_at cX10_at 3 (some .int), .fieldLink RX10 19 "RoundsPerHourModel" "way" "[I", .methodLink RX10 203 yX10_bits, .static yX10_bits, .code yX10_bits cX10_bits 3 (some .int), .methodLink RX10 81 yX10_finds, .instanceMethod yX10_finds, .selects RX10 yX10_finds yX10_finds, .code yX10_finds cX10_finds 2 (some .int), .fieldLink RX10 9 "RoundsPerHourModel" "found" "[I", .constant RX10 54 (-2000000001)] ++ wsX100)
def wsX10_status : List Cond := .code yX10_status cX10_status 4 (some .int) :: ([.constantLong RX10 120 (-1), .constantLong RX10 340 (8), .fieldLink RX10 9 "RoundsPerHourModel" "found" "[I", .methodLink RX10 57 yX10_in, .static yX10_in, .initialized RX10, .code yX10_in cX10_in 6 (some .boolean), .methodLink RX10 81 yX10_finds, .instanceMethod yX10_finds, .selects RX10 yX10_finds yX10_finds, .code yX10_finds cX10_finds 2 (some .int), .constant RX10 54 (-2000000001)] ++ wsX100)
def wsJ9_max_f86c9 : List Cond := .code yJ9_max_f86c9 cJ9_max_f86c9 4 (some .long) :: ([])
def wsJ9_min_7cf53 : List Cond := .code yJ9_min_7cf53 cJ9_min_7cf53 2 (some .int) :: ([])
def wsJ9_min_f86c9 : List Cond := .code yJ9_min_f86c9 cJ9_min_f86c9 4 (some .long) :: ([])
def wsL_law_r1 : List Cond := [Cond.classLink RL 7 RX9, Cond.instantiable RX9 12, Cond.initialized RX9, Cond.classLink RL 10 RX10, Cond.instantiable RX10 36, Cond.initialized RX10, Cond.constantLong RL 68 (4294967295), Cond.methodLink RL 9 yX9_init, Cond.instanceMethod yX9_init, Cond.code yX9_init cX9_init 2 none, Cond.methodLink RX9 3 objectInit, Cond.instanceMethod objectInit, Cond.code objectInit ⟨#[0xb1]⟩ 1 none, Cond.classLink RX9 9 RX1, Cond.instantiable RX1 12, Cond.initialized RX1, Cond.fieldLink RX9 12 "RoundsPerHour" "now" "LRoundsPerHour$Country;", Cond.fieldLink RX9 16 "RoundsPerHour" "kept" "LRoundsPerHour$Country;", Cond.fieldLink RX9 19 "RoundsPerHour" "draft" "LRoundsPerHour$Country;", Cond.classLink RX9 22 RX4, Cond.instantiable RX4 13, Cond.initialized RX4, Cond.fieldLink RX9 25 "RoundsPerHour" "rings" "LRoundsPerHour$Rings;", Cond.classLink RX9 29 RX7]
def wsL_law_r2 : List Cond := [Cond.instantiable RX7 12, Cond.initialized RX7, Cond.fieldLink RX9 32 "RoundsPerHour" "trees" "LRoundsPerHour$TreeClimb;", Cond.classLink RX9 36 RX8, Cond.instantiable RX8 15, Cond.initialized RX8, Cond.fieldLink RX9 39 "RoundsPerHour" "walks" "LRoundsPerHour$WalkClimb;", Cond.classLink RX9 43 RX3, Cond.instantiable RX3 11, Cond.initialized RX3, Cond.fieldLink RX9 46 "RoundsPerHour" "loads" "LRoundsPerHour$LoadClimb;", Cond.classLink RX9 50 RX2, Cond.instantiable RX2 1, Cond.initialized RX2, Cond.fieldLink RX9 53 "RoundsPerHour" "joins" "LRoundsPerHour$Joins;", Cond.classLink RX9 57 RX6, Cond.instantiable RX6 9, Cond.initialized RX6, Cond.fieldLink RX9 60 "RoundsPerHour" "tape" "LRoundsPerHour$Tape;", Cond.classLink RX9 64 RX5, Cond.fieldLink RX9 66 "RoundsPerHour" "sheets" "[LRoundsPerHour$Sheet;", Cond.arrayClass .int, Cond.fieldLink RX9 70 "RoundsPerHour" "found" "[I", Cond.instantiable RX5 3]
def wsL_law_r3 : List Cond := [Cond.initialized RX5, Cond.methodLink RX9 11 yX1_init, Cond.instanceMethod yX1_init, Cond.code yX1_init cX1_init 1 none, Cond.methodLink RX1 3 objectInit, Cond.fieldLink RX1 9 "RoundsPerHour$Country" "places" "I", Cond.fieldLink RX1 15 "RoundsPerHour$Country" "kind" "[I", Cond.fieldLink RX1 19 "RoundsPerHour$Country" "from" "[I", Cond.fieldLink RX1 22 "RoundsPerHour$Country" "to" "[I", Cond.fieldLink RX1 25 "RoundsPerHour$Country" "gain" "[I", Cond.fieldLink RX1 28 "RoundsPerHour$Country" "time" "[I", Cond.fieldLink RX1 31 "RoundsPerHour$Country" "shut" "[I", Cond.fieldLink RX1 34 "RoundsPerHour$Country" "thingGain" "[I", Cond.fieldLink RX1 37 "RoundsPerHour$Country" "thingTime" "[I", Cond.instanceMethod yX4_init, Cond.code yX4_init cX4_init 1 none, Cond.methodLink RX4 3 objectInit, Cond.fieldLink RX4 9 "RoundsPerHour$Rings" "sets" "[I", Cond.arrayClass .long, Cond.fieldLink RX4 15 "RoundsPerHour$Rings" "above" "[J", Cond.fieldLink RX4 19 "RoundsPerHour$Rings" "below" "[J", Cond.fieldLink RX4 22 "RoundsPerHour$Rings" "height" "[J", Cond.arrayClass .boolean, Cond.fieldLink RX4 25 "RoundsPerHour$Rings" "reached" "[Z"]
def wsL_law_r4 : List Cond := [Cond.fieldLink RX4 29 "RoundsPerHour$Rings" "leaving" "[I", Cond.fieldLink RX4 32 "RoundsPerHour$Rings" "wayOut" "[I", Cond.fieldLink RX4 35 "RoundsPerHour$Rings" "to" "[I", Cond.fieldLink RX4 38 "RoundsPerHour$Rings" "brings" "[J", Cond.fieldLink RX4 41 "RoundsPerHour$Rings" "lasts" "[J", Cond.instanceMethod yX7_init, Cond.code yX7_init cX7_init 1 none, Cond.classLink RX7 9 RX2, Cond.fieldLink RX7 12 "RoundsPerHour$TreeClimb" "joins" "LRoundsPerHour$Joins;", Cond.instanceMethod yX0_init, Cond.initialized RX0, Cond.code yX0_init cX0_init 1 none, Cond.methodLink RX0 3 objectInit, Cond.fieldLink RX0 9 "RoundsPerHour$Climb" "gains" "[J", Cond.fieldLink RX0 15 "RoundsPerHour$Climb" "times" "[J", Cond.fieldLink RX0 18 "RoundsPerHour$Climb" "weight" "[J", Cond.instanceMethod yX2_init, Cond.code yX2_init cX2_init 1 none, Cond.methodLink RX2 3 objectInit, Cond.fieldLink RX2 9 "RoundsPerHour$Joins" "label" "[I", Cond.instanceMethod yX8_init, Cond.code yX8_init cX8_init 1 none, Cond.fieldLink RX8 9 "RoundsPerHour$WalkClimb" "height" "[J", Cond.fieldLink RX8 15 "RoundsPerHour$WalkClimb" "sets" "[I"]
def wsL_law_r5 : List Cond := [Cond.instanceMethod yX3_init, Cond.code yX3_init cX3_init 1 none, Cond.instanceMethod yX6_init, Cond.code yX6_init cX6_init 1 none, Cond.methodLink RX6 3 objectInit, Cond.fieldLink RX6 9 "RoundsPerHour$Tape" "bytes" "[I", Cond.instanceMethod yX5_init, Cond.code yX5_init cX5_init 1 none, Cond.methodLink RX5 3 objectInit, Cond.fieldLink RX5 9 "RoundsPerHour$Sheet" "numbers" "[J", Cond.methodLink RL 12 yX10_init, Cond.instanceMethod yX10_init, Cond.code yX10_init cX10_init 1 none, Cond.methodLink RX10 3 objectInit, Cond.fieldLink RX10 9 "RoundsPerHourModel" "found" "[I", Cond.fieldLink RX10 15 "RoundsPerHourModel" "places" "I", Cond.fieldLink RX10 19 "RoundsPerHourModel" "way" "[I", Cond.fieldLink RX10 22 "RoundsPerHourModel" "thing" "[I", Cond.fieldLink RX10 25 "RoundsPerHourModel" "base" "[I", Cond.fieldLink RX10 28 "RoundsPerHourModel" "lifted" "[J", Cond.fieldLink RX10 32 "RoundsPerHourModel" "bitsOf" "[I", Cond.fieldLink RX10 35 "RoundsPerHourModel" "sizeOf" "[I", Cond.fieldLink RX10 38 "RoundsPerHourModel" "number" "[J", Cond.fieldLink RX10 41 "RoundsPerHourModel" "moved" "[J"]
def wsL_law_r6 : List Cond := [Cond.fieldLink RX10 44 "RoundsPerHourModel" "tape" "[I", Cond.arrayClass .char, Cond.fieldLink RX10 47 "RoundsPerHourModel" "words" "[C", Cond.fieldLink RX10 51 "RoundsPerHourModel" "kept" "[I", Cond.methodLink RL 13 yX9_places, Cond.instanceMethod yX9_places, Cond.selects RX9 yX9_places yX9_places, Cond.code yX9_places cX9_places 3 (some .int), Cond.fieldLink RX9 83 "RoundsPerHour$Country" "ways" "I", Cond.fieldLink RX9 87 "RoundsPerHour$Country" "from" "[I", Cond.fieldLink RX9 90 "RoundsPerHour$Country" "to" "[I", Cond.fieldLink RX9 93 "RoundsPerHour$Country" "places" "I", Cond.methodLink RX9 75 yX9_within, Cond.static yX9_within, Cond.code yX9_within cX9_within 3 (some .boolean), Cond.methodLink RX9 79 yX9_finding, Cond.instanceMethod yX9_finding, Cond.selects RX9 yX9_finding yX9_finding, Cond.code yX9_finding cX9_finding 2 (some .int), Cond.constant RX9 361 (-2000000001), Cond.methodLink RL 17 yX10_places, Cond.instanceMethod yX10_places, Cond.selects RX10 yX10_places yX10_places, Cond.code yX10_places cX10_places 3 (some .int)]
def wsL_law_r7 : List Cond := [Cond.constantLong RX10 77 (2), Cond.constantLong RX10 79 (6), Cond.fieldLink RX10 61 "RoundsPerHourModel" "ways" "I", Cond.methodLink RX10 57 yX10_in, Cond.static yX10_in, Cond.code yX10_in cX10_in 6 (some .boolean), Cond.methodLink RX10 81 yX10_finds, Cond.instanceMethod yX10_finds, Cond.selects RX10 yX10_finds yX10_finds, Cond.code yX10_finds cX10_finds 2 (some .int), Cond.constant RX10 54 (-2000000001), Cond.methodLink RX10 70 yX10_at, Cond.instanceMethod yX10_at, Cond.selects RX10 yX10_at yX10_at, Cond.code yX10_at cX10_at 3 (some .int), Cond.methodLink RL 18 yX9_weather, Cond.instanceMethod yX9_weather, Cond.selects RX9 yX9_weather yX9_weather, Cond.code yX9_weather cX9_weather 3 (some .int), Cond.fieldLink RX9 96 "RoundsPerHour$Country" "weather" "I", Cond.methodLink RL 21 yX10_weather, Cond.instanceMethod yX10_weather, Cond.selects RX10 yX10_weather yX10_weather, Cond.code yX10_weather cX10_weather 3 (some .int)]
def wsL_law_r8 : List Cond := [Cond.constantLong RX10 85 (5), Cond.fieldLink RX10 74 "RoundsPerHourModel" "weather" "I", Cond.methodLink RL 22 yX9_way, Cond.instanceMethod yX9_way, Cond.selects RX9 yX9_way yX9_way, Cond.code yX9_way cX9_way 7 (some .int), Cond.methodLink RX9 99 yX1_isPlace, Cond.instanceMethod yX1_isPlace, Cond.selects RX1 yX1_isPlace yX1_isPlace, Cond.code yX1_isPlace cX1_isPlace 2 (some .boolean), Cond.methodLink RX9 103 yX9_isKind, Cond.static yX9_isKind, Cond.code yX9_isKind cX9_isKind 1 (some .boolean), Cond.methodLink RX9 106 yX9_isGain, Cond.static yX9_isGain, Cond.code yX9_isGain cX9_isGain 1 (some .boolean), Cond.constant RX9 362 (-999999999), Cond.constant RX9 363 (999999999), Cond.methodLink RX9 109 yX9_isTime, Cond.static yX9_isTime, Cond.code yX9_isTime cX9_isTime 1 (some .boolean), Cond.constant RX9 364 (999999), Cond.methodLink RX9 112 yX1_newWay, Cond.instanceMethod yX1_newWay]
def wsL_law_r9 : List Cond := [Cond.selects RX1 yX1_newWay yX1_newWay, Cond.code yX1_newWay cX1_newWay 7 (some .int), Cond.fieldLink RX1 44 "RoundsPerHour$Country" "ways" "I", Cond.methodLink RL 26 yX10_way, Cond.instanceMethod yX10_way, Cond.selects RX10 yX10_way yX10_way, Cond.code yX10_way cX10_way 6 (some .int), Cond.methodLink RX10 87 yX10_isPlace, Cond.instanceMethod yX10_isPlace, Cond.selects RX10 yX10_isPlace yX10_isPlace, Cond.code yX10_isPlace cX10_isPlace 2 (some .boolean), Cond.methodLink RX10 91 yX10_isGain, Cond.static yX10_isGain, Cond.code yX10_isGain cX10_isGain 2 (some .boolean), Cond.constantLong RX10 64 (-999999999), Cond.constantLong RX10 66 (999999999), Cond.methodLink RX10 95 yX10_isTime, Cond.static yX10_isTime, Cond.code yX10_isTime cX10_isTime 1 (some .boolean), Cond.constantLong RX10 68 (999999), Cond.methodLink RX10 98 yX10_addWay, Cond.instanceMethod yX10_addWay, Cond.selects RX10 yX10_addWay yX10_addWay, Cond.code yX10_addWay cX10_addWay 7 none]
def wsL_law_r10 : List Cond := [Cond.methodLink RL 27 yX9_of, Cond.instanceMethod yX9_of, Cond.selects RX9 yX9_of yX9_of, Cond.code yX9_of cX9_of 3 (some .int), Cond.fieldLink RX9 119 "RoundsPerHour$Country" "kind" "[I", Cond.fieldLink RX9 122 "RoundsPerHour$Country" "gain" "[I", Cond.fieldLink RX9 125 "RoundsPerHour$Country" "time" "[I", Cond.fieldLink RX9 128 "RoundsPerHour$Country" "shut" "[I", Cond.methodLink RX9 116 yX1_isWay, Cond.instanceMethod yX1_isWay, Cond.selects RX1 yX1_isWay yX1_isWay, Cond.code yX1_isWay cX1_isWay 2 (some .boolean), Cond.methodLink RX9 131 yX1_bringsOf, Cond.instanceMethod yX1_bringsOf, Cond.selects RX1 yX1_bringsOf yX1_bringsOf, Cond.code yX1_bringsOf cX1_bringsOf 2 (some .int), Cond.fieldLink RX1 50 "RoundsPerHour$Country" "weather" "I", Cond.static yX9_brings, Cond.code yX9_brings cX9_brings 3 (some .int), Cond.methodLink RX9 368 yX9_brings, Cond.methodLink RX9 134 yX1_lastsOf, Cond.instanceMethod yX1_lastsOf, Cond.selects RX1 yX1_lastsOf yX1_lastsOf, Cond.code yX1_lastsOf cX1_lastsOf 2 (some .int)]
def wsL_law_r11 : List Cond := [Cond.static yX9_lasts, Cond.code yX9_lasts cX9_lasts 3 (some .int), Cond.methodLink RX9 371 yX9_lasts, Cond.methodLink RL 31 yX10_of, Cond.instanceMethod yX10_of, Cond.selects RX10 yX10_of yX10_of, Cond.code yX10_of cX10_of 3 (some .int), Cond.constantLong RX10 105 (7), Cond.methodLink RX10 102 yX10_isWay, Cond.instanceMethod yX10_isWay, Cond.selects RX10 yX10_isWay yX10_isWay, Cond.code yX10_isWay cX10_isWay 2 (some .boolean), Cond.methodLink RX10 107 yX10_brings, Cond.instanceMethod yX10_brings, Cond.selects RX10 yX10_brings yX10_brings, Cond.code yX10_brings cX10_brings 3 (some .int), Cond.methodLink RX10 110 yX10_lasts, Cond.instanceMethod yX10_lasts, Cond.selects RX10 yX10_lasts yX10_lasts, Cond.code yX10_lasts cX10_lasts 3 (some .int), Cond.methodLink RL 32 yX9_change, Cond.instanceMethod yX9_change, Cond.selects RX9 yX9_change yX9_change, Cond.code yX9_change cX9_change 4 (some .int)]
def wsL_law_r12 : List Cond := [Cond.methodLink RX9 137 yX9_canBecome, Cond.instanceMethod yX9_canBecome, Cond.selects RX9 yX9_canBecome yX9_canBecome, Cond.code yX9_canBecome cX9_canBecome 4 (some .boolean), Cond.methodLink RX9 140 yX9_put, Cond.static yX9_put, Cond.code yX9_put cX9_put 4 (some .int), Cond.methodLink RL 36 yX10_change, Cond.instanceMethod yX10_change, Cond.selects RX10 yX10_change yX10_change, Cond.code yX10_change cX10_change 5 (some .int), Cond.methodLink RX10 113 yX10_mayBe, Cond.instanceMethod yX10_mayBe, Cond.selects RX10 yX10_mayBe yX10_mayBe, Cond.code yX10_mayBe cX10_mayBe 4 (some .boolean), Cond.methodLink RL 37 yX9_as, Cond.instanceMethod yX9_as, Cond.selects RX9 yX9_as yX9_as, Cond.code yX9_as cX9_as 3 (some .int), Cond.methodLink RX9 144 yX9_isUnder, Cond.static yX9_isUnder, Cond.code yX9_isUnder cX9_isUnder 4 (some .boolean), Cond.fieldLink RX9 365 "RoundsPerHour" "KIND_ABOVE" "[I", Cond.methodLink RL 40 yX10_as]
def wsL_law_r13 : List Cond := [Cond.instanceMethod yX10_as, Cond.selects RX10 yX10_as yX10_as, Cond.code yX10_as cX10_as 5 (some .int), Cond.methodLink RL 41 yX9_thing, Cond.instanceMethod yX9_thing, Cond.selects RX9 yX9_thing yX9_thing, Cond.code yX9_thing cX9_thing 3 (some .int), Cond.fieldLink RX9 148 "RoundsPerHour$Country" "things" "I", Cond.methodLink RX9 151 yX1_newThing, Cond.instanceMethod yX1_newThing, Cond.selects RX1 yX1_newThing yX1_newThing, Cond.code yX1_newThing cX1_newThing 3 (some .int), Cond.fieldLink RX1 47 "RoundsPerHour$Country" "things" "I", Cond.methodLink RL 44 yX10_thing, Cond.instanceMethod yX10_thing, Cond.selects RX10 yX10_thing yX10_thing, Cond.code yX10_thing cX10_thing 3 (some .int), Cond.fieldLink RX10 117 "RoundsPerHourModel" "things" "I", Cond.methodLink RL 45 yX9_alter, Cond.instanceMethod yX9_alter, Cond.selects RX9 yX9_alter yX9_alter, Cond.code yX9_alter cX9_alter 4 (some .int), Cond.fieldLink RX9 158 "RoundsPerHour$Country" "thingGain" "[I", Cond.fieldLink RX9 161 "RoundsPerHour$Country" "thingTime" "[I"]
def wsL_law_r14 : List Cond := [Cond.methodLink RX9 155 yX1_isThingOrBase, Cond.instanceMethod yX1_isThingOrBase, Cond.selects RX1 yX1_isThingOrBase yX1_isThingOrBase, Cond.code yX1_isThingOrBase cX1_isThingOrBase 2 (some .boolean), Cond.methodLink RL 48 yX10_alter, Cond.instanceMethod yX10_alter, Cond.selects RX10 yX10_alter yX10_alter, Cond.code yX10_alter cX10_alter 5 (some .int), Cond.methodLink RX10 122 yX10_isThing, Cond.instanceMethod yX10_isThing, Cond.selects RX10 yX10_isThing yX10_isThing, Cond.code yX10_isThing cX10_isThing 2 (some .boolean), Cond.constantLong RX10 120 (-1), Cond.methodLink RL 49 yX9_its, Cond.instanceMethod yX9_its, Cond.selects RX9 yX9_its yX9_its, Cond.code yX9_its cX9_its 3 (some .int), Cond.methodLink RL 52 yX10_its, Cond.instanceMethod yX10_its, Cond.selects RX10 yX10_its yX10_its, Cond.code yX10_its cX10_its 3 (some .int), Cond.methodLink RL 53 yX9_ring, Cond.instanceMethod yX9_ring, Cond.selects RX9 yX9_ring yX9_ring]
def wsL_law_r15 : List Cond := [Cond.code yX9_ring cX9_ring 3 (some .long), Cond.fieldLink RX9 172 "RoundsPerHour$Rings" "above" "[J", Cond.fieldLink RX9 176 "RoundsPerHour$Rings" "below" "[J", Cond.methodLink RX9 164 yX9_longFinding, Cond.instanceMethod yX9_longFinding, Cond.selects RX9 yX9_longFinding yX9_longFinding, Cond.code yX9_longFinding cX9_longFinding 2 (some .long), Cond.constantLong RX9 203 (-4000000000000000001), Cond.methodLink RX9 168 yX9_bestRing, Cond.instanceMethod yX9_bestRing, Cond.selects RX9 yX9_bestRing yX9_bestRing, Cond.code yX9_bestRing cX9_bestRing 1 (some .int), Cond.methodLink RX9 205 yX4_gather, Cond.instanceMethod yX4_gather, Cond.selects RX4 yX4_gather yX4_gather, Cond.code yX4_gather cX4_gather 5 none, Cond.fieldLink RX4 44 "RoundsPerHour$Rings" "size" "I", Cond.fieldLink RX4 48 "RoundsPerHour$Country" "ways" "I", Cond.fieldLink RX4 53 "RoundsPerHour$Country" "to" "[I", Cond.fieldLink RX4 61 "RoundsPerHour$Country" "shut" "[I", Cond.fieldLink RX4 64 "RoundsPerHour$Country" "from" "[I", Cond.fieldLink RX4 67 "RoundsPerHour$Country" "places" "I", Cond.methodLink RX4 54 yX1_bringsOf, Cond.methodLink RX4 58 yX1_lastsOf]
def wsL_law_r16 : List Cond := [Cond.methodLink RX4 70 yX4_goOn, Cond.instanceMethod yX4_goOn, Cond.selects RX4 yX4_goOn yX4_goOn, Cond.code yX4_goOn cX4_goOn 13 none, Cond.methodLink RX4 74 yX4_keep, Cond.instanceMethod yX4_keep, Cond.selects RX4 yX4_keep yX4_keep, Cond.code yX4_keep cX4_keep 6 none, Cond.methodLink RX9 209 yX4_best, Cond.instanceMethod yX4_best, Cond.selects RX4 yX4_best yX4_best, Cond.code yX4_best cX4_best 4 (some .int), Cond.methodLink RX4 84 yX4_order, Cond.instanceMethod yX4_order, Cond.selects RX4 yX4_order yX4_order, Cond.code yX4_order cX4_order 3 (some .int), Cond.methodLink RX4 78 yJ13_compare_74951, Cond.static yJ13_compare_74951, Cond.initialized RJ13, Cond.code yJ13_compare_74951 cJ13_compare_74951 4 (some .int), Cond.methodLink RX9 179 yX9_lowest, Cond.static yX9_lowest, Cond.code yX9_lowest cX9_lowest 7 (some .long), Cond.methodLink RX9 304 yX9_sharedBelowZero]
def wsL_law_r17 : List Cond := [Cond.static yX9_sharedBelowZero, Cond.code yX9_sharedBelowZero cX9_sharedBelowZero 11 (some .long), Cond.methodLink RL 57 yX10_ring, Cond.instanceMethod yX10_ring, Cond.selects RX10 yX10_ring yX10_ring, Cond.code yX10_ring cX10_ring 2 (some .long), Cond.fieldLink RX10 140 "RoundsPerHourModel" "topAbove" "J", Cond.fieldLink RX10 136 "RoundsPerHourModel" "topBelow" "J", Cond.methodLink RX10 165 yX10_farFinds, Cond.instanceMethod yX10_farFinds, Cond.selects RX10 yX10_farFinds yX10_farFinds, Cond.code yX10_farFinds cX10_farFinds 2 (some .long), Cond.constantLong RX10 55 (-4000000000000000001), Cond.methodLink RX10 169 yX10_ringsNow, Cond.instanceMethod yX10_ringsNow, Cond.selects RX10 yX10_ringsNow yX10_ringsNow, Cond.code yX10_ringsNow cX10_ringsNow 1 (some .boolean), Cond.methodLink RX10 157 yX10_openWays, Cond.instanceMethod yX10_openWays, Cond.selects RX10 yX10_openWays yX10_openWays, Cond.code yX10_openWays cX10_openWays 3 (some .int), Cond.methodLink RX10 161 yX10_rings, Cond.instanceMethod yX10_rings, Cond.selects RX10 yX10_rings yX10_rings]
def wsL_law_r18 : List Cond := [Cond.code yX10_rings cX10_rings 4 (some .boolean), Cond.fieldLink RX10 146 "RoundsPerHourModel" "open" "I", Cond.fieldLink RX10 129 "RoundsPerHourModel" "must" "I", Cond.fieldLink RX10 132 "RoundsPerHourModel" "isAny" "Z", Cond.fieldLink RX10 143 "RoundsPerHourModel" "topWays" "I", Cond.methodLink RX10 153 yX10_goesRound, Cond.instanceMethod yX10_goesRound, Cond.selects RX10 yX10_goesRound yX10_goesRound, Cond.code yX10_goesRound cX10_goesRound 15 none, Cond.methodLink RX10 149 yX10_closes, Cond.instanceMethod yX10_closes, Cond.selects RX10 yX10_closes yX10_closes, Cond.code yX10_closes cX10_closes 8 none, Cond.methodLink RX10 173 yX10_lowest, Cond.static yX10_lowest, Cond.code yX10_lowest cX10_lowest 7 (some .long), Cond.methodLink RX10 125 yX10_common, Cond.static yX10_common, Cond.code yX10_common cX10_common 10 (some .long), Cond.methodLink RL 58 yX9_ringWays, Cond.instanceMethod yX9_ringWays, Cond.selects RX9 yX9_ringWays yX9_ringWays, Cond.code yX9_ringWays cX9_ringWays 4 (some .int), Cond.fieldLink RX9 183 "RoundsPerHour$Rings" "size" "I"]
def wsL_law_r19 : List Cond := [Cond.fieldLink RX9 189 "RoundsPerHour$Rings" "sets" "[I", Cond.methodLink RX9 186 yX4_order, Cond.methodLink RL 62 yX10_ringWays, Cond.instanceMethod yX10_ringWays, Cond.selects RX10 yX10_ringWays yX10_ringWays, Cond.code yX10_ringWays cX10_ringWays 1 (some .int), Cond.methodLink RL 63 yX9_lift, Cond.instanceMethod yX9_lift, Cond.selects RX9 yX9_lift yX9_lift, Cond.code yX9_lift cX9_lift 8 (some .long), Cond.fieldLink RX9 196 "RoundsPerHour$Rings" "height" "[J", Cond.methodLink RX9 192 yX4_lifts, Cond.instanceMethod yX4_lifts, Cond.selects RX4 yX4_lifts yX4_lifts, Cond.code yX4_lifts cX4_lifts 10 (some .boolean), Cond.methodLink RX4 108 yX4_step, Cond.instanceMethod yX4_step, Cond.selects RX4 yX4_step yX4_step, Cond.code yX4_step cX4_step 5 none, Cond.methodLink RL 67 yX10_lift, Cond.instanceMethod yX10_lift, Cond.selects RX10 yX10_lift yX10_lift, Cond.code yX10_lift cX10_lift 8 (some .long), Cond.constantLong RX10 177 (-9223372036854775808)]
def wsL_law_r20 : List Cond := [Cond.methodLink RX10 179 yX10_lifts, Cond.instanceMethod yX10_lifts, Cond.selects RX10 yX10_lifts yX10_lifts, Cond.code yX10_lifts cX10_lifts 11 (some .boolean), Cond.methodLink RL 70 yX9_worth, Cond.instanceMethod yX9_worth, Cond.selects RX9 yX9_worth yX9_worth, Cond.code yX9_worth cX9_worth 10 (some .long), Cond.methodLink RX9 199 yX9_productFits, Cond.static yX9_productFits, Cond.code yX9_productFits cX9_productFits 4 (some .boolean), Cond.constantLong RX9 374 (-1), Cond.constantLong RX9 307 (-9223372036854775808), Cond.methodLink RL 74 yX10_worth, Cond.instanceMethod yX10_worth, Cond.selects RX10 yX10_worth yX10_worth, Cond.code yX10_worth cX10_worth 5 (some .long), Cond.fieldLink RX10 183 "RoundsPerHourModel" "hasRoom" "Z", Cond.constantLong RX10 189 (-4000000000000000000), Cond.methodLink RX10 186 yX10_product, Cond.instanceMethod yX10_product, Cond.selects RX10 yX10_product yX10_product, Cond.code yX10_product cX10_product 7 (some .long), Cond.methodLink RL 75 yX9_raise]
def wsL_law_r21 : List Cond := [Cond.instanceMethod yX9_raise, Cond.selects RX9 yX9_raise yX9_raise, Cond.code yX9_raise cX9_raise 11 (some .int), Cond.constantLong RX9 212 (1000000000), Cond.constantLong RX9 214 (-999999999), Cond.methodLink RX9 220 Lib.MathLoose.min_long.x, Cond.static Lib.MathLoose.min_long.x, Cond.initialized "java/lang/Math", Cond.code Lib.MathLoose.min_long.x Lib.MathLoose.min_long.code 4 (some .long), Cond.constantLong RX9 226 (999999999), Cond.methodLink RX9 228 Lib.MathLoose.max_long.x, Cond.static Lib.MathLoose.max_long.x, Cond.code Lib.MathLoose.max_long.x Lib.MathLoose.max_long.code 4 (some .long), Cond.methodLink RX9 216 yX4_missingTo, Cond.instanceMethod yX4_missingTo, Cond.selects RX4 yX4_missingTo yX4_missingTo, Cond.code yX4_missingTo cX4_missingTo 8 (some .long), Cond.methodLink RX4 102 yJ9_floorDiv_f86c9, Cond.static yJ9_floorDiv_f86c9, Cond.initialized RJ9, Cond.code yJ9_floorDiv_f86c9 cJ9_floorDiv_f86c9 6 (some .long), Cond.methodLink RL 78 yX10_raise, Cond.instanceMethod yX10_raise, Cond.selects RX10 yX10_raise yX10_raise]
def wsL_law_r22 : List Cond := [Cond.code yX10_raise cX10_raise 4 (some .int), Cond.methodLink RX10 197 yX10_raised, Cond.instanceMethod yX10_raised, Cond.selects RX10 yX10_raised yX10_raised, Cond.code yX10_raised cX10_raised 10 (some .int), Cond.constant RX10 191 (-999999999), Cond.constant RX10 192 (999999999), Cond.methodLink RX10 193 yX10_isRaised, Cond.instanceMethod yX10_isRaised, Cond.selects RX10 yX10_isRaised yX10_isRaised, Cond.code yX10_isRaised cX10_isRaised 8 (some .boolean), Cond.methodLink RL 79 yX9_lose, Cond.instanceMethod yX9_lose, Cond.selects RX9 yX9_lose yX9_lose, Cond.code yX9_lose cX9_lose 5 (some .int), Cond.methodLink RL 82 yX10_lose, Cond.instanceMethod yX10_lose, Cond.selects RX10 yX10_lose yX10_lose, Cond.code yX10_lose cX10_lose 9 (some .int), Cond.methodLink RL 83 yX9_kind, Cond.instanceMethod yX9_kind, Cond.selects RX9 yX9_kind yX9_kind, Cond.code yX9_kind cX9_kind 4 (some .int), Cond.methodLink RX9 231 yX1_become]
def wsL_law_r23 : List Cond := [Cond.instanceMethod yX1_become, Cond.selects RX1 yX1_become yX1_become, Cond.code yX1_become cX1_become 2 none, Cond.methodLink RX1 80 arraycopyName, Cond.native arraycopyName, Cond.static arraycopyName, Cond.initialized "java/lang/System", Cond.methodLink RX9 235 yX4_forget, Cond.instanceMethod yX4_forget, Cond.selects RX4 yX4_forget yX4_forget, Cond.code yX4_forget cX4_forget 1 none, Cond.fieldLink RX4 88 "RoundsPerHour$Rings" "peakBelow" "J", Cond.methodLink RX9 238 yX4_rises, Cond.instanceMethod yX4_rises, Cond.selects RX4 yX4_rises yX4_rises, Cond.code yX4_rises cX4_rises 3 (some .boolean), Cond.fieldLink RX4 99 "RoundsPerHour$Rings" "peakAbove" "J", Cond.methodLink RX4 92 yX4_gather, Cond.methodLink RX4 96 yX4_best, Cond.methodLink RL 86 yX10_kind, Cond.instanceMethod yX10_kind, Cond.selects RX10 yX10_kind yX10_kind, Cond.code yX10_kind cX10_kind 9 (some .int), Cond.methodLink RL 87 yX9_season]
def wsL_law_r24 : List Cond := [Cond.instanceMethod yX9_season, Cond.selects RX9 yX9_season yX9_season, Cond.code yX9_season cX9_season 3 (some .int), Cond.methodLink RL 90 yX10_season, Cond.instanceMethod yX10_season, Cond.selects RX10 yX10_season yX10_season, Cond.code yX10_season cX10_season 8 (some .int), Cond.methodLink RL 91 yX9_tree, Cond.instanceMethod yX9_tree, Cond.selects RX9 yX9_tree yX9_tree, Cond.code yX9_tree cX9_tree 2 (some .long), Cond.methodLink RX9 242 yX7_climbs, Cond.instanceMethod yX7_climbs, Cond.selects RX7 yX7_climbs yX7_climbs, Cond.code yX7_climbs cX7_climbs 2 (some .boolean), Cond.fieldLink RX7 18 "RoundsPerHour$TreeClimb" "land" "LRoundsPerHour$Country;", Cond.methodLink RX7 22 ⟨"RoundsPerHour$TreeClimb", "takeWays", "(LRoundsPerHour$Country;)V"⟩, Cond.sameMethod "RoundsPerHour$TreeClimb" "RoundsPerHour$Climb" "takeWays" "(LRoundsPerHour$Country;)V", Cond.selects RX7 ⟨"RoundsPerHour$TreeClimb", "takeWays", "(LRoundsPerHour$Country;)V"⟩ yX0_takeWays, Cond.instanceMethod yX0_takeWays, Cond.code yX0_takeWays cX0_takeWays 3 none, Cond.fieldLink RX0 21 "RoundsPerHour$Country" "ways" "I", Cond.fieldLink RX0 27 "RoundsPerHour$Climb" "size" "I", Cond.methodLink RX0 30 yX1_bringsOf]
def wsL_law_r25 : List Cond := [Cond.methodLink RX0 34 yX1_lastsOf, Cond.methodLink RX7 26 ⟨"RoundsPerHour$TreeClimb", "runs", "()Z"⟩, Cond.sameMethod "RoundsPerHour$TreeClimb" "RoundsPerHour$Climb" "runs" "()Z", Cond.selects RX7 ⟨"RoundsPerHour$TreeClimb", "runs", "()Z"⟩ yX0_runs, Cond.instanceMethod yX0_runs, Cond.code yX0_runs cX0_runs 7 (some .boolean), Cond.fieldLink RX0 45 "RoundsPerHour$Climb" "steps" "I", Cond.fieldLink RX0 48 "RoundsPerHour$Climb" "baseAbove" "J", Cond.fieldLink RX0 56 "RoundsPerHour$Climb" "above" "J", Cond.fieldLink RX0 59 "RoundsPerHour$Climb" "baseBelow" "J", Cond.fieldLink RX0 62 "RoundsPerHour$Climb" "below" "J", Cond.fieldLink RX0 65 "RoundsPerHour$Climb" "best" "I", Cond.methodLink RX0 37 ⟨"RoundsPerHour$Climb", "weigh", "(JJ)V"⟩, Cond.sameMethod "RoundsPerHour$Climb" "RoundsPerHour$Climb" "weigh" "(JJ)V", Cond.selects RX3 ⟨"RoundsPerHour$Climb", "weigh", "(JJ)V"⟩ yX0_weigh, Cond.instanceMethod yX0_weigh, Cond.code yX0_weigh cX0_weigh 6 none, Cond.selects RX7 ⟨"RoundsPerHour$Climb", "weigh", "(JJ)V"⟩ yX0_weigh, Cond.selects RX8 ⟨"RoundsPerHour$Climb", "weigh", "(JJ)V"⟩ yX0_weigh, Cond.methodLink RX0 41 ⟨"RoundsPerHour$Climb", "pick", "()I"⟩, Cond.sameMethod "RoundsPerHour$Climb" "RoundsPerHour$Climb" "pick" "()I", Cond.selects RX3 ⟨"RoundsPerHour$Climb", "pick", "()I"⟩ yX3_pick, Cond.instanceMethod yX3_pick, Cond.code yX3_pick cX3_pick 5 (some .int)]
def wsL_law_r26 : List Cond := [Cond.fieldLink RX3 7 "RoundsPerHour$LoadClimb" "most" "I", Cond.fieldLink RX3 18 "RoundsPerHour$LoadClimb" "size" "I", Cond.sameField "RoundsPerHour$LoadClimb" "RoundsPerHour$Climb" "size" "I", Cond.fieldLink RX3 46 "RoundsPerHour$LoadClimb" "weight" "[J", Cond.sameField "RoundsPerHour$LoadClimb" "RoundsPerHour$Climb" "weight" "[J", Cond.selects RX7 ⟨"RoundsPerHour$Climb", "pick", "()I"⟩ yX7_pick, Cond.instanceMethod yX7_pick, Cond.code yX7_pick cX7_pick 4 (some .int), Cond.fieldLink RX7 33 "RoundsPerHour$Country" "places" "I", Cond.fieldLink RX7 43 "RoundsPerHour$Country" "from" "[I", Cond.fieldLink RX7 47 "RoundsPerHour$Country" "to" "[I", Cond.methodLink RX7 30 yX2_part, Cond.instanceMethod yX2_part, Cond.selects RX2 yX2_part yX2_part, Cond.code yX2_part cX2_part 2 none, Cond.methodLink RX7 39 yX7_heaviestJoining, Cond.instanceMethod yX7_heaviestJoining, Cond.selects RX7 yX7_heaviestJoining yX7_heaviestJoining, Cond.code yX7_heaviestJoining cX7_heaviestJoining 4 (some .int), Cond.fieldLink RX7 54 "RoundsPerHour$TreeClimb" "size" "I", Cond.sameField "RoundsPerHour$TreeClimb" "RoundsPerHour$Climb" "size" "I", Cond.fieldLink RX7 57 "RoundsPerHour$Country" "shut" "[I", Cond.fieldLink RX7 64 "RoundsPerHour$TreeClimb" "weight" "[J", Cond.sameField "RoundsPerHour$TreeClimb" "RoundsPerHour$Climb" "weight" "[J"]
def wsL_law_r27 : List Cond := [Cond.methodLink RX7 60 yX2_apart, Cond.instanceMethod yX2_apart, Cond.selects RX2 yX2_apart yX2_apart, Cond.code yX2_apart cX2_apart 3 (some .boolean), Cond.methodLink RX7 50 yX2_join, Cond.instanceMethod yX2_join, Cond.selects RX2 yX2_join yX2_join, Cond.code yX2_join cX2_join 6 none, Cond.selects RX8 ⟨"RoundsPerHour$Climb", "pick", "()I"⟩ yX8_pick, Cond.instanceMethod yX8_pick, Cond.code yX8_pick cX8_pick 2 (some .int), Cond.fieldLink RX8 23 "RoundsPerHour$WalkClimb" "start" "I", Cond.fieldLink RX8 27 "RoundsPerHour$WalkClimb" "end" "I", Cond.methodLink RX8 38 yX8_leave, Cond.instanceMethod yX8_leave, Cond.selects RX8 yX8_leave yX8_leave, Cond.code yX8_leave cX8_leave 8 none, Cond.fieldLink RX8 42 "RoundsPerHour$WalkClimb" "size" "I", Cond.sameField "RoundsPerHour$WalkClimb" "RoundsPerHour$Climb" "size" "I", Cond.fieldLink RX8 19 "RoundsPerHour$WalkClimb" "land" "LRoundsPerHour$Country;", Cond.fieldLink RX8 45 "RoundsPerHour$Country" "to" "[I", Cond.fieldLink RX8 50 "RoundsPerHour$Country" "shut" "[I", Cond.fieldLink RX8 53 "RoundsPerHour$Country" "from" "[I", Cond.fieldLink RX8 56 "RoundsPerHour$WalkClimb" "weight" "[J"]
def wsL_law_r28 : List Cond := [Cond.sameField "RoundsPerHour$WalkClimb" "RoundsPerHour$Climb" "weight" "[J", Cond.methodLink RX0 52 ⟨"RoundsPerHour$Climb", "together", "([JI)J"⟩, Cond.sameMethod "RoundsPerHour$Climb" "RoundsPerHour$Climb" "together" "([JI)J", Cond.selects RX3 ⟨"RoundsPerHour$Climb", "together", "([JI)J"⟩ yX0_together, Cond.instanceMethod yX0_together, Cond.code yX0_together cX0_together 6 (some .long), Cond.selects RX7 ⟨"RoundsPerHour$Climb", "together", "([JI)J"⟩ yX0_together, Cond.selects RX8 ⟨"RoundsPerHour$Climb", "together", "([JI)J"⟩ yX0_together, Cond.methodLink RX9 245 yX9_told, Cond.instanceMethod yX9_told, Cond.selects RX9 yX9_told yX9_told, Cond.code yX9_told cX9_told 4 (some .long), Cond.fieldLink RX9 255 "RoundsPerHour$Climb" "best" "I", Cond.fieldLink RX9 259 "RoundsPerHour$Climb" "steps" "I", Cond.fieldLink RX9 262 "RoundsPerHour$Climb" "above" "J", Cond.fieldLink RX9 265 "RoundsPerHour$Climb" "below" "J", Cond.methodLink RL 94 yX10_tree, Cond.instanceMethod yX10_tree, Cond.selects RX10 yX10_tree yX10_tree, Cond.code yX10_tree cX10_tree 2 (some .long), Cond.constantLong RX10 253 (3), Cond.fieldLink RX10 212 "RoundsPerHourModel" "sort" "I", Cond.methodLink RX10 255 yX10_told, Cond.instanceMethod yX10_told]
def wsL_law_r29 : List Cond := [Cond.selects RX10 yX10_told yX10_told, Cond.code yX10_told cX10_told 3 (some .long), Cond.methodLink RX10 246 yX10_leastChoice, Cond.instanceMethod yX10_leastChoice, Cond.selects RX10 yX10_leastChoice yX10_leastChoice, Cond.code yX10_leastChoice cX10_leastChoice 2 (some .int), Cond.methodLink RX10 227 yX10_allSets, Cond.instanceMethod yX10_allSets, Cond.selects RX10 yX10_allSets yX10_allSets, Cond.code yX10_allSets cX10_allSets 1 (some .int), Cond.methodLink RX10 230 yX10_isChoice, Cond.instanceMethod yX10_isChoice, Cond.selects RX10 yX10_isChoice yX10_isChoice, Cond.code yX10_isChoice cX10_isChoice 2 (some .boolean), Cond.fieldLink RX10 215 "RoundsPerHourModel" "many" "I", Cond.methodLink RX10 203 yX10_bits, Cond.static yX10_bits, Cond.code yX10_bits cX10_bits 3 (some .int), Cond.methodLink RX10 218 yX10_isRound, Cond.instanceMethod yX10_isRound, Cond.selects RX10 yX10_isRound yX10_isRound, Cond.code yX10_isRound cX10_isRound 8 (some .boolean), Cond.methodLink RX10 200 yX10_wayFrom, Cond.instanceMethod yX10_wayFrom]
def wsL_law_r30 : List Cond := [Cond.selects RX10 yX10_wayFrom yX10_wayFrom, Cond.code yX10_wayFrom cX10_wayFrom 6 (some .int), Cond.methodLink RX10 221 yX10_joinsAll, Cond.instanceMethod yX10_joinsAll, Cond.selects RX10 yX10_joinsAll yX10_joinsAll, Cond.code yX10_joinsAll cX10_joinsAll 6 (some .boolean), Cond.methodLink RX10 224 yX10_rises, Cond.instanceMethod yX10_rises, Cond.selects RX10 yX10_rises yX10_rises, Cond.code yX10_rises cX10_rises 5 (some .boolean), Cond.fieldLink RX10 206 "RoundsPerHourModel" "goesFrom" "I", Cond.fieldLink RX10 209 "RoundsPerHourModel" "goesTo" "I", Cond.methodLink RX10 249 yX10_climbed, Cond.instanceMethod yX10_climbed, Cond.selects RX10 yX10_climbed yX10_climbed, Cond.code yX10_climbed cX10_climbed 10 (some .long), Cond.methodLink RX10 233 yX10_aboveOf, Cond.instanceMethod yX10_aboveOf, Cond.selects RX10 yX10_aboveOf yX10_aboveOf, Cond.code yX10_aboveOf cX10_aboveOf 5 (some .long), Cond.methodLink RX10 236 yX10_belowOf, Cond.instanceMethod yX10_belowOf, Cond.selects RX10 yX10_belowOf yX10_belowOf, Cond.code yX10_belowOf cX10_belowOf 5 (some .long)]
def wsL_law_r31 : List Cond := [Cond.methodLink RX10 239 yX10_nextChoice, Cond.instanceMethod yX10_nextChoice, Cond.selects RX10 yX10_nextChoice yX10_nextChoice, Cond.code yX10_nextChoice cX10_nextChoice 11 (some .int), Cond.methodLink RX10 243 yX10_leastLike, Cond.instanceMethod yX10_leastLike, Cond.selects RX10 yX10_leastLike yX10_leastLike, Cond.code yX10_leastLike cX10_leastLike 6 (some .int), Cond.methodLink RL 95 yX9_walk, Cond.instanceMethod yX9_walk, Cond.selects RX9 yX9_walk yX9_walk, Cond.code yX9_walk cX9_walk 5 (some .long), Cond.methodLink RX9 249 yX8_climbs, Cond.instanceMethod yX8_climbs, Cond.selects RX8 yX8_climbs yX8_climbs, Cond.code yX8_climbs cX8_climbs 4 (some .boolean), Cond.methodLink RX8 30 ⟨"RoundsPerHour$WalkClimb", "takeWays", "(LRoundsPerHour$Country;)V"⟩, Cond.sameMethod "RoundsPerHour$WalkClimb" "RoundsPerHour$Climb" "takeWays" "(LRoundsPerHour$Country;)V", Cond.selects RX8 ⟨"RoundsPerHour$WalkClimb", "takeWays", "(LRoundsPerHour$Country;)V"⟩ yX0_takeWays, Cond.methodLink RX8 34 ⟨"RoundsPerHour$WalkClimb", "runs", "()Z"⟩, Cond.sameMethod "RoundsPerHour$WalkClimb" "RoundsPerHour$Climb" "runs" "()Z", Cond.selects RX8 ⟨"RoundsPerHour$WalkClimb", "runs", "()Z"⟩ yX0_runs, Cond.methodLink RL 99 yX10_walk, Cond.instanceMethod yX10_walk]
def wsL_law_r32 : List Cond := [Cond.selects RX10 yX10_walk yX10_walk, Cond.code yX10_walk cX10_walk 4 (some .long), Cond.methodLink RL 100 yX9_load, Cond.instanceMethod yX9_load, Cond.selects RX9 yX9_load yX9_load, Cond.code yX9_load cX9_load 3 (some .long), Cond.methodLink RX9 252 yX3_climbs, Cond.instanceMethod yX3_climbs, Cond.selects RX3 yX3_climbs yX3_climbs, Cond.code yX3_climbs cX3_climbs 4 (some .boolean), Cond.fieldLink RX3 13 "RoundsPerHour$Country" "things" "I", Cond.fieldLink RX3 21 "RoundsPerHour$Country" "thingGain" "[I", Cond.fieldLink RX3 25 "RoundsPerHour$LoadClimb" "baseAbove" "J", Cond.sameField "RoundsPerHour$LoadClimb" "RoundsPerHour$Climb" "baseAbove" "J", Cond.fieldLink RX3 29 "RoundsPerHour$Country" "thingTime" "[I", Cond.fieldLink RX3 32 "RoundsPerHour$LoadClimb" "baseBelow" "J", Cond.sameField "RoundsPerHour$LoadClimb" "RoundsPerHour$Climb" "baseBelow" "J", Cond.fieldLink RX3 35 "RoundsPerHour$LoadClimb" "gains" "[J", Cond.sameField "RoundsPerHour$LoadClimb" "RoundsPerHour$Climb" "gains" "[J", Cond.fieldLink RX3 39 "RoundsPerHour$LoadClimb" "times" "[J", Cond.sameField "RoundsPerHour$LoadClimb" "RoundsPerHour$Climb" "times" "[J", Cond.methodLink RX3 42 ⟨"RoundsPerHour$LoadClimb", "runs", "()Z"⟩, Cond.sameMethod "RoundsPerHour$LoadClimb" "RoundsPerHour$Climb" "runs" "()Z", Cond.selects RX3 ⟨"RoundsPerHour$LoadClimb", "runs", "()Z"⟩ yX0_runs]
def wsL_law_r33 : List Cond := [Cond.methodLink RL 103 yX10_load, Cond.instanceMethod yX10_load, Cond.selects RX10 yX10_load yX10_load, Cond.code yX10_load cX10_load 3 (some .long), Cond.methodLink RL 104 yX9_ratio, Cond.instanceMethod yX9_ratio, Cond.selects RX9 yX9_ratio yX9_ratio, Cond.code yX9_ratio cX9_ratio 4 (some .long), Cond.methodLink RX9 267 yX9_isChoice, Cond.instanceMethod yX9_isChoice, Cond.selects RX9 yX9_isChoice yX9_isChoice, Cond.code yX9_isChoice cX9_isChoice 3 (some .boolean), Cond.methodLink RX9 282 yX1_isOpenSet, Cond.instanceMethod yX1_isOpenSet, Cond.selects RX1 yX1_isOpenSet yX1_isOpenSet, Cond.code yX1_isOpenSet cX1_isOpenSet 3 (some .boolean), Cond.methodLink RX9 285 yX1_isRing, Cond.instanceMethod yX1_isRing, Cond.selects RX1 yX1_isRing yX1_isRing, Cond.code yX1_isRing cX1_isRing 7 (some .boolean), Cond.methodLink RX1 60 yX1_firstFrom, Cond.instanceMethod yX1_firstFrom, Cond.selects RX1 yX1_firstFrom yX1_firstFrom, Cond.code yX1_firstFrom cX1_firstFrom 4 (some .int)]
def wsL_law_r34 : List Cond := [Cond.methodLink RX1 64 yJ6_bitCount_0f7a4, Cond.static yJ6_bitCount_0f7a4, Cond.initialized RJ6, Cond.code yJ6_bitCount_0f7a4 cJ6_bitCount_0f7a4 1 (some .int), Cond.constant RJ6 265 (1431655765), Cond.constant RJ6 266 (858993459), Cond.constant RJ6 267 (252645135), Cond.methodLink RX9 288 yX2_isTree, Cond.instanceMethod yX2_isTree, Cond.selects RX2 yX2_isTree yX2_isTree, Cond.code yX2_isTree cX2_isTree 4 (some .boolean), Cond.fieldLink RX2 21 "RoundsPerHour$Country" "places" "I", Cond.fieldLink RX2 30 "RoundsPerHour$Country" "ways" "I", Cond.fieldLink RX2 33 "RoundsPerHour$Country" "from" "[I", Cond.fieldLink RX2 36 "RoundsPerHour$Country" "to" "[I", Cond.methodLink RX2 15 yJ6_bitCount_0f7a4, Cond.methodLink RX2 27 yX2_part, Cond.methodLink RX2 39 yX2_apart, Cond.methodLink RX2 43 yX2_join, Cond.methodLink RX9 270 yX1_gainTogether, Cond.instanceMethod yX1_gainTogether, Cond.selects RX1 yX1_gainTogether yX1_gainTogether, Cond.code yX1_gainTogether cX1_gainTogether 2 (some .long), Cond.methodLink RX1 76 yX1_sumWithBase]
def wsL_law_r35 : List Cond := [Cond.instanceMethod yX1_sumWithBase, Cond.selects RX1 yX1_sumWithBase yX1_sumWithBase, Cond.code yX1_sumWithBase cX1_sumWithBase 6 (some .long), Cond.methodLink RX9 273 yX1_timeTogether, Cond.instanceMethod yX1_timeTogether, Cond.selects RX1 yX1_timeTogether yX1_timeTogether, Cond.code yX1_timeTogether cX1_timeTogether 2 (some .long), Cond.methodLink RX9 276 yX1_bringTogether, Cond.instanceMethod yX1_bringTogether, Cond.selects RX1 yX1_bringTogether yX1_bringTogether, Cond.code yX1_bringTogether cX1_bringTogether 5 (some .long), Cond.methodLink RX1 70 yX1_bringsOf, Cond.methodLink RX9 279 yX1_lastTogether, Cond.instanceMethod yX1_lastTogether, Cond.selects RX1 yX1_lastTogether yX1_lastTogether, Cond.code yX1_lastTogether cX1_lastTogether 5 (some .long), Cond.methodLink RX1 73 yX1_lastsOf, Cond.methodLink RL 107 yX10_ratio, Cond.instanceMethod yX10_ratio, Cond.selects RX10 yX10_ratio yX10_ratio, Cond.code yX10_ratio cX10_ratio 4 (some .long), Cond.methodLink RL 108 yX9_compare, Cond.instanceMethod yX9_compare, Cond.selects RX9 yX9_compare yX9_compare]
def wsL_law_r36 : List Cond := [Cond.code yX9_compare cX9_compare 7 (some .int), Cond.fieldLink RX9 295 "RoundsPerHour$Sheet" "numbers" "[J", Cond.methodLink RX9 291 yX9_fractionFault, Cond.instanceMethod yX9_fractionFault, Cond.selects RX9 yX9_fractionFault yX9_fractionFault, Cond.code yX9_fractionFault cX9_fractionFault 6 (some .int), Cond.methodLink RX9 315 yX9_sheetFault, Cond.instanceMethod yX9_sheetFault, Cond.selects RX9 yX9_sheetFault yX9_sheetFault, Cond.code yX9_sheetFault cX9_sheetFault 2 (some .int), Cond.fieldLink RX9 340 "RoundsPerHour$Sheet" "bits" "I", Cond.methodLink RX9 318 yX5_hasFraction, Cond.instanceMethod yX5_hasFraction, Cond.selects RX5 yX5_hasFraction yX5_hasFraction, Cond.code yX5_hasFraction cX5_hasFraction 2 (some .boolean), Cond.fieldLink RX5 19 "RoundsPerHour$Sheet" "size" "I", Cond.methodLink RX9 298 yJ13_compare_74951, Cond.methodLink RL 111 yX10_compare, Cond.instanceMethod yX10_compare, Cond.selects RX10 yX10_compare yX10_compare, Cond.code yX10_compare cX10_compare 12 (some .int), Cond.methodLink RX10 261 yX10_wrong, Cond.instanceMethod yX10_wrong, Cond.selects RX10 yX10_wrong yX10_wrong]
def wsL_law_r37 : List Cond := [Cond.code yX10_wrong cX10_wrong 4 (some .int), Cond.methodLink RX10 258 yX10_isSheet, Cond.static yX10_isSheet, Cond.code yX10_isSheet cX10_isSheet 1 (some .boolean), Cond.methodLink RL 112 yX9_reduce, Cond.instanceMethod yX9_reduce, Cond.selects RX9 yX9_reduce yX9_reduce, Cond.code yX9_reduce cX9_reduce 11 (some .long), Cond.methodLink RX9 309 yX5_put, Cond.instanceMethod yX5_put, Cond.selects RX5 yX5_put yX5_put, Cond.code yX5_put cX5_put 4 none, Cond.fieldLink RX5 15 "RoundsPerHour$Sheet" "bits" "I", Cond.methodLink RL 115 yX10_reduce, Cond.instanceMethod yX10_reduce, Cond.selects RX10 yX10_reduce yX10_reduce, Cond.code yX10_reduce cX10_reduce 19 (some .long), Cond.methodLink RX10 265 yX10_narrow, Cond.static yX10_narrow, Cond.code yX10_narrow cX10_narrow 3 (some .long), Cond.methodLink RL 116 yX9_add, Cond.instanceMethod yX9_add, Cond.selects RX9 yX9_add yX9_add, Cond.code yX9_add cX9_add 14 (some .int)]
def wsL_law_r38 : List Cond := [Cond.methodLink RX9 312 yX9_sumFits, Cond.static yX9_sumFits, Cond.code yX9_sumFits cX9_sumFits 6 (some .boolean), Cond.methodLink RL 119 yX10_add, Cond.instanceMethod yX10_add, Cond.selects RX10 yX10_add yX10_add, Cond.code yX10_add cX10_add 15 (some .int), Cond.methodLink RX10 269 yX10_sum, Cond.instanceMethod yX10_sum, Cond.selects RX10 yX10_sum yX10_sum, Cond.code yX10_sum cX10_sum 7 (some .long), Cond.methodLink RL 120 yX9_feed, Cond.instanceMethod yX9_feed, Cond.selects RX9 yX9_feed yX9_feed, Cond.code yX9_feed cX9_feed 4 (some .int), Cond.fieldLink RX9 321 "RoundsPerHour$Tape" "length" "I", Cond.methodLink RX9 324 yX6_append, Cond.instanceMethod yX6_append, Cond.selects RX6 yX6_append yX6_append, Cond.code yX6_append cX6_append 2 none, Cond.fieldLink RX6 15 "RoundsPerHour$Tape" "length" "I", Cond.methodLink RL 123 yX10_feed, Cond.instanceMethod yX10_feed, Cond.selects RX10 yX10_feed yX10_feed]
def wsL_law_r39 : List Cond := [Cond.code yX10_feed cX10_feed 4 (some .int), Cond.constantLong RX10 272 (4), Cond.fieldLink RX10 274 "RoundsPerHourModel" "taped" "I", Cond.methodLink RL 124 yX9_wipe, Cond.instanceMethod yX9_wipe, Cond.selects RX9 yX9_wipe yX9_wipe, Cond.code yX9_wipe cX9_wipe 2 (some .int), Cond.methodLink RL 127 yX10_wipe, Cond.instanceMethod yX10_wipe, Cond.selects RX10 yX10_wipe yX10_wipe, Cond.code yX10_wipe cX10_wipe 2 (some .int), Cond.methodLink RL 128 yX9_text, Cond.instanceMethod yX9_text, Cond.selects RX9 yX9_text yX9_text, Cond.code yX9_text cX9_text 2 (some .int), Cond.methodLink RX9 328 yX6_tellTo, Cond.instanceMethod yX6_tellTo, Cond.selects RX6 yX6_tellTo yX6_tellTo, Cond.code yX6_tellTo cX6_tellTo 3 (some .int), Cond.fieldLink RX6 19 "RoundsPerHour$Tape" "land" "LRoundsPerHour$Country;", Cond.fieldLink RX6 23 "RoundsPerHour$Tape" "behind" "I", Cond.fieldLink RX6 33 "RoundsPerHour$Tape" "first" "I", Cond.fieldLink RX6 36 "RoundsPerHour$Tape" "sort" "I", Cond.methodLink RX6 26 yX6_next]
def wsL_law_r40 : List Cond := [Cond.instanceMethod yX6_next, Cond.selects RX6 yX6_next yX6_next, Cond.code yX6_next cX6_next 1 none, Cond.methodLink RX6 135 yX6_isLetter, Cond.static yX6_isLetter, Cond.code yX6_isLetter cX6_isLetter 1 (some .boolean), Cond.methodLink RX6 138 yX6_isDigit, Cond.static yX6_isDigit, Cond.code yX6_isDigit cX6_isDigit 1 (some .boolean), Cond.methodLink RX6 141 yX6_takeDigits, Cond.instanceMethod yX6_takeDigits, Cond.selects RX6 yX6_takeDigits yX6_takeDigits, Cond.code yX6_takeDigits cX6_takeDigits 1 none, Cond.fieldLink RX6 74 "RoundsPerHour$Tape" "number" "I", Cond.constant RX6 144 (1000000), Cond.methodLink RX6 145 Lib.Math.min.name, Cond.static Lib.Math.min.name, Cond.code Lib.Math.min.name Lib.Math.min.code 2 (some .int), Cond.methodLink RX6 29 yX6_item, Cond.instanceMethod yX6_item, Cond.selects RX6 yX6_item yX6_item, Cond.code yX6_item cX6_item 1 (some .boolean), Cond.methodLink RX6 41 yX6_isWord, Cond.instanceMethod yX6_isWord]
def wsL_law_r41 : List Cond := [Cond.selects RX6 yX6_isWord yX6_isWord, Cond.code yX6_isWord cX6_isWord 3 (some .boolean), Cond.methodLink RX6 127 yJ0_length_8abf5, Cond.instanceMethod yJ0_length_8abf5, Cond.selects RJ0 yJ0_length_8abf5 yJ0_length_8abf5, Cond.initialized RJ0, Cond.code yJ0_length_8abf5 cJ0_length_8abf5 1 (some .int), Cond.fieldLink RJ0 9 "java/lang/String" "value" "[B", Cond.methodLink RJ0 335 yJ0_coder_7d493, Cond.instanceMethod yJ0_coder_7d493, Cond.selects RJ0 yJ0_coder_7d493 yJ0_coder_7d493, Cond.code yJ0_coder_7d493 cJ0_coder_7d493 1 (some .byte), Cond.fieldLink RJ0 38 "java/lang/String" "COMPACT_STRINGS" "Z", Cond.fieldLink RJ0 15 "java/lang/String" "coder" "B", Cond.methodLink RX6 131 yJ0_charAt_5068e, Cond.instanceMethod yJ0_charAt_5068e, Cond.selects RJ0 yJ0_charAt_5068e yJ0_charAt_5068e, Cond.code yJ0_charAt_5068e cJ0_charAt_5068e 2 (some .char), Cond.methodLink RJ0 492 yJ0_isLatin1_aae02, Cond.instanceMethod yJ0_isLatin1_aae02, Cond.selects RJ0 yJ0_isLatin1_aae02 yJ0_isLatin1_aae02, Cond.code yJ0_isLatin1_aae02 cJ0_isLatin1_aae02 1 (some .boolean), Cond.methodLink RJ0 495 yJ1_charAt_3b067, Cond.static yJ1_charAt_3b067]
def wsL_law_r42 : List Cond := [Cond.initialized RJ1, Cond.code yJ1_charAt_3b067 cJ1_charAt_3b067 2 (some .char), Cond.methodLink RJ1 9 yJ0_checkIndex_df160, Cond.static yJ0_checkIndex_df160, Cond.code yJ0_checkIndex_df160 cJ0_checkIndex_df160 2 none, Cond.fieldLink RJ0 1053 "jdk/internal/util/Preconditions" "SIOOBE_FORMATTER" "Ljava/util/function/BiFunction;", Cond.methodLink RJ0 1059 yJ3_checkIndex_8e157, Cond.static yJ3_checkIndex_8e157, Cond.initialized RJ3, Cond.code yJ3_checkIndex_8e157 cJ3_checkIndex_8e157 3 (some .int), Cond.methodLink RJ0 498 yJ2_charAt_3b067, Cond.static yJ2_charAt_3b067, Cond.initialized RJ2, Cond.code yJ2_charAt_3b067 cJ2_charAt_3b067 2 (some .char), Cond.methodLink RJ2 67 yJ2_checkIndex_2214a, Cond.static yJ2_checkIndex_2214a, Cond.code yJ2_checkIndex_2214a cJ2_checkIndex_2214a 2 none, Cond.methodLink RJ2 48 yJ2_length_9d52b, Cond.static yJ2_length_9d52b, Cond.code yJ2_length_9d52b cJ2_length_9d52b 1 (some .int), Cond.methodLink RJ2 414 yJ0_checkIndex_df160, Cond.methodLink RJ2 71 yJ2_getChar_3b067, Cond.static yJ2_getChar_3b067, Cond.code yJ2_getChar_3b067 cJ2_getChar_3b067 2 (some .char)]
def wsL_law_r43 : List Cond := [Cond.fieldLink RJ2 44 "java/lang/StringUTF16" "$assertionsDisabled" "Z", Cond.fieldLink RJ2 59 "java/lang/StringUTF16" "HI_BYTE_SHIFT" "I", Cond.fieldLink RJ2 63 "java/lang/StringUTF16" "LO_BYTE_SHIFT" "I", Cond.methodLink RX6 45 yX6_placesItem, Cond.instanceMethod yX6_placesItem, Cond.selects RX6 yX6_placesItem yX6_placesItem, Cond.code yX6_placesItem cX6_placesItem 1 (some .boolean), Cond.fieldLink RX6 66 "RoundsPerHour$Country" "places" "I", Cond.methodLink RX6 70 yX6_isNumber, Cond.instanceMethod yX6_isNumber, Cond.selects RX6 yX6_isNumber yX6_isNumber, Cond.code yX6_isNumber cX6_isNumber 3 (some .boolean), Cond.methodLink RX6 50 yX6_weatherItem, Cond.instanceMethod yX6_weatherItem, Cond.selects RX6 yX6_weatherItem yX6_weatherItem, Cond.code yX6_weatherItem cX6_weatherItem 1 (some .boolean), Cond.fieldLink RX6 77 "RoundsPerHour$Country" "weather" "I", Cond.methodLink RX6 55 yX6_thingItem, Cond.instanceMethod yX6_thingItem, Cond.selects RX6 yX6_thingItem yX6_thingItem, Cond.code yX6_thingItem cX6_thingItem 1 (some .boolean), Cond.fieldLink RX6 79 "RoundsPerHour$Country" "things" "I", Cond.fieldLink RX6 85 "RoundsPerHour$Tape" "gain" "I", Cond.fieldLink RX6 88 "RoundsPerHour$Tape" "time" "I"]
def wsL_law_r44 : List Cond := [Cond.methodLink RX6 82 yX6_gainAndTime, Cond.instanceMethod yX6_gainAndTime, Cond.selects RX6 yX6_gainAndTime yX6_gainAndTime, Cond.code yX6_gainAndTime cX6_gainAndTime 2 (some .boolean), Cond.constant RX6 109 (999999), Cond.methodLink RX6 91 yX1_newThing, Cond.methodLink RX6 58 yX6_kindTold, Cond.instanceMethod yX6_kindTold, Cond.selects RX6 yX6_kindTold yX6_kindTold, Cond.code yX6_kindTold cX6_kindTold 1 (some .int), Cond.methodLink RX6 62 yX6_wayItem, Cond.instanceMethod yX6_wayItem, Cond.selects RX6 yX6_wayItem yX6_wayItem, Cond.code yX6_wayItem cX6_wayItem 5 (some .boolean), Cond.fieldLink RX6 95 "RoundsPerHour$Country" "ways" "I", Cond.fieldLink RX6 104 "RoundsPerHour$Country" "shut" "[I", Cond.methodLink RX6 98 yX1_newWay, Cond.methodLink RL 131 yX10_text, Cond.instanceMethod yX10_text, Cond.selects RX10 yX10_text yX10_text, Cond.code yX10_text cX10_text 7 (some .int), Cond.fieldLink RX10 277 "RoundsPerHourModel" "read" "I", Cond.fieldLink RX10 286 "RoundsPerHourModel" "token" "I", Cond.fieldLink RX10 280 "RoundsPerHourModel" "began" "I"]
def wsL_law_r45 : List Cond := [Cond.methodLink RX10 307 yX10_next, Cond.instanceMethod yX10_next, Cond.selects RX10 yX10_next yX10_next, Cond.code yX10_next cX10_next 3 none, Cond.constantLong RX10 289 (97), Cond.constantLong RX10 291 (122), Cond.constantLong RX10 296 (48), Cond.constantLong RX10 298 (57), Cond.fieldLink RX10 300 "RoundsPerHourModel" "value" "I", Cond.constant RX10 303 (999999), Cond.methodLink RX10 283 yX10_byteAt, Cond.instanceMethod yX10_byteAt, Cond.selects RX10 yX10_byteAt yX10_byteAt, Cond.code yX10_byteAt cX10_byteAt 2 (some .int), Cond.methodLink RX10 293 yX10_isWordFrom, Cond.instanceMethod yX10_isWordFrom, Cond.selects RX10 yX10_isWordFrom yX10_isWordFrom, Cond.code yX10_isWordFrom cX10_isWordFrom 4 (some .boolean), Cond.methodLink RX10 331 yX10_readsItem, Cond.instanceMethod yX10_readsItem, Cond.selects RX10 yX10_readsItem yX10_readsItem, Cond.code yX10_readsItem cX10_readsItem 2 (some .boolean), Cond.fieldLink RX10 304 "RoundsPerHourModel" "last" "I", Cond.methodLink RX10 325 yX10_readsWay]
def wsL_law_r46 : List Cond := [Cond.instanceMethod yX10_readsWay, Cond.selects RX10 yX10_readsWay yX10_readsWay, Cond.code yX10_readsWay cX10_readsWay 4 (some .boolean), Cond.fieldLink RX10 310 "RoundsPerHourModel" "toldGain" "I", Cond.fieldLink RX10 313 "RoundsPerHourModel" "toldTime" "I", Cond.methodLink RX10 319 yX10_takesNumber, Cond.instanceMethod yX10_takesNumber, Cond.selects RX10 yX10_takesNumber yX10_takesNumber, Cond.code yX10_takesNumber cX10_takesNumber 3 (some .boolean), Cond.methodLink RX10 322 yX10_readsGainAndTime, Cond.instanceMethod yX10_readsGainAndTime, Cond.selects RX10 yX10_readsGainAndTime yX10_readsGainAndTime, Cond.code yX10_readsGainAndTime cX10_readsGainAndTime 2 (some .boolean), Cond.methodLink RX10 316 yX10_isWord, Cond.instanceMethod yX10_isWord, Cond.selects RX10 yX10_isWord yX10_isWord, Cond.code yX10_isWord cX10_isWord 2 (some .boolean), Cond.methodLink RX10 328 yX10_readsThing, Cond.instanceMethod yX10_readsThing, Cond.selects RX10 yX10_readsThing yX10_readsThing, Cond.code yX10_readsThing cX10_readsThing 1 (some .boolean), Cond.methodLink RL 132 yX9_sheet, Cond.instanceMethod yX9_sheet, Cond.selects RX9 yX9_sheet yX9_sheet]
def wsL_law_r47 : List Cond := [Cond.code yX9_sheet cX9_sheet 4 (some .int), Cond.fieldLink RX9 336 "RoundsPerHour$Sheet" "size" "I", Cond.methodLink RX9 332 yX5_begin, Cond.instanceMethod yX5_begin, Cond.selects RX5 yX5_begin yX5_begin, Cond.code yX5_begin cX5_begin 4 none, Cond.methodLink RL 135 yX10_sheet, Cond.instanceMethod yX10_sheet, Cond.selects RX10 yX10_sheet yX10_sheet, Cond.code yX10_sheet cX10_sheet 5 (some .int), Cond.methodLink RL 136 yX9_write, Cond.instanceMethod yX9_write, Cond.selects RX9 yX9_write yX9_write, Cond.code yX9_write cX9_write 6 (some .int), Cond.methodLink RX9 337 yX9_numberFault, Cond.instanceMethod yX9_numberFault, Cond.selects RX9 yX9_numberFault yX9_numberFault, Cond.code yX9_numberFault cX9_numberFault 4 (some .int), Cond.methodLink RL 140 yX10_write, Cond.instanceMethod yX10_write, Cond.selects RX10 yX10_write yX10_write, Cond.code yX10_write cX10_write 6 (some .int), Cond.methodLink RX10 334 yX10_lacks, Cond.instanceMethod yX10_lacks]
def wsL_law_r48 : List Cond := [Cond.selects RX10 yX10_lacks yX10_lacks, Cond.code yX10_lacks cX10_lacks 3 (some .int), Cond.methodLink RL 141 yX9_read, Cond.instanceMethod yX9_read, Cond.selects RX9 yX9_read yX9_read, Cond.code yX9_read cX9_read 4 (some .long), Cond.methodLink RL 144 yX10_read, Cond.instanceMethod yX10_read, Cond.selects RX10 yX10_read yX10_read, Cond.code yX10_read cX10_read 4 (some .long), Cond.methodLink RL 145 yX9_copy, Cond.instanceMethod yX9_copy, Cond.selects RX9 yX9_copy yX9_copy, Cond.code yX9_copy cX9_copy 6 (some .int), Cond.methodLink RX9 346 arraycopyName, Cond.methodLink RX9 343 yX5_hasRun, Cond.instanceMethod yX5_hasRun, Cond.selects RX5 yX5_hasRun yX5_hasRun, Cond.code yX5_hasRun cX5_hasRun 3 (some .boolean), Cond.methodLink RL 148 yX10_copy, Cond.instanceMethod yX10_copy, Cond.selects RX10 yX10_copy yX10_copy, Cond.code yX10_copy cX10_copy 7 (some .int), Cond.methodLink RL 149 yX9_lays]
def wsL_law_r49 : List Cond := [Cond.instanceMethod yX9_lays, Cond.selects RX9 yX9_lays yX9_lays, Cond.code yX9_lays cX9_lays 8 (some .int), Cond.methodLink RX9 352 Lib.Math.min.name, Cond.methodLink RL 152 yX10_lays, Cond.instanceMethod yX10_lays, Cond.selects RX10 yX10_lays yX10_lays, Cond.code yX10_lays cX10_lays 4 (some .int), Cond.methodLink RL 153 yX9_image, Cond.instanceMethod yX9_image, Cond.selects RX9 yX9_image yX9_image, Cond.code yX9_image cX9_image 1 (some .int), Cond.fieldLink RX9 354 "RoundsPerHour" "isKept" "Z", Cond.methodLink RL 156 yX10_image, Cond.instanceMethod yX10_image, Cond.selects RX10 yX10_image yX10_image, Cond.code yX10_image cX10_image 2 (some .int), Cond.fieldLink RX10 337 "RoundsPerHourModel" "isKept" "Z", Cond.methodLink RL 157 yX9_undo, Cond.instanceMethod yX9_undo, Cond.selects RX9 yX9_undo yX9_undo, Cond.code yX9_undo cX9_undo 1 (some .int), Cond.methodLink RL 160 yX10_undo, Cond.instanceMethod yX10_undo]
def wsL_law_r50 : List Cond := [Cond.selects RX10 yX10_undo yX10_undo, Cond.code yX10_undo cX10_undo 2 (some .int), Cond.methodLink RL 161 yX9_tear, Cond.instanceMethod yX9_tear, Cond.selects RX9 yX9_tear yX9_tear, Cond.code yX9_tear cX9_tear 2 (some .int), Cond.methodLink RL 164 yX10_tear, Cond.instanceMethod yX10_tear, Cond.selects RX10 yX10_tear yX10_tear, Cond.code yX10_tear cX10_tear 2 (some .int), Cond.methodLink RL 165 yX9_count, Cond.instanceMethod yX9_count, Cond.selects RX9 yX9_count yX9_count, Cond.code yX9_count cX9_count 2 (some .int), Cond.methodLink RX9 358 yX1_shutWays, Cond.instanceMethod yX1_shutWays, Cond.selects RX1 yX1_shutWays yX1_shutWays, Cond.code yX1_shutWays cX1_shutWays 3 (some .int), Cond.methodLink RL 168 yX10_count, Cond.instanceMethod yX10_count, Cond.selects RX10 yX10_count yX10_count, Cond.code yX10_count cX10_count 2 (some .int), Cond.methodLink RL 169 yX9_status, Cond.instanceMethod yX9_status]
def wsL_law_r51 : List Cond := [Cond.selects RX9 yX9_status yX9_status, Cond.code yX9_status cX9_status 4 (some .int), Cond.methodLink RL 172 yX10_status, Cond.instanceMethod yX10_status, Cond.selects RX10 yX10_status yX10_status, Cond.code yX10_status cX10_status 4 (some .int), Cond.constantLong RX10 340 (8)]
def wsL_law : List Cond := (wsL_law_r1 ++ (wsL_law_r2 ++ (wsL_law_r3 ++ (wsL_law_r4 ++ (wsL_law_r5 ++ (wsL_law_r6 ++ (wsL_law_r7 ++ (wsL_law_r8 ++ (wsL_law_r9 ++ (wsL_law_r10 ++ (wsL_law_r11 ++ (wsL_law_r12 ++ (wsL_law_r13 ++ (wsL_law_r14 ++ (wsL_law_r15 ++ (wsL_law_r16 ++ (wsL_law_r17 ++ (wsL_law_r18 ++ (wsL_law_r19 ++ (wsL_law_r20 ++ (wsL_law_r21 ++ (wsL_law_r22 ++ (wsL_law_r23 ++ (wsL_law_r24 ++ (wsL_law_r25 ++ (wsL_law_r26 ++ (wsL_law_r27 ++ (wsL_law_r28 ++ (wsL_law_r29 ++ (wsL_law_r30 ++ (wsL_law_r31 ++ (wsL_law_r32 ++ (wsL_law_r33 ++ (wsL_law_r34 ++ (wsL_law_r35 ++ (wsL_law_r36 ++ (wsL_law_r37 ++ (wsL_law_r38 ++ (wsL_law_r39 ++ (wsL_law_r40 ++ (wsL_law_r41 ++ (wsL_law_r42 ++ (wsL_law_r43 ++ (wsL_law_r44 ++ (wsL_law_r45 ++ (wsL_law_r46 ++ (wsL_law_r47 ++ (wsL_law_r48 ++ (wsL_law_r49 ++ (wsL_law_r50 ++ wsL_law_r51)))))))))))))))))))))))))))))))))))))))))))))))))) ++ wsX90 ++ wsX100 ++ wsX10 ++ wsX40 ++ wsX70 ++ wsX80 ++ wsX30 ++ wsX20 ++ wsX60 ++ wsX50 ++ ([] : List Cond)
set_option maxRecDepth 20000 in
theorem wsL_law_in : ∀ w ∈ wsL_law, w ∈ lw_tbl := fun w h => (goodIn_p wsL_law [101, 104, 109, 190, 243, 246, 252, 323, 355, 377, 413, 1071, 468, 471, 475, 1186, 1191, 1195, 1200, 480, 1204, 484, 488, 492, 495, 500, 505, 1209, 1213, 1216, 1221, 1226, 509, 513, 517, 520, 525, 528, 1230, 1234, 1239, 1243, 533, 537, 540, 1247, 1251, 544, 547, 1255, 553, 557, 1259, 561, 565, 1263, 1267, 569, 1272, 573, 577, 582, 586, 592, 596, 600, 604, 607, 610, 613, 1276, 1280, 1285, 1289, 1293, 1297, 1301, 1304, 1307, 617, 1311, 622, 626, 630, 1315, 1320, 634, 637, 1324, 1328, 643, 655, 659, 649, 652, 1333, 1337, 1343, 663, 1347, 667, 671, 678, 682, 1351, 688, 1355, 692, 696, 702, 710, 714, 720, 723, 727, 731, 735, 739, 742, 746, 750, 754, 1359, 1364, 1368, 1372, 1376, 1379, 1383, 1387, 1391, 1395, 1399, 1403, 1407, 1411, 1415, 758, 762, 1419, 772, 776, 1423, 783, 787, 791, 795, 799, 802, 809, 817, 821, 825, 829, 834, 1427, 839, 843, 847, 851, 1431, 1435, 1438, 857, 861, 1442, 1445, 865, 868, 1449, 1453, 872, 876, 1457, 880, 1462, 884, 888, 892, 895, 898, 902, 906, 910, 915, 919, 923, 929, 933, 936, 939, 944, 947, 950, 953, 957, 967, 971, 977, 982, 986, 995, 1005, 1466, 1470, 1474, 1480, 1487, 1491, 1495, 1499, 1503, 1507, 1012, 1016, 1511, 1020, 1024, 1515, 1519, 1028, 1523, 1032, 1036, 1527, 1041, 1531, 1046, 1535, 1050, 1539, 1054, 1543, 1058, 1062, 1547, 1066, 1551] (by decide +kernel) (by decide +kernel) w h).1
theorem inX0 : ∀ w ∈ wsX00, w ∈ lw_tbl := by decide +kernel
theorem inlX1 : ∀ w ∈ wsX10, w ∈ wsL_law := fun _ h => List.mem_append_left _ (List.mem_append_left _ (List.mem_append_left _ (List.mem_append_left _ (List.mem_append_left _ (List.mem_append_left _ (List.mem_append_left _ (List.mem_append_left _ (List.mem_append_right _ h))))))))
theorem inX1 : ∀ w ∈ wsX10, w ∈ lw_tbl := fun w h => wsL_law_in w (inlX1 w h)
theorem inlX2 : ∀ w ∈ wsX20, w ∈ wsL_law := fun _ h => List.mem_append_left _ (List.mem_append_left _ (List.mem_append_left _ (List.mem_append_right _ h)))
theorem inX2 : ∀ w ∈ wsX20, w ∈ lw_tbl := fun w h => wsL_law_in w (inlX2 w h)
theorem inlX3 : ∀ w ∈ wsX30, w ∈ wsL_law := fun _ h => List.mem_append_left _ (List.mem_append_left _ (List.mem_append_left _ (List.mem_append_left _ (List.mem_append_right _ h))))
theorem inX3 : ∀ w ∈ wsX30, w ∈ lw_tbl := fun w h => wsL_law_in w (inlX3 w h)
theorem inlX4 : ∀ w ∈ wsX40, w ∈ wsL_law := fun _ h => List.mem_append_left _ (List.mem_append_left _ (List.mem_append_left _ (List.mem_append_left _ (List.mem_append_left _ (List.mem_append_left _ (List.mem_append_left _ (List.mem_append_right _ h)))))))
theorem inX4 : ∀ w ∈ wsX40, w ∈ lw_tbl := fun w h => wsL_law_in w (inlX4 w h)
theorem inlX5 : ∀ w ∈ wsX50, w ∈ wsL_law := fun _ h => List.mem_append_left _ (List.mem_append_right _ h)
theorem inX5 : ∀ w ∈ wsX50, w ∈ lw_tbl := fun w h => wsL_law_in w (inlX5 w h)
theorem inlX6 : ∀ w ∈ wsX60, w ∈ wsL_law := fun _ h => List.mem_append_left _ (List.mem_append_left _ (List.mem_append_right _ h))
theorem inX6 : ∀ w ∈ wsX60, w ∈ lw_tbl := fun w h => wsL_law_in w (inlX6 w h)
theorem inlX7 : ∀ w ∈ wsX70, w ∈ wsL_law := fun _ h => List.mem_append_left _ (List.mem_append_left _ (List.mem_append_left _ (List.mem_append_left _ (List.mem_append_left _ (List.mem_append_left _ (List.mem_append_right _ h))))))
theorem inX7 : ∀ w ∈ wsX70, w ∈ lw_tbl := fun w h => wsL_law_in w (inlX7 w h)
theorem inlX8 : ∀ w ∈ wsX80, w ∈ wsL_law := fun _ h => List.mem_append_left _ (List.mem_append_left _ (List.mem_append_left _ (List.mem_append_left _ (List.mem_append_left _ (List.mem_append_right _ h)))))
theorem inX8 : ∀ w ∈ wsX80, w ∈ lw_tbl := fun w h => wsL_law_in w (inlX8 w h)
theorem inlX9 : ∀ w ∈ wsX90, w ∈ wsL_law := fun _ h => List.mem_append_left _ (List.mem_append_left _ (List.mem_append_left _ (List.mem_append_left _ (List.mem_append_left _ (List.mem_append_left _ (List.mem_append_left _ (List.mem_append_left _ (List.mem_append_left _ (List.mem_append_left _ (List.mem_append_right _ h))))))))))
theorem inX9 : ∀ w ∈ wsX90, w ∈ lw_tbl := fun w h => wsL_law_in w (inlX9 w h)
theorem inlX10 : ∀ w ∈ wsX100, w ∈ wsL_law := fun _ h => List.mem_append_left _ (List.mem_append_left _ (List.mem_append_left _ (List.mem_append_left _ (List.mem_append_left _ (List.mem_append_left _ (List.mem_append_left _ (List.mem_append_left _ (List.mem_append_left _ (List.mem_append_right _ h)))))))))
theorem inX10 : ∀ w ∈ wsX100, w ∈ lw_tbl := fun w h => wsL_law_in w (inlX10 w h)
theorem inJ6 : ∀ w ∈ wsJ60, w ∈ lw_tbl := by decide +kernel
theorem inJ13 : ∀ w ∈ wsJ130, w ∈ lw_tbl := by decide +kernel
theorem inJ9 : ∀ w ∈ wsJ90, w ∈ lw_tbl := by decide +kernel
theorem inJ0 : ∀ w ∈ wsJ00, w ∈ lw_tbl := by decide +kernel
theorem inJ1 : ∀ w ∈ wsJ10, w ∈ lw_tbl := by decide +kernel
theorem inJ2 : ∀ w ∈ wsJ20, w ∈ lw_tbl := by decide +kernel
theorem inJ10 : ∀ w ∈ wsJ100, w ∈ lw_tbl := by decide +kernel
theorem inJ3 : ∀ w ∈ wsJ30, w ∈ lw_tbl := by decide +kernel
set_option maxRecDepth 20000 in
theorem ggX0_takeWays_X1_bringsOf : GoodIn wsX0_takeWays wsX1_bringsOf := goodIn_r _ [9, 10, 11, 12, 13, 14, 15, 16, 25, 26, 27, 28, 29, 30, 31, 32, 33, 34, 35, 36] (by decide +kernel) (by decide +kernel)
set_option maxRecDepth 20000 in
theorem gX0_takeWays_X1_bringsOf : GoodIn wsX0_takeWays (wsV RX0 30 RX1 yX1_bringsOf wsX1_bringsOf) := goodIn_app (goodIn_of _ (by decide +kernel)) ggX0_takeWays_X1_bringsOf
set_option maxRecDepth 20000 in
theorem ggX0_takeWays_X1_lastsOf : GoodIn wsX0_takeWays wsX1_lastsOf := goodIn_r _ [20, 10, 21, 12, 22, 14, 23, 24, 25, 26, 27, 28, 29, 30, 31, 32, 33, 34, 35, 36] (by decide +kernel) (by decide +kernel)
set_option maxRecDepth 20000 in
theorem gX0_takeWays_X1_lastsOf : GoodIn wsX0_takeWays (wsV RX0 34 RX1 yX1_lastsOf wsX1_lastsOf) := goodIn_app (goodIn_of _ (by decide +kernel)) ggX0_takeWays_X1_lastsOf
set_option maxRecDepth 20000 in
theorem ggX0_runs_X0_weigh : GoodIn wsX0_runs wsX0_weigh := goodIn_r _ [14, 15, 16, 3, 6, 89, 90, 91, 92, 93, 94, 95, 96, 97, 98, 99, 100, 101, 102, 103, 104, 105, 106, 107, 108, 109, 110, 111, 112, 113, 114, 115, 116, 117, 118, 119, 120, 121, 122, 123, 124, 125, 126] (by decide +kernel) (by decide +kernel)
set_option maxRecDepth 20000 in
theorem gX0_runs_X0_weigh_u37X3 : GoodIn wsX0_runs (va_wsU RX0 37 RX3 "RoundsPerHour$Climb" ⟨"RoundsPerHour$Climb", "weigh", "(JJ)V"⟩ yX0_weigh wsX0_weigh) := goodIn_app (goodIn_of _ (by decide +kernel)) ggX0_runs_X0_weigh
set_option maxRecDepth 20000 in
theorem gX0_runs_X0_weigh_u37X7 : GoodIn wsX0_runs (va_wsU RX0 37 RX7 "RoundsPerHour$Climb" ⟨"RoundsPerHour$Climb", "weigh", "(JJ)V"⟩ yX0_weigh wsX0_weigh) := goodIn_app (goodIn_of _ (by decide +kernel)) ggX0_runs_X0_weigh
set_option maxRecDepth 20000 in
theorem gX0_runs_X0_weigh_u37X8 : GoodIn wsX0_runs (va_wsU RX0 37 RX8 "RoundsPerHour$Climb" ⟨"RoundsPerHour$Climb", "weigh", "(JJ)V"⟩ yX0_weigh wsX0_weigh) := goodIn_app (goodIn_of _ (by decide +kernel)) ggX0_runs_X0_weigh
set_option maxRecDepth 20000 in
theorem ggX0_runs_X3_pick : GoodIn wsX0_runs wsX3_pick := goodIn_r _ [24, 25, 26, 27, 28, 29, 89, 90, 91, 92, 93, 94, 95, 96, 97, 98, 99, 100, 101, 102, 103, 104, 105, 106, 107, 108, 109, 110, 111, 112, 113, 114, 115, 116, 117, 118, 119, 120, 121, 122, 123, 124, 125, 126] (by decide +kernel) (by decide +kernel)
set_option maxRecDepth 20000 in
theorem gX0_runs_X3_pick_u41X3 : GoodIn wsX0_runs (va_wsU RX0 41 RX3 "RoundsPerHour$Climb" ⟨"RoundsPerHour$Climb", "pick", "()I"⟩ yX3_pick wsX3_pick) := goodIn_app (goodIn_of _ (by decide +kernel)) ggX0_runs_X3_pick
set_option maxRecDepth 20000 in
theorem ggX0_runs_X7_pick : GoodIn wsX0_runs wsX7_pick := goodIn_r _ [33, 34, 35, 36, 37, 38, 39, 40, 41, 42, 43, 44, 45, 46, 47, 32, 48, 49, 50, 51, 52, 53, 54, 55, 56, 57, 58, 59, 60, 61, 100, 101, 102, 103, 104, 105, 106, 107, 108, 109, 110, 111, 127, 128, 129, 130, 131, 132, 133, 134, 135, 136, 137, 138, 139, 89, 90, 91, 92, 93, 94, 95, 96, 97, 98, 99, 112, 113, 114, 115, 116, 117, 118, 119, 120, 121, 122, 123, 124, 125, 126] (by decide +kernel) (by decide +kernel)
set_option maxRecDepth 20000 in
theorem gX0_runs_X7_pick_u41X7 : GoodIn wsX0_runs (va_wsU RX0 41 RX7 "RoundsPerHour$Climb" ⟨"RoundsPerHour$Climb", "pick", "()I"⟩ yX7_pick wsX7_pick) := goodIn_app (goodIn_of _ (by decide +kernel)) ggX0_runs_X7_pick
set_option maxRecDepth 20000 in
theorem ggX0_runs_X8_pick : GoodIn wsX0_runs wsX8_pick := goodIn_r _ [65, 66, 67, 68, 69, 70, 71, 72, 64, 73, 74, 75, 76, 77, 78, 79, 80, 81, 112, 113, 114, 115, 116, 117, 118, 119, 120, 121, 122, 123, 124, 125, 126, 89, 90, 91, 92, 93, 94, 95, 96, 97, 98, 99, 100, 101, 102, 103, 104, 105, 106, 107, 108, 109, 110, 111, 127, 128, 129, 130, 131, 132, 133, 134, 135, 136, 137, 138] (by decide +kernel) (by decide +kernel)
set_option maxRecDepth 20000 in
theorem gX0_runs_X8_pick_u41X8 : GoodIn wsX0_runs (va_wsU RX0 41 RX8 "RoundsPerHour$Climb" ⟨"RoundsPerHour$Climb", "pick", "()I"⟩ yX8_pick wsX8_pick) := goodIn_app (goodIn_of _ (by decide +kernel)) ggX0_runs_X8_pick
set_option maxRecDepth 20000 in
theorem ggX0_runs_X0_together : GoodIn wsX0_runs wsX0_together := goodIn_r _ [86, 15, 89, 90, 91, 92, 93, 94, 95, 96, 97, 98, 99, 100, 101, 102, 103, 104, 105, 106, 107, 108, 109, 110, 111, 112, 113, 114, 115, 116, 117, 118, 119, 120, 121, 122, 123, 124, 125, 126] (by decide +kernel) (by decide +kernel)
set_option maxRecDepth 20000 in
theorem gX0_runs_X0_together_u52X3 : GoodIn wsX0_runs (va_wsU RX0 52 RX3 "RoundsPerHour$Climb" ⟨"RoundsPerHour$Climb", "together", "([JI)J"⟩ yX0_together wsX0_together) := goodIn_app (goodIn_of _ (by decide +kernel)) ggX0_runs_X0_together
set_option maxRecDepth 20000 in
theorem gX0_runs_X0_together_u52X7 : GoodIn wsX0_runs (va_wsU RX0 52 RX7 "RoundsPerHour$Climb" ⟨"RoundsPerHour$Climb", "together", "([JI)J"⟩ yX0_together wsX0_together) := goodIn_app (goodIn_of _ (by decide +kernel)) ggX0_runs_X0_together
set_option maxRecDepth 20000 in
theorem gX0_runs_X0_together_u52X8 : GoodIn wsX0_runs (va_wsU RX0 52 RX8 "RoundsPerHour$Climb" ⟨"RoundsPerHour$Climb", "together", "([JI)J"⟩ yX0_together wsX0_together) := goodIn_app (goodIn_of _ (by decide +kernel)) ggX0_runs_X0_together
set_option maxRecDepth 20000 in
theorem ggX1_isPlace_X9_within : GoodIn wsX1_isPlace wsX9_within := goodIn_r _ [4] (by decide +kernel) (by decide +kernel)
set_option maxRecDepth 20000 in
theorem gX1_isPlace_X9_within_n40 : GoodIn wsX1_isPlace (wsX9_within) := ggX1_isPlace_X9_within
set_option maxRecDepth 20000 in
theorem ggX1_isWay_X9_within : GoodIn wsX1_isWay wsX9_within := goodIn_r _ [4] (by decide +kernel) (by decide +kernel)
set_option maxRecDepth 20000 in
theorem gX1_isWay_X9_within_n40 : GoodIn wsX1_isWay (wsX9_within) := ggX1_isWay_X9_within
set_option maxRecDepth 20000 in
theorem ggX1_isThingOrBase_X9_within : GoodIn wsX1_isThingOrBase wsX9_within := goodIn_r _ [4] (by decide +kernel) (by decide +kernel)
set_option maxRecDepth 20000 in
theorem gX1_isThingOrBase_X9_within_n40 : GoodIn wsX1_isThingOrBase (wsX9_within) := ggX1_isThingOrBase_X9_within
set_option maxRecDepth 20000 in
theorem ggX1_bringsOf_X9_brings : GoodIn wsX1_bringsOf wsX9_brings := goodIn_r _ [6, 7, 4, 5] (by decide +kernel) (by decide +kernel)
set_option maxRecDepth 20000 in
theorem gX1_bringsOf_X9_brings_n53 : GoodIn wsX1_bringsOf (wsX9_brings) := ggX1_bringsOf_X9_brings
set_option maxRecDepth 20000 in
theorem ggX1_lastsOf_X9_lasts : GoodIn wsX1_lastsOf wsX9_lasts := goodIn_r _ [6, 7, 4, 5] (by decide +kernel) (by decide +kernel)
set_option maxRecDepth 20000 in
theorem gX1_lastsOf_X9_lasts_n57 : GoodIn wsX1_lastsOf (wsX9_lasts) := ggX1_lastsOf_X9_lasts
set_option maxRecDepth 20000 in
theorem ggX1_isRing_X1_firstFrom : GoodIn wsX1_isRing wsX1_firstFrom := goodIn_r _ [7, 8, 1, 16, 17, 18, 19, 20, 21, 22, 23, 24, 25, 26, 27] (by decide +kernel) (by decide +kernel)
set_option maxRecDepth 20000 in
theorem gX1_isRing_X1_firstFrom : GoodIn wsX1_isRing (wsV RX1 60 RX1 yX1_firstFrom wsX1_firstFrom) := goodIn_app (goodIn_of _ (by decide +kernel)) ggX1_isRing_X1_firstFrom
set_option maxRecDepth 20000 in
theorem ggX1_isRing_J6_bitCount_0f7a4 : GoodIn wsX1_isRing wsJ6_bitCount_0f7a4 := goodIn_r _ [12, 13, 14, 15] (by decide +kernel) (by decide +kernel)
set_option maxRecDepth 20000 in
theorem gX1_isRing_J6_bitCount_0f7a4 : GoodIn wsX1_isRing (va_wsS RX1 64 yJ6_bitCount_0f7a4 wsJ6_bitCount_0f7a4) := goodIn_app (goodIn_of _ (by decide +kernel)) ggX1_isRing_J6_bitCount_0f7a4
set_option maxRecDepth 20000 in
theorem ggX1_bringTogether_X1_bringsOf : GoodIn wsX1_bringTogether wsX1_bringsOf := goodIn_r _ [6, 7, 8, 9, 10, 11, 12, 13, 14, 15, 16, 17, 18, 19, 20, 21, 22, 23, 24, 25] (by decide +kernel) (by decide +kernel)
set_option maxRecDepth 20000 in
theorem gX1_bringTogether_X1_bringsOf : GoodIn wsX1_bringTogether (wsV RX1 70 RX1 yX1_bringsOf wsX1_bringsOf) := goodIn_app (goodIn_of _ (by decide +kernel)) ggX1_bringTogether_X1_bringsOf
set_option maxRecDepth 20000 in
theorem ggX1_lastTogether_X1_lastsOf : GoodIn wsX1_lastTogether wsX1_lastsOf := goodIn_r _ [6, 7, 8, 9, 10, 11, 12, 13, 14, 15, 16, 17, 18, 19, 20, 21, 22, 23, 24, 25] (by decide +kernel) (by decide +kernel)
set_option maxRecDepth 20000 in
theorem gX1_lastTogether_X1_lastsOf : GoodIn wsX1_lastTogether (wsV RX1 73 RX1 yX1_lastsOf wsX1_lastsOf) := goodIn_app (goodIn_of _ (by decide +kernel)) ggX1_lastTogether_X1_lastsOf
set_option maxRecDepth 20000 in
theorem ggX1_gainTogether_X1_sumWithBase : GoodIn wsX1_gainTogether wsX1_sumWithBase := goodIn_r _ [6, 7, 8, 9, 10, 11, 12, 13, 14, 15, 16, 17, 18, 19] (by decide +kernel) (by decide +kernel)
set_option maxRecDepth 20000 in
theorem gX1_gainTogether_X1_sumWithBase : GoodIn wsX1_gainTogether (wsV RX1 76 RX1 yX1_sumWithBase wsX1_sumWithBase) := goodIn_app (goodIn_of _ (by decide +kernel)) ggX1_gainTogether_X1_sumWithBase
set_option maxRecDepth 20000 in
theorem ggX1_timeTogether_X1_sumWithBase : GoodIn wsX1_timeTogether wsX1_sumWithBase := goodIn_r _ [6, 7, 8, 9, 10, 11, 12, 13, 14, 15, 16, 17, 18, 19] (by decide +kernel) (by decide +kernel)
set_option maxRecDepth 20000 in
theorem gX1_timeTogether_X1_sumWithBase : GoodIn wsX1_timeTogether (wsV RX1 76 RX1 yX1_sumWithBase wsX1_sumWithBase) := goodIn_app (goodIn_of _ (by decide +kernel)) ggX1_timeTogether_X1_sumWithBase
set_option maxRecDepth 20000 in
theorem ggX2_isTree_J6_bitCount_0f7a4 : GoodIn wsX2_isTree wsJ6_bitCount_0f7a4 := goodIn_r _ [8, 9, 10, 11] (by decide +kernel) (by decide +kernel)
set_option maxRecDepth 20000 in
theorem gX2_isTree_J6_bitCount_0f7a4 : GoodIn wsX2_isTree (va_wsS RX2 15 yJ6_bitCount_0f7a4 wsJ6_bitCount_0f7a4) := goodIn_app (goodIn_of _ (by decide +kernel)) ggX2_isTree_J6_bitCount_0f7a4
set_option maxRecDepth 20000 in
theorem ggX2_isTree_X2_part : GoodIn wsX2_isTree wsX2_part := goodIn_r _ [16, 17, 38] (by decide +kernel) (by decide +kernel)
set_option maxRecDepth 20000 in
theorem gX2_isTree_X2_part : GoodIn wsX2_isTree (wsV RX2 27 RX2 yX2_part wsX2_part) := goodIn_app (goodIn_of _ (by decide +kernel)) ggX2_isTree_X2_part
set_option maxRecDepth 20000 in
theorem ggX2_isTree_X2_apart : GoodIn wsX2_isTree wsX2_apart := goodIn_r _ [21, 17, 38] (by decide +kernel) (by decide +kernel)
set_option maxRecDepth 20000 in
theorem gX2_isTree_X2_apart : GoodIn wsX2_isTree (wsV RX2 39 RX2 yX2_apart wsX2_apart) := goodIn_app (goodIn_of _ (by decide +kernel)) ggX2_isTree_X2_apart
set_option maxRecDepth 20000 in
theorem ggX2_isTree_X2_join : GoodIn wsX2_isTree wsX2_join := goodIn_r _ [25, 17, 38] (by decide +kernel) (by decide +kernel)
set_option maxRecDepth 20000 in
theorem gX2_isTree_X2_join : GoodIn wsX2_isTree (wsV RX2 43 RX2 yX2_join wsX2_join) := goodIn_app (goodIn_of _ (by decide +kernel)) ggX2_isTree_X2_join
set_option maxRecDepth 20000 in
theorem ggX3_init_X0_init : GoodIn wsX3_init wsX0_init := goodIn_r _ [3, 4, 5, 6, 7, 8, 9, 10, 11, 12, 13, 14, 15, 16, 17, 18, 19, 20, 21, 22, 23, 24, 25, 26, 27, 28, 29, 30, 31, 32, 33, 34, 35, 36, 37, 38, 39, 40, 41, 42, 43, 44, 45, 46, 47, 48] (by decide +kernel) (by decide +kernel)
set_option maxRecDepth 20000 in
theorem gX3_init_X0_init_n1 : GoodIn wsX3_init (wsX0_init) := ggX3_init_X0_init
set_option maxRecDepth 20000 in
theorem ggX3_climbs_X0_runs : GoodIn wsX3_climbs wsX0_runs := goodIn_r _ [20, 21, 22, 23, 24, 25, 26, 27, 28, 29, 30, 31, 32, 19, 33, 34, 35, 36, 37, 38, 39, 40, 41, 42, 43, 1, 3, 4, 44, 45, 46, 47, 48, 49, 50, 51, 52, 53, 54, 55, 56, 57, 58, 59, 60, 61, 62, 63, 64, 65, 66, 67, 68, 69, 70, 71, 72, 73, 74, 75, 76, 77, 78, 79, 80, 81, 82, 83, 84, 85, 86, 87, 88, 89, 90, 91, 92, 93, 94, 95, 96, 97, 98, 99, 100, 101, 102, 103, 104, 105, 106, 107, 108, 109, 110, 111, 112, 113, 114, 115, 128, 129, 130, 131, 132, 133, 134, 135, 136, 137, 138, 139, 140, 141, 142, 143, 144, 145, 146, 147, 148, 149, 150, 151, 152, 153, 154, 116, 117, 118, 119, 120, 121, 122, 123, 124, 125, 126, 127, 155] (by decide +kernel) (by decide +kernel)
set_option maxRecDepth 20000 in
theorem gX3_climbs_X0_runs_u42X3 : GoodIn wsX3_climbs (va_wsU RX3 42 RX3 "RoundsPerHour$Climb" ⟨"RoundsPerHour$LoadClimb", "runs", "()Z"⟩ yX0_runs wsX0_runs) := goodIn_app (goodIn_of _ (by decide +kernel)) ggX3_climbs_X0_runs
set_option maxRecDepth 20000 in
theorem ggX4_gather_X1_bringsOf : GoodIn wsX4_gather wsX1_bringsOf := goodIn_r _ [16, 17, 18, 19, 20, 21, 22, 23, 57, 58, 59, 60, 61, 62, 63, 64, 65, 66, 67, 68] (by decide +kernel) (by decide +kernel)
set_option maxRecDepth 20000 in
theorem gX4_gather_X1_bringsOf : GoodIn wsX4_gather (wsV RX4 54 RX1 yX1_bringsOf wsX1_bringsOf) := goodIn_app (goodIn_of _ (by decide +kernel)) ggX4_gather_X1_bringsOf
set_option maxRecDepth 20000 in
theorem ggX4_gather_X1_lastsOf : GoodIn wsX4_gather wsX1_lastsOf := goodIn_r _ [27, 17, 28, 19, 29, 21, 30, 31, 57, 58, 59, 60, 61, 62, 63, 64, 65, 66, 67, 68] (by decide +kernel) (by decide +kernel)
set_option maxRecDepth 20000 in
theorem gX4_gather_X1_lastsOf : GoodIn wsX4_gather (wsV RX4 58 RX1 yX1_lastsOf wsX1_lastsOf) := goodIn_app (goodIn_of _ (by decide +kernel)) ggX4_gather_X1_lastsOf
set_option maxRecDepth 20000 in
theorem ggX4_gather_X4_goOn : GoodIn wsX4_gather wsX4_goOn := goodIn_r _ [36, 2, 10, 4, 6, 7, 37, 38, 39, 35, 40, 1, 41, 42, 43, 32, 33, 34, 44, 45, 46, 47, 48, 49, 50, 51, 52, 53, 54, 55, 56] (by decide +kernel) (by decide +kernel)
set_option maxRecDepth 20000 in
theorem gX4_gather_X4_goOn : GoodIn wsX4_gather (wsV RX4 70 RX4 yX4_goOn wsX4_goOn) := goodIn_app (goodIn_of _ (by decide +kernel)) ggX4_gather_X4_goOn
set_option maxRecDepth 20000 in
theorem ggX4_goOn_X4_keep : GoodIn wsX4_goOn wsX4_keep := goodIn_r _ [10, 11, 12, 13, 14, 18, 19, 20, 21, 22, 23, 24, 25, 26, 27, 28, 29, 30] (by decide +kernel) (by decide +kernel)
set_option maxRecDepth 20000 in
theorem gX4_goOn_X4_keep : GoodIn wsX4_goOn (wsV RX4 74 RX4 yX4_keep wsX4_keep) := goodIn_app (goodIn_of _ (by decide +kernel)) ggX4_goOn_X4_keep
set_option maxRecDepth 20000 in
theorem ggX4_goOn_X4_goOn : GoodIn wsX4_goOn wsX4_goOn := goodIn_r _ [0, 1, 2, 3, 4, 5, 6, 7, 8, 9, 10, 11, 12, 13, 14, 15, 16, 17, 18, 19, 20, 21, 22, 23, 24, 25, 26, 27, 28, 29, 30] (by decide +kernel) (by decide +kernel)
set_option maxRecDepth 20000 in
theorem gX4_goOn_X4_goOn : GoodIn wsX4_goOn (wsV RX4 70 RX4 yX4_goOn wsX4_goOn) := goodIn_app (goodIn_of _ (by decide +kernel)) ggX4_goOn_X4_goOn
set_option maxRecDepth 20000 in
theorem ggX4_order_J13_compare_74951 : GoodIn wsX4_order wsJ13_compare_74951 := goodIn_r _ [6] (by decide +kernel) (by decide +kernel)
set_option maxRecDepth 20000 in
theorem gX4_order_J13_compare_74951 : GoodIn wsX4_order (va_wsS RX4 78 yJ13_compare_74951 wsJ13_compare_74951) := goodIn_app (goodIn_of _ (by decide +kernel)) ggX4_order_J13_compare_74951
set_option maxRecDepth 20000 in
theorem ggX4_best_X4_order : GoodIn wsX4_best wsX4_order := goodIn_r _ [7, 8, 9, 10, 11, 12, 13, 14, 15, 16, 17, 18, 19, 20, 21, 22, 23, 24, 25, 26] (by decide +kernel) (by decide +kernel)
set_option maxRecDepth 20000 in
theorem gX4_best_X4_order : GoodIn wsX4_best (wsV RX4 84 RX4 yX4_order wsX4_order) := goodIn_app (goodIn_of _ (by decide +kernel)) ggX4_best_X4_order
set_option maxRecDepth 20000 in
theorem ggX4_rises_X4_gather : GoodIn wsX4_rises wsX4_gather := goodIn_r _ [9, 10, 11, 12, 13, 14, 15, 16, 17, 18, 19, 20, 21, 22, 23, 24, 25, 26, 27, 28, 29, 30, 31, 32, 33, 34, 35, 36, 37, 38, 39, 40, 41, 42, 43, 8, 44, 45, 46, 47, 48, 49, 2, 4, 62, 63, 64, 65, 66, 67, 68, 69, 70, 71, 72, 73, 74, 75, 76, 77, 78, 79, 80, 81, 82, 83, 84, 85, 86] (by decide +kernel) (by decide +kernel)
set_option maxRecDepth 20000 in
theorem gX4_rises_X4_gather : GoodIn wsX4_rises (wsV RX4 92 RX4 yX4_gather wsX4_gather) := goodIn_app (goodIn_of _ (by decide +kernel)) ggX4_rises_X4_gather
set_option maxRecDepth 20000 in
theorem ggX4_rises_X4_best : GoodIn wsX4_rises wsX4_best := goodIn_r _ [53, 10, 49, 54, 55, 56, 8, 57, 2, 4, 58, 59, 60, 61, 62, 63, 64, 65, 66, 67, 68, 69, 70, 71, 72, 73, 74] (by decide +kernel) (by decide +kernel)
set_option maxRecDepth 20000 in
theorem gX4_rises_X4_best : GoodIn wsX4_rises (wsV RX4 96 RX4 yX4_best wsX4_best) := goodIn_app (goodIn_of _ (by decide +kernel)) ggX4_rises_X4_best
set_option maxRecDepth 20000 in
theorem ggX4_missingTo_J9_floorDiv_f86c9 : GoodIn wsX4_missingTo wsJ9_floorDiv_f86c9 := goodIn_r _ [6] (by decide +kernel) (by decide +kernel)
set_option maxRecDepth 20000 in
theorem gX4_missingTo_J9_floorDiv_f86c9 : GoodIn wsX4_missingTo (va_wsS RX4 102 yJ9_floorDiv_f86c9 wsJ9_floorDiv_f86c9) := goodIn_app (goodIn_of _ (by decide +kernel)) ggX4_missingTo_J9_floorDiv_f86c9
set_option maxRecDepth 20000 in
theorem ggX4_lifts_X4_step : GoodIn wsX4_lifts wsX4_step := goodIn_r _ [14, 1, 2, 15, 16, 17, 18, 19, 20, 21, 22, 23, 24, 25, 26, 27] (by decide +kernel) (by decide +kernel)
set_option maxRecDepth 20000 in
theorem gX4_lifts_X4_step : GoodIn wsX4_lifts (wsV RX4 108 RX4 yX4_step wsX4_step) := goodIn_app (goodIn_of _ (by decide +kernel)) ggX4_lifts_X4_step
set_option maxRecDepth 20000 in
theorem ggX5_hasFraction_X9_within : GoodIn wsX5_hasFraction wsX9_within := goodIn_r _ [4] (by decide +kernel) (by decide +kernel)
set_option maxRecDepth 20000 in
theorem gX5_hasFraction_X9_within_n22 : GoodIn wsX5_hasFraction (wsX9_within) := ggX5_hasFraction_X9_within
set_option maxRecDepth 20000 in
theorem ggX5_hasRun_X9_within : GoodIn wsX5_hasRun wsX9_within := goodIn_r _ [4] (by decide +kernel) (by decide +kernel)
set_option maxRecDepth 20000 in
theorem gX5_hasRun_X9_within_n22 : GoodIn wsX5_hasRun (wsX9_within) := ggX5_hasRun_X9_within
set_option maxRecDepth 20000 in
theorem ggX6_tellTo_X6_next : GoodIn wsX6_tellTo wsX6_next := goodIn_r _ [9, 2, 10, 11, 3, 4, 12, 13, 8, 14, 15, 16, 17, 18, 19, 20, 21, 22, 23, 24, 25, 26, 27, 143, 144, 145, 146, 147, 148, 149, 150, 151] (by decide +kernel) (by decide +kernel)
set_option maxRecDepth 20000 in
theorem gX6_tellTo_X6_next : GoodIn wsX6_tellTo (wsV RX6 26 RX6 yX6_next wsX6_next) := goodIn_app (goodIn_of _ (by decide +kernel)) ggX6_tellTo_X6_next
set_option maxRecDepth 20000 in
theorem ggX6_tellTo_X6_item : GoodIn wsX6_tellTo wsX6_item := goodIn_r _ [31, 32, 33, 34, 8, 35, 4, 2, 3, 11, 36, 37, 38, 39, 40, 41, 42, 43, 44, 45, 46, 47, 48, 49, 50, 51, 52, 53, 54, 55, 56, 57, 58, 59, 60, 61, 62, 63, 64, 65, 66, 67, 68, 69, 70, 71, 72, 73, 74, 75, 76, 77, 78, 79, 80, 81, 82, 83, 84, 5, 6, 7, 9, 10, 12, 13, 14, 15, 16, 17, 18, 19, 20, 21, 22, 23, 24, 25, 26, 27, 85, 86, 87, 88, 1, 89, 90, 91, 92, 93, 94, 95, 96, 97, 98, 99, 100, 101, 102, 103, 104, 105, 106, 107, 108, 109, 110, 111, 112, 113, 114, 115, 116, 117, 118, 119, 120, 121, 122, 123, 124, 125, 126, 127, 128, 129, 130, 131, 132, 133, 134, 135, 136, 137, 138, 139, 140, 141, 142, 143, 144, 145, 146, 147, 148, 149, 150, 151, 152, 153, 154, 155, 156, 157, 158, 159, 160, 161, 162, 163] (by decide +kernel) (by decide +kernel)
set_option maxRecDepth 20000 in
theorem gX6_tellTo_X6_item : GoodIn wsX6_tellTo (wsV RX6 29 RX6 yX6_item wsX6_item) := goodIn_app (goodIn_of _ (by decide +kernel)) ggX6_tellTo_X6_item
set_option maxRecDepth 20000 in
theorem ggX6_item_X6_isWord : GoodIn wsX6_item wsX6_isWord := goodIn_r _ [5, 6, 7, 8, 9, 10, 11, 12, 13, 14, 15, 16, 17, 18, 19, 20, 21, 22, 23, 24, 25, 26, 27, 28, 29, 30, 31, 32, 33, 34, 35, 36, 37, 38, 39, 40, 41, 42, 43, 44, 45, 46, 47, 48, 49, 50, 51, 52, 53, 54, 55, 56, 57, 58, 139, 140, 141, 142, 143, 144, 145, 146, 147] (by decide +kernel) (by decide +kernel)
set_option maxRecDepth 20000 in
theorem gX6_item_X6_isWord : GoodIn wsX6_item (wsV RX6 41 RX6 yX6_isWord wsX6_isWord) := goodIn_app (goodIn_of _ (by decide +kernel)) ggX6_item_X6_isWord
set_option maxRecDepth 20000 in
theorem ggX6_item_X6_next : GoodIn wsX6_item wsX6_next := goodIn_r _ [62, 7, 63, 9, 8, 6, 64, 65, 4, 66, 67, 68, 69, 70, 71, 72, 73, 74, 75, 76, 77, 78, 79, 139, 140, 141, 142, 143, 144, 145, 146, 147] (by decide +kernel) (by decide +kernel)
set_option maxRecDepth 20000 in
theorem gX6_item_X6_next : GoodIn wsX6_item (wsV RX6 26 RX6 yX6_next wsX6_next) := goodIn_app (goodIn_of _ (by decide +kernel)) ggX6_item_X6_next
set_option maxRecDepth 20000 in
theorem ggX6_item_X6_placesItem : GoodIn wsX6_item wsX6_placesItem := goodIn_r _ [83, 84, 85, 74, 86, 87, 88, 4, 89, 6, 90, 91, 92, 59, 60, 61, 62, 7, 63, 9, 8, 64, 65, 66, 67, 68, 69, 70, 71, 72, 73, 75, 76, 77, 78, 79, 139, 140, 141, 142, 143, 144, 145, 146, 147, 148, 149, 150, 151, 152, 153, 154, 155, 156, 157, 158, 159] (by decide +kernel) (by decide +kernel)
set_option maxRecDepth 20000 in
theorem gX6_item_X6_placesItem : GoodIn wsX6_item (wsV RX6 45 RX6 yX6_placesItem wsX6_placesItem) := goodIn_app (goodIn_of _ (by decide +kernel)) ggX6_item_X6_placesItem
set_option maxRecDepth 20000 in
theorem ggX6_item_X6_weatherItem : GoodIn wsX6_item wsX6_weatherItem := goodIn_r _ [96, 84, 74, 97, 86, 87, 88, 4, 89, 6, 90, 91, 92, 59, 60, 61, 62, 7, 63, 9, 8, 64, 65, 66, 67, 68, 69, 70, 71, 72, 73, 75, 76, 77, 78, 79, 139, 140, 141, 142, 143, 144, 145, 146, 147, 148, 149, 150, 151, 152, 153, 154, 155, 156, 157, 158, 159] (by decide +kernel) (by decide +kernel)
set_option maxRecDepth 20000 in
theorem gX6_item_X6_weatherItem : GoodIn wsX6_item (wsV RX6 50 RX6 yX6_weatherItem wsX6_weatherItem) := goodIn_app (goodIn_of _ (by decide +kernel)) ggX6_item_X6_weatherItem
set_option maxRecDepth 20000 in
theorem ggX6_item_X6_thingItem : GoodIn wsX6_item wsX6_thingItem := goodIn_r _ [101, 84, 102, 103, 104, 59, 60, 61, 4, 62, 7, 63, 9, 8, 6, 64, 65, 66, 67, 68, 69, 70, 71, 72, 73, 74, 75, 76, 77, 78, 79, 105, 106, 107, 108, 109, 1, 2, 3, 5, 10, 11, 12, 13, 14, 15, 16, 17, 18, 19, 20, 21, 22, 23, 24, 25, 26, 27, 28, 29, 30, 31, 32, 33, 34, 35, 36, 37, 38, 39, 40, 41, 42, 43, 44, 45, 46, 47, 48, 49, 50, 51, 52, 53, 54, 55, 56, 57, 58, 86, 87, 88, 89, 90, 91, 92, 110, 111, 112, 113, 114, 115, 116, 117, 139, 140, 141, 142, 143, 144, 145, 146, 147, 148, 149, 150, 151, 152, 153, 154, 155, 156, 157, 158, 159] (by decide +kernel) (by decide +kernel)
set_option maxRecDepth 20000 in
theorem gX6_item_X6_thingItem : GoodIn wsX6_item (wsV RX6 55 RX6 yX6_thingItem wsX6_thingItem) := goodIn_app (goodIn_of _ (by decide +kernel)) ggX6_item_X6_thingItem
set_option maxRecDepth 20000 in
theorem ggX6_item_X6_kindTold : GoodIn wsX6_item wsX6_kindTold := goodIn_r _ [121, 1, 2, 3, 4, 5, 6, 7, 8, 9, 10, 11, 12, 13, 14, 15, 16, 17, 18, 19, 20, 21, 22, 23, 24, 25, 26, 27, 28, 29, 30, 31, 32, 33, 34, 35, 36, 37, 38, 39, 40, 41, 42, 43, 44, 45, 46, 47, 48, 49, 50, 51, 52, 53, 54, 55, 56, 57, 58, 139, 140, 141, 142, 143, 144, 145, 146, 147] (by decide +kernel) (by decide +kernel)
set_option maxRecDepth 20000 in
theorem gX6_item_X6_kindTold : GoodIn wsX6_item (wsV RX6 58 RX6 yX6_kindTold wsX6_kindTold) := goodIn_app (goodIn_of _ (by decide +kernel)) ggX6_item_X6_kindTold
set_option maxRecDepth 20000 in
theorem ggX6_item_X6_wayItem : GoodIn wsX6_item wsX6_wayItem := goodIn_r _ [125, 84, 126, 85, 74, 103, 104, 127, 59, 60, 61, 4, 62, 7, 63, 9, 8, 6, 64, 65, 66, 67, 68, 69, 70, 71, 72, 73, 75, 76, 77, 78, 79, 86, 87, 88, 89, 90, 91, 92, 105, 106, 107, 108, 109, 1, 2, 3, 5, 10, 11, 12, 13, 14, 15, 16, 17, 18, 19, 20, 21, 22, 23, 24, 25, 26, 27, 28, 29, 30, 31, 32, 33, 34, 35, 36, 37, 38, 39, 40, 41, 42, 43, 44, 45, 46, 47, 48, 49, 50, 51, 52, 53, 54, 55, 56, 57, 58, 128, 129, 130, 113, 131, 132, 133, 134, 135, 136, 137, 138, 139, 140, 141, 142, 143, 144, 145, 146, 147, 148, 149, 150, 151, 152, 153, 154, 155, 156, 157, 158, 159] (by decide +kernel) (by decide +kernel)
set_option maxRecDepth 20000 in
theorem gX6_item_X6_wayItem : GoodIn wsX6_item (wsV RX6 62 RX6 yX6_wayItem wsX6_wayItem) := goodIn_app (goodIn_of _ (by decide +kernel)) ggX6_item_X6_wayItem
set_option maxRecDepth 20000 in
theorem ggX6_placesItem_X6_isNumber : GoodIn wsX6_placesItem wsX6_isNumber := goodIn_r _ [8, 9, 3, 10, 11, 12, 36, 37, 38, 39, 40, 41, 42, 43, 44] (by decide +kernel) (by decide +kernel)
set_option maxRecDepth 20000 in
theorem gX6_placesItem_X6_isNumber : GoodIn wsX6_placesItem (wsV RX6 70 RX6 yX6_isNumber wsX6_isNumber) := goodIn_app (goodIn_of _ (by decide +kernel)) ggX6_placesItem_X6_isNumber
set_option maxRecDepth 20000 in
theorem ggX6_placesItem_X6_next : GoodIn wsX6_placesItem wsX6_next := goodIn_r _ [16, 17, 18, 19, 20, 9, 21, 22, 7, 23, 24, 25, 26, 27, 28, 29, 30, 3, 31, 32, 33, 34, 35, 36, 37, 38, 39, 40, 41, 42, 43, 44] (by decide +kernel) (by decide +kernel)
set_option maxRecDepth 20000 in
theorem gX6_placesItem_X6_next : GoodIn wsX6_placesItem (wsV RX6 26 RX6 yX6_next wsX6_next) := goodIn_app (goodIn_of _ (by decide +kernel)) ggX6_placesItem_X6_next
set_option maxRecDepth 20000 in
theorem ggX6_weatherItem_X6_isNumber : GoodIn wsX6_weatherItem wsX6_isNumber := goodIn_r _ [8, 9, 2, 10, 11, 12, 36, 37, 38, 39, 40, 41, 42, 43, 44] (by decide +kernel) (by decide +kernel)
set_option maxRecDepth 20000 in
theorem gX6_weatherItem_X6_isNumber : GoodIn wsX6_weatherItem (wsV RX6 70 RX6 yX6_isNumber wsX6_isNumber) := goodIn_app (goodIn_of _ (by decide +kernel)) ggX6_weatherItem_X6_isNumber
set_option maxRecDepth 20000 in
theorem ggX6_weatherItem_X6_next : GoodIn wsX6_weatherItem wsX6_next := goodIn_r _ [16, 17, 18, 19, 20, 9, 21, 22, 7, 23, 24, 25, 26, 27, 28, 29, 30, 2, 31, 32, 33, 34, 35, 36, 37, 38, 39, 40, 41, 42, 43, 44] (by decide +kernel) (by decide +kernel)
set_option maxRecDepth 20000 in
theorem gX6_weatherItem_X6_next : GoodIn wsX6_weatherItem (wsV RX6 26 RX6 yX6_next wsX6_next) := goodIn_app (goodIn_of _ (by decide +kernel)) ggX6_weatherItem_X6_next
set_option maxRecDepth 20000 in
theorem ggX6_thingItem_X6_next : GoodIn wsX6_thingItem wsX6_next := goodIn_r _ [9, 10, 11, 12, 13, 14, 15, 16, 8, 17, 18, 19, 20, 21, 22, 23, 24, 25, 26, 27, 28, 29, 30, 104, 105, 106, 107, 108, 109, 110, 111, 112] (by decide +kernel) (by decide +kernel)
set_option maxRecDepth 20000 in
theorem gX6_thingItem_X6_next : GoodIn wsX6_thingItem (wsV RX6 26 RX6 yX6_next wsX6_next) := goodIn_app (goodIn_of _ (by decide +kernel)) ggX6_thingItem_X6_next
set_option maxRecDepth 20000 in
theorem ggX6_thingItem_X6_gainAndTime : GoodIn wsX6_thingItem wsX6_gainAndTime := goodIn_r _ [34, 3, 4, 35, 25, 36, 37, 38, 8, 39, 14, 10, 13, 12, 40, 41, 42, 43, 44, 45, 46, 47, 48, 49, 50, 51, 52, 53, 54, 55, 56, 57, 58, 59, 60, 61, 62, 63, 64, 65, 66, 67, 68, 69, 70, 71, 72, 73, 74, 75, 76, 77, 78, 79, 80, 81, 82, 83, 84, 85, 86, 87, 88, 5, 6, 7, 9, 11, 15, 16, 17, 18, 19, 20, 21, 22, 23, 24, 26, 27, 28, 29, 30, 89, 90, 91, 92, 93, 94, 95, 104, 105, 106, 107, 108, 109, 110, 111, 112] (by decide +kernel) (by decide +kernel)
set_option maxRecDepth 20000 in
theorem gX6_thingItem_X6_gainAndTime : GoodIn wsX6_thingItem (wsV RX6 82 RX6 yX6_gainAndTime wsX6_gainAndTime) := goodIn_app (goodIn_of _ (by decide +kernel)) ggX6_thingItem_X6_gainAndTime
set_option maxRecDepth 20000 in
theorem ggX6_thingItem_X1_newThing : GoodIn wsX6_thingItem wsX1_newThing := goodIn_r _ [100, 101, 102, 103, 113, 114, 115, 116, 117, 118, 119, 120, 121, 122, 123, 124] (by decide +kernel) (by decide +kernel)
set_option maxRecDepth 20000 in
theorem gX6_thingItem_X1_newThing : GoodIn wsX6_thingItem (wsV RX6 91 RX1 yX1_newThing wsX1_newThing) := goodIn_app (goodIn_of _ (by decide +kernel)) ggX6_thingItem_X1_newThing
set_option maxRecDepth 20000 in
theorem ggX6_wayItem_X6_next : GoodIn wsX6_wayItem wsX6_next := goodIn_r _ [12, 13, 14, 15, 16, 17, 18, 19, 11, 20, 21, 22, 23, 24, 25, 26, 27, 4, 28, 29, 30, 31, 32, 110, 111, 112, 113, 114, 115, 116, 117, 118] (by decide +kernel) (by decide +kernel)
set_option maxRecDepth 20000 in
theorem gX6_wayItem_X6_next : GoodIn wsX6_wayItem (wsV RX6 26 RX6 yX6_next wsX6_next) := goodIn_app (goodIn_of _ (by decide +kernel)) ggX6_wayItem_X6_next
set_option maxRecDepth 20000 in
theorem ggX6_wayItem_X6_isNumber : GoodIn wsX6_wayItem wsX6_isNumber := goodIn_r _ [36, 17, 4, 37, 38, 39, 110, 111, 112, 113, 114, 115, 116, 117, 118] (by decide +kernel) (by decide +kernel)
set_option maxRecDepth 20000 in
theorem gX6_wayItem_X6_isNumber : GoodIn wsX6_wayItem (wsV RX6 70 RX6 yX6_isNumber wsX6_isNumber) := goodIn_app (goodIn_of _ (by decide +kernel)) ggX6_wayItem_X6_isNumber
set_option maxRecDepth 20000 in
theorem ggX6_wayItem_X6_gainAndTime : GoodIn wsX6_wayItem wsX6_gainAndTime := goodIn_r _ [43, 5, 6, 44, 4, 45, 46, 47, 11, 48, 17, 13, 16, 15, 49, 50, 51, 52, 53, 54, 55, 56, 57, 58, 59, 60, 61, 62, 63, 64, 65, 66, 67, 68, 69, 70, 71, 72, 73, 74, 75, 76, 77, 78, 79, 80, 81, 82, 83, 84, 85, 86, 87, 88, 89, 90, 91, 92, 93, 94, 95, 96, 97, 8, 9, 10, 12, 14, 18, 19, 20, 21, 22, 23, 24, 25, 26, 27, 28, 29, 30, 31, 32, 33, 34, 35, 36, 37, 38, 39, 110, 111, 112, 113, 114, 115, 116, 117, 118] (by decide +kernel) (by decide +kernel)
set_option maxRecDepth 20000 in
theorem gX6_wayItem_X6_gainAndTime : GoodIn wsX6_wayItem (wsV RX6 82 RX6 yX6_gainAndTime wsX6_gainAndTime) := goodIn_app (goodIn_of _ (by decide +kernel)) ggX6_wayItem_X6_gainAndTime
set_option maxRecDepth 20000 in
theorem ggX6_wayItem_X1_newWay : GoodIn wsX6_wayItem wsX1_newWay := goodIn_r _ [102, 103, 104, 105, 106, 107, 108, 109, 119, 120, 121, 122, 123, 124, 125, 126, 127, 128, 129, 130] (by decide +kernel) (by decide +kernel)
set_option maxRecDepth 20000 in
theorem gX6_wayItem_X1_newWay : GoodIn wsX6_wayItem (wsV RX6 98 RX1 yX1_newWay wsX1_newWay) := goodIn_app (goodIn_of _ (by decide +kernel)) ggX6_wayItem_X1_newWay
set_option maxRecDepth 20000 in
theorem ggX6_wayItem_X6_isWord : GoodIn wsX6_wayItem wsX6_isWord := goodIn_r _ [48, 17, 13, 16, 15, 49, 50, 51, 52, 53, 54, 55, 56, 57, 58, 59, 60, 61, 62, 63, 64, 65, 66, 67, 68, 69, 70, 71, 72, 73, 74, 75, 76, 77, 78, 79, 80, 81, 82, 83, 84, 85, 86, 87, 88, 89, 90, 91, 92, 93, 94, 95, 96, 97, 110, 111, 112, 113, 114, 115, 116, 117, 118] (by decide +kernel) (by decide +kernel)
set_option maxRecDepth 20000 in
theorem gX6_wayItem_X6_isWord : GoodIn wsX6_wayItem (wsV RX6 41 RX6 yX6_isWord wsX6_isWord) := goodIn_app (goodIn_of _ (by decide +kernel)) ggX6_wayItem_X6_isWord
set_option maxRecDepth 20000 in
theorem ggX6_gainAndTime_X6_isWord : GoodIn wsX6_gainAndTime wsX6_isWord := goodIn_r _ [9, 10, 11, 12, 13, 14, 15, 16, 17, 18, 19, 20, 21, 22, 23, 24, 25, 26, 27, 28, 29, 30, 31, 32, 33, 34, 35, 36, 37, 38, 39, 40, 41, 42, 43, 44, 45, 46, 47, 48, 49, 50, 51, 52, 53, 54, 55, 56, 57, 58, 59, 60, 61, 62, 90, 91, 92, 93, 94, 95, 96, 97, 98] (by decide +kernel) (by decide +kernel)
set_option maxRecDepth 20000 in
theorem gX6_gainAndTime_X6_isWord : GoodIn wsX6_gainAndTime (wsV RX6 41 RX6 yX6_isWord wsX6_isWord) := goodIn_app (goodIn_of _ (by decide +kernel)) ggX6_gainAndTime_X6_isWord
set_option maxRecDepth 20000 in
theorem ggX6_gainAndTime_X6_next : GoodIn wsX6_gainAndTime wsX6_next := goodIn_r _ [66, 11, 67, 13, 12, 10, 68, 69, 8, 70, 71, 72, 73, 74, 75, 76, 77, 4, 78, 79, 80, 81, 82, 90, 91, 92, 93, 94, 95, 96, 97, 98] (by decide +kernel) (by decide +kernel)
set_option maxRecDepth 20000 in
theorem gX6_gainAndTime_X6_next : GoodIn wsX6_gainAndTime (wsV RX6 26 RX6 yX6_next wsX6_next) := goodIn_app (goodIn_of _ (by decide +kernel)) ggX6_gainAndTime_X6_next
set_option maxRecDepth 20000 in
theorem ggX6_gainAndTime_X6_isNumber : GoodIn wsX6_gainAndTime wsX6_isNumber := goodIn_r _ [86, 10, 4, 87, 88, 89, 90, 91, 92, 93, 94, 95, 96, 97, 98] (by decide +kernel) (by decide +kernel)
set_option maxRecDepth 20000 in
theorem gX6_gainAndTime_X6_isNumber : GoodIn wsX6_gainAndTime (wsV RX6 70 RX6 yX6_isNumber wsX6_isNumber) := goodIn_app (goodIn_of _ (by decide +kernel)) ggX6_gainAndTime_X6_isNumber
set_option maxRecDepth 20000 in
theorem ggX6_kindTold_X6_isWord : GoodIn wsX6_kindTold wsX6_isWord := goodIn_r _ [5, 6, 7, 8, 9, 10, 11, 12, 13, 14, 15, 16, 17, 18, 19, 20, 21, 22, 23, 24, 25, 26, 27, 28, 29, 30, 31, 32, 33, 34, 35, 36, 37, 38, 39, 40, 41, 42, 43, 44, 45, 46, 47, 48, 49, 50, 51, 52, 53, 54, 55, 56, 57, 58, 59, 60, 61, 62, 63, 64, 65, 66, 67] (by decide +kernel) (by decide +kernel)
set_option maxRecDepth 20000 in
theorem gX6_kindTold_X6_isWord : GoodIn wsX6_kindTold (wsV RX6 41 RX6 yX6_isWord wsX6_isWord) := goodIn_app (goodIn_of _ (by decide +kernel)) ggX6_kindTold_X6_isWord
set_option maxRecDepth 20000 in
theorem ggX6_isNumber_X9_within : GoodIn wsX6_isNumber wsX9_within := goodIn_r _ [5] (by decide +kernel) (by decide +kernel)
set_option maxRecDepth 20000 in
theorem gX6_isNumber_X9_within_n123 : GoodIn wsX6_isNumber (wsX9_within) := ggX6_isNumber_X9_within
set_option maxRecDepth 20000 in
theorem ggX6_isWord_J0_length_8abf5 : GoodIn wsX6_isWord wsJ0_length_8abf5 := goodIn_r _ [9, 10, 11, 12, 13, 8, 14, 15, 16] (by decide +kernel) (by decide +kernel)
set_option maxRecDepth 20000 in
theorem gX6_isWord_J0_length_8abf5 : GoodIn wsX6_isWord (wsV RX6 127 RJ0 yJ0_length_8abf5 wsJ0_length_8abf5) := goodIn_app (goodIn_of _ (by decide +kernel)) ggX6_isWord_J0_length_8abf5
set_option maxRecDepth 20000 in
theorem ggX6_isWord_J0_charAt_5068e : GoodIn wsX6_isWord wsJ0_charAt_5068e := goodIn_r _ [20, 10, 21, 22, 23, 8, 24, 15, 16, 25, 26, 27, 28, 29, 30, 31, 32, 33, 34, 35, 36, 37, 38, 39, 40, 41, 42, 43, 44, 45, 46, 47, 48, 49, 50, 51, 52, 53] (by decide +kernel) (by decide +kernel)
set_option maxRecDepth 20000 in
theorem gX6_isWord_J0_charAt_5068e : GoodIn wsX6_isWord (wsV RX6 131 RJ0 yJ0_charAt_5068e wsJ0_charAt_5068e) := goodIn_app (goodIn_of _ (by decide +kernel)) ggX6_isWord_J0_charAt_5068e
set_option maxRecDepth 20000 in
theorem ggX6_next_X6_isLetter : GoodIn wsX6_next wsX6_isLetter := goodIn_r _ [9] (by decide +kernel) (by decide +kernel)
set_option maxRecDepth 20000 in
theorem gX6_next_X6_isLetter : GoodIn wsX6_next (va_wsS RX6 135 yX6_isLetter wsX6_isLetter) := goodIn_app (goodIn_of _ (by decide +kernel)) ggX6_next_X6_isLetter
set_option maxRecDepth 20000 in
theorem ggX6_next_X6_isDigit : GoodIn wsX6_next wsX6_isDigit := goodIn_r _ [12] (by decide +kernel) (by decide +kernel)
set_option maxRecDepth 20000 in
theorem gX6_next_X6_isDigit : GoodIn wsX6_next (va_wsS RX6 138 yX6_isDigit wsX6_isDigit) := goodIn_app (goodIn_of _ (by decide +kernel)) ggX6_next_X6_isDigit
set_option maxRecDepth 20000 in
theorem ggX6_next_X6_takeDigits : GoodIn wsX6_next wsX6_takeDigits := goodIn_r _ [16, 17, 1, 2, 3, 18, 19, 20, 21, 22, 10, 11, 8, 12, 23, 24, 25, 26, 27, 28, 29, 30, 31] (by decide +kernel) (by decide +kernel)
set_option maxRecDepth 20000 in
theorem gX6_next_X6_takeDigits : GoodIn wsX6_next (wsV RX6 141 RX6 yX6_takeDigits wsX6_takeDigits) := goodIn_app (goodIn_of _ (by decide +kernel)) ggX6_next_X6_takeDigits
set_option maxRecDepth 20000 in
theorem ggX6_takeDigits_X6_isDigit : GoodIn wsX6_takeDigits wsX6_isDigit := goodIn_r _ [13] (by decide +kernel) (by decide +kernel)
set_option maxRecDepth 20000 in
theorem gX6_takeDigits_X6_isDigit : GoodIn wsX6_takeDigits (va_wsS RX6 138 yX6_isDigit wsX6_isDigit) := goodIn_app (goodIn_of _ (by decide +kernel)) ggX6_takeDigits_X6_isDigit
set_option maxRecDepth 20000 in
theorem ggX7_init_X0_init : GoodIn wsX7_init wsX0_init := goodIn_r _ [7, 8, 9, 10, 11, 12, 13, 14, 33, 34, 35, 36, 37, 38, 39, 40, 41, 42, 43, 21, 22, 23, 24, 25, 26, 27, 28, 29, 30, 31, 32, 44, 45, 46, 47, 48, 49, 50, 51, 52, 53, 54, 55, 56, 57, 58] (by decide +kernel) (by decide +kernel)
set_option maxRecDepth 20000 in
theorem gX7_init_X0_init_n3 : GoodIn wsX7_init (wsX0_init) := ggX7_init_X0_init
set_option maxRecDepth 20000 in
theorem ggX7_init_X2_init : GoodIn wsX7_init wsX2_init := goodIn_r _ [16, 17, 9, 10, 18, 19, 20] (by decide +kernel) (by decide +kernel)
set_option maxRecDepth 20000 in
theorem gX7_init_X2_init_n11 : GoodIn wsX7_init (wsX2_init) := ggX7_init_X2_init
set_option maxRecDepth 20000 in
theorem ggX7_climbs_X0_takeWays : GoodIn wsX7_climbs wsX0_takeWays := goodIn_r _ [7, 8, 9, 10, 11, 12, 13, 14, 15, 16, 17, 18, 19, 20, 21, 22, 23, 24, 25, 26, 27, 28, 29, 30, 31, 132, 133, 134, 135, 136, 137, 138, 139, 140, 141, 142, 143, 144, 145, 146, 147, 148, 149, 150, 151, 152, 153, 154, 120, 121, 122, 123, 124, 125, 126, 127, 128, 129, 130, 131, 155, 156, 157, 158, 159, 160, 161, 162, 163, 164, 165, 166, 167, 168, 169] (by decide +kernel) (by decide +kernel)
set_option maxRecDepth 20000 in
theorem gX7_climbs_X0_takeWays_u22X7 : GoodIn wsX7_climbs (va_wsU RX7 22 RX7 "RoundsPerHour$Climb" ⟨"RoundsPerHour$TreeClimb", "takeWays", "(LRoundsPerHour$Country;)V"⟩ yX0_takeWays wsX0_takeWays) := goodIn_app (goodIn_of _ (by decide +kernel)) ggX7_climbs_X0_takeWays
set_option maxRecDepth 20000 in
theorem ggX7_climbs_X0_runs : GoodIn wsX7_climbs wsX0_runs := goodIn_r _ [36, 37, 38, 10, 39, 40, 11, 41, 42, 43, 44, 45, 46, 6, 47, 9, 48, 49, 50, 51, 52, 53, 54, 55, 56, 57, 58, 59, 60, 61, 62, 63, 64, 65, 66, 1, 67, 68, 69, 70, 71, 72, 73, 74, 75, 76, 77, 78, 79, 80, 81, 82, 83, 84, 85, 86, 87, 88, 89, 90, 91, 92, 93, 94, 95, 96, 97, 98, 99, 100, 101, 102, 103, 104, 105, 106, 107, 108, 109, 110, 111, 112, 113, 114, 115, 116, 117, 118, 119, 144, 145, 146, 147, 148, 149, 150, 151, 152, 153, 154, 120, 121, 122, 123, 124, 125, 126, 127, 128, 129, 130, 131, 155, 156, 157, 158, 159, 160, 161, 162, 163, 164, 165, 166, 167, 168, 169, 132, 133, 134, 135, 136, 137, 138, 139, 140, 141, 142, 143, 170] (by decide +kernel) (by decide +kernel)
set_option maxRecDepth 20000 in
theorem gX7_climbs_X0_runs_u26X7 : GoodIn wsX7_climbs (va_wsU RX7 26 RX7 "RoundsPerHour$Climb" ⟨"RoundsPerHour$TreeClimb", "runs", "()Z"⟩ yX0_runs wsX0_runs) := goodIn_app (goodIn_of _ (by decide +kernel)) ggX7_climbs_X0_runs
set_option maxRecDepth 20000 in
theorem ggX7_pick_X2_part : GoodIn wsX7_pick wsX2_part := goodIn_r _ [10, 11, 54] (by decide +kernel) (by decide +kernel)
set_option maxRecDepth 20000 in
theorem gX7_pick_X2_part : GoodIn wsX7_pick (wsV RX7 30 RX2 yX2_part wsX2_part) := goodIn_app (goodIn_of _ (by decide +kernel)) ggX7_pick_X2_part
set_option maxRecDepth 20000 in
theorem ggX7_pick_X7_heaviestJoining : GoodIn wsX7_pick wsX7_heaviestJoining := goodIn_r _ [16, 17, 18, 2, 19, 1, 4, 5, 20, 21, 22, 23, 24, 9, 25, 11, 55, 56, 57, 58, 59, 60, 61, 62, 63, 64, 65, 30, 31, 32, 33, 34, 35, 36, 37, 38, 39, 40, 41, 66, 67, 68, 69, 70, 71, 72, 73, 74, 75, 76, 77, 78, 79, 80, 42, 43, 44, 45, 46, 47, 48, 49, 50, 51, 52, 53, 54] (by decide +kernel) (by decide +kernel)
set_option maxRecDepth 20000 in
theorem gX7_pick_X7_heaviestJoining : GoodIn wsX7_pick (wsV RX7 39 RX7 yX7_heaviestJoining wsX7_heaviestJoining) := goodIn_app (goodIn_of _ (by decide +kernel)) ggX7_pick_X7_heaviestJoining
set_option maxRecDepth 20000 in
theorem ggX7_pick_X2_join : GoodIn wsX7_pick wsX2_join := goodIn_r _ [29, 11, 54] (by decide +kernel) (by decide +kernel)
set_option maxRecDepth 20000 in
theorem gX7_pick_X2_join : GoodIn wsX7_pick (wsV RX7 50 RX2 yX2_join wsX2_join) := goodIn_app (goodIn_of _ (by decide +kernel)) ggX7_pick_X2_join
set_option maxRecDepth 20000 in
theorem ggX7_heaviestJoining_X2_apart : GoodIn wsX7_heaviestJoining wsX2_apart := goodIn_r _ [14, 15, 66] (by decide +kernel) (by decide +kernel)
set_option maxRecDepth 20000 in
theorem gX7_heaviestJoining_X2_apart : GoodIn wsX7_heaviestJoining (wsV RX7 60 RX2 yX2_apart wsX2_apart) := goodIn_app (goodIn_of _ (by decide +kernel)) ggX7_heaviestJoining_X2_apart
set_option maxRecDepth 20000 in
theorem ggX8_init_X0_init : GoodIn wsX8_init wsX0_init := goodIn_r _ [7, 8, 9, 10, 1, 11, 12, 13, 29, 30, 31, 32, 33, 34, 35, 36, 37, 38, 39, 40, 41, 42, 43, 44, 45, 46, 47, 48, 49, 50, 51, 14, 15, 16, 17, 18, 19, 20, 21, 22, 23, 24, 25, 26, 27, 28] (by decide +kernel) (by decide +kernel)
set_option maxRecDepth 20000 in
theorem gX8_init_X0_init_n3 : GoodIn wsX8_init (wsX0_init) := ggX8_init_X0_init
set_option maxRecDepth 20000 in
theorem ggX8_climbs_X0_takeWays : GoodIn wsX8_climbs wsX0_takeWays := goodIn_r _ [9, 10, 11, 12, 13, 14, 15, 16, 17, 18, 19, 20, 21, 22, 23, 24, 25, 26, 27, 28, 29, 30, 31, 32, 33, 135, 136, 137, 138, 139, 140, 141, 142, 143, 144, 145, 146, 147, 148, 149, 150, 151, 152, 153, 154, 155, 156, 157, 158, 159, 160, 161, 162, 163, 164, 165, 166, 167, 168, 169, 120, 121, 122, 123, 124, 125, 126, 127, 128, 129, 130, 131, 132, 133, 134] (by decide +kernel) (by decide +kernel)
set_option maxRecDepth 20000 in
theorem gX8_climbs_X0_takeWays_u30X8 : GoodIn wsX8_climbs (va_wsU RX8 30 RX8 "RoundsPerHour$Climb" ⟨"RoundsPerHour$WalkClimb", "takeWays", "(LRoundsPerHour$Country;)V"⟩ yX0_takeWays wsX0_takeWays) := goodIn_app (goodIn_of _ (by decide +kernel)) ggX8_climbs_X0_takeWays
set_option maxRecDepth 20000 in
theorem ggX8_climbs_X0_runs : GoodIn wsX8_climbs wsX0_runs := goodIn_r _ [38, 39, 40, 12, 41, 42, 13, 43, 44, 45, 46, 47, 48, 8, 49, 11, 50, 51, 52, 53, 54, 55, 56, 57, 58, 59, 60, 61, 62, 63, 64, 65, 66, 67, 68, 69, 70, 71, 72, 73, 74, 75, 76, 77, 78, 79, 80, 81, 82, 83, 84, 85, 86, 87, 88, 89, 90, 91, 92, 93, 94, 95, 96, 97, 98, 99, 100, 101, 2, 3, 102, 103, 104, 105, 106, 107, 1, 108, 109, 110, 111, 112, 113, 114, 115, 116, 117, 118, 119, 147, 148, 149, 150, 151, 152, 153, 154, 155, 156, 157, 158, 159, 160, 161, 162, 163, 164, 165, 166, 167, 168, 169, 120, 121, 122, 123, 124, 125, 126, 127, 128, 129, 130, 131, 132, 133, 134, 135, 136, 137, 138, 139, 140, 141, 142, 143, 144, 145, 146, 170] (by decide +kernel) (by decide +kernel)
set_option maxRecDepth 20000 in
theorem gX8_climbs_X0_runs_u34X8 : GoodIn wsX8_climbs (va_wsU RX8 34 RX8 "RoundsPerHour$Climb" ⟨"RoundsPerHour$WalkClimb", "runs", "()Z"⟩ yX0_runs wsX0_runs) := goodIn_app (goodIn_of _ (by decide +kernel)) ggX8_climbs_X0_runs
set_option maxRecDepth 20000 in
theorem ggX8_pick_X8_leave : GoodIn wsX8_pick wsX8_leave := goodIn_r _ [9, 10, 11, 12, 13, 14, 15, 1, 16, 17, 2, 33, 34, 35, 36, 37, 38, 39, 40, 41, 42, 43, 44, 45, 46, 47, 48, 49, 50, 51, 52, 53, 54, 55, 18, 19, 20, 21, 22, 23, 24, 25, 26, 27, 28, 29, 30, 31, 32, 56, 57, 58, 59, 60, 61, 62, 63, 64, 65, 66, 67] (by decide +kernel) (by decide +kernel)
set_option maxRecDepth 20000 in
theorem gX8_pick_X8_leave : GoodIn wsX8_pick (wsV RX8 38 RX8 yX8_leave wsX8_leave) := goodIn_app (goodIn_of _ (by decide +kernel)) ggX8_pick_X8_leave
set_option maxRecDepth 20000 in
theorem ggX9_init_X1_init : GoodIn wsX9_init wsX1_init := goodIn_r _ [42, 43, 2, 3, 44, 36, 45, 46, 47, 48, 49, 50, 51, 52, 97, 98, 99, 100, 101, 102, 103, 104, 105, 106, 107, 108] (by decide +kernel) (by decide +kernel)
set_option maxRecDepth 20000 in
theorem gX9_init_X1_init : GoodIn wsX9_init (wsX1_init) := ggX9_init_X1_init
set_option maxRecDepth 20000 in
theorem ggX9_init_X4_init : GoodIn wsX9_init wsX4_init := goodIn_r _ [54, 55, 2, 3, 36, 56, 57, 58, 59, 60, 61, 62, 63, 64, 65, 66, 67, 121, 122, 123, 124, 125, 126, 127, 128, 129, 130, 131, 132, 133] (by decide +kernel) (by decide +kernel)
set_option maxRecDepth 20000 in
theorem gX9_init_X4_init_n24 : GoodIn wsX9_init (wsX4_init) := ggX9_init_X4_init
set_option maxRecDepth 20000 in
theorem ggX9_init_X7_init : GoodIn wsX9_init wsX7_init := goodIn_r _ [69, 70, 27, 28, 71, 72, 73, 74, 75, 2, 3, 57, 76, 77, 78, 79, 80, 81, 36, 82, 172, 134, 135, 136, 137, 138, 139, 140, 141, 142, 143, 144, 145, 161, 162, 163, 164, 165, 166, 167, 168, 169, 170, 171, 146, 147, 148, 149, 150, 151, 152, 153, 154, 155, 156, 157, 158, 159, 160] (by decide +kernel) (by decide +kernel)
set_option maxRecDepth 20000 in
theorem gX9_init_X7_init_n31 : GoodIn wsX9_init (wsX7_init) := ggX9_init_X7_init
set_option maxRecDepth 20000 in
theorem ggX9_init_X8_init : GoodIn wsX9_init wsX8_init := goodIn_r _ [84, 57, 85, 36, 86, 72, 73, 74, 75, 2, 3, 76, 77, 78, 146, 147, 148, 149, 150, 151, 152, 153, 154, 155, 156, 157, 158, 159, 160, 161, 162, 163, 164, 165, 166, 167, 168, 169, 170, 171, 134, 135, 136, 137, 138, 139, 140, 141, 142, 143, 144, 145] (by decide +kernel) (by decide +kernel)
set_option maxRecDepth 20000 in
theorem gX9_init_X8_init_n38 : GoodIn wsX9_init (wsX8_init) := ggX9_init_X8_init
set_option maxRecDepth 20000 in
theorem ggX9_init_X3_init : GoodIn wsX9_init wsX3_init := goodIn_r _ [88, 72, 73, 74, 75, 2, 3, 57, 76, 77, 78, 161, 162, 163, 164, 165, 166, 167, 168, 169, 170, 171, 134, 135, 136, 137, 138, 139, 140, 141, 142, 143, 144, 145, 146, 147, 148, 149, 150, 151, 152, 153, 154, 155, 156, 157, 158, 159, 160] (by decide +kernel) (by decide +kernel)
set_option maxRecDepth 20000 in
theorem gX9_init_X3_init_n45 : GoodIn wsX9_init (wsX3_init) := ggX9_init_X3_init
set_option maxRecDepth 20000 in
theorem ggX9_init_X2_init : GoodIn wsX9_init wsX2_init := goodIn_r _ [80, 81, 2, 3, 36, 82, 172] (by decide +kernel) (by decide +kernel)
set_option maxRecDepth 20000 in
theorem gX9_init_X2_init_n52 : GoodIn wsX9_init (wsX2_init) := ggX9_init_X2_init
set_option maxRecDepth 20000 in
theorem ggX9_init_X6_init : GoodIn wsX9_init wsX6_init := goodIn_r _ [90, 91, 2, 3, 36, 92, 173, 174, 175, 176, 177, 178, 179, 180, 181] (by decide +kernel) (by decide +kernel)
set_option maxRecDepth 20000 in
theorem gX9_init_X6_init_n59 : GoodIn wsX9_init (wsX6_init) := ggX9_init_X6_init
set_option maxRecDepth 20000 in
theorem ggX9_init_X5_init : GoodIn wsX9_init wsX5_init := goodIn_r _ [94, 95, 2, 3, 57, 96, 182, 183, 184] (by decide +kernel) (by decide +kernel)
set_option maxRecDepth 20000 in
theorem gX9_init_X5_init_n74 : GoodIn wsX9_init (wsX5_init) := ggX9_init_X5_init
set_option maxRecDepth 20000 in
theorem ggX9_places_X9_within : GoodIn wsX9_places wsX9_within := goodIn_r _ [9] (by decide +kernel) (by decide +kernel)
set_option maxRecDepth 20000 in
theorem gX9_places_X9_within : GoodIn wsX9_places (va_wsS RX9 75 yX9_within wsX9_within) := goodIn_app (goodIn_of _ (by decide +kernel)) ggX9_places_X9_within
set_option maxRecDepth 20000 in
theorem ggX9_places_X9_finding : GoodIn wsX9_places wsX9_finding := goodIn_r _ [13, 14, 15, 16, 17, 18, 19, 20, 21, 22, 23, 24, 25, 26, 27] (by decide +kernel) (by decide +kernel)
set_option maxRecDepth 20000 in
theorem gX9_places_X9_finding : GoodIn wsX9_places (wsV RX9 79 RX9 yX9_finding wsX9_finding) := goodIn_app (goodIn_of _ (by decide +kernel)) ggX9_places_X9_finding
set_option maxRecDepth 20000 in
theorem ggX9_weather_X9_within : GoodIn wsX9_weather wsX9_within := goodIn_r _ [6] (by decide +kernel) (by decide +kernel)
set_option maxRecDepth 20000 in
theorem gX9_weather_X9_within : GoodIn wsX9_weather (va_wsS RX9 75 yX9_within wsX9_within) := goodIn_app (goodIn_of _ (by decide +kernel)) ggX9_weather_X9_within
set_option maxRecDepth 20000 in
theorem ggX9_weather_X9_finding : GoodIn wsX9_weather wsX9_finding := goodIn_r _ [10, 11, 12, 13, 14, 15, 16, 17, 18, 19, 20, 21, 22, 23, 24] (by decide +kernel) (by decide +kernel)
set_option maxRecDepth 20000 in
theorem gX9_weather_X9_finding : GoodIn wsX9_weather (wsV RX9 79 RX9 yX9_finding wsX9_finding) := goodIn_app (goodIn_of _ (by decide +kernel)) ggX9_weather_X9_finding
set_option maxRecDepth 20000 in
theorem ggX9_way_X1_isPlace : GoodIn wsX9_way wsX1_isPlace := goodIn_r _ [7, 8, 9, 10, 11, 54, 55, 56, 57, 58, 59, 60, 61, 62, 63, 64, 65] (by decide +kernel) (by decide +kernel)
set_option maxRecDepth 20000 in
theorem gX9_way_X1_isPlace : GoodIn wsX9_way (wsV RX9 99 RX1 yX1_isPlace wsX1_isPlace) := goodIn_app (goodIn_of _ (by decide +kernel)) ggX9_way_X1_isPlace
set_option maxRecDepth 20000 in
theorem ggX9_way_X9_isKind : GoodIn wsX9_way wsX9_isKind := goodIn_r _ [14, 15, 9, 10, 11] (by decide +kernel) (by decide +kernel)
set_option maxRecDepth 20000 in
theorem gX9_way_X9_isKind : GoodIn wsX9_way (va_wsS RX9 103 yX9_isKind wsX9_isKind) := goodIn_app (goodIn_of _ (by decide +kernel)) ggX9_way_X9_isKind
set_option maxRecDepth 20000 in
theorem ggX9_way_X9_isGain : GoodIn wsX9_way wsX9_isGain := goodIn_r _ [18, 19, 20, 15, 9, 10, 11] (by decide +kernel) (by decide +kernel)
set_option maxRecDepth 20000 in
theorem gX9_way_X9_isGain : GoodIn wsX9_way (va_wsS RX9 106 yX9_isGain wsX9_isGain) := goodIn_app (goodIn_of _ (by decide +kernel)) ggX9_way_X9_isGain
set_option maxRecDepth 20000 in
theorem ggX9_way_X9_isTime : GoodIn wsX9_way wsX9_isTime := goodIn_r _ [23, 24, 15, 9, 10, 11] (by decide +kernel) (by decide +kernel)
set_option maxRecDepth 20000 in
theorem gX9_way_X9_isTime : GoodIn wsX9_way (va_wsS RX9 109 yX9_isTime wsX9_isTime) := goodIn_app (goodIn_of _ (by decide +kernel)) ggX9_way_X9_isTime
set_option maxRecDepth 20000 in
theorem ggX9_way_X9_finding : GoodIn wsX9_way wsX9_finding := goodIn_r _ [28, 29, 30, 42, 43, 44, 45, 46, 47, 48, 49, 50, 51, 52, 53] (by decide +kernel) (by decide +kernel)
set_option maxRecDepth 20000 in
theorem gX9_way_X9_finding : GoodIn wsX9_way (wsV RX9 79 RX9 yX9_finding wsX9_finding) := goodIn_app (goodIn_of _ (by decide +kernel)) ggX9_way_X9_finding
set_option maxRecDepth 20000 in
theorem ggX9_way_X1_newWay : GoodIn wsX9_way wsX1_newWay := goodIn_r _ [34, 35, 36, 37, 38, 39, 40, 41, 54, 55, 56, 57, 58, 59, 60, 61, 62, 63, 64, 65] (by decide +kernel) (by decide +kernel)
set_option maxRecDepth 20000 in
theorem gX9_way_X1_newWay : GoodIn wsX9_way (wsV RX9 112 RX1 yX1_newWay wsX1_newWay) := goodIn_app (goodIn_of _ (by decide +kernel)) ggX9_way_X1_newWay
set_option maxRecDepth 20000 in
theorem ggX9_of_X1_isWay : GoodIn wsX9_of wsX1_isWay := goodIn_r _ [12, 13, 14, 15, 16, 53, 54, 55, 56, 57, 58, 59, 60, 61, 62, 63, 64] (by decide +kernel) (by decide +kernel)
set_option maxRecDepth 20000 in
theorem gX9_of_X1_isWay : GoodIn wsX9_of (wsV RX9 116 RX1 yX1_isWay wsX1_isWay) := goodIn_app (goodIn_of _ (by decide +kernel)) ggX9_of_X1_isWay
set_option maxRecDepth 20000 in
theorem ggX9_of_X9_finding : GoodIn wsX9_of wsX9_finding := goodIn_r _ [20, 21, 22, 41, 42, 43, 44, 45, 46, 47, 48, 49, 50, 51, 52] (by decide +kernel) (by decide +kernel)
set_option maxRecDepth 20000 in
theorem gX9_of_X9_finding : GoodIn wsX9_of (wsV RX9 79 RX9 yX9_finding wsX9_finding) := goodIn_app (goodIn_of _ (by decide +kernel)) ggX9_of_X9_finding
set_option maxRecDepth 20000 in
theorem ggX9_of_X1_bringsOf : GoodIn wsX9_of wsX1_bringsOf := goodIn_r _ [26, 27, 28, 29, 30, 15, 31, 32, 53, 54, 55, 56, 57, 58, 59, 60, 61, 62, 63, 64] (by decide +kernel) (by decide +kernel)
set_option maxRecDepth 20000 in
theorem gX9_of_X1_bringsOf : GoodIn wsX9_of (wsV RX9 131 RX1 yX1_bringsOf wsX1_bringsOf) := goodIn_app (goodIn_of _ (by decide +kernel)) ggX9_of_X1_bringsOf
set_option maxRecDepth 20000 in
theorem ggX9_of_X1_lastsOf : GoodIn wsX9_of wsX1_lastsOf := goodIn_r _ [36, 27, 37, 29, 38, 15, 39, 40, 53, 54, 55, 56, 57, 58, 59, 60, 61, 62, 63, 64] (by decide +kernel) (by decide +kernel)
set_option maxRecDepth 20000 in
theorem gX9_of_X1_lastsOf : GoodIn wsX9_of (wsV RX9 134 RX1 yX1_lastsOf wsX1_lastsOf) := goodIn_app (goodIn_of _ (by decide +kernel)) ggX9_of_X1_lastsOf
set_option maxRecDepth 20000 in
theorem ggX9_change_X1_isWay : GoodIn wsX9_change wsX1_isWay := goodIn_r _ [12, 13, 14, 15, 16, 60, 61, 62, 63, 64, 65, 66, 67, 68, 69, 70, 71] (by decide +kernel) (by decide +kernel)
set_option maxRecDepth 20000 in
theorem gX9_change_X1_isWay : GoodIn wsX9_change (wsV RX9 116 RX1 yX1_isWay wsX1_isWay) := goodIn_app (goodIn_of _ (by decide +kernel)) ggX9_change_X1_isWay
set_option maxRecDepth 20000 in
theorem ggX9_change_X9_canBecome : GoodIn wsX9_change wsX9_canBecome := goodIn_r _ [20, 1, 4, 3, 21, 22, 15, 23, 24, 14, 16, 25, 26, 27, 11, 28, 29, 30, 31, 32, 33, 34, 35, 36, 37, 38, 48, 49, 50, 51, 52, 53, 54, 55, 56, 57, 58, 59, 60, 61, 62, 63, 64, 65, 66, 67, 68, 69, 70, 71] (by decide +kernel) (by decide +kernel)
set_option maxRecDepth 20000 in
theorem gX9_change_X9_canBecome : GoodIn wsX9_change (wsV RX9 137 RX9 yX9_canBecome wsX9_canBecome) := goodIn_app (goodIn_of _ (by decide +kernel)) ggX9_change_X9_canBecome
set_option maxRecDepth 20000 in
theorem ggX9_change_X9_finding : GoodIn wsX9_change wsX9_finding := goodIn_r _ [42, 43, 44, 48, 49, 50, 51, 52, 53, 54, 55, 56, 57, 58, 59] (by decide +kernel) (by decide +kernel)
set_option maxRecDepth 20000 in
theorem gX9_change_X9_finding : GoodIn wsX9_change (wsV RX9 79 RX9 yX9_finding wsX9_finding) := goodIn_app (goodIn_of _ (by decide +kernel)) ggX9_change_X9_finding
set_option maxRecDepth 20000 in
theorem ggX9_change_X9_put : GoodIn wsX9_change wsX9_put := goodIn_r _ [47] (by decide +kernel) (by decide +kernel)
set_option maxRecDepth 20000 in
theorem gX9_change_X9_put : GoodIn wsX9_change (va_wsS RX9 140 yX9_put wsX9_put) := goodIn_app (goodIn_of _ (by decide +kernel)) ggX9_change_X9_put
set_option maxRecDepth 20000 in
theorem ggX9_canBecome_X9_isKind : GoodIn wsX9_canBecome wsX9_isKind := goodIn_r _ [7, 8, 9, 6, 10] (by decide +kernel) (by decide +kernel)
set_option maxRecDepth 20000 in
theorem gX9_canBecome_X9_isKind : GoodIn wsX9_canBecome (va_wsS RX9 103 yX9_isKind wsX9_isKind) := goodIn_app (goodIn_of _ (by decide +kernel)) ggX9_canBecome_X9_isKind
set_option maxRecDepth 20000 in
theorem ggX9_canBecome_X1_isPlace : GoodIn wsX9_canBecome wsX1_isPlace := goodIn_r _ [15, 16, 9, 6, 10, 38, 39, 40, 41, 42, 43, 44, 45, 46, 47, 48, 49] (by decide +kernel) (by decide +kernel)
set_option maxRecDepth 20000 in
theorem gX9_canBecome_X1_isPlace : GoodIn wsX9_canBecome (wsV RX9 99 RX1 yX1_isPlace wsX1_isPlace) := goodIn_app (goodIn_of _ (by decide +kernel)) ggX9_canBecome_X1_isPlace
set_option maxRecDepth 20000 in
theorem ggX9_canBecome_X9_isGain : GoodIn wsX9_canBecome wsX9_isGain := goodIn_r _ [19, 20, 21, 8, 9, 6, 10] (by decide +kernel) (by decide +kernel)
set_option maxRecDepth 20000 in
theorem gX9_canBecome_X9_isGain : GoodIn wsX9_canBecome (va_wsS RX9 106 yX9_isGain wsX9_isGain) := goodIn_app (goodIn_of _ (by decide +kernel)) ggX9_canBecome_X9_isGain
set_option maxRecDepth 20000 in
theorem ggX9_canBecome_X9_isTime : GoodIn wsX9_canBecome wsX9_isTime := goodIn_r _ [24, 25, 8, 9, 6, 10] (by decide +kernel) (by decide +kernel)
set_option maxRecDepth 20000 in
theorem gX9_canBecome_X9_isTime : GoodIn wsX9_canBecome (va_wsS RX9 109 yX9_isTime wsX9_isTime) := goodIn_app (goodIn_of _ (by decide +kernel)) ggX9_canBecome_X9_isTime
set_option maxRecDepth 20000 in
theorem ggX9_canBecome_X9_within : GoodIn wsX9_canBecome wsX9_within := goodIn_r _ [10] (by decide +kernel) (by decide +kernel)
set_option maxRecDepth 20000 in
theorem gX9_canBecome_X9_within : GoodIn wsX9_canBecome (va_wsS RX9 75 yX9_within wsX9_within) := goodIn_app (goodIn_of _ (by decide +kernel)) ggX9_canBecome_X9_within
set_option maxRecDepth 20000 in
theorem ggX9_as_X1_isWay : GoodIn wsX9_as wsX1_isWay := goodIn_r _ [8, 9, 10, 11, 12, 39, 40, 41, 42, 43, 44, 45, 46, 47, 48, 49, 50] (by decide +kernel) (by decide +kernel)
set_option maxRecDepth 20000 in
theorem gX9_as_X1_isWay : GoodIn wsX9_as (wsV RX9 116 RX1 yX1_isWay wsX1_isWay) := goodIn_app (goodIn_of _ (by decide +kernel)) ggX9_as_X1_isWay
set_option maxRecDepth 20000 in
theorem ggX9_as_X9_isKind : GoodIn wsX9_as wsX9_isKind := goodIn_r _ [15, 16, 10, 11, 12] (by decide +kernel) (by decide +kernel)
set_option maxRecDepth 20000 in
theorem gX9_as_X9_isKind : GoodIn wsX9_as (va_wsS RX9 103 yX9_isKind wsX9_isKind) := goodIn_app (goodIn_of _ (by decide +kernel)) ggX9_as_X9_isKind
set_option maxRecDepth 20000 in
theorem ggX9_as_X9_finding : GoodIn wsX9_as wsX9_finding := goodIn_r _ [20, 21, 22, 27, 28, 29, 30, 31, 32, 33, 34, 35, 36, 37, 38] (by decide +kernel) (by decide +kernel)
set_option maxRecDepth 20000 in
theorem gX9_as_X9_finding : GoodIn wsX9_as (wsV RX9 79 RX9 yX9_finding wsX9_finding) := goodIn_app (goodIn_of _ (by decide +kernel)) ggX9_as_X9_finding
set_option maxRecDepth 20000 in
theorem ggX9_as_X9_isUnder : GoodIn wsX9_as wsX9_isUnder := goodIn_r _ [25, 26] (by decide +kernel) (by decide +kernel)
set_option maxRecDepth 20000 in
theorem gX9_as_X9_isUnder : GoodIn wsX9_as (va_wsS RX9 144 yX9_isUnder wsX9_isUnder) := goodIn_app (goodIn_of _ (by decide +kernel)) ggX9_as_X9_isUnder
set_option maxRecDepth 20000 in
theorem ggX9_thing_X9_isGain : GoodIn wsX9_thing wsX9_isGain := goodIn_r _ [6, 7, 8, 9, 10, 5, 11] (by decide +kernel) (by decide +kernel)
set_option maxRecDepth 20000 in
theorem gX9_thing_X9_isGain : GoodIn wsX9_thing (va_wsS RX9 106 yX9_isGain wsX9_isGain) := goodIn_app (goodIn_of _ (by decide +kernel)) ggX9_thing_X9_isGain
set_option maxRecDepth 20000 in
theorem ggX9_thing_X9_isTime : GoodIn wsX9_thing wsX9_isTime := goodIn_r _ [14, 15, 9, 10, 5, 11] (by decide +kernel) (by decide +kernel)
set_option maxRecDepth 20000 in
theorem gX9_thing_X9_isTime : GoodIn wsX9_thing (va_wsS RX9 109 yX9_isTime wsX9_isTime) := goodIn_app (goodIn_of _ (by decide +kernel)) ggX9_thing_X9_isTime
set_option maxRecDepth 20000 in
theorem ggX9_thing_X9_finding : GoodIn wsX9_thing wsX9_finding := goodIn_r _ [19, 20, 21, 30, 31, 32, 33, 34, 35, 36, 37, 38, 39, 40, 41] (by decide +kernel) (by decide +kernel)
set_option maxRecDepth 20000 in
theorem gX9_thing_X9_finding : GoodIn wsX9_thing (wsV RX9 79 RX9 yX9_finding wsX9_finding) := goodIn_app (goodIn_of _ (by decide +kernel)) ggX9_thing_X9_finding
set_option maxRecDepth 20000 in
theorem ggX9_thing_X1_newThing : GoodIn wsX9_thing wsX1_newThing := goodIn_r _ [26, 27, 28, 29, 42, 43, 44, 45, 46, 47, 48, 49, 50, 51, 52, 53] (by decide +kernel) (by decide +kernel)
set_option maxRecDepth 20000 in
theorem gX9_thing_X1_newThing : GoodIn wsX9_thing (wsV RX9 151 RX1 yX1_newThing wsX1_newThing) := goodIn_app (goodIn_of _ (by decide +kernel)) ggX9_thing_X1_newThing
set_option maxRecDepth 20000 in
theorem ggX9_alter_X1_isThingOrBase : GoodIn wsX9_alter wsX1_isThingOrBase := goodIn_r _ [8, 9, 10, 11, 12, 44, 45, 46, 47, 48, 49, 50, 51, 52, 53, 54, 55] (by decide +kernel) (by decide +kernel)
set_option maxRecDepth 20000 in
theorem gX9_alter_X1_isThingOrBase : GoodIn wsX9_alter (wsV RX9 155 RX1 yX1_isThingOrBase wsX1_isThingOrBase) := goodIn_app (goodIn_of _ (by decide +kernel)) ggX9_alter_X1_isThingOrBase
set_option maxRecDepth 20000 in
theorem ggX9_alter_X9_finding : GoodIn wsX9_alter wsX9_finding := goodIn_r _ [16, 17, 18, 32, 33, 34, 35, 36, 37, 38, 39, 40, 41, 42, 43] (by decide +kernel) (by decide +kernel)
set_option maxRecDepth 20000 in
theorem gX9_alter_X9_finding : GoodIn wsX9_alter (wsV RX9 79 RX9 yX9_finding wsX9_finding) := goodIn_app (goodIn_of _ (by decide +kernel)) ggX9_alter_X9_finding
set_option maxRecDepth 20000 in
theorem ggX9_alter_X9_isGain : GoodIn wsX9_alter wsX9_isGain := goodIn_r _ [21, 22, 23, 24, 10, 11, 12] (by decide +kernel) (by decide +kernel)
set_option maxRecDepth 20000 in
theorem gX9_alter_X9_isGain : GoodIn wsX9_alter (va_wsS RX9 106 yX9_isGain wsX9_isGain) := goodIn_app (goodIn_of _ (by decide +kernel)) ggX9_alter_X9_isGain
set_option maxRecDepth 20000 in
theorem ggX9_alter_X9_put : GoodIn wsX9_alter wsX9_put := goodIn_r _ [27] (by decide +kernel) (by decide +kernel)
set_option maxRecDepth 20000 in
theorem gX9_alter_X9_put : GoodIn wsX9_alter (va_wsS RX9 140 yX9_put wsX9_put) := goodIn_app (goodIn_of _ (by decide +kernel)) ggX9_alter_X9_put
set_option maxRecDepth 20000 in
theorem ggX9_alter_X9_isTime : GoodIn wsX9_alter wsX9_isTime := goodIn_r _ [30, 31, 24, 10, 11, 12] (by decide +kernel) (by decide +kernel)
set_option maxRecDepth 20000 in
theorem gX9_alter_X9_isTime : GoodIn wsX9_alter (va_wsS RX9 109 yX9_isTime wsX9_isTime) := goodIn_app (goodIn_of _ (by decide +kernel)) ggX9_alter_X9_isTime
set_option maxRecDepth 20000 in
theorem ggX9_its_X1_isThingOrBase : GoodIn wsX9_its wsX1_isThingOrBase := goodIn_r _ [8, 9, 10, 11, 12, 32, 33, 34, 35, 36, 37, 38, 39, 40, 41, 42, 43] (by decide +kernel) (by decide +kernel)
set_option maxRecDepth 20000 in
theorem gX9_its_X1_isThingOrBase : GoodIn wsX9_its (wsV RX9 155 RX1 yX1_isThingOrBase wsX1_isThingOrBase) := goodIn_app (goodIn_of _ (by decide +kernel)) ggX9_its_X1_isThingOrBase
set_option maxRecDepth 20000 in
theorem ggX9_its_X9_within : GoodIn wsX9_its wsX9_within := goodIn_r _ [12] (by decide +kernel) (by decide +kernel)
set_option maxRecDepth 20000 in
theorem gX9_its_X9_within : GoodIn wsX9_its (va_wsS RX9 75 yX9_within wsX9_within) := goodIn_app (goodIn_of _ (by decide +kernel)) ggX9_its_X9_within
set_option maxRecDepth 20000 in
theorem ggX9_its_X9_finding : GoodIn wsX9_its wsX9_finding := goodIn_r _ [17, 18, 19, 20, 21, 22, 23, 24, 25, 26, 27, 28, 29, 30, 31] (by decide +kernel) (by decide +kernel)
set_option maxRecDepth 20000 in
theorem gX9_its_X9_finding : GoodIn wsX9_its (wsV RX9 79 RX9 yX9_finding wsX9_finding) := goodIn_app (goodIn_of _ (by decide +kernel)) ggX9_its_X9_finding
set_option maxRecDepth 20000 in
theorem ggX9_ring_X9_within : GoodIn wsX9_ring wsX9_within := goodIn_r _ [7] (by decide +kernel) (by decide +kernel)
set_option maxRecDepth 20000 in
theorem gX9_ring_X9_within : GoodIn wsX9_ring (va_wsS RX9 75 yX9_within wsX9_within) := goodIn_app (goodIn_of _ (by decide +kernel)) ggX9_ring_X9_within
set_option maxRecDepth 20000 in
theorem ggX9_ring_X9_longFinding : GoodIn wsX9_ring wsX9_longFinding := goodIn_r _ [11, 12, 13, 83, 84, 85, 86, 87, 88, 89, 90, 91, 92, 93, 94] (by decide +kernel) (by decide +kernel)
set_option maxRecDepth 20000 in
theorem gX9_ring_X9_longFinding : GoodIn wsX9_ring (wsV RX9 164 RX9 yX9_longFinding wsX9_longFinding) := goodIn_app (goodIn_of _ (by decide +kernel)) ggX9_ring_X9_longFinding
set_option maxRecDepth 20000 in
theorem ggX9_ring_X9_bestRing : GoodIn wsX9_ring wsX9_bestRing := goodIn_r _ [17, 1, 18, 19, 20, 21, 22, 23, 24, 25, 26, 27, 28, 29, 30, 31, 32, 33, 34, 35, 36, 37, 38, 39, 40, 41, 42, 43, 6, 44, 45, 46, 47, 48, 49, 50, 51, 52, 53, 54, 55, 56, 57, 58, 59, 60, 61, 62, 63, 64, 65, 66, 67, 68, 69, 70, 71, 72, 73, 74, 75, 76, 83, 84, 85, 86, 87, 88, 89, 90, 91, 92, 93, 94, 95, 96, 97, 98, 99, 100, 101, 102, 103, 104, 105, 106, 107, 108, 109, 110, 111, 112, 113, 114, 115, 116, 117, 118, 119] (by decide +kernel) (by decide +kernel)
set_option maxRecDepth 20000 in
theorem gX9_ring_X9_bestRing : GoodIn wsX9_ring (wsV RX9 168 RX9 yX9_bestRing wsX9_bestRing) := goodIn_app (goodIn_of _ (by decide +kernel)) ggX9_ring_X9_bestRing
set_option maxRecDepth 20000 in
theorem ggX9_ring_X9_lowest : GoodIn wsX9_ring wsX9_lowest := goodIn_r _ [79, 80, 81, 6, 82] (by decide +kernel) (by decide +kernel)
set_option maxRecDepth 20000 in
theorem gX9_ring_X9_lowest : GoodIn wsX9_ring (va_wsS RX9 179 yX9_lowest wsX9_lowest) := goodIn_app (goodIn_of _ (by decide +kernel)) ggX9_ring_X9_lowest
set_option maxRecDepth 20000 in
theorem ggX9_ringWays_X9_bestRing : GoodIn wsX9_ringWays wsX9_bestRing := goodIn_r _ [8, 1, 9, 10, 11, 12, 13, 14, 15, 16, 17, 18, 19, 20, 21, 22, 23, 24, 25, 26, 27, 28, 29, 30, 31, 32, 33, 34, 7, 35, 36, 37, 38, 39, 40, 41, 42, 43, 44, 45, 46, 47, 48, 49, 50, 51, 52, 53, 54, 55, 56, 57, 58, 59, 60, 61, 62, 63, 64, 65, 66, 67, 75, 76, 77, 78, 79, 80, 81, 82, 83, 84, 85, 86, 87, 88, 89, 90, 91, 92, 93, 94, 95, 96, 97, 98, 99, 100, 101, 102, 103, 104, 105, 106, 107, 108, 109, 110, 111] (by decide +kernel) (by decide +kernel)
set_option maxRecDepth 20000 in
theorem gX9_ringWays_X9_bestRing : GoodIn wsX9_ringWays (wsV RX9 168 RX9 yX9_bestRing wsX9_bestRing) := goodIn_app (goodIn_of _ (by decide +kernel)) ggX9_ringWays_X9_bestRing
set_option maxRecDepth 20000 in
theorem ggX9_ringWays_X9_finding : GoodIn wsX9_ringWays wsX9_finding := goodIn_r _ [71, 72, 73, 75, 76, 77, 78, 79, 80, 81, 82, 83, 84, 85, 86] (by decide +kernel) (by decide +kernel)
set_option maxRecDepth 20000 in
theorem gX9_ringWays_X9_finding : GoodIn wsX9_ringWays (wsV RX9 79 RX9 yX9_finding wsX9_finding) := goodIn_app (goodIn_of _ (by decide +kernel)) ggX9_ringWays_X9_finding
set_option maxRecDepth 20000 in
theorem ggX9_ringWays_X4_order : GoodIn wsX9_ringWays wsX4_order := goodIn_r _ [63, 54, 55, 64, 65, 66, 67, 87, 88, 89, 90, 91, 92, 93, 94, 95, 96, 97, 98, 99] (by decide +kernel) (by decide +kernel)
set_option maxRecDepth 20000 in
theorem gX9_ringWays_X4_order : GoodIn wsX9_ringWays (wsV RX9 186 RX4 yX4_order wsX4_order) := goodIn_app (goodIn_of _ (by decide +kernel)) ggX9_ringWays_X4_order
set_option maxRecDepth 20000 in
theorem ggX9_lift_X1_isPlace : GoodIn wsX9_lift wsX1_isPlace := goodIn_r _ [10, 11, 12, 13, 14, 123, 124, 125, 126, 127, 128, 129, 130, 131, 132, 133, 134] (by decide +kernel) (by decide +kernel)
set_option maxRecDepth 20000 in
theorem gX9_lift_X1_isPlace : GoodIn wsX9_lift (wsV RX9 99 RX1 yX1_isPlace wsX1_isPlace) := goodIn_app (goodIn_of _ (by decide +kernel)) ggX9_lift_X1_isPlace
set_option maxRecDepth 20000 in
theorem ggX9_lift_X9_longFinding : GoodIn wsX9_lift wsX9_longFinding := goodIn_r _ [18, 19, 20, 98, 99, 100, 101, 102, 103, 104, 105, 106, 107, 108, 109] (by decide +kernel) (by decide +kernel)
set_option maxRecDepth 20000 in
theorem gX9_lift_X9_longFinding : GoodIn wsX9_lift (wsV RX9 164 RX9 yX9_longFinding wsX9_longFinding) := goodIn_app (goodIn_of _ (by decide +kernel)) ggX9_lift_X9_longFinding
set_option maxRecDepth 20000 in
theorem ggX9_lift_X9_bestRing : GoodIn wsX9_lift wsX9_bestRing := goodIn_r _ [24, 2, 1, 25, 26, 27, 28, 29, 30, 31, 32, 33, 34, 35, 36, 37, 38, 39, 40, 41, 42, 43, 9, 44, 45, 46, 47, 48, 13, 49, 50, 51, 52, 53, 54, 55, 56, 57, 58, 59, 60, 61, 62, 63, 64, 65, 66, 67, 68, 69, 70, 71, 72, 73, 74, 75, 76, 77, 78, 79, 80, 81, 98, 99, 100, 101, 102, 103, 104, 105, 106, 107, 108, 109, 110, 111, 112, 113, 114, 115, 116, 117, 118, 119, 120, 121, 122, 123, 124, 125, 126, 127, 128, 129, 130, 131, 132, 133, 134] (by decide +kernel) (by decide +kernel)
set_option maxRecDepth 20000 in
theorem gX9_lift_X9_bestRing : GoodIn wsX9_lift (wsV RX9 168 RX9 yX9_bestRing wsX9_bestRing) := goodIn_app (goodIn_of _ (by decide +kernel)) ggX9_lift_X9_bestRing
set_option maxRecDepth 20000 in
theorem ggX9_lift_X9_lowest : GoodIn wsX9_lift wsX9_lowest := goodIn_r _ [84, 85, 86, 13, 87] (by decide +kernel) (by decide +kernel)
set_option maxRecDepth 20000 in
theorem gX9_lift_X9_lowest : GoodIn wsX9_lift (va_wsS RX9 179 yX9_lowest wsX9_lowest) := goodIn_app (goodIn_of _ (by decide +kernel)) ggX9_lift_X9_lowest
set_option maxRecDepth 20000 in
theorem ggX9_lift_X4_lifts : GoodIn wsX9_lift wsX4_lifts := goodIn_r _ [91, 92, 93, 40, 32, 37, 38, 34, 35, 36, 94, 95, 96, 28, 97, 110, 111, 112, 113, 114, 115, 116, 117, 118, 119, 120, 121, 122, 123, 124, 125, 126, 127, 128, 129, 130, 131, 132, 133, 134] (by decide +kernel) (by decide +kernel)
set_option maxRecDepth 20000 in
theorem gX9_lift_X4_lifts : GoodIn wsX9_lift (wsV RX9 192 RX4 yX4_lifts wsX4_lifts) := goodIn_app (goodIn_of _ (by decide +kernel)) ggX9_lift_X4_lifts
set_option maxRecDepth 20000 in
theorem ggX9_worth_X9_bestRing : GoodIn wsX9_worth wsX9_bestRing := goodIn_r _ [9, 1, 10, 11, 12, 13, 14, 15, 16, 17, 18, 19, 20, 21, 22, 23, 24, 25, 26, 27, 28, 29, 30, 31, 32, 33, 34, 35, 8, 36, 37, 38, 39, 40, 41, 42, 43, 44, 45, 46, 47, 48, 49, 50, 51, 52, 53, 54, 55, 56, 57, 58, 59, 60, 61, 62, 63, 64, 65, 66, 67, 68, 85, 86, 87, 88, 89, 90, 91, 92, 93, 94, 95, 96, 97, 98, 99, 100, 101, 102, 103, 104, 105, 106, 107, 108, 109, 110, 111, 112, 113, 114, 115, 116, 117, 118, 119, 120, 121] (by decide +kernel) (by decide +kernel)
set_option maxRecDepth 20000 in
theorem gX9_worth_X9_bestRing : GoodIn wsX9_worth (wsV RX9 168 RX9 yX9_bestRing wsX9_bestRing) := goodIn_app (goodIn_of _ (by decide +kernel)) ggX9_worth_X9_bestRing
set_option maxRecDepth 20000 in
theorem ggX9_worth_X9_longFinding : GoodIn wsX9_worth wsX9_longFinding := goodIn_r _ [72, 73, 4, 85, 86, 87, 88, 89, 90, 91, 92, 93, 94, 95, 96] (by decide +kernel) (by decide +kernel)
set_option maxRecDepth 20000 in
theorem gX9_worth_X9_longFinding : GoodIn wsX9_worth (wsV RX9 164 RX9 yX9_longFinding wsX9_longFinding) := goodIn_app (goodIn_of _ (by decide +kernel)) ggX9_worth_X9_longFinding
set_option maxRecDepth 20000 in
theorem ggX9_worth_X9_lowest : GoodIn wsX9_worth wsX9_lowest := goodIn_r _ [76, 77, 78, 8, 79] (by decide +kernel) (by decide +kernel)
set_option maxRecDepth 20000 in
theorem gX9_worth_X9_lowest : GoodIn wsX9_worth (va_wsS RX9 179 yX9_lowest wsX9_lowest) := goodIn_app (goodIn_of _ (by decide +kernel)) ggX9_worth_X9_lowest
set_option maxRecDepth 20000 in
theorem ggX9_worth_X9_productFits : GoodIn wsX9_worth wsX9_productFits := goodIn_r _ [82, 83, 84] (by decide +kernel) (by decide +kernel)
set_option maxRecDepth 20000 in
theorem gX9_worth_X9_productFits : GoodIn wsX9_worth (va_wsS RX9 199 yX9_productFits wsX9_productFits) := goodIn_app (goodIn_of _ (by decide +kernel)) ggX9_worth_X9_productFits
set_option maxRecDepth 20000 in
theorem ggX9_raise_X1_isWay : GoodIn wsX9_raise wsX1_isWay := goodIn_r _ [22, 23, 24, 25, 26, 123, 124, 125, 126, 127, 128, 129, 130, 131, 132, 133, 134] (by decide +kernel) (by decide +kernel)
set_option maxRecDepth 20000 in
theorem gX9_raise_X1_isWay : GoodIn wsX9_raise (wsV RX9 116 RX1 yX1_isWay wsX1_isWay) := goodIn_app (goodIn_of _ (by decide +kernel)) ggX9_raise_X1_isWay
set_option maxRecDepth 20000 in
theorem ggX9_raise_X9_finding : GoodIn wsX9_raise wsX9_finding := goodIn_r _ [30, 31, 32, 98, 99, 100, 101, 102, 103, 104, 105, 106, 107, 108, 109] (by decide +kernel) (by decide +kernel)
set_option maxRecDepth 20000 in
theorem gX9_raise_X9_finding : GoodIn wsX9_raise (wsV RX9 79 RX9 yX9_finding wsX9_finding) := goodIn_app (goodIn_of _ (by decide +kernel)) ggX9_raise_X9_finding
set_option maxRecDepth 20000 in
theorem ggX9_raise_X4_gather : GoodIn wsX9_raise wsX4_gather := goodIn_r _ [37, 38, 39, 40, 41, 42, 43, 44, 45, 46, 47, 48, 49, 50, 51, 21, 52, 53, 54, 55, 56, 25, 57, 58, 59, 60, 61, 62, 63, 64, 65, 66, 67, 68, 69, 36, 70, 71, 72, 73, 74, 75, 76, 77, 110, 111, 112, 113, 114, 115, 116, 117, 118, 119, 120, 121, 122, 123, 124, 125, 126, 127, 128, 129, 130, 131, 132, 133, 134] (by decide +kernel) (by decide +kernel)
set_option maxRecDepth 20000 in
theorem gX9_raise_X4_gather : GoodIn wsX9_raise (wsV RX9 205 RX4 yX4_gather wsX4_gather) := goodIn_app (goodIn_of _ (by decide +kernel)) ggX9_raise_X4_gather
set_option maxRecDepth 20000 in
theorem ggX9_raise_X4_best : GoodIn wsX9_raise wsX4_best := goodIn_r _ [81, 38, 75, 82, 83, 84, 36, 85, 76, 77, 86, 87, 88, 89, 110, 111, 112, 113, 114, 115, 116, 117, 118, 119, 120, 121, 122] (by decide +kernel) (by decide +kernel)
set_option maxRecDepth 20000 in
theorem gX9_raise_X4_best : GoodIn wsX9_raise (wsV RX9 209 RX4 yX4_best wsX4_best) := goodIn_app (goodIn_of _ (by decide +kernel)) ggX9_raise_X4_best
set_option maxRecDepth 20000 in
theorem ggX9_raise_X4_missingTo : GoodIn wsX9_raise wsX4_missingTo := goodIn_r _ [93, 77, 76, 94, 95, 96, 97, 110, 111, 112, 113, 114, 115, 116, 117, 118, 119, 120, 121, 122] (by decide +kernel) (by decide +kernel)
set_option maxRecDepth 20000 in
theorem gX9_raise_X4_missingTo : GoodIn wsX9_raise (wsV RX9 216 RX4 yX4_missingTo wsX4_missingTo) := goodIn_app (goodIn_of _ (by decide +kernel)) ggX9_raise_X4_missingTo
set_option maxRecDepth 20000 in
theorem ggX9_lose_X9_bestRing : GoodIn wsX9_lose wsX9_bestRing := goodIn_r _ [9, 4, 1, 10, 11, 12, 13, 14, 15, 16, 17, 18, 19, 20, 21, 22, 23, 24, 25, 26, 27, 28, 29, 30, 31, 32, 33, 34, 8, 35, 36, 37, 38, 39, 40, 41, 42, 43, 44, 45, 46, 47, 48, 49, 50, 51, 52, 53, 54, 55, 56, 57, 58, 59, 60, 61, 62, 63, 64, 65, 66, 67, 75, 76, 77, 78, 79, 80, 81, 82, 83, 84, 85, 86, 99, 100, 101, 102, 103, 104, 105, 106, 107, 108, 109, 110, 111, 87, 88, 89, 90, 91, 92, 93, 94, 95, 96, 97, 98] (by decide +kernel) (by decide +kernel)
set_option maxRecDepth 20000 in
theorem gX9_lose_X9_bestRing : GoodIn wsX9_lose (wsV RX9 168 RX9 yX9_bestRing wsX9_bestRing) := goodIn_app (goodIn_of _ (by decide +kernel)) ggX9_lose_X9_bestRing
set_option maxRecDepth 20000 in
theorem ggX9_lose_X9_finding : GoodIn wsX9_lose wsX9_finding := goodIn_r _ [71, 72, 73, 75, 76, 77, 78, 79, 80, 81, 82, 83, 84, 85, 86] (by decide +kernel) (by decide +kernel)
set_option maxRecDepth 20000 in
theorem gX9_lose_X9_finding : GoodIn wsX9_lose (wsV RX9 79 RX9 yX9_finding wsX9_finding) := goodIn_app (goodIn_of _ (by decide +kernel)) ggX9_lose_X9_finding
set_option maxRecDepth 20000 in
theorem ggX9_lose_X4_best : GoodIn wsX9_lose wsX4_best := goodIn_r _ [59, 15, 53, 60, 61, 62, 13, 63, 54, 55, 64, 65, 66, 67, 99, 100, 101, 102, 103, 104, 105, 106, 107, 108, 109, 110, 111] (by decide +kernel) (by decide +kernel)
set_option maxRecDepth 20000 in
theorem gX9_lose_X4_best : GoodIn wsX9_lose (wsV RX9 209 RX4 yX4_best wsX4_best) := goodIn_app (goodIn_of _ (by decide +kernel)) ggX9_lose_X4_best
set_option maxRecDepth 20000 in
theorem ggX9_lose_X4_order : GoodIn wsX9_lose wsX4_order := goodIn_r _ [63, 54, 55, 64, 65, 66, 67, 99, 100, 101, 102, 103, 104, 105, 106, 107, 108, 109, 110, 111] (by decide +kernel) (by decide +kernel)
set_option maxRecDepth 20000 in
theorem gX9_lose_X4_order : GoodIn wsX9_lose (wsV RX9 186 RX4 yX4_order wsX4_order) := goodIn_app (goodIn_of _ (by decide +kernel)) ggX9_lose_X4_order
set_option maxRecDepth 20000 in
theorem ggX9_kind_X1_isWay : GoodIn wsX9_kind wsX1_isWay := goodIn_r _ [9, 10, 11, 12, 13, 120, 121, 122, 123, 124, 125, 126, 127, 128, 129, 130, 131] (by decide +kernel) (by decide +kernel)
set_option maxRecDepth 20000 in
theorem gX9_kind_X1_isWay : GoodIn wsX9_kind (wsV RX9 116 RX1 yX1_isWay wsX1_isWay) := goodIn_app (goodIn_of _ (by decide +kernel)) ggX9_kind_X1_isWay
set_option maxRecDepth 20000 in
theorem ggX9_kind_X9_finding : GoodIn wsX9_kind wsX9_finding := goodIn_r _ [17, 18, 19, 108, 109, 110, 111, 112, 113, 114, 115, 116, 117, 118, 119] (by decide +kernel) (by decide +kernel)
set_option maxRecDepth 20000 in
theorem gX9_kind_X9_finding : GoodIn wsX9_kind (wsV RX9 79 RX9 yX9_finding wsX9_finding) := goodIn_app (goodIn_of _ (by decide +kernel)) ggX9_kind_X9_finding
set_option maxRecDepth 20000 in
theorem ggX9_kind_X9_bestRing : GoodIn wsX9_kind wsX9_bestRing := goodIn_r _ [23, 3, 1, 24, 25, 26, 27, 28, 29, 30, 31, 32, 33, 34, 35, 36, 37, 38, 39, 40, 41, 42, 8, 43, 44, 45, 46, 47, 12, 48, 49, 50, 51, 52, 53, 54, 55, 56, 57, 58, 59, 60, 61, 62, 63, 64, 65, 66, 67, 68, 69, 70, 71, 72, 73, 74, 75, 76, 77, 78, 79, 80, 108, 109, 110, 111, 112, 113, 114, 115, 116, 117, 118, 119, 132, 133, 134, 135, 136, 137, 138, 139, 140, 141, 142, 143, 144, 120, 121, 122, 123, 124, 125, 126, 127, 128, 129, 130, 131] (by decide +kernel) (by decide +kernel)
set_option maxRecDepth 20000 in
theorem gX9_kind_X9_bestRing : GoodIn wsX9_kind (wsV RX9 168 RX9 yX9_bestRing wsX9_bestRing) := goodIn_app (goodIn_of _ (by decide +kernel)) ggX9_kind_X9_bestRing
set_option maxRecDepth 20000 in
theorem ggX9_kind_X1_become : GoodIn wsX9_kind wsX1_become := goodIn_r _ [84, 85, 46, 10, 86, 44, 87, 88, 89, 90, 91, 92, 45, 54, 93, 94, 95, 120, 121, 122, 123, 124, 125, 126, 127, 128, 129, 130, 131] (by decide +kernel) (by decide +kernel)
set_option maxRecDepth 20000 in
theorem gX9_kind_X1_become : GoodIn wsX9_kind (wsV RX9 231 RX1 yX1_become wsX1_become) := goodIn_app (goodIn_of _ (by decide +kernel)) ggX9_kind_X1_become
set_option maxRecDepth 20000 in
theorem ggX9_kind_X4_forget : GoodIn wsX9_kind wsX4_forget := goodIn_r _ [99, 100, 132, 133, 134, 135, 136, 137, 138, 139, 140, 141, 142, 143, 144] (by decide +kernel) (by decide +kernel)
set_option maxRecDepth 20000 in
theorem gX9_kind_X4_forget : GoodIn wsX9_kind (wsV RX9 235 RX4 yX4_forget wsX4_forget) := goodIn_app (goodIn_of _ (by decide +kernel)) ggX9_kind_X4_forget
set_option maxRecDepth 20000 in
theorem ggX9_kind_X4_rises : GoodIn wsX9_kind wsX4_rises := goodIn_r _ [104, 100, 67, 105, 68, 106, 25, 26, 27, 28, 29, 30, 31, 32, 33, 34, 35, 36, 37, 38, 39, 40, 41, 42, 8, 43, 44, 45, 46, 47, 12, 48, 49, 50, 51, 52, 53, 54, 55, 56, 57, 58, 59, 60, 61, 62, 63, 64, 65, 66, 107, 70, 71, 72, 73, 74, 75, 76, 77, 78, 79, 80, 132, 133, 134, 135, 136, 137, 138, 139, 140, 141, 142, 143, 144, 120, 121, 122, 123, 124, 125, 126, 127, 128, 129, 130, 131] (by decide +kernel) (by decide +kernel)
set_option maxRecDepth 20000 in
theorem gX9_kind_X4_rises : GoodIn wsX9_kind (wsV RX9 238 RX4 yX4_rises wsX4_rises) := goodIn_app (goodIn_of _ (by decide +kernel)) ggX9_kind_X4_rises
set_option maxRecDepth 20000 in
theorem ggX9_season_X9_bestRing : GoodIn wsX9_season wsX9_bestRing := goodIn_r _ [9, 3, 2, 10, 11, 12, 13, 14, 15, 16, 17, 18, 19, 20, 21, 22, 23, 24, 25, 26, 27, 28, 29, 30, 31, 32, 33, 34, 8, 35, 36, 37, 38, 39, 40, 41, 42, 43, 44, 45, 46, 47, 48, 49, 50, 51, 52, 53, 54, 55, 56, 57, 58, 59, 60, 61, 62, 63, 64, 65, 66, 67, 102, 103, 104, 105, 106, 107, 108, 109, 110, 111, 112, 113, 126, 127, 128, 129, 130, 131, 132, 133, 134, 135, 136, 137, 138, 114, 115, 116, 117, 118, 119, 120, 121, 122, 123, 124, 125] (by decide +kernel) (by decide +kernel)
set_option maxRecDepth 20000 in
theorem gX9_season_X9_bestRing : GoodIn wsX9_season (wsV RX9 168 RX9 yX9_bestRing wsX9_bestRing) := goodIn_app (goodIn_of _ (by decide +kernel)) ggX9_season_X9_bestRing
set_option maxRecDepth 20000 in
theorem ggX9_season_X9_finding : GoodIn wsX9_season wsX9_finding := goodIn_r _ [71, 72, 73, 102, 103, 104, 105, 106, 107, 108, 109, 110, 111, 112, 113] (by decide +kernel) (by decide +kernel)
set_option maxRecDepth 20000 in
theorem gX9_season_X9_finding : GoodIn wsX9_season (wsV RX9 79 RX9 yX9_finding wsX9_finding) := goodIn_app (goodIn_of _ (by decide +kernel)) ggX9_season_X9_finding
set_option maxRecDepth 20000 in
theorem ggX9_season_X1_become : GoodIn wsX9_season wsX1_become := goodIn_r _ [77, 78, 33, 79, 80, 31, 81, 82, 83, 84, 85, 86, 32, 41, 87, 88, 89, 114, 115, 116, 117, 118, 119, 120, 121, 122, 123, 124, 125] (by decide +kernel) (by decide +kernel)
set_option maxRecDepth 20000 in
theorem gX9_season_X1_become : GoodIn wsX9_season (wsV RX9 231 RX1 yX1_become wsX1_become) := goodIn_app (goodIn_of _ (by decide +kernel)) ggX9_season_X1_become
set_option maxRecDepth 20000 in
theorem ggX9_season_X4_forget : GoodIn wsX9_season wsX4_forget := goodIn_r _ [93, 94, 126, 127, 128, 129, 130, 131, 132, 133, 134, 135, 136, 137, 138] (by decide +kernel) (by decide +kernel)
set_option maxRecDepth 20000 in
theorem gX9_season_X4_forget : GoodIn wsX9_season (wsV RX9 235 RX4 yX4_forget wsX4_forget) := goodIn_app (goodIn_of _ (by decide +kernel)) ggX9_season_X4_forget
set_option maxRecDepth 20000 in
theorem ggX9_season_X4_rises : GoodIn wsX9_season wsX4_rises := goodIn_r _ [98, 94, 54, 99, 55, 100, 11, 12, 13, 14, 15, 16, 17, 18, 19, 20, 21, 22, 23, 24, 25, 26, 27, 28, 29, 30, 31, 32, 33, 34, 8, 35, 36, 37, 38, 39, 40, 41, 42, 43, 44, 45, 46, 47, 48, 49, 50, 51, 52, 53, 101, 57, 58, 59, 60, 61, 62, 63, 64, 65, 66, 67, 126, 127, 128, 129, 130, 131, 132, 133, 134, 135, 136, 137, 138, 114, 115, 116, 117, 118, 119, 120, 121, 122, 123, 124, 125] (by decide +kernel) (by decide +kernel)
set_option maxRecDepth 20000 in
theorem gX9_season_X4_rises : GoodIn wsX9_season (wsV RX9 238 RX4 yX4_rises wsX4_rises) := goodIn_app (goodIn_of _ (by decide +kernel)) ggX9_season_X4_rises
set_option maxRecDepth 20000 in
theorem ggX9_bestRing_X4_gather : GoodIn wsX9_bestRing wsX4_gather := goodIn_r _ [7, 8, 9, 10, 11, 12, 13, 14, 15, 16, 17, 18, 19, 20, 21, 22, 23, 24, 25, 26, 27, 28, 29, 30, 31, 32, 33, 34, 35, 36, 37, 38, 39, 40, 41, 6, 42, 43, 44, 45, 46, 47, 48, 49, 74, 75, 76, 77, 78, 79, 80, 81, 82, 83, 84, 85, 86, 87, 88, 89, 90, 91, 92, 93, 94, 95, 96, 97, 98] (by decide +kernel) (by decide +kernel)
set_option maxRecDepth 20000 in
theorem gX9_bestRing_X4_gather : GoodIn wsX9_bestRing (wsV RX9 205 RX4 yX4_gather wsX4_gather) := goodIn_app (goodIn_of _ (by decide +kernel)) ggX9_bestRing_X4_gather
set_option maxRecDepth 20000 in
theorem ggX9_bestRing_X4_best : GoodIn wsX9_bestRing wsX4_best := goodIn_r _ [53, 8, 47, 54, 55, 56, 6, 57, 48, 49, 58, 59, 60, 61, 74, 75, 76, 77, 78, 79, 80, 81, 82, 83, 84, 85, 86] (by decide +kernel) (by decide +kernel)
set_option maxRecDepth 20000 in
theorem gX9_bestRing_X4_best : GoodIn wsX9_bestRing (wsV RX9 209 RX4 yX4_best wsX4_best) := goodIn_app (goodIn_of _ (by decide +kernel)) ggX9_bestRing_X4_best
set_option maxRecDepth 20000 in
theorem ggX9_tree_X9_within : GoodIn wsX9_tree wsX9_within := goodIn_r _ [6] (by decide +kernel) (by decide +kernel)
set_option maxRecDepth 20000 in
theorem gX9_tree_X9_within : GoodIn wsX9_tree (va_wsS RX9 75 yX9_within wsX9_within) := goodIn_app (goodIn_of _ (by decide +kernel)) ggX9_tree_X9_within
set_option maxRecDepth 20000 in
theorem ggX9_tree_X9_longFinding : GoodIn wsX9_tree wsX9_longFinding := goodIn_r _ [10, 11, 12, 149, 150, 151, 152, 153, 154, 155, 156, 157, 158, 159, 160] (by decide +kernel) (by decide +kernel)
set_option maxRecDepth 20000 in
theorem gX9_tree_X9_longFinding : GoodIn wsX9_tree (wsV RX9 164 RX9 yX9_longFinding wsX9_longFinding) := goodIn_app (goodIn_of _ (by decide +kernel)) ggX9_tree_X9_longFinding
set_option maxRecDepth 20000 in
theorem ggX9_tree_X7_climbs : GoodIn wsX9_tree wsX7_climbs := goodIn_r _ [17, 18, 19, 20, 21, 22, 23, 24, 25, 26, 27, 28, 29, 30, 31, 32, 33, 34, 35, 36, 37, 5, 38, 39, 40, 41, 42, 43, 44, 45, 46, 47, 48, 49, 50, 51, 52, 53, 54, 55, 56, 57, 58, 59, 60, 61, 62, 63, 64, 65, 66, 67, 68, 69, 70, 71, 72, 73, 74, 75, 76, 77, 78, 79, 16, 80, 81, 82, 83, 84, 85, 86, 87, 88, 89, 90, 91, 92, 93, 94, 95, 96, 97, 98, 99, 100, 101, 102, 103, 104, 105, 106, 107, 108, 109, 110, 111, 112, 113, 114, 115, 116, 117, 118, 119, 120, 121, 122, 123, 124, 125, 126, 127, 128, 129, 130, 131, 132, 133, 134, 161, 162, 163, 164, 165, 166, 167, 168, 169, 170, 171, 172, 173, 174, 175, 176, 177, 178, 179, 180, 181, 182, 183, 184, 185, 186, 187, 188, 189, 190, 191, 192, 193, 194, 195, 196, 197, 198, 199, 200, 201, 202, 203, 204, 205, 206, 207, 208, 209, 210, 211] (by decide +kernel) (by decide +kernel)
set_option maxRecDepth 20000 in
theorem gX9_tree_X7_climbs : GoodIn wsX9_tree (wsV RX9 242 RX7 yX7_climbs wsX7_climbs) := goodIn_app (goodIn_of _ (by decide +kernel)) ggX9_tree_X7_climbs
set_option maxRecDepth 20000 in
theorem ggX9_tree_X9_told : GoodIn wsX9_tree wsX9_told := goodIn_r _ [138, 139, 140, 141, 142, 7, 8, 9, 5, 10, 11, 12, 143, 144, 145, 146, 147, 148, 185, 186, 187, 188, 189, 190, 191, 192, 193, 194, 195, 161, 162, 163, 164, 165, 166, 167, 168, 169, 170, 171, 172, 196, 197, 198, 199, 200, 201, 202, 203, 204, 205, 206, 207, 208, 209, 210, 149, 150, 151, 152, 153, 154, 155, 156, 157, 158, 159, 160] (by decide +kernel) (by decide +kernel)
set_option maxRecDepth 20000 in
theorem gX9_tree_X9_told : GoodIn wsX9_tree (wsV RX9 245 RX9 yX9_told wsX9_told) := goodIn_app (goodIn_of _ (by decide +kernel)) ggX9_tree_X9_told
set_option maxRecDepth 20000 in
theorem ggX9_walk_X1_isPlace : GoodIn wsX9_walk wsX1_isPlace := goodIn_r _ [7, 8, 9, 10, 11, 166, 167, 168, 169, 170, 171, 172, 173, 174, 175, 176, 177] (by decide +kernel) (by decide +kernel)
set_option maxRecDepth 20000 in
theorem gX9_walk_X1_isPlace : GoodIn wsX9_walk (wsV RX9 99 RX1 yX1_isPlace wsX1_isPlace) := goodIn_app (goodIn_of _ (by decide +kernel)) ggX9_walk_X1_isPlace
set_option maxRecDepth 20000 in
theorem ggX9_walk_X9_within : GoodIn wsX9_walk wsX9_within := goodIn_r _ [11] (by decide +kernel) (by decide +kernel)
set_option maxRecDepth 20000 in
theorem gX9_walk_X9_within : GoodIn wsX9_walk (va_wsS RX9 75 yX9_within wsX9_within) := goodIn_app (goodIn_of _ (by decide +kernel)) ggX9_walk_X9_within
set_option maxRecDepth 20000 in
theorem ggX9_walk_X9_longFinding : GoodIn wsX9_walk wsX9_longFinding := goodIn_r _ [16, 17, 18, 154, 155, 156, 157, 158, 159, 160, 161, 162, 163, 164, 165] (by decide +kernel) (by decide +kernel)
set_option maxRecDepth 20000 in
theorem gX9_walk_X9_longFinding : GoodIn wsX9_walk (wsV RX9 164 RX9 yX9_longFinding wsX9_longFinding) := goodIn_app (goodIn_of _ (by decide +kernel)) ggX9_walk_X9_longFinding
set_option maxRecDepth 20000 in
theorem ggX9_walk_X8_climbs : GoodIn wsX9_walk wsX8_climbs := goodIn_r _ [23, 24, 25, 26, 27, 28, 29, 30, 31, 32, 33, 34, 35, 36, 37, 38, 39, 6, 40, 41, 42, 43, 44, 10, 45, 46, 47, 48, 49, 50, 51, 52, 53, 54, 55, 56, 57, 58, 59, 60, 61, 62, 63, 64, 65, 66, 67, 68, 69, 70, 71, 72, 73, 74, 75, 76, 77, 78, 79, 80, 81, 82, 83, 84, 85, 86, 87, 88, 89, 90, 91, 92, 93, 94, 95, 96, 97, 98, 99, 100, 101, 102, 103, 104, 105, 106, 107, 108, 109, 110, 111, 112, 113, 114, 115, 116, 117, 118, 22, 119, 120, 121, 122, 123, 124, 125, 126, 127, 128, 129, 130, 131, 132, 133, 134, 135, 136, 137, 138, 139, 178, 179, 180, 181, 182, 183, 184, 185, 186, 187, 188, 189, 190, 191, 192, 166, 167, 168, 169, 170, 171, 172, 173, 174, 175, 176, 177, 193, 194, 195, 196, 197, 198, 199, 200, 201, 202, 203, 204, 205, 206, 207, 208, 209, 210, 211, 212, 213, 214, 215, 216] (by decide +kernel) (by decide +kernel)
set_option maxRecDepth 20000 in
theorem gX9_walk_X8_climbs : GoodIn wsX9_walk (wsV RX9 249 RX8 yX8_climbs wsX8_climbs) := goodIn_app (goodIn_of _ (by decide +kernel)) ggX9_walk_X8_climbs
set_option maxRecDepth 20000 in
theorem ggX9_walk_X9_told : GoodIn wsX9_walk wsX9_told := goodIn_r _ [143, 144, 145, 146, 147, 13, 14, 15, 10, 16, 17, 18, 148, 149, 150, 151, 152, 153, 193, 194, 195, 196, 197, 198, 199, 200, 201, 202, 203, 204, 205, 206, 207, 208, 209, 210, 211, 212, 213, 214, 215, 178, 179, 180, 181, 182, 183, 184, 185, 186, 187, 188, 189, 190, 191, 192, 154, 155, 156, 157, 158, 159, 160, 161, 162, 163, 164, 165] (by decide +kernel) (by decide +kernel)
set_option maxRecDepth 20000 in
theorem gX9_walk_X9_told : GoodIn wsX9_walk (wsV RX9 245 RX9 yX9_told wsX9_told) := goodIn_app (goodIn_of _ (by decide +kernel)) ggX9_walk_X9_told
set_option maxRecDepth 20000 in
theorem ggX9_load_X9_within : GoodIn wsX9_load wsX9_within := goodIn_r _ [7] (by decide +kernel) (by decide +kernel)
set_option maxRecDepth 20000 in
theorem gX9_load_X9_within : GoodIn wsX9_load (va_wsS RX9 75 yX9_within wsX9_within) := goodIn_app (goodIn_of _ (by decide +kernel)) ggX9_load_X9_within
set_option maxRecDepth 20000 in
theorem ggX9_load_X9_longFinding : GoodIn wsX9_load wsX9_longFinding := goodIn_r _ [11, 12, 13, 136, 137, 138, 139, 140, 141, 142, 143, 144, 145, 146, 147] (by decide +kernel) (by decide +kernel)
set_option maxRecDepth 20000 in
theorem gX9_load_X9_longFinding : GoodIn wsX9_load (wsV RX9 164 RX9 yX9_longFinding wsX9_longFinding) := goodIn_app (goodIn_of _ (by decide +kernel)) ggX9_load_X9_longFinding
set_option maxRecDepth 20000 in
theorem ggX9_load_X3_climbs : GoodIn wsX9_load wsX3_climbs := goodIn_r _ [18, 19, 20, 21, 22, 23, 24, 25, 26, 27, 28, 29, 30, 31, 32, 33, 34, 35, 36, 37, 38, 39, 40, 41, 42, 43, 44, 45, 46, 47, 48, 49, 50, 51, 52, 53, 54, 55, 56, 57, 58, 59, 17, 60, 61, 62, 63, 64, 65, 66, 67, 68, 69, 70, 71, 72, 73, 74, 75, 76, 77, 78, 79, 80, 81, 82, 83, 84, 85, 86, 87, 88, 89, 90, 91, 92, 93, 94, 95, 96, 97, 98, 99, 100, 101, 102, 103, 104, 105, 106, 107, 108, 109, 110, 111, 112, 113, 114, 115, 116, 117, 118, 119, 120, 121, 160, 161, 162, 163, 164, 165, 166, 167, 168, 169, 170, 148, 149, 150, 151, 152, 153, 154, 155, 156, 157, 158, 159, 171, 172, 173, 174, 175, 176, 177, 178, 179, 180, 181, 182, 183, 184, 185, 186, 187, 188, 189, 190, 191, 192, 193, 194, 195, 196, 197, 198] (by decide +kernel) (by decide +kernel)
set_option maxRecDepth 20000 in
theorem gX9_load_X3_climbs : GoodIn wsX9_load (wsV RX9 252 RX3 yX3_climbs wsX3_climbs) := goodIn_app (goodIn_of _ (by decide +kernel)) ggX9_load_X3_climbs
set_option maxRecDepth 20000 in
theorem ggX9_load_X9_told : GoodIn wsX9_load wsX9_told := goodIn_r _ [125, 126, 127, 128, 129, 8, 9, 10, 6, 11, 12, 13, 130, 131, 132, 133, 134, 135, 160, 161, 162, 163, 164, 165, 166, 167, 168, 169, 170, 171, 172, 173, 174, 175, 176, 177, 178, 179, 180, 181, 182, 183, 184, 185, 186, 187, 188, 189, 190, 191, 192, 193, 194, 195, 196, 197, 136, 137, 138, 139, 140, 141, 142, 143, 144, 145, 146, 147] (by decide +kernel) (by decide +kernel)
set_option maxRecDepth 20000 in
theorem gX9_load_X9_told : GoodIn wsX9_load (wsV RX9 245 RX9 yX9_told wsX9_told) := goodIn_app (goodIn_of _ (by decide +kernel)) ggX9_load_X9_told
set_option maxRecDepth 20000 in
theorem ggX9_told_X9_longFinding : GoodIn wsX9_told wsX9_longFinding := goodIn_r _ [9, 10, 11, 56, 57, 58, 59, 60, 61, 62, 63, 64, 65, 66, 67] (by decide +kernel) (by decide +kernel)
set_option maxRecDepth 20000 in
theorem gX9_told_X9_longFinding : GoodIn wsX9_told (wsV RX9 164 RX9 yX9_longFinding wsX9_longFinding) := goodIn_app (goodIn_of _ (by decide +kernel)) ggX9_told_X9_longFinding
set_option maxRecDepth 20000 in
theorem ggX9_told_X9_lowest : GoodIn wsX9_told wsX9_lowest := goodIn_r _ [14, 15, 16, 8, 17] (by decide +kernel) (by decide +kernel)
set_option maxRecDepth 20000 in
theorem gX9_told_X9_lowest : GoodIn wsX9_told (va_wsS RX9 179 yX9_lowest wsX9_lowest) := goodIn_app (goodIn_of _ (by decide +kernel)) ggX9_told_X9_lowest
set_option maxRecDepth 20000 in
theorem ggX9_ratio_X9_within : GoodIn wsX9_ratio wsX9_within := goodIn_r _ [5] (by decide +kernel) (by decide +kernel)
set_option maxRecDepth 20000 in
theorem gX9_ratio_X9_within : GoodIn wsX9_ratio (va_wsS RX9 75 yX9_within wsX9_within) := goodIn_app (goodIn_of _ (by decide +kernel)) ggX9_ratio_X9_within
set_option maxRecDepth 20000 in
theorem ggX9_ratio_X9_longFinding : GoodIn wsX9_ratio wsX9_longFinding := goodIn_r _ [9, 10, 11, 112, 113, 114, 115, 116, 117, 118, 119, 120, 121, 122, 123] (by decide +kernel) (by decide +kernel)
set_option maxRecDepth 20000 in
theorem gX9_ratio_X9_longFinding : GoodIn wsX9_ratio (wsV RX9 164 RX9 yX9_longFinding wsX9_longFinding) := goodIn_app (goodIn_of _ (by decide +kernel)) ggX9_ratio_X9_longFinding
set_option maxRecDepth 20000 in
theorem ggX9_ratio_X9_isChoice : GoodIn wsX9_ratio wsX9_isChoice := goodIn_r _ [15, 1, 16, 17, 18, 19, 20, 21, 22, 23, 24, 25, 26, 27, 28, 29, 30, 31, 32, 33, 34, 35, 36, 37, 38, 39, 40, 41, 42, 43, 44, 45, 46, 47, 48, 49, 50, 51, 52, 53, 54, 55, 56, 57, 58, 59, 60, 61, 62, 63, 64, 112, 113, 114, 115, 116, 117, 118, 119, 120, 121, 122, 123, 124, 125, 126, 127, 128, 129, 130, 131, 132, 133, 134, 135, 136] (by decide +kernel) (by decide +kernel)
set_option maxRecDepth 20000 in
theorem gX9_ratio_X9_isChoice : GoodIn wsX9_ratio (wsV RX9 267 RX9 yX9_isChoice wsX9_isChoice) := goodIn_app (goodIn_of _ (by decide +kernel)) ggX9_ratio_X9_isChoice
set_option maxRecDepth 20000 in
theorem ggX9_ratio_X1_gainTogether : GoodIn wsX9_ratio wsX1_gainTogether := goodIn_r _ [68, 69, 70, 71, 72, 21, 73, 74, 124, 125, 126, 127, 128, 129, 130, 131, 132, 133, 134, 135] (by decide +kernel) (by decide +kernel)
set_option maxRecDepth 20000 in
theorem gX9_ratio_X1_gainTogether : GoodIn wsX9_ratio (wsV RX9 270 RX1 yX1_gainTogether wsX1_gainTogether) := goodIn_app (goodIn_of _ (by decide +kernel)) ggX9_ratio_X1_gainTogether
set_option maxRecDepth 20000 in
theorem ggX9_ratio_X1_timeTogether : GoodIn wsX9_ratio wsX1_timeTogether := goodIn_r _ [78, 79, 70, 71, 72, 21, 73, 74, 124, 125, 126, 127, 128, 129, 130, 131, 132, 133, 134, 135] (by decide +kernel) (by decide +kernel)
set_option maxRecDepth 20000 in
theorem gX9_ratio_X1_timeTogether : GoodIn wsX9_ratio (wsV RX9 273 RX1 yX1_timeTogether wsX1_timeTogether) := goodIn_app (goodIn_of _ (by decide +kernel)) ggX9_ratio_X1_timeTogether
set_option maxRecDepth 20000 in
theorem ggX9_ratio_X9_lowest : GoodIn wsX9_ratio wsX9_lowest := goodIn_r _ [82, 83, 84, 4, 85] (by decide +kernel) (by decide +kernel)
set_option maxRecDepth 20000 in
theorem gX9_ratio_X9_lowest : GoodIn wsX9_ratio (va_wsS RX9 179 yX9_lowest wsX9_lowest) := goodIn_app (goodIn_of _ (by decide +kernel)) ggX9_ratio_X9_lowest
set_option maxRecDepth 20000 in
theorem ggX9_ratio_X1_bringTogether : GoodIn wsX9_ratio wsX1_bringTogether := goodIn_r _ [89, 23, 90, 91, 92, 21, 93, 94, 95, 96, 97, 4, 98, 99, 124, 125, 126, 127, 128, 129, 130, 131, 132, 133, 134, 135] (by decide +kernel) (by decide +kernel)
set_option maxRecDepth 20000 in
theorem gX9_ratio_X1_bringTogether : GoodIn wsX9_ratio (wsV RX9 276 RX1 yX1_bringTogether wsX1_bringTogether) := goodIn_app (goodIn_of _ (by decide +kernel)) ggX9_ratio_X1_bringTogether
set_option maxRecDepth 20000 in
theorem ggX9_ratio_X1_lastTogether : GoodIn wsX9_ratio wsX1_lastTogether := goodIn_r _ [103, 23, 104, 105, 106, 21, 107, 94, 108, 96, 109, 4, 110, 111, 124, 125, 126, 127, 128, 129, 130, 131, 132, 133, 134, 135] (by decide +kernel) (by decide +kernel)
set_option maxRecDepth 20000 in
theorem gX9_ratio_X1_lastTogether : GoodIn wsX9_ratio (wsV RX9 279 RX1 yX1_lastTogether wsX1_lastTogether) := goodIn_app (goodIn_of _ (by decide +kernel)) ggX9_ratio_X1_lastTogether
set_option maxRecDepth 20000 in
theorem ggX9_isChoice_X1_isOpenSet : GoodIn wsX9_isChoice wsX1_isOpenSet := goodIn_r _ [8, 9, 10, 63, 64, 65, 66, 67, 68, 69, 70, 71, 72, 73, 74] (by decide +kernel) (by decide +kernel)
set_option maxRecDepth 20000 in
theorem gX9_isChoice_X1_isOpenSet : GoodIn wsX9_isChoice (wsV RX9 282 RX1 yX1_isOpenSet wsX1_isOpenSet) := goodIn_app (goodIn_of _ (by decide +kernel)) ggX9_isChoice_X1_isOpenSet
set_option maxRecDepth 20000 in
theorem ggX9_isChoice_X1_isRing : GoodIn wsX9_isChoice wsX1_isRing := goodIn_r _ [14, 15, 16, 17, 18, 19, 7, 20, 9, 21, 22, 23, 24, 25, 26, 27, 63, 64, 65, 66, 67, 68, 69, 70, 71, 72, 73, 74] (by decide +kernel) (by decide +kernel)
set_option maxRecDepth 20000 in
theorem gX9_isChoice_X1_isRing : GoodIn wsX9_isChoice (wsV RX9 285 RX1 yX1_isRing wsX1_isRing) := goodIn_app (goodIn_of _ (by decide +kernel)) ggX9_isChoice_X1_isRing
set_option maxRecDepth 20000 in
theorem ggX9_isChoice_X2_isTree : GoodIn wsX9_isChoice wsX2_isTree := goodIn_r _ [32, 33, 34, 35, 36, 37, 22, 23, 24, 25, 26, 27, 38, 39, 40, 31, 41, 42, 43, 44, 45, 46, 47, 48, 49, 50, 63, 64, 65, 66, 67, 68, 69, 70, 71, 72, 73, 74, 75] (by decide +kernel) (by decide +kernel)
set_option maxRecDepth 20000 in
theorem gX9_isChoice_X2_isTree : GoodIn wsX9_isChoice (wsV RX9 288 RX2 yX2_isTree wsX2_isTree) := goodIn_app (goodIn_of _ (by decide +kernel)) ggX9_isChoice_X2_isTree
set_option maxRecDepth 20000 in
theorem ggX9_compare_X9_fractionFault : GoodIn wsX9_compare wsX9_fractionFault := goodIn_r _ [7, 1, 2, 8, 9, 10, 6, 11, 12, 13, 14, 15, 16, 17, 18, 19, 20, 21, 37, 38, 39, 40, 41, 42, 43, 44, 45, 46, 47, 48, 49, 50, 51] (by decide +kernel) (by decide +kernel)
set_option maxRecDepth 20000 in
theorem gX9_compare_X9_fractionFault : GoodIn wsX9_compare (wsV RX9 291 RX9 yX9_fractionFault wsX9_fractionFault) := goodIn_app (goodIn_of _ (by decide +kernel)) ggX9_compare_X9_fractionFault
set_option maxRecDepth 20000 in
theorem ggX9_compare_X9_finding : GoodIn wsX9_compare wsX9_finding := goodIn_r _ [25, 26, 27, 37, 38, 39, 40, 41, 42, 43, 44, 45, 46, 47, 48] (by decide +kernel) (by decide +kernel)
set_option maxRecDepth 20000 in
theorem gX9_compare_X9_finding : GoodIn wsX9_compare (wsV RX9 79 RX9 yX9_finding wsX9_finding) := goodIn_app (goodIn_of _ (by decide +kernel)) ggX9_compare_X9_finding
set_option maxRecDepth 20000 in
theorem ggX9_compare_X9_productFits : GoodIn wsX9_compare wsX9_productFits := goodIn_r _ [30, 31, 32] (by decide +kernel) (by decide +kernel)
set_option maxRecDepth 20000 in
theorem gX9_compare_X9_productFits : GoodIn wsX9_compare (va_wsS RX9 199 yX9_productFits wsX9_productFits) := goodIn_app (goodIn_of _ (by decide +kernel)) ggX9_compare_X9_productFits
set_option maxRecDepth 20000 in
theorem ggX9_compare_J13_compare_74951 : GoodIn wsX9_compare wsJ13_compare_74951 := goodIn_r _ [36] (by decide +kernel) (by decide +kernel)
set_option maxRecDepth 20000 in
theorem gX9_compare_J13_compare_74951 : GoodIn wsX9_compare (va_wsS RX9 298 yJ13_compare_74951 wsJ13_compare_74951) := goodIn_app (goodIn_of _ (by decide +kernel)) ggX9_compare_J13_compare_74951
set_option maxRecDepth 20000 in
theorem ggX9_reduce_X9_fractionFault : GoodIn wsX9_reduce wsX9_fractionFault := goodIn_r _ [8, 1, 2, 9, 10, 11, 7, 12, 13, 14, 15, 16, 17, 18, 19, 20, 21, 22, 38, 39, 40, 41, 42, 43, 44, 45, 46, 47, 48, 49, 50, 51, 52] (by decide +kernel) (by decide +kernel)
set_option maxRecDepth 20000 in
theorem gX9_reduce_X9_fractionFault : GoodIn wsX9_reduce (wsV RX9 291 RX9 yX9_fractionFault wsX9_fractionFault) := goodIn_app (goodIn_of _ (by decide +kernel)) ggX9_reduce_X9_fractionFault
set_option maxRecDepth 20000 in
theorem ggX9_reduce_X9_longFinding : GoodIn wsX9_reduce wsX9_longFinding := goodIn_r _ [26, 27, 28, 38, 39, 40, 41, 42, 43, 44, 45, 46, 47, 48, 49] (by decide +kernel) (by decide +kernel)
set_option maxRecDepth 20000 in
theorem gX9_reduce_X9_longFinding : GoodIn wsX9_reduce (wsV RX9 164 RX9 yX9_longFinding wsX9_longFinding) := goodIn_app (goodIn_of _ (by decide +kernel)) ggX9_reduce_X9_longFinding
set_option maxRecDepth 20000 in
theorem ggX9_reduce_X9_sharedBelowZero : GoodIn wsX9_reduce wsX9_sharedBelowZero := goodIn_r _ [31] (by decide +kernel) (by decide +kernel)
set_option maxRecDepth 20000 in
theorem gX9_reduce_X9_sharedBelowZero : GoodIn wsX9_reduce (va_wsS RX9 304 yX9_sharedBelowZero wsX9_sharedBelowZero) := goodIn_app (goodIn_of _ (by decide +kernel)) ggX9_reduce_X9_sharedBelowZero
set_option maxRecDepth 20000 in
theorem ggX9_reduce_X5_put : GoodIn wsX9_reduce wsX5_put := goodIn_r _ [35, 36, 37, 50, 51, 52] (by decide +kernel) (by decide +kernel)
set_option maxRecDepth 20000 in
theorem gX9_reduce_X5_put : GoodIn wsX9_reduce (wsV RX9 309 RX5 yX5_put wsX5_put) := goodIn_app (goodIn_of _ (by decide +kernel)) ggX9_reduce_X5_put
set_option maxRecDepth 20000 in
theorem ggX9_add_X9_fractionFault : GoodIn wsX9_add wsX9_fractionFault := goodIn_r _ [7, 1, 2, 8, 9, 10, 6, 11, 12, 13, 14, 15, 16, 17, 18, 19, 20, 21, 42, 43, 44, 45, 46, 47, 48, 49, 50, 51, 52, 53, 54, 55, 56] (by decide +kernel) (by decide +kernel)
set_option maxRecDepth 20000 in
theorem gX9_add_X9_fractionFault : GoodIn wsX9_add (wsV RX9 291 RX9 yX9_fractionFault wsX9_fractionFault) := goodIn_app (goodIn_of _ (by decide +kernel)) ggX9_add_X9_fractionFault
set_option maxRecDepth 20000 in
theorem ggX9_add_X9_finding : GoodIn wsX9_add wsX9_finding := goodIn_r _ [25, 26, 27, 42, 43, 44, 45, 46, 47, 48, 49, 50, 51, 52, 53] (by decide +kernel) (by decide +kernel)
set_option maxRecDepth 20000 in
theorem gX9_add_X9_finding : GoodIn wsX9_add (wsV RX9 79 RX9 yX9_finding wsX9_finding) := goodIn_app (goodIn_of _ (by decide +kernel)) ggX9_add_X9_finding
set_option maxRecDepth 20000 in
theorem ggX9_add_X9_productFits : GoodIn wsX9_add wsX9_productFits := goodIn_r _ [30, 31, 32] (by decide +kernel) (by decide +kernel)
set_option maxRecDepth 20000 in
theorem gX9_add_X9_productFits : GoodIn wsX9_add (va_wsS RX9 199 yX9_productFits wsX9_productFits) := goodIn_app (goodIn_of _ (by decide +kernel)) ggX9_add_X9_productFits
set_option maxRecDepth 20000 in
theorem ggX9_add_X9_sumFits : GoodIn wsX9_add wsX9_sumFits := goodIn_r _ [35] (by decide +kernel) (by decide +kernel)
set_option maxRecDepth 20000 in
theorem gX9_add_X9_sumFits : GoodIn wsX9_add (va_wsS RX9 312 yX9_sumFits wsX9_sumFits) := goodIn_app (goodIn_of _ (by decide +kernel)) ggX9_add_X9_sumFits
set_option maxRecDepth 20000 in
theorem ggX9_add_X5_put : GoodIn wsX9_add wsX5_put := goodIn_r _ [39, 40, 41, 54, 55, 56] (by decide +kernel) (by decide +kernel)
set_option maxRecDepth 20000 in
theorem gX9_add_X5_put : GoodIn wsX9_add (wsV RX9 309 RX5 yX5_put wsX5_put) := goodIn_app (goodIn_of _ (by decide +kernel)) ggX9_add_X5_put
set_option maxRecDepth 20000 in
theorem ggX9_fractionFault_X9_sheetFault : GoodIn wsX9_fractionFault wsX9_sheetFault := goodIn_r _ [7, 1, 8, 9, 10, 6, 11, 18, 19, 20, 21, 22, 23, 24, 25, 26, 27, 28, 29, 30, 31, 32] (by decide +kernel) (by decide +kernel)
set_option maxRecDepth 20000 in
theorem gX9_fractionFault_X9_sheetFault : GoodIn wsX9_fractionFault (wsV RX9 315 RX9 yX9_sheetFault wsX9_sheetFault) := goodIn_app (goodIn_of _ (by decide +kernel)) ggX9_fractionFault_X9_sheetFault
set_option maxRecDepth 20000 in
theorem ggX9_fractionFault_X5_hasFraction : GoodIn wsX9_fractionFault wsX5_hasFraction := goodIn_r _ [16, 17, 10, 6, 11, 30, 31, 32] (by decide +kernel) (by decide +kernel)
set_option maxRecDepth 20000 in
theorem gX9_fractionFault_X5_hasFraction : GoodIn wsX9_fractionFault (wsV RX9 318 RX5 yX5_hasFraction wsX5_hasFraction) := goodIn_app (goodIn_of _ (by decide +kernel)) ggX9_fractionFault_X5_hasFraction
set_option maxRecDepth 20000 in
theorem ggX9_feed_X9_within : GoodIn wsX9_feed wsX9_within := goodIn_r _ [6] (by decide +kernel) (by decide +kernel)
set_option maxRecDepth 20000 in
theorem gX9_feed_X9_within : GoodIn wsX9_feed (va_wsS RX9 75 yX9_within wsX9_within) := goodIn_app (goodIn_of _ (by decide +kernel)) ggX9_feed_X9_within
set_option maxRecDepth 20000 in
theorem ggX9_feed_X9_finding : GoodIn wsX9_feed wsX9_finding := goodIn_r _ [10, 11, 12, 20, 21, 22, 23, 24, 25, 26, 27, 28, 29, 30, 31] (by decide +kernel) (by decide +kernel)
set_option maxRecDepth 20000 in
theorem gX9_feed_X9_finding : GoodIn wsX9_feed (wsV RX9 79 RX9 yX9_finding wsX9_finding) := goodIn_app (goodIn_of _ (by decide +kernel)) ggX9_feed_X9_finding
set_option maxRecDepth 20000 in
theorem ggX9_feed_X6_append : GoodIn wsX9_feed wsX6_append := goodIn_r _ [17, 18, 19, 32, 33, 34, 35, 36, 37, 38, 39, 40] (by decide +kernel) (by decide +kernel)
set_option maxRecDepth 20000 in
theorem gX9_feed_X6_append : GoodIn wsX9_feed (wsV RX9 324 RX6 yX6_append wsX6_append) := goodIn_app (goodIn_of _ (by decide +kernel)) ggX9_feed_X6_append
set_option maxRecDepth 20000 in
theorem ggX9_text_X1_become : GoodIn wsX9_text wsX1_become := goodIn_r _ [9, 10, 11, 12, 13, 14, 15, 16, 17, 18, 19, 20, 21, 22, 23, 24, 25, 182, 183, 184, 185, 186, 187, 188, 189, 190, 191, 192, 193] (by decide +kernel) (by decide +kernel)
set_option maxRecDepth 20000 in
theorem gX9_text_X1_become : GoodIn wsX9_text (wsV RX9 231 RX1 yX1_become wsX1_become) := goodIn_app (goodIn_of _ (by decide +kernel)) ggX9_text_X1_become
set_option maxRecDepth 20000 in
theorem ggX9_text_X6_tellTo : GoodIn wsX9_text wsX6_tellTo := goodIn_r _ [30, 31, 32, 33, 34, 35, 36, 37, 29, 38, 39, 40, 41, 42, 43, 44, 45, 46, 47, 48, 49, 50, 51, 52, 53, 54, 55, 56, 57, 58, 59, 60, 61, 62, 63, 64, 65, 66, 67, 68, 69, 70, 71, 72, 73, 74, 75, 76, 77, 78, 79, 80, 81, 82, 83, 84, 85, 86, 87, 88, 89, 90, 91, 92, 93, 94, 95, 96, 97, 98, 99, 100, 101, 102, 103, 104, 105, 106, 107, 108, 109, 110, 111, 112, 113, 114, 115, 116, 117, 118, 119, 120, 121, 122, 123, 124, 125, 126, 127, 128, 129, 130, 131, 132, 133, 134, 135, 136, 137, 138, 139, 140, 141, 142, 143, 144, 145, 8, 146, 13, 24, 25, 147, 148, 149, 150, 151, 152, 153, 154, 155, 156, 157, 158, 159, 160, 12, 14, 19, 20, 21, 22, 23, 173, 174, 175, 176, 177, 178, 179, 180, 181, 182, 183, 184, 185, 186, 187, 188, 189, 190, 191, 192, 193] (by decide +kernel) (by decide +kernel)
set_option maxRecDepth 20000 in
theorem gX9_text_X6_tellTo : GoodIn wsX9_text (wsV RX9 328 RX6 yX6_tellTo wsX6_tellTo) := goodIn_app (goodIn_of _ (by decide +kernel)) ggX9_text_X6_tellTo
set_option maxRecDepth 20000 in
theorem ggX9_sheet_X9_within : GoodIn wsX9_sheet wsX9_within := goodIn_r _ [6] (by decide +kernel) (by decide +kernel)
set_option maxRecDepth 20000 in
theorem gX9_sheet_X9_within : GoodIn wsX9_sheet (va_wsS RX9 75 yX9_within wsX9_within) := goodIn_app (goodIn_of _ (by decide +kernel)) ggX9_sheet_X9_within
set_option maxRecDepth 20000 in
theorem ggX9_sheet_X9_finding : GoodIn wsX9_sheet wsX9_finding := goodIn_r _ [10, 11, 12, 21, 22, 23, 24, 25, 26, 27, 28, 29, 30, 31, 32] (by decide +kernel) (by decide +kernel)
set_option maxRecDepth 20000 in
theorem gX9_sheet_X9_finding : GoodIn wsX9_sheet (wsV RX9 79 RX9 yX9_finding wsX9_finding) := goodIn_app (goodIn_of _ (by decide +kernel)) ggX9_sheet_X9_finding
set_option maxRecDepth 20000 in
theorem ggX9_sheet_X5_begin : GoodIn wsX9_sheet wsX5_begin := goodIn_r _ [17, 18, 19, 20, 33, 34, 35] (by decide +kernel) (by decide +kernel)
set_option maxRecDepth 20000 in
theorem gX9_sheet_X5_begin : GoodIn wsX9_sheet (wsV RX9 332 RX5 yX5_begin wsX5_begin) := goodIn_app (goodIn_of _ (by decide +kernel)) ggX9_sheet_X5_begin
set_option maxRecDepth 20000 in
theorem ggX9_write_X9_numberFault : GoodIn wsX9_write wsX9_numberFault := goodIn_r _ [6, 1, 7, 8, 9, 10, 5, 11, 12, 13, 14, 15, 29, 30, 31, 32, 33, 34, 35, 36, 37, 38, 39, 40, 41, 42, 43] (by decide +kernel) (by decide +kernel)
set_option maxRecDepth 20000 in
theorem gX9_write_X9_numberFault : GoodIn wsX9_write (wsV RX9 337 RX9 yX9_numberFault wsX9_numberFault) := goodIn_app (goodIn_of _ (by decide +kernel)) ggX9_write_X9_numberFault
set_option maxRecDepth 20000 in
theorem ggX9_write_X9_finding : GoodIn wsX9_write wsX9_finding := goodIn_r _ [19, 20, 21, 29, 30, 31, 32, 33, 34, 35, 36, 37, 38, 39, 40] (by decide +kernel) (by decide +kernel)
set_option maxRecDepth 20000 in
theorem gX9_write_X9_finding : GoodIn wsX9_write (wsV RX9 79 RX9 yX9_finding wsX9_finding) := goodIn_app (goodIn_of _ (by decide +kernel)) ggX9_write_X9_finding
set_option maxRecDepth 20000 in
theorem ggX9_write_X5_put : GoodIn wsX9_write wsX5_put := goodIn_r _ [26, 27, 28, 41, 42, 43] (by decide +kernel) (by decide +kernel)
set_option maxRecDepth 20000 in
theorem gX9_write_X5_put : GoodIn wsX9_write (wsV RX9 309 RX5 yX5_put wsX5_put) := goodIn_app (goodIn_of _ (by decide +kernel)) ggX9_write_X5_put
set_option maxRecDepth 20000 in
theorem ggX9_read_X9_numberFault : GoodIn wsX9_read wsX9_numberFault := goodIn_r _ [7, 1, 8, 9, 10, 11, 6, 12, 13, 14, 15, 16, 23, 24, 25, 26, 27, 28, 29, 30, 31, 32, 33, 34, 35, 36, 37] (by decide +kernel) (by decide +kernel)
set_option maxRecDepth 20000 in
theorem gX9_read_X9_numberFault : GoodIn wsX9_read (wsV RX9 337 RX9 yX9_numberFault wsX9_numberFault) := goodIn_app (goodIn_of _ (by decide +kernel)) ggX9_read_X9_numberFault
set_option maxRecDepth 20000 in
theorem ggX9_read_X9_longFinding : GoodIn wsX9_read wsX9_longFinding := goodIn_r _ [20, 21, 22, 23, 24, 25, 26, 27, 28, 29, 30, 31, 32, 33, 34] (by decide +kernel) (by decide +kernel)
set_option maxRecDepth 20000 in
theorem gX9_read_X9_longFinding : GoodIn wsX9_read (wsV RX9 164 RX9 yX9_longFinding wsX9_longFinding) := goodIn_app (goodIn_of _ (by decide +kernel)) ggX9_read_X9_longFinding
set_option maxRecDepth 20000 in
theorem ggX9_copy_X9_within : GoodIn wsX9_copy wsX9_within := goodIn_r _ [11] (by decide +kernel) (by decide +kernel)
set_option maxRecDepth 20000 in
theorem gX9_copy_X9_within : GoodIn wsX9_copy (va_wsS RX9 75 yX9_within wsX9_within) := goodIn_app (goodIn_of _ (by decide +kernel)) ggX9_copy_X9_within
set_option maxRecDepth 20000 in
theorem ggX9_copy_X9_finding : GoodIn wsX9_copy wsX9_finding := goodIn_r _ [15, 16, 17, 24, 25, 26, 27, 28, 29, 30, 31, 32, 33, 34, 35] (by decide +kernel) (by decide +kernel)
set_option maxRecDepth 20000 in
theorem gX9_copy_X9_finding : GoodIn wsX9_copy (wsV RX9 79 RX9 yX9_finding wsX9_finding) := goodIn_app (goodIn_of _ (by decide +kernel)) ggX9_copy_X9_finding
set_option maxRecDepth 20000 in
theorem ggX9_copy_X5_hasRun : GoodIn wsX9_copy wsX5_hasRun := goodIn_r _ [22, 23, 9, 10, 11, 36, 37, 38] (by decide +kernel) (by decide +kernel)
set_option maxRecDepth 20000 in
theorem gX9_copy_X5_hasRun : GoodIn wsX9_copy (wsV RX9 343 RX5 yX5_hasRun wsX5_hasRun) := goodIn_app (goodIn_of _ (by decide +kernel)) ggX9_copy_X5_hasRun
set_option maxRecDepth 20000 in
theorem ggX9_lays_X9_sheetFault : GoodIn wsX9_lays wsX9_sheetFault := goodIn_r _ [17, 1, 18, 19, 20, 16, 21, 28, 29, 30, 31, 32, 33, 34, 35, 36, 37, 38, 39, 40, 41, 42] (by decide +kernel) (by decide +kernel)
set_option maxRecDepth 20000 in
theorem gX9_lays_X9_sheetFault : GoodIn wsX9_lays (wsV RX9 315 RX9 yX9_sheetFault wsX9_sheetFault) := goodIn_app (goodIn_of _ (by decide +kernel)) ggX9_lays_X9_sheetFault
set_option maxRecDepth 20000 in
theorem ggX9_lays_X9_finding : GoodIn wsX9_lays wsX9_finding := goodIn_r _ [25, 26, 27, 28, 29, 30, 31, 32, 33, 34, 35, 36, 37, 38, 39] (by decide +kernel) (by decide +kernel)
set_option maxRecDepth 20000 in
theorem gX9_lays_X9_finding : GoodIn wsX9_lays (wsV RX9 79 RX9 yX9_finding wsX9_finding) := goodIn_app (goodIn_of _ (by decide +kernel)) ggX9_lays_X9_finding
set_option maxRecDepth 20000 in
theorem ggX9_sheetFault_X9_within : GoodIn wsX9_sheetFault wsX9_within := goodIn_r _ [6] (by decide +kernel) (by decide +kernel)
set_option maxRecDepth 20000 in
theorem gX9_sheetFault_X9_within : GoodIn wsX9_sheetFault (va_wsS RX9 75 yX9_within wsX9_within) := goodIn_app (goodIn_of _ (by decide +kernel)) ggX9_sheetFault_X9_within
set_option maxRecDepth 20000 in
theorem ggX9_numberFault_X9_sheetFault : GoodIn wsX9_numberFault wsX9_sheetFault := goodIn_r _ [7, 1, 8, 9, 10, 6, 11, 12, 13, 14, 15, 16, 17, 18, 19, 20, 21, 22, 23, 24, 25, 26] (by decide +kernel) (by decide +kernel)
set_option maxRecDepth 20000 in
theorem gX9_numberFault_X9_sheetFault : GoodIn wsX9_numberFault (wsV RX9 315 RX9 yX9_sheetFault wsX9_sheetFault) := goodIn_app (goodIn_of _ (by decide +kernel)) ggX9_numberFault_X9_sheetFault
set_option maxRecDepth 20000 in
theorem ggX9_numberFault_X9_within : GoodIn wsX9_numberFault wsX9_within := goodIn_r _ [11] (by decide +kernel) (by decide +kernel)
set_option maxRecDepth 20000 in
theorem gX9_numberFault_X9_within : GoodIn wsX9_numberFault (va_wsS RX9 75 yX9_within wsX9_within) := goodIn_app (goodIn_of _ (by decide +kernel)) ggX9_numberFault_X9_within
set_option maxRecDepth 20000 in
theorem ggX9_image_X1_become : GoodIn wsX9_image wsX1_become := goodIn_r _ [8, 9, 10, 11, 12, 13, 14, 15, 16, 17, 18, 19, 20, 21, 22, 23, 24, 37, 38, 39, 40, 41, 42, 43, 44, 45, 46, 47, 48] (by decide +kernel) (by decide +kernel)
set_option maxRecDepth 20000 in
theorem gX9_image_X1_become : GoodIn wsX9_image (wsV RX9 231 RX1 yX1_become wsX1_become) := goodIn_app (goodIn_of _ (by decide +kernel)) ggX9_image_X1_become
set_option maxRecDepth 20000 in
theorem ggX9_undo_X9_finding : GoodIn wsX9_undo wsX9_finding := goodIn_r _ [9, 10, 11, 33, 34, 35, 36, 37, 38, 39, 40, 41, 42, 43, 44] (by decide +kernel) (by decide +kernel)
set_option maxRecDepth 20000 in
theorem gX9_undo_X9_finding : GoodIn wsX9_undo (wsV RX9 79 RX9 yX9_finding wsX9_finding) := goodIn_app (goodIn_of _ (by decide +kernel)) ggX9_undo_X9_finding
set_option maxRecDepth 20000 in
theorem ggX9_undo_X1_become : GoodIn wsX9_undo wsX1_become := goodIn_r _ [16, 17, 18, 19, 20, 21, 22, 23, 24, 25, 26, 27, 28, 29, 30, 31, 32, 45, 46, 47, 48, 49, 50, 51, 52, 53, 54, 55, 56] (by decide +kernel) (by decide +kernel)
set_option maxRecDepth 20000 in
theorem gX9_undo_X1_become : GoodIn wsX9_undo (wsV RX9 231 RX1 yX1_become wsX1_become) := goodIn_app (goodIn_of _ (by decide +kernel)) ggX9_undo_X1_become
set_option maxRecDepth 20000 in
theorem ggX9_count_X1_shutWays : GoodIn wsX9_count wsX1_shutWays := goodIn_r _ [12, 13, 14, 34, 35, 36, 37, 38, 39, 40, 41, 42, 43, 44, 45] (by decide +kernel) (by decide +kernel)
set_option maxRecDepth 20000 in
theorem gX9_count_X1_shutWays : GoodIn wsX9_count (wsV RX9 358 RX1 yX1_shutWays wsX1_shutWays) := goodIn_app (goodIn_of _ (by decide +kernel)) ggX9_count_X1_shutWays
set_option maxRecDepth 20000 in
theorem ggX9_count_X9_finding : GoodIn wsX9_count wsX9_finding := goodIn_r _ [19, 20, 21, 22, 23, 24, 25, 26, 27, 28, 29, 30, 31, 32, 33] (by decide +kernel) (by decide +kernel)
set_option maxRecDepth 20000 in
theorem gX9_count_X9_finding : GoodIn wsX9_count (wsV RX9 79 RX9 yX9_finding wsX9_finding) := goodIn_app (goodIn_of _ (by decide +kernel)) ggX9_count_X9_finding
set_option maxRecDepth 20000 in
theorem ggX9_status_X9_within : GoodIn wsX9_status wsX9_within := goodIn_r _ [5] (by decide +kernel) (by decide +kernel)
set_option maxRecDepth 20000 in
theorem gX9_status_X9_within : GoodIn wsX9_status (va_wsS RX9 75 yX9_within wsX9_within) := goodIn_app (goodIn_of _ (by decide +kernel)) ggX9_status_X9_within
set_option maxRecDepth 20000 in
theorem ggX9_status_X9_finding : GoodIn wsX9_status wsX9_finding := goodIn_r _ [9, 1, 10, 11, 12, 13, 14, 15, 16, 17, 18, 19, 20, 21, 22] (by decide +kernel) (by decide +kernel)
set_option maxRecDepth 20000 in
theorem gX9_status_X9_finding : GoodIn wsX9_status (wsV RX9 79 RX9 yX9_finding wsX9_finding) := goodIn_app (goodIn_of _ (by decide +kernel)) ggX9_status_X9_finding
set_option maxRecDepth 20000 in
theorem ggX9_isKind_X9_within : GoodIn wsX9_isKind wsX9_within := goodIn_r _ [4] (by decide +kernel) (by decide +kernel)
set_option maxRecDepth 20000 in
theorem gX9_isKind_X9_within : GoodIn wsX9_isKind (va_wsS RX9 75 yX9_within wsX9_within) := goodIn_app (goodIn_of _ (by decide +kernel)) ggX9_isKind_X9_within
set_option maxRecDepth 20000 in
theorem ggX9_isGain_X9_within : GoodIn wsX9_isGain wsX9_within := goodIn_r _ [6] (by decide +kernel) (by decide +kernel)
set_option maxRecDepth 20000 in
theorem gX9_isGain_X9_within : GoodIn wsX9_isGain (va_wsS RX9 75 yX9_within wsX9_within) := goodIn_app (goodIn_of _ (by decide +kernel)) ggX9_isGain_X9_within
set_option maxRecDepth 20000 in
theorem ggX9_isTime_X9_within : GoodIn wsX9_isTime wsX9_within := goodIn_r _ [5] (by decide +kernel) (by decide +kernel)
set_option maxRecDepth 20000 in
theorem gX9_isTime_X9_within : GoodIn wsX9_isTime (va_wsS RX9 75 yX9_within wsX9_within) := goodIn_app (goodIn_of _ (by decide +kernel)) ggX9_isTime_X9_within
set_option maxRecDepth 20000 in
theorem ggX9_brings_X9_brings : GoodIn wsX9_brings wsX9_brings := goodIn_r _ [0, 1, 2, 3] (by decide +kernel) (by decide +kernel)
set_option maxRecDepth 20000 in
theorem gX9_brings_X9_brings : GoodIn wsX9_brings (va_wsS RX9 368 yX9_brings wsX9_brings) := goodIn_app (goodIn_of _ (by decide +kernel)) ggX9_brings_X9_brings
set_option maxRecDepth 20000 in
theorem ggX9_lasts_X9_lasts : GoodIn wsX9_lasts wsX9_lasts := goodIn_r _ [0, 1, 2, 3] (by decide +kernel) (by decide +kernel)
set_option maxRecDepth 20000 in
theorem gX9_lasts_X9_lasts : GoodIn wsX9_lasts (va_wsS RX9 371 yX9_lasts wsX9_lasts) := goodIn_app (goodIn_of _ (by decide +kernel)) ggX9_lasts_X9_lasts
set_option maxRecDepth 20000 in
theorem ggX9_lowest_X9_sharedBelowZero : GoodIn wsX9_lowest wsX9_sharedBelowZero := goodIn_r _ [4] (by decide +kernel) (by decide +kernel)
set_option maxRecDepth 20000 in
theorem gX9_lowest_X9_sharedBelowZero : GoodIn wsX9_lowest (va_wsS RX9 304 yX9_sharedBelowZero wsX9_sharedBelowZero) := goodIn_app (goodIn_of _ (by decide +kernel)) ggX9_lowest_X9_sharedBelowZero
set_option maxRecDepth 20000 in
theorem ggX10_isPlace_X10_in : GoodIn wsX10_isPlace wsX10_in := goodIn_r _ [5] (by decide +kernel) (by decide +kernel)
set_option maxRecDepth 20000 in
theorem gX10_isPlace_X10_in : GoodIn wsX10_isPlace (va_wsS RX10 57 yX10_in wsX10_in) := goodIn_app (goodIn_of _ (by decide +kernel)) ggX10_isPlace_X10_in
set_option maxRecDepth 20000 in
theorem ggX10_isWay_X10_in : GoodIn wsX10_isWay wsX10_in := goodIn_r _ [5] (by decide +kernel) (by decide +kernel)
set_option maxRecDepth 20000 in
theorem gX10_isWay_X10_in : GoodIn wsX10_isWay (va_wsS RX10 57 yX10_in wsX10_in) := goodIn_app (goodIn_of _ (by decide +kernel)) ggX10_isWay_X10_in
set_option maxRecDepth 20000 in
theorem ggX10_isGain_X10_in : GoodIn wsX10_isGain wsX10_in := goodIn_r _ [6] (by decide +kernel) (by decide +kernel)
set_option maxRecDepth 20000 in
theorem gX10_isGain_X10_in : GoodIn wsX10_isGain (va_wsS RX10 57 yX10_in wsX10_in) := goodIn_app (goodIn_of _ (by decide +kernel)) ggX10_isGain_X10_in
set_option maxRecDepth 20000 in
theorem ggX10_isTime_X10_in : GoodIn wsX10_isTime wsX10_in := goodIn_r _ [5] (by decide +kernel) (by decide +kernel)
set_option maxRecDepth 20000 in
theorem gX10_isTime_X10_in : GoodIn wsX10_isTime (va_wsS RX10 57 yX10_in wsX10_in) := goodIn_app (goodIn_of _ (by decide +kernel)) ggX10_isTime_X10_in
set_option maxRecDepth 20000 in
theorem ggX10_brings_X10_at : GoodIn wsX10_brings wsX10_at := goodIn_r _ [6, 7, 8, 9, 10, 11, 12, 13, 14, 15, 16, 17, 18, 19, 20, 21, 22, 23, 24, 25, 26, 27, 28, 29, 30, 31, 32, 33, 34, 35, 36, 37, 38, 39, 40, 41, 42, 43] (by decide +kernel) (by decide +kernel)
set_option maxRecDepth 20000 in
theorem gX10_brings_X10_at : GoodIn wsX10_brings (wsV RX10 70 RX10 yX10_at wsX10_at) := goodIn_app (goodIn_of _ (by decide +kernel)) ggX10_brings_X10_at
set_option maxRecDepth 20000 in
theorem ggX10_lasts_X10_at : GoodIn wsX10_lasts wsX10_at := goodIn_r _ [6, 7, 8, 9, 10, 11, 12, 13, 14, 15, 16, 17, 18, 19, 20, 21, 22, 23, 24, 25, 26, 27, 28, 29, 30, 31, 32, 33, 34, 35, 36, 37, 38, 39, 40, 41, 42, 43] (by decide +kernel) (by decide +kernel)
set_option maxRecDepth 20000 in
theorem gX10_lasts_X10_at : GoodIn wsX10_lasts (wsV RX10 70 RX10 yX10_at wsX10_at) := goodIn_app (goodIn_of _ (by decide +kernel)) ggX10_lasts_X10_at
set_option maxRecDepth 20000 in
theorem ggX10_places_X10_in : GoodIn wsX10_places wsX10_in := goodIn_r _ [8] (by decide +kernel) (by decide +kernel)
set_option maxRecDepth 20000 in
theorem gX10_places_X10_in : GoodIn wsX10_places (va_wsS RX10 57 yX10_in wsX10_in) := goodIn_app (goodIn_of _ (by decide +kernel)) ggX10_places_X10_in
set_option maxRecDepth 20000 in
theorem ggX10_places_X10_finds : GoodIn wsX10_places wsX10_finds := goodIn_r _ [12, 13, 14, 20, 21, 22, 23, 24, 25, 26, 27, 28, 29, 30, 31, 32, 33, 34, 35, 36, 37, 38, 39, 40, 41, 42, 43, 44, 45, 46, 47, 48, 49, 50, 51, 52, 53, 54, 55] (by decide +kernel) (by decide +kernel)
set_option maxRecDepth 20000 in
theorem gX10_places_X10_finds : GoodIn wsX10_places (wsV RX10 81 RX10 yX10_finds wsX10_finds) := goodIn_app (goodIn_of _ (by decide +kernel)) ggX10_places_X10_finds
set_option maxRecDepth 20000 in
theorem ggX10_places_X10_at : GoodIn wsX10_places wsX10_at := goodIn_r _ [18, 19, 20, 21, 22, 23, 24, 25, 26, 27, 28, 29, 30, 31, 32, 33, 34, 35, 36, 37, 38, 39, 40, 41, 42, 43, 44, 45, 46, 47, 48, 49, 50, 51, 52, 53, 54, 55] (by decide +kernel) (by decide +kernel)
set_option maxRecDepth 20000 in
theorem gX10_places_X10_at : GoodIn wsX10_places (wsV RX10 70 RX10 yX10_at wsX10_at) := goodIn_app (goodIn_of _ (by decide +kernel)) ggX10_places_X10_at
set_option maxRecDepth 20000 in
theorem ggX10_weather_X10_in : GoodIn wsX10_weather wsX10_in := goodIn_r _ [6] (by decide +kernel) (by decide +kernel)
set_option maxRecDepth 20000 in
theorem gX10_weather_X10_in : GoodIn wsX10_weather (va_wsS RX10 57 yX10_in wsX10_in) := goodIn_app (goodIn_of _ (by decide +kernel)) ggX10_weather_X10_in
set_option maxRecDepth 20000 in
theorem ggX10_weather_X10_finds : GoodIn wsX10_weather wsX10_finds := goodIn_r _ [10, 11, 12, 13, 14, 15, 16, 17, 18, 19, 20, 21, 22, 23, 24, 25, 26, 27, 28, 29, 30, 31, 32, 33, 34, 35, 36, 37, 38, 39, 40, 41, 42, 43, 44, 45, 46, 47, 48] (by decide +kernel) (by decide +kernel)
set_option maxRecDepth 20000 in
theorem gX10_weather_X10_finds : GoodIn wsX10_weather (wsV RX10 81 RX10 yX10_finds wsX10_finds) := goodIn_app (goodIn_of _ (by decide +kernel)) ggX10_weather_X10_finds
set_option maxRecDepth 20000 in
theorem ggX10_way_X10_in : GoodIn wsX10_way wsX10_in := goodIn_r _ [6] (by decide +kernel) (by decide +kernel)
set_option maxRecDepth 20000 in
theorem gX10_way_X10_in : GoodIn wsX10_way (va_wsS RX10 57 yX10_in wsX10_in) := goodIn_app (goodIn_of _ (by decide +kernel)) ggX10_way_X10_in
set_option maxRecDepth 20000 in
theorem ggX10_way_X10_isPlace : GoodIn wsX10_way wsX10_isPlace := goodIn_r _ [10, 11, 3, 4, 5, 6, 32, 33, 34, 35, 36, 37, 38, 39, 40, 41, 42, 43, 44, 45, 46, 47, 48, 49, 50, 51, 52, 53, 54, 55, 56, 57, 58, 59, 60, 61, 62, 63, 64, 65, 66, 67] (by decide +kernel) (by decide +kernel)
set_option maxRecDepth 20000 in
theorem gX10_way_X10_isPlace : GoodIn wsX10_way (wsV RX10 87 RX10 yX10_isPlace wsX10_isPlace) := goodIn_app (goodIn_of _ (by decide +kernel)) ggX10_way_X10_isPlace
set_option maxRecDepth 20000 in
theorem ggX10_way_X10_isGain : GoodIn wsX10_way wsX10_isGain := goodIn_r _ [14, 15, 16, 3, 4, 5, 6] (by decide +kernel) (by decide +kernel)
set_option maxRecDepth 20000 in
theorem gX10_way_X10_isGain : GoodIn wsX10_way (va_wsS RX10 91 yX10_isGain wsX10_isGain) := goodIn_app (goodIn_of _ (by decide +kernel)) ggX10_way_X10_isGain
set_option maxRecDepth 20000 in
theorem ggX10_way_X10_isTime : GoodIn wsX10_way wsX10_isTime := goodIn_r _ [19, 20, 3, 4, 5, 6] (by decide +kernel) (by decide +kernel)
set_option maxRecDepth 20000 in
theorem gX10_way_X10_isTime : GoodIn wsX10_way (va_wsS RX10 95 yX10_isTime wsX10_isTime) := goodIn_app (goodIn_of _ (by decide +kernel)) ggX10_way_X10_isTime
set_option maxRecDepth 20000 in
theorem ggX10_way_X10_finds : GoodIn wsX10_way wsX10_finds := goodIn_r _ [24, 25, 26, 32, 33, 34, 35, 36, 37, 38, 39, 40, 41, 42, 43, 44, 45, 46, 47, 48, 49, 50, 51, 52, 53, 54, 55, 56, 57, 58, 59, 60, 61, 62, 63, 64, 65, 66, 67] (by decide +kernel) (by decide +kernel)
set_option maxRecDepth 20000 in
theorem gX10_way_X10_finds : GoodIn wsX10_way (wsV RX10 81 RX10 yX10_finds wsX10_finds) := goodIn_app (goodIn_of _ (by decide +kernel)) ggX10_way_X10_finds
set_option maxRecDepth 20000 in
theorem ggX10_way_X10_addWay : GoodIn wsX10_way wsX10_addWay := goodIn_r _ [30, 2, 31, 32, 33, 34, 35, 36, 37, 38, 39, 40, 41, 42, 43, 44, 45, 46, 47, 48, 49, 50, 51, 52, 53, 54, 55, 56, 57, 58, 59, 60, 61, 62, 63, 64, 65, 66, 67] (by decide +kernel) (by decide +kernel)
set_option maxRecDepth 20000 in
theorem gX10_way_X10_addWay : GoodIn wsX10_way (wsV RX10 98 RX10 yX10_addWay wsX10_addWay) := goodIn_app (goodIn_of _ (by decide +kernel)) ggX10_way_X10_addWay
set_option maxRecDepth 20000 in
theorem ggX10_of_X10_isWay : GoodIn wsX10_of wsX10_isWay := goodIn_r _ [6, 7, 8, 9, 5, 10, 31, 32, 33, 34, 35, 36, 37, 38, 39, 40, 41, 42, 43, 44, 45, 46, 47, 48, 49, 50, 51, 52, 53, 54, 55, 56, 57, 58, 59, 60, 61, 62, 63, 64, 65, 66] (by decide +kernel) (by decide +kernel)
set_option maxRecDepth 20000 in
theorem gX10_of_X10_isWay : GoodIn wsX10_of (wsV RX10 102 RX10 yX10_isWay wsX10_isWay) := goodIn_app (goodIn_of _ (by decide +kernel)) ggX10_of_X10_isWay
set_option maxRecDepth 20000 in
theorem ggX10_of_X10_in : GoodIn wsX10_of wsX10_in := goodIn_r _ [10] (by decide +kernel) (by decide +kernel)
set_option maxRecDepth 20000 in
theorem gX10_of_X10_in : GoodIn wsX10_of (va_wsS RX10 57 yX10_in wsX10_in) := goodIn_app (goodIn_of _ (by decide +kernel)) ggX10_of_X10_in
set_option maxRecDepth 20000 in
theorem ggX10_of_X10_finds : GoodIn wsX10_of wsX10_finds := goodIn_r _ [14, 15, 16, 31, 32, 33, 34, 35, 36, 37, 38, 39, 40, 41, 42, 43, 44, 45, 46, 47, 48, 49, 50, 51, 52, 53, 54, 55, 56, 57, 58, 59, 60, 61, 62, 63, 64, 65, 66] (by decide +kernel) (by decide +kernel)
set_option maxRecDepth 20000 in
theorem gX10_of_X10_finds : GoodIn wsX10_of (wsV RX10 81 RX10 yX10_finds wsX10_finds) := goodIn_app (goodIn_of _ (by decide +kernel)) ggX10_of_X10_finds
set_option maxRecDepth 20000 in
theorem ggX10_of_X10_at : GoodIn wsX10_of wsX10_at := goodIn_r _ [20, 21, 31, 32, 33, 34, 35, 36, 37, 38, 39, 40, 41, 42, 43, 44, 45, 46, 47, 48, 49, 50, 51, 52, 53, 54, 55, 56, 57, 58, 59, 60, 61, 62, 63, 64, 65, 66] (by decide +kernel) (by decide +kernel)
set_option maxRecDepth 20000 in
theorem gX10_of_X10_at : GoodIn wsX10_of (wsV RX10 70 RX10 yX10_at wsX10_at) := goodIn_app (goodIn_of _ (by decide +kernel)) ggX10_of_X10_at
set_option maxRecDepth 20000 in
theorem ggX10_of_X10_brings : GoodIn wsX10_of wsX10_brings := goodIn_r _ [25, 26, 17, 18, 19, 5, 20, 21, 31, 32, 33, 34, 35, 36, 37, 38, 39, 40, 41, 42, 43, 44, 45, 46, 47, 48, 49, 50, 51, 52, 53, 54, 55, 56, 57, 58, 59, 60, 61, 62, 63, 64, 65, 66] (by decide +kernel) (by decide +kernel)
set_option maxRecDepth 20000 in
theorem gX10_of_X10_brings : GoodIn wsX10_of (wsV RX10 107 RX10 yX10_brings wsX10_brings) := goodIn_app (goodIn_of _ (by decide +kernel)) ggX10_of_X10_brings
set_option maxRecDepth 20000 in
theorem ggX10_of_X10_lasts : GoodIn wsX10_of wsX10_lasts := goodIn_r _ [30, 26, 17, 18, 19, 5, 20, 21, 31, 32, 33, 34, 35, 36, 37, 38, 39, 40, 41, 42, 43, 44, 45, 46, 47, 48, 49, 50, 51, 52, 53, 54, 55, 56, 57, 58, 59, 60, 61, 62, 63, 64, 65, 66] (by decide +kernel) (by decide +kernel)
set_option maxRecDepth 20000 in
theorem gX10_of_X10_lasts : GoodIn wsX10_of (wsV RX10 110 RX10 yX10_lasts wsX10_lasts) := goodIn_app (goodIn_of _ (by decide +kernel)) ggX10_of_X10_lasts
set_option maxRecDepth 20000 in
theorem ggX10_mayBe_X10_in : GoodIn wsX10_mayBe wsX10_in := goodIn_r _ [5] (by decide +kernel) (by decide +kernel)
set_option maxRecDepth 20000 in
theorem gX10_mayBe_X10_in : GoodIn wsX10_mayBe (va_wsS RX10 57 yX10_in wsX10_in) := goodIn_app (goodIn_of _ (by decide +kernel)) ggX10_mayBe_X10_in
set_option maxRecDepth 20000 in
theorem ggX10_mayBe_X10_isPlace : GoodIn wsX10_mayBe wsX10_isPlace := goodIn_r _ [9, 10, 2, 3, 4, 5, 25, 26, 27, 28, 29, 30, 31, 32, 33, 34, 35, 36, 37, 38, 39, 40, 41, 42, 43, 44, 45, 46, 47, 48, 49, 50, 51, 52, 53, 54, 55, 56, 57, 58, 59, 60] (by decide +kernel) (by decide +kernel)
set_option maxRecDepth 20000 in
theorem gX10_mayBe_X10_isPlace : GoodIn wsX10_mayBe (wsV RX10 87 RX10 yX10_isPlace wsX10_isPlace) := goodIn_app (goodIn_of _ (by decide +kernel)) ggX10_mayBe_X10_isPlace
set_option maxRecDepth 20000 in
theorem ggX10_mayBe_X10_at : GoodIn wsX10_mayBe wsX10_at := goodIn_r _ [14, 15, 25, 26, 27, 28, 29, 30, 31, 32, 33, 34, 35, 36, 37, 38, 39, 40, 41, 42, 43, 44, 45, 46, 47, 48, 49, 50, 51, 52, 53, 54, 55, 56, 57, 58, 59, 60] (by decide +kernel) (by decide +kernel)
set_option maxRecDepth 20000 in
theorem gX10_mayBe_X10_at : GoodIn wsX10_mayBe (wsV RX10 70 RX10 yX10_at wsX10_at) := goodIn_app (goodIn_of _ (by decide +kernel)) ggX10_mayBe_X10_at
set_option maxRecDepth 20000 in
theorem ggX10_mayBe_X10_isGain : GoodIn wsX10_mayBe wsX10_isGain := goodIn_r _ [18, 19, 20, 2, 3, 4, 5] (by decide +kernel) (by decide +kernel)
set_option maxRecDepth 20000 in
theorem gX10_mayBe_X10_isGain : GoodIn wsX10_mayBe (va_wsS RX10 91 yX10_isGain wsX10_isGain) := goodIn_app (goodIn_of _ (by decide +kernel)) ggX10_mayBe_X10_isGain
set_option maxRecDepth 20000 in
theorem ggX10_mayBe_X10_isTime : GoodIn wsX10_mayBe wsX10_isTime := goodIn_r _ [23, 24, 2, 3, 4, 5] (by decide +kernel) (by decide +kernel)
set_option maxRecDepth 20000 in
theorem gX10_mayBe_X10_isTime : GoodIn wsX10_mayBe (va_wsS RX10 95 yX10_isTime wsX10_isTime) := goodIn_app (goodIn_of _ (by decide +kernel)) ggX10_mayBe_X10_isTime
set_option maxRecDepth 20000 in
theorem ggX10_change_X10_isWay : GoodIn wsX10_change wsX10_isWay := goodIn_r _ [6, 7, 8, 9, 5, 10, 40, 41, 42, 43, 44, 45, 46, 47, 48, 49, 50, 51, 52, 53, 54, 55, 56, 57, 58, 59, 60, 61, 62, 63, 64, 65, 66, 67, 68, 69, 70, 71, 72, 73, 74, 75] (by decide +kernel) (by decide +kernel)
set_option maxRecDepth 20000 in
theorem gX10_change_X10_isWay : GoodIn wsX10_change (wsV RX10 102 RX10 yX10_isWay wsX10_isWay) := goodIn_app (goodIn_of _ (by decide +kernel)) ggX10_change_X10_isWay
set_option maxRecDepth 20000 in
theorem ggX10_change_X10_mayBe : GoodIn wsX10_change wsX10_mayBe := goodIn_r _ [14, 15, 8, 9, 5, 10, 16, 17, 18, 19, 20, 21, 22, 23, 24, 1, 25, 26, 27, 28, 29, 30, 31, 32, 33, 40, 41, 42, 43, 44, 45, 46, 47, 48, 49, 50, 51, 52, 53, 54, 55, 56, 57, 58, 59, 60, 61, 62, 63, 64, 65, 66, 67, 68, 69, 70, 71, 72, 73, 74, 75] (by decide +kernel) (by decide +kernel)
set_option maxRecDepth 20000 in
theorem gX10_change_X10_mayBe : GoodIn wsX10_change (wsV RX10 113 RX10 yX10_mayBe wsX10_mayBe) := goodIn_app (goodIn_of _ (by decide +kernel)) ggX10_change_X10_mayBe
set_option maxRecDepth 20000 in
theorem ggX10_change_X10_finds : GoodIn wsX10_change wsX10_finds := goodIn_r _ [37, 38, 39, 40, 41, 42, 43, 44, 45, 46, 47, 48, 49, 50, 51, 52, 53, 54, 55, 56, 57, 58, 59, 60, 61, 62, 63, 64, 65, 66, 67, 68, 69, 70, 71, 72, 73, 74, 75] (by decide +kernel) (by decide +kernel)
set_option maxRecDepth 20000 in
theorem gX10_change_X10_finds : GoodIn wsX10_change (wsV RX10 81 RX10 yX10_finds wsX10_finds) := goodIn_app (goodIn_of _ (by decide +kernel)) ggX10_change_X10_finds
set_option maxRecDepth 20000 in
theorem ggX10_change_X10_at : GoodIn wsX10_change wsX10_at := goodIn_r _ [24, 1, 40, 41, 42, 43, 44, 45, 46, 47, 48, 49, 50, 51, 52, 53, 54, 55, 56, 57, 58, 59, 60, 61, 62, 63, 64, 65, 66, 67, 68, 69, 70, 71, 72, 73, 74, 75] (by decide +kernel) (by decide +kernel)
set_option maxRecDepth 20000 in
theorem gX10_change_X10_at : GoodIn wsX10_change (wsV RX10 70 RX10 yX10_at wsX10_at) := goodIn_app (goodIn_of _ (by decide +kernel)) ggX10_change_X10_at
set_option maxRecDepth 20000 in
theorem ggX10_as_X10_isWay : GoodIn wsX10_as wsX10_isWay := goodIn_r _ [6, 7, 8, 9, 5, 10, 22, 23, 24, 25, 26, 27, 28, 29, 30, 31, 32, 33, 34, 35, 36, 37, 38, 39, 40, 41, 42, 43, 44, 45, 46, 47, 48, 49, 50, 51, 52, 53, 54, 55, 56, 57] (by decide +kernel) (by decide +kernel)
set_option maxRecDepth 20000 in
theorem gX10_as_X10_isWay : GoodIn wsX10_as (wsV RX10 102 RX10 yX10_isWay wsX10_isWay) := goodIn_app (goodIn_of _ (by decide +kernel)) ggX10_as_X10_isWay
set_option maxRecDepth 20000 in
theorem ggX10_as_X10_in : GoodIn wsX10_as wsX10_in := goodIn_r _ [10] (by decide +kernel) (by decide +kernel)
set_option maxRecDepth 20000 in
theorem gX10_as_X10_in : GoodIn wsX10_as (va_wsS RX10 57 yX10_in wsX10_in) := goodIn_app (goodIn_of _ (by decide +kernel)) ggX10_as_X10_in
set_option maxRecDepth 20000 in
theorem ggX10_as_X10_finds : GoodIn wsX10_as wsX10_finds := goodIn_r _ [14, 15, 16, 22, 23, 24, 25, 26, 27, 28, 29, 30, 31, 32, 33, 34, 35, 36, 37, 38, 39, 40, 41, 42, 43, 44, 45, 46, 47, 48, 49, 50, 51, 52, 53, 54, 55, 56, 57] (by decide +kernel) (by decide +kernel)
set_option maxRecDepth 20000 in
theorem gX10_as_X10_finds : GoodIn wsX10_as (wsV RX10 81 RX10 yX10_finds wsX10_finds) := goodIn_app (goodIn_of _ (by decide +kernel)) ggX10_as_X10_finds
set_option maxRecDepth 20000 in
theorem ggX10_as_X10_at : GoodIn wsX10_as wsX10_at := goodIn_r _ [20, 21, 22, 23, 24, 25, 26, 27, 28, 29, 30, 31, 32, 33, 34, 35, 36, 37, 38, 39, 40, 41, 42, 43, 44, 45, 46, 47, 48, 49, 50, 51, 52, 53, 54, 55, 56, 57] (by decide +kernel) (by decide +kernel)
set_option maxRecDepth 20000 in
theorem gX10_as_X10_at : GoodIn wsX10_as (wsV RX10 70 RX10 yX10_at wsX10_at) := goodIn_app (goodIn_of _ (by decide +kernel)) ggX10_as_X10_at
set_option maxRecDepth 20000 in
theorem ggX10_thing_X10_isGain : GoodIn wsX10_thing wsX10_isGain := goodIn_r _ [6, 7, 8, 9, 10, 5, 11] (by decide +kernel) (by decide +kernel)
set_option maxRecDepth 20000 in
theorem gX10_thing_X10_isGain : GoodIn wsX10_thing (va_wsS RX10 91 yX10_isGain wsX10_isGain) := goodIn_app (goodIn_of _ (by decide +kernel)) ggX10_thing_X10_isGain
set_option maxRecDepth 20000 in
theorem ggX10_thing_X10_isTime : GoodIn wsX10_thing wsX10_isTime := goodIn_r _ [14, 15, 9, 10, 5, 11] (by decide +kernel) (by decide +kernel)
set_option maxRecDepth 20000 in
theorem gX10_thing_X10_isTime : GoodIn wsX10_thing (va_wsS RX10 95 yX10_isTime wsX10_isTime) := goodIn_app (goodIn_of _ (by decide +kernel)) ggX10_thing_X10_isTime
set_option maxRecDepth 20000 in
theorem ggX10_thing_X10_finds : GoodIn wsX10_thing wsX10_finds := goodIn_r _ [19, 20, 21, 22, 23, 24, 25, 26, 27, 28, 29, 30, 31, 32, 33, 34, 35, 36, 37, 38, 39, 40, 41, 42, 43, 44, 45, 46, 47, 48, 49, 50, 51, 52, 53, 54, 55, 56, 57] (by decide +kernel) (by decide +kernel)
set_option maxRecDepth 20000 in
theorem gX10_thing_X10_finds : GoodIn wsX10_thing (wsV RX10 81 RX10 yX10_finds wsX10_finds) := goodIn_app (goodIn_of _ (by decide +kernel)) ggX10_thing_X10_finds
set_option maxRecDepth 20000 in
theorem ggX10_isThing_X10_in : GoodIn wsX10_isThing wsX10_in := goodIn_r _ [6] (by decide +kernel) (by decide +kernel)
set_option maxRecDepth 20000 in
theorem gX10_isThing_X10_in : GoodIn wsX10_isThing (va_wsS RX10 57 yX10_in wsX10_in) := goodIn_app (goodIn_of _ (by decide +kernel)) ggX10_isThing_X10_in
set_option maxRecDepth 20000 in
theorem ggX10_alter_X10_isThing : GoodIn wsX10_alter wsX10_isThing := goodIn_r _ [7, 8, 9, 10, 11, 6, 12, 28, 29, 30, 31, 32, 33, 34, 35, 36, 37, 38, 39, 40, 41, 42, 43, 44, 45, 46, 47, 48, 49, 50, 51, 52, 53, 54, 55, 56, 57, 58, 59, 60, 61, 62, 63] (by decide +kernel) (by decide +kernel)
set_option maxRecDepth 20000 in
theorem gX10_alter_X10_isThing : GoodIn wsX10_alter (wsV RX10 122 RX10 yX10_isThing wsX10_isThing) := goodIn_app (goodIn_of _ (by decide +kernel)) ggX10_alter_X10_isThing
set_option maxRecDepth 20000 in
theorem ggX10_alter_X10_in : GoodIn wsX10_alter wsX10_in := goodIn_r _ [12] (by decide +kernel) (by decide +kernel)
set_option maxRecDepth 20000 in
theorem gX10_alter_X10_in : GoodIn wsX10_alter (va_wsS RX10 57 yX10_in wsX10_in) := goodIn_app (goodIn_of _ (by decide +kernel)) ggX10_alter_X10_in
set_option maxRecDepth 20000 in
theorem ggX10_alter_X10_isGain : GoodIn wsX10_alter wsX10_isGain := goodIn_r _ [15, 16, 17, 10, 11, 6, 12] (by decide +kernel) (by decide +kernel)
set_option maxRecDepth 20000 in
theorem gX10_alter_X10_isGain : GoodIn wsX10_alter (va_wsS RX10 91 yX10_isGain wsX10_isGain) := goodIn_app (goodIn_of _ (by decide +kernel)) ggX10_alter_X10_isGain
set_option maxRecDepth 20000 in
theorem ggX10_alter_X10_isTime : GoodIn wsX10_alter wsX10_isTime := goodIn_r _ [20, 21, 10, 11, 6, 12] (by decide +kernel) (by decide +kernel)
set_option maxRecDepth 20000 in
theorem gX10_alter_X10_isTime : GoodIn wsX10_alter (va_wsS RX10 95 yX10_isTime wsX10_isTime) := goodIn_app (goodIn_of _ (by decide +kernel)) ggX10_alter_X10_isTime
set_option maxRecDepth 20000 in
theorem ggX10_alter_X10_finds : GoodIn wsX10_alter wsX10_finds := goodIn_r _ [25, 26, 27, 28, 29, 30, 31, 32, 33, 34, 35, 36, 37, 38, 39, 40, 41, 42, 43, 44, 45, 46, 47, 48, 49, 50, 51, 52, 53, 54, 55, 56, 57, 58, 59, 60, 61, 62, 63] (by decide +kernel) (by decide +kernel)
set_option maxRecDepth 20000 in
theorem gX10_alter_X10_finds : GoodIn wsX10_alter (wsV RX10 81 RX10 yX10_finds wsX10_finds) := goodIn_app (goodIn_of _ (by decide +kernel)) ggX10_alter_X10_finds
set_option maxRecDepth 20000 in
theorem ggX10_its_X10_isThing : GoodIn wsX10_its wsX10_isThing := goodIn_r _ [7, 8, 9, 10, 11, 6, 12, 19, 20, 21, 22, 23, 24, 25, 26, 27, 28, 29, 30, 31, 32, 33, 34, 35, 36, 37, 38, 39, 40, 41, 42, 43, 44, 45, 46, 47, 48, 49, 50, 51, 52, 53, 54] (by decide +kernel) (by decide +kernel)
set_option maxRecDepth 20000 in
theorem gX10_its_X10_isThing : GoodIn wsX10_its (wsV RX10 122 RX10 yX10_isThing wsX10_isThing) := goodIn_app (goodIn_of _ (by decide +kernel)) ggX10_its_X10_isThing
set_option maxRecDepth 20000 in
theorem ggX10_its_X10_in : GoodIn wsX10_its wsX10_in := goodIn_r _ [12] (by decide +kernel) (by decide +kernel)
set_option maxRecDepth 20000 in
theorem gX10_its_X10_in : GoodIn wsX10_its (va_wsS RX10 57 yX10_in wsX10_in) := goodIn_app (goodIn_of _ (by decide +kernel)) ggX10_its_X10_in
set_option maxRecDepth 20000 in
theorem ggX10_its_X10_finds : GoodIn wsX10_its wsX10_finds := goodIn_r _ [16, 17, 18, 19, 20, 21, 22, 23, 24, 25, 26, 27, 28, 29, 30, 31, 32, 33, 34, 35, 36, 37, 38, 39, 40, 41, 42, 43, 44, 45, 46, 47, 48, 49, 50, 51, 52, 53, 54] (by decide +kernel) (by decide +kernel)
set_option maxRecDepth 20000 in
theorem gX10_its_X10_finds : GoodIn wsX10_its (wsV RX10 81 RX10 yX10_finds wsX10_finds) := goodIn_app (goodIn_of _ (by decide +kernel)) ggX10_its_X10_finds
set_option maxRecDepth 20000 in
theorem ggX10_lowest_X10_common : GoodIn wsX10_lowest wsX10_common := goodIn_r _ [4] (by decide +kernel) (by decide +kernel)
set_option maxRecDepth 20000 in
theorem gX10_lowest_X10_common : GoodIn wsX10_lowest (va_wsS RX10 125 yX10_common wsX10_common) := goodIn_app (goodIn_of _ (by decide +kernel)) ggX10_lowest_X10_common
set_option maxRecDepth 20000 in
theorem ggX10_openWays_X10_at : GoodIn wsX10_openWays wsX10_at := goodIn_r _ [6, 7, 8, 9, 10, 11, 12, 13, 14, 15, 16, 17, 18, 19, 20, 21, 22, 23, 24, 25, 26, 27, 28, 29, 30, 31, 32, 33, 34, 35, 36, 37, 38, 39, 40, 41, 42, 43] (by decide +kernel) (by decide +kernel)
set_option maxRecDepth 20000 in
theorem gX10_openWays_X10_at : GoodIn wsX10_openWays (wsV RX10 70 RX10 yX10_at wsX10_at) := goodIn_app (goodIn_of _ (by decide +kernel)) ggX10_openWays_X10_at
set_option maxRecDepth 20000 in
theorem ggX10_goesRound_X10_at : GoodIn wsX10_goesRound wsX10_at := goodIn_r _ [7, 8, 30, 31, 32, 33, 34, 35, 36, 37, 38, 39, 40, 41, 42, 43, 44, 45, 46, 47, 48, 49, 50, 51, 52, 53, 54, 55, 56, 57, 58, 59, 60, 61, 62, 63, 64, 65] (by decide +kernel) (by decide +kernel)
set_option maxRecDepth 20000 in
theorem gX10_goesRound_X10_at : GoodIn wsX10_goesRound (wsV RX10 70 RX10 yX10_at wsX10_at) := goodIn_app (goodIn_of _ (by decide +kernel)) ggX10_goesRound_X10_at
set_option maxRecDepth 20000 in
theorem ggX10_goesRound_X10_brings : GoodIn wsX10_goesRound wsX10_brings := goodIn_r _ [12, 13, 3, 4, 5, 6, 7, 8, 30, 31, 32, 33, 34, 35, 36, 37, 38, 39, 40, 41, 42, 43, 44, 45, 46, 47, 48, 49, 50, 51, 52, 53, 54, 55, 56, 57, 58, 59, 60, 61, 62, 63, 64, 65] (by decide +kernel) (by decide +kernel)
set_option maxRecDepth 20000 in
theorem gX10_goesRound_X10_brings : GoodIn wsX10_goesRound (wsV RX10 107 RX10 yX10_brings wsX10_brings) := goodIn_app (goodIn_of _ (by decide +kernel)) ggX10_goesRound_X10_brings
set_option maxRecDepth 20000 in
theorem ggX10_goesRound_X10_lasts : GoodIn wsX10_goesRound wsX10_lasts := goodIn_r _ [17, 13, 3, 4, 5, 6, 7, 8, 30, 31, 32, 33, 34, 35, 36, 37, 38, 39, 40, 41, 42, 43, 44, 45, 46, 47, 48, 49, 50, 51, 52, 53, 54, 55, 56, 57, 58, 59, 60, 61, 62, 63, 64, 65] (by decide +kernel) (by decide +kernel)
set_option maxRecDepth 20000 in
theorem gX10_goesRound_X10_lasts : GoodIn wsX10_goesRound (wsV RX10 110 RX10 yX10_lasts wsX10_lasts) := goodIn_app (goodIn_of _ (by decide +kernel)) ggX10_goesRound_X10_lasts
set_option maxRecDepth 20000 in
theorem ggX10_goesRound_X10_closes : GoodIn wsX10_goesRound wsX10_closes := goodIn_r _ [21, 22, 23, 24, 25, 26, 30, 31, 32, 33, 34, 35, 36, 37, 38, 39, 40, 41, 42, 43, 44, 45, 46, 47, 48, 49, 50, 51, 52, 53, 54, 55, 56, 57, 58, 59, 60, 61, 62, 63, 64, 65] (by decide +kernel) (by decide +kernel)
set_option maxRecDepth 20000 in
theorem gX10_goesRound_X10_closes : GoodIn wsX10_goesRound (wsV RX10 149 RX10 yX10_closes wsX10_closes) := goodIn_app (goodIn_of _ (by decide +kernel)) ggX10_goesRound_X10_closes
set_option maxRecDepth 20000 in
theorem ggX10_goesRound_X10_goesRound : GoodIn wsX10_goesRound wsX10_goesRound := goodIn_r _ [0, 1, 2, 3, 4, 5, 6, 7, 8, 9, 10, 11, 12, 13, 14, 15, 16, 17, 18, 19, 20, 21, 22, 23, 24, 25, 26, 27, 28, 29, 30, 31, 32, 33, 34, 35, 36, 37, 38, 39, 40, 41, 42, 43, 44, 45, 46, 47, 48, 49, 50, 51, 52, 53, 54, 55, 56, 57, 58, 59, 60, 61, 62, 63, 64, 65] (by decide +kernel) (by decide +kernel)
set_option maxRecDepth 20000 in
theorem gX10_goesRound_X10_goesRound : GoodIn wsX10_goesRound (wsV RX10 153 RX10 yX10_goesRound wsX10_goesRound) := goodIn_app (goodIn_of _ (by decide +kernel)) ggX10_goesRound_X10_goesRound
set_option maxRecDepth 20000 in
theorem ggX10_rings_X10_goesRound : GoodIn wsX10_rings wsX10_goesRound := goodIn_r _ [10, 11, 1, 12, 13, 14, 9, 15, 16, 17, 18, 19, 20, 21, 22, 23, 24, 25, 26, 27, 28, 29, 2, 3, 30, 31, 4, 6, 7, 8, 32, 33, 34, 35, 36, 37, 38, 39, 40, 41, 42, 43, 44, 45, 46, 47, 48, 49, 50, 51, 52, 53, 54, 55, 56, 57, 58, 59, 60, 61, 62, 63, 64, 65, 66, 67] (by decide +kernel) (by decide +kernel)
set_option maxRecDepth 20000 in
theorem gX10_rings_X10_goesRound : GoodIn wsX10_rings (wsV RX10 153 RX10 yX10_goesRound wsX10_goesRound) := goodIn_app (goodIn_of _ (by decide +kernel)) ggX10_rings_X10_goesRound
set_option maxRecDepth 20000 in
theorem ggX10_ringsNow_X10_openWays : GoodIn wsX10_ringsNow wsX10_openWays := goodIn_r _ [5, 6, 7, 8, 9, 4, 10, 11, 40, 41, 42, 43, 44, 45, 46, 47, 48, 49, 50, 51, 52, 53, 54, 55, 56, 57, 58, 59, 60, 61, 62, 63, 64, 65, 66, 67, 68, 69, 70, 71, 72, 73, 74, 75] (by decide +kernel) (by decide +kernel)
set_option maxRecDepth 20000 in
theorem gX10_ringsNow_X10_openWays : GoodIn wsX10_ringsNow (wsV RX10 157 RX10 yX10_openWays wsX10_openWays) := goodIn_app (goodIn_of _ (by decide +kernel)) ggX10_ringsNow_X10_openWays
set_option maxRecDepth 20000 in
theorem ggX10_ringsNow_X10_rings : GoodIn wsX10_ringsNow wsX10_rings := goodIn_r _ [15, 16, 17, 18, 19, 20, 21, 22, 23, 4, 24, 6, 7, 8, 9, 10, 11, 25, 26, 27, 28, 29, 30, 31, 32, 33, 34, 35, 36, 37, 38, 39, 40, 41, 42, 43, 44, 45, 46, 47, 48, 49, 50, 51, 52, 53, 54, 55, 56, 57, 58, 59, 60, 61, 62, 63, 64, 65, 66, 67, 68, 69, 70, 71, 72, 73, 74, 75] (by decide +kernel) (by decide +kernel)
set_option maxRecDepth 20000 in
theorem gX10_ringsNow_X10_rings : GoodIn wsX10_ringsNow (wsV RX10 161 RX10 yX10_rings wsX10_rings) := goodIn_app (goodIn_of _ (by decide +kernel)) ggX10_ringsNow_X10_rings
set_option maxRecDepth 20000 in
theorem ggX10_ring_X10_in : GoodIn wsX10_ring wsX10_in := goodIn_r _ [6] (by decide +kernel) (by decide +kernel)
set_option maxRecDepth 20000 in
theorem gX10_ring_X10_in : GoodIn wsX10_ring (va_wsS RX10 57 yX10_in wsX10_in) := goodIn_app (goodIn_of _ (by decide +kernel)) ggX10_ring_X10_in
set_option maxRecDepth 20000 in
theorem ggX10_ring_X10_farFinds : GoodIn wsX10_ring wsX10_farFinds := goodIn_r _ [10, 11, 12, 59, 60, 61, 62, 63, 64, 65, 66, 67, 68, 69, 70, 71, 72, 73, 74, 75, 76, 77, 78, 79, 80, 81, 82, 83, 84, 85, 86, 87, 88, 89, 90, 91, 92, 93, 94] (by decide +kernel) (by decide +kernel)
set_option maxRecDepth 20000 in
theorem gX10_ring_X10_farFinds : GoodIn wsX10_ring (wsV RX10 165 RX10 yX10_farFinds wsX10_farFinds) := goodIn_app (goodIn_of _ (by decide +kernel)) ggX10_ring_X10_farFinds
set_option maxRecDepth 20000 in
theorem ggX10_ring_X10_ringsNow : GoodIn wsX10_ring wsX10_ringsNow := goodIn_r _ [16, 17, 18, 19, 5, 20, 21, 22, 23, 24, 25, 26, 27, 28, 29, 30, 31, 32, 33, 34, 35, 36, 37, 38, 39, 40, 41, 42, 43, 44, 45, 46, 47, 48, 49, 50, 51, 52, 2, 1, 59, 60, 61, 62, 63, 64, 65, 66, 67, 68, 69, 70, 71, 72, 73, 74, 75, 76, 77, 78, 79, 80, 81, 82, 83, 84, 85, 86, 87, 88, 89, 90, 91, 92, 93, 94] (by decide +kernel) (by decide +kernel)
set_option maxRecDepth 20000 in
theorem gX10_ring_X10_ringsNow : GoodIn wsX10_ring (wsV RX10 169 RX10 yX10_ringsNow wsX10_ringsNow) := goodIn_app (goodIn_of _ (by decide +kernel)) ggX10_ring_X10_ringsNow
set_option maxRecDepth 20000 in
theorem ggX10_ring_X10_lowest : GoodIn wsX10_ring wsX10_lowest := goodIn_r _ [55, 56, 57, 5, 58] (by decide +kernel) (by decide +kernel)
set_option maxRecDepth 20000 in
theorem gX10_ring_X10_lowest : GoodIn wsX10_ring (va_wsS RX10 173 yX10_lowest wsX10_lowest) := goodIn_app (goodIn_of _ (by decide +kernel)) ggX10_ring_X10_lowest
set_option maxRecDepth 20000 in
theorem ggX10_ringWays_X10_ringsNow : GoodIn wsX10_ringWays wsX10_ringsNow := goodIn_r _ [6, 7, 8, 9, 5, 10, 11, 12, 13, 14, 15, 16, 17, 18, 19, 20, 21, 22, 23, 1, 24, 25, 26, 27, 28, 29, 30, 31, 32, 33, 34, 35, 36, 37, 38, 39, 40, 41, 42, 43, 50, 51, 52, 53, 54, 55, 56, 57, 58, 59, 60, 61, 62, 63, 64, 65, 66, 67, 68, 69, 70, 71, 72, 73, 74, 75, 76, 77, 78, 79, 80, 81, 82, 83, 84, 85] (by decide +kernel) (by decide +kernel)
set_option maxRecDepth 20000 in
theorem gX10_ringWays_X10_ringsNow : GoodIn wsX10_ringWays (wsV RX10 169 RX10 yX10_ringsNow wsX10_ringsNow) := goodIn_app (goodIn_of _ (by decide +kernel)) ggX10_ringWays_X10_ringsNow
set_option maxRecDepth 20000 in
theorem ggX10_ringWays_X10_finds : GoodIn wsX10_ringWays wsX10_finds := goodIn_r _ [47, 48, 49, 50, 51, 52, 53, 54, 55, 56, 57, 58, 59, 60, 61, 62, 63, 64, 65, 66, 67, 68, 69, 70, 71, 72, 73, 74, 75, 76, 77, 78, 79, 80, 81, 82, 83, 84, 85] (by decide +kernel) (by decide +kernel)
set_option maxRecDepth 20000 in
theorem gX10_ringWays_X10_finds : GoodIn wsX10_ringWays (wsV RX10 81 RX10 yX10_finds wsX10_finds) := goodIn_app (goodIn_of _ (by decide +kernel)) ggX10_ringWays_X10_finds
set_option maxRecDepth 20000 in
theorem ggX10_lifts_X10_at : GoodIn wsX10_lifts wsX10_at := goodIn_r _ [8, 9, 19, 20, 21, 22, 23, 24, 25, 26, 27, 28, 29, 30, 31, 32, 33, 34, 35, 36, 37, 38, 39, 40, 41, 42, 43, 44, 45, 46, 47, 48, 49, 50, 51, 52, 53, 54] (by decide +kernel) (by decide +kernel)
set_option maxRecDepth 20000 in
theorem gX10_lifts_X10_at : GoodIn wsX10_lifts (wsV RX10 70 RX10 yX10_at wsX10_at) := goodIn_app (goodIn_of _ (by decide +kernel)) ggX10_lifts_X10_at
set_option maxRecDepth 20000 in
theorem ggX10_lifts_X10_brings : GoodIn wsX10_lifts wsX10_brings := goodIn_r _ [13, 14, 4, 5, 6, 7, 8, 9, 19, 20, 21, 22, 23, 24, 25, 26, 27, 28, 29, 30, 31, 32, 33, 34, 35, 36, 37, 38, 39, 40, 41, 42, 43, 44, 45, 46, 47, 48, 49, 50, 51, 52, 53, 54] (by decide +kernel) (by decide +kernel)
set_option maxRecDepth 20000 in
theorem gX10_lifts_X10_brings : GoodIn wsX10_lifts (wsV RX10 107 RX10 yX10_brings wsX10_brings) := goodIn_app (goodIn_of _ (by decide +kernel)) ggX10_lifts_X10_brings
set_option maxRecDepth 20000 in
theorem ggX10_lifts_X10_lasts : GoodIn wsX10_lifts wsX10_lasts := goodIn_r _ [18, 14, 4, 5, 6, 7, 8, 9, 19, 20, 21, 22, 23, 24, 25, 26, 27, 28, 29, 30, 31, 32, 33, 34, 35, 36, 37, 38, 39, 40, 41, 42, 43, 44, 45, 46, 47, 48, 49, 50, 51, 52, 53, 54] (by decide +kernel) (by decide +kernel)
set_option maxRecDepth 20000 in
theorem gX10_lifts_X10_lasts : GoodIn wsX10_lifts (wsV RX10 110 RX10 yX10_lasts wsX10_lasts) := goodIn_app (goodIn_of _ (by decide +kernel)) ggX10_lifts_X10_lasts
set_option maxRecDepth 20000 in
theorem ggX10_lift_X10_isPlace : GoodIn wsX10_lift wsX10_isPlace := goodIn_r _ [10, 3, 11, 12, 9, 13, 69, 70, 71, 72, 73, 74, 75, 76, 77, 78, 79, 80, 81, 82, 83, 84, 85, 86, 87, 88, 89, 90, 91, 92, 93, 94, 95, 96, 97, 98, 99, 100, 101, 102, 103, 104] (by decide +kernel) (by decide +kernel)
set_option maxRecDepth 20000 in
theorem gX10_lift_X10_isPlace : GoodIn wsX10_lift (wsV RX10 87 RX10 yX10_isPlace wsX10_isPlace) := goodIn_app (goodIn_of _ (by decide +kernel)) ggX10_lift_X10_isPlace
set_option maxRecDepth 20000 in
theorem ggX10_lift_X10_farFinds : GoodIn wsX10_lift wsX10_farFinds := goodIn_r _ [17, 18, 19, 69, 70, 71, 72, 73, 74, 75, 76, 77, 78, 79, 80, 81, 82, 83, 84, 85, 86, 87, 88, 89, 90, 91, 92, 93, 94, 95, 96, 97, 98, 99, 100, 101, 102, 103, 104] (by decide +kernel) (by decide +kernel)
set_option maxRecDepth 20000 in
theorem gX10_lift_X10_farFinds : GoodIn wsX10_lift (wsV RX10 165 RX10 yX10_farFinds wsX10_farFinds) := goodIn_app (goodIn_of _ (by decide +kernel)) ggX10_lift_X10_farFinds
set_option maxRecDepth 20000 in
theorem ggX10_lift_X10_ringsNow : GoodIn wsX10_lift wsX10_ringsNow := goodIn_r _ [23, 24, 25, 26, 9, 27, 28, 29, 30, 31, 32, 33, 34, 35, 36, 37, 38, 39, 40, 41, 3, 42, 43, 44, 45, 46, 47, 48, 49, 50, 51, 52, 53, 54, 55, 56, 57, 58, 2, 1, 69, 70, 71, 72, 73, 74, 75, 76, 77, 78, 79, 80, 81, 82, 83, 84, 85, 86, 87, 88, 89, 90, 91, 92, 93, 94, 95, 96, 97, 98, 99, 100, 101, 102, 103, 104] (by decide +kernel) (by decide +kernel)
set_option maxRecDepth 20000 in
theorem gX10_lift_X10_ringsNow : GoodIn wsX10_lift (wsV RX10 169 RX10 yX10_ringsNow wsX10_ringsNow) := goodIn_app (goodIn_of _ (by decide +kernel)) ggX10_lift_X10_ringsNow
set_option maxRecDepth 20000 in
theorem ggX10_lift_X10_lowest : GoodIn wsX10_lift wsX10_lowest := goodIn_r _ [61, 62, 63, 9, 64] (by decide +kernel) (by decide +kernel)
set_option maxRecDepth 20000 in
theorem gX10_lift_X10_lowest : GoodIn wsX10_lift (va_wsS RX10 173 yX10_lowest wsX10_lowest) := goodIn_app (goodIn_of _ (by decide +kernel)) ggX10_lift_X10_lowest
set_option maxRecDepth 20000 in
theorem ggX10_lift_X10_lifts : GoodIn wsX10_lift wsX10_lifts := goodIn_r _ [68, 28, 4, 5, 29, 30, 31, 9, 32, 33, 46, 47, 48, 49, 50, 51, 52, 53, 54, 69, 70, 71, 72, 73, 74, 75, 76, 77, 78, 79, 80, 81, 82, 83, 84, 85, 86, 87, 88, 89, 90, 91, 92, 93, 94, 95, 96, 97, 98, 99, 100, 101, 102, 103, 104] (by decide +kernel) (by decide +kernel)
set_option maxRecDepth 20000 in
theorem gX10_lift_X10_lifts : GoodIn wsX10_lift (wsV RX10 179 RX10 yX10_lifts wsX10_lifts) := goodIn_app (goodIn_of _ (by decide +kernel)) ggX10_lift_X10_lifts
set_option maxRecDepth 20000 in
theorem ggX10_worth_X10_ringsNow : GoodIn wsX10_worth wsX10_ringsNow := goodIn_r _ [9, 10, 11, 12, 8, 13, 14, 15, 16, 17, 18, 19, 20, 21, 22, 23, 24, 25, 26, 27, 28, 29, 30, 31, 32, 33, 34, 35, 36, 37, 38, 39, 40, 41, 42, 43, 44, 45, 3, 2, 64, 65, 66, 67, 68, 69, 70, 71, 72, 73, 74, 75, 76, 77, 78, 79, 80, 81, 82, 83, 84, 85, 86, 87, 88, 89, 90, 91, 92, 93, 94, 95, 96, 97, 98, 99] (by decide +kernel) (by decide +kernel)
set_option maxRecDepth 20000 in
theorem gX10_worth_X10_ringsNow : GoodIn wsX10_worth (wsV RX10 169 RX10 yX10_ringsNow wsX10_ringsNow) := goodIn_app (goodIn_of _ (by decide +kernel)) ggX10_worth_X10_ringsNow
set_option maxRecDepth 20000 in
theorem ggX10_worth_X10_farFinds : GoodIn wsX10_worth wsX10_farFinds := goodIn_r _ [49, 50, 51, 64, 65, 66, 67, 68, 69, 70, 71, 72, 73, 74, 75, 76, 77, 78, 79, 80, 81, 82, 83, 84, 85, 86, 87, 88, 89, 90, 91, 92, 93, 94, 95, 96, 97, 98, 99] (by decide +kernel) (by decide +kernel)
set_option maxRecDepth 20000 in
theorem gX10_worth_X10_farFinds : GoodIn wsX10_worth (wsV RX10 165 RX10 yX10_farFinds wsX10_farFinds) := goodIn_app (goodIn_of _ (by decide +kernel)) ggX10_worth_X10_farFinds
set_option maxRecDepth 20000 in
theorem ggX10_worth_X10_lowest : GoodIn wsX10_worth wsX10_lowest := goodIn_r _ [54, 55, 56, 8, 57] (by decide +kernel) (by decide +kernel)
set_option maxRecDepth 20000 in
theorem gX10_worth_X10_lowest : GoodIn wsX10_worth (va_wsS RX10 173 yX10_lowest wsX10_lowest) := goodIn_app (goodIn_of _ (by decide +kernel)) ggX10_worth_X10_lowest
set_option maxRecDepth 20000 in
theorem ggX10_worth_X10_product : GoodIn wsX10_worth wsX10_product := goodIn_r _ [61, 1, 62, 63, 64, 65, 66, 67, 68, 69, 70, 71, 72, 73, 74, 75, 76, 77, 78, 79, 80, 81, 82, 83, 84, 85, 86, 87, 88, 89, 90, 91, 92, 93, 94, 95, 96, 97, 98, 99] (by decide +kernel) (by decide +kernel)
set_option maxRecDepth 20000 in
theorem gX10_worth_X10_product : GoodIn wsX10_worth (wsV RX10 186 RX10 yX10_product wsX10_product) := goodIn_app (goodIn_of _ (by decide +kernel)) ggX10_worth_X10_product
set_option maxRecDepth 20000 in
theorem ggX10_isRaised_X10_rings : GoodIn wsX10_isRaised wsX10_rings := goodIn_r _ [8, 9, 10, 11, 12, 13, 14, 15, 16, 7, 17, 18, 19, 20, 21, 22, 1, 23, 24, 25, 26, 27, 28, 29, 30, 31, 32, 33, 34, 35, 3, 2, 36, 37, 38, 39, 40, 41, 42, 43, 44, 45, 46, 47, 48, 49, 50, 51, 52, 53, 54, 55, 56, 57, 58, 59, 60, 61, 62, 63, 64, 65, 66, 67, 68, 69, 70, 71] (by decide +kernel) (by decide +kernel)
set_option maxRecDepth 20000 in
theorem gX10_isRaised_X10_rings : GoodIn wsX10_isRaised (wsV RX10 161 RX10 yX10_rings wsX10_rings) := goodIn_app (goodIn_of _ (by decide +kernel)) ggX10_isRaised_X10_rings
set_option maxRecDepth 20000 in
theorem ggX10_raised_X10_openWays : GoodIn wsX10_raised wsX10_openWays := goodIn_r _ [9, 10, 11, 12, 13, 8, 14, 15, 52, 53, 54, 55, 56, 57, 58, 59, 60, 61, 62, 63, 64, 65, 66, 67, 68, 69, 70, 71, 72, 73, 74, 75, 76, 77, 78, 79, 80, 81, 82, 83, 84, 85, 86, 87] (by decide +kernel) (by decide +kernel)
set_option maxRecDepth 20000 in
theorem gX10_raised_X10_openWays : GoodIn wsX10_raised (wsV RX10 157 RX10 yX10_openWays wsX10_openWays) := goodIn_app (goodIn_of _ (by decide +kernel)) ggX10_raised_X10_openWays
set_option maxRecDepth 20000 in
theorem ggX10_raised_X10_rings : GoodIn wsX10_raised wsX10_rings := goodIn_r _ [19, 20, 21, 22, 23, 24, 25, 26, 27, 8, 28, 10, 11, 12, 13, 14, 15, 29, 30, 31, 32, 33, 34, 35, 36, 37, 38, 39, 40, 41, 3, 2, 52, 53, 54, 55, 56, 57, 58, 59, 60, 61, 62, 63, 64, 65, 66, 67, 68, 69, 70, 71, 72, 73, 74, 75, 76, 77, 78, 79, 80, 81, 82, 83, 84, 85, 86, 87] (by decide +kernel) (by decide +kernel)
set_option maxRecDepth 20000 in
theorem gX10_raised_X10_rings : GoodIn wsX10_raised (wsV RX10 161 RX10 yX10_rings wsX10_rings) := goodIn_app (goodIn_of _ (by decide +kernel)) ggX10_raised_X10_rings
set_option maxRecDepth 20000 in
theorem ggX10_raised_X10_finds : GoodIn wsX10_raised wsX10_finds := goodIn_r _ [45, 46, 47, 52, 53, 54, 55, 56, 57, 58, 59, 60, 61, 62, 63, 64, 65, 66, 67, 68, 69, 70, 71, 72, 73, 74, 75, 76, 77, 78, 79, 80, 81, 82, 83, 84, 85, 86, 87] (by decide +kernel) (by decide +kernel)
set_option maxRecDepth 20000 in
theorem gX10_raised_X10_finds : GoodIn wsX10_raised (wsV RX10 81 RX10 yX10_finds wsX10_finds) := goodIn_app (goodIn_of _ (by decide +kernel)) ggX10_raised_X10_finds
set_option maxRecDepth 20000 in
theorem ggX10_raised_X10_isRaised : GoodIn wsX10_raised wsX10_isRaised := goodIn_r _ [51, 15, 2, 3, 16, 17, 18, 8, 19, 20, 21, 22, 23, 24, 25, 26, 27, 28, 10, 11, 12, 13, 14, 29, 30, 31, 32, 33, 34, 35, 36, 37, 38, 39, 40, 41, 52, 53, 54, 55, 56, 57, 58, 59, 60, 61, 62, 63, 64, 65, 66, 67, 68, 69, 70, 71, 72, 73, 74, 75, 76, 77, 78, 79, 80, 81, 82, 83, 84, 85, 86, 87] (by decide +kernel) (by decide +kernel)
set_option maxRecDepth 20000 in
theorem gX10_raised_X10_isRaised : GoodIn wsX10_raised (wsV RX10 193 RX10 yX10_isRaised wsX10_isRaised) := goodIn_app (goodIn_of _ (by decide +kernel)) ggX10_raised_X10_isRaised
set_option maxRecDepth 20000 in
theorem ggX10_raise_X10_isWay : GoodIn wsX10_raise wsX10_isWay := goodIn_r _ [6, 7, 8, 9, 5, 10, 63, 64, 65, 66, 67, 68, 69, 70, 71, 72, 73, 74, 75, 76, 77, 78, 79, 80, 81, 82, 83, 84, 85, 86, 87, 88, 89, 90, 91, 92, 93, 94, 95, 96, 97, 98] (by decide +kernel) (by decide +kernel)
set_option maxRecDepth 20000 in
theorem gX10_raise_X10_isWay : GoodIn wsX10_raise (wsV RX10 102 RX10 yX10_isWay wsX10_isWay) := goodIn_app (goodIn_of _ (by decide +kernel)) ggX10_raise_X10_isWay
set_option maxRecDepth 20000 in
theorem ggX10_raise_X10_finds : GoodIn wsX10_raise wsX10_finds := goodIn_r _ [14, 15, 16, 63, 64, 65, 66, 67, 68, 69, 70, 71, 72, 73, 74, 75, 76, 77, 78, 79, 80, 81, 82, 83, 84, 85, 86, 87, 88, 89, 90, 91, 92, 93, 94, 95, 96, 97, 98] (by decide +kernel) (by decide +kernel)
set_option maxRecDepth 20000 in
theorem gX10_raise_X10_finds : GoodIn wsX10_raise (wsV RX10 81 RX10 yX10_finds wsX10_finds) := goodIn_app (goodIn_of _ (by decide +kernel)) ggX10_raise_X10_finds
set_option maxRecDepth 20000 in
theorem ggX10_raise_X10_at : GoodIn wsX10_raise wsX10_at := goodIn_r _ [20, 1, 63, 64, 65, 66, 67, 68, 69, 70, 71, 72, 73, 74, 75, 76, 77, 78, 79, 80, 81, 82, 83, 84, 85, 86, 87, 88, 89, 90, 91, 92, 93, 94, 95, 96, 97, 98] (by decide +kernel) (by decide +kernel)
set_option maxRecDepth 20000 in
theorem gX10_raise_X10_at : GoodIn wsX10_raise (wsV RX10 70 RX10 yX10_at wsX10_at) := goodIn_app (goodIn_of _ (by decide +kernel)) ggX10_raise_X10_at
set_option maxRecDepth 20000 in
theorem ggX10_raise_X10_raised : GoodIn wsX10_raise wsX10_raised := goodIn_r _ [24, 25, 26, 27, 28, 29, 30, 31, 5, 32, 7, 17, 18, 19, 20, 1, 33, 34, 35, 36, 37, 38, 39, 40, 41, 42, 43, 44, 45, 46, 47, 48, 49, 50, 51, 52, 53, 54, 55, 56, 57, 58, 11, 12, 13, 14, 15, 16, 59, 60, 61, 62, 63, 64, 65, 66, 67, 68, 69, 70, 71, 72, 73, 74, 75, 76, 77, 78, 79, 80, 81, 82, 83, 84, 85, 86, 87, 88, 89, 90, 91, 92, 93, 94, 95, 96, 97, 98] (by decide +kernel) (by decide +kernel)
set_option maxRecDepth 20000 in
theorem gX10_raise_X10_raised : GoodIn wsX10_raise (wsV RX10 197 RX10 yX10_raised wsX10_raised) := goodIn_app (goodIn_of _ (by decide +kernel)) ggX10_raise_X10_raised
set_option maxRecDepth 20000 in
theorem ggX10_lose_X10_ringsNow : GoodIn wsX10_lose wsX10_ringsNow := goodIn_r _ [8, 9, 10, 11, 7, 12, 1, 13, 14, 15, 16, 17, 18, 19, 20, 21, 22, 23, 24, 25, 26, 27, 28, 29, 30, 31, 32, 33, 34, 35, 36, 37, 38, 39, 40, 41, 42, 43, 3, 2, 50, 51, 52, 53, 54, 55, 56, 57, 58, 59, 60, 61, 62, 63, 64, 65, 66, 67, 68, 69, 70, 71, 72, 73, 74, 75, 76, 77, 78, 79, 80, 81, 82, 83, 84, 85] (by decide +kernel) (by decide +kernel)
set_option maxRecDepth 20000 in
theorem gX10_lose_X10_ringsNow : GoodIn wsX10_lose (wsV RX10 169 RX10 yX10_ringsNow wsX10_ringsNow) := goodIn_app (goodIn_of _ (by decide +kernel)) ggX10_lose_X10_ringsNow
set_option maxRecDepth 20000 in
theorem ggX10_lose_X10_finds : GoodIn wsX10_lose wsX10_finds := goodIn_r _ [47, 48, 49, 50, 51, 52, 53, 54, 55, 56, 57, 58, 59, 60, 61, 62, 63, 64, 65, 66, 67, 68, 69, 70, 71, 72, 73, 74, 75, 76, 77, 78, 79, 80, 81, 82, 83, 84, 85] (by decide +kernel) (by decide +kernel)
set_option maxRecDepth 20000 in
theorem gX10_lose_X10_finds : GoodIn wsX10_lose (wsV RX10 81 RX10 yX10_finds wsX10_finds) := goodIn_app (goodIn_of _ (by decide +kernel)) ggX10_lose_X10_finds
set_option maxRecDepth 20000 in
theorem ggX10_lose_X10_openWays : GoodIn wsX10_lose wsX10_openWays := goodIn_r _ [12, 1, 13, 14, 15, 7, 16, 17, 50, 51, 52, 53, 54, 55, 56, 57, 58, 59, 60, 61, 62, 63, 64, 65, 66, 67, 68, 69, 70, 71, 72, 73, 74, 75, 76, 77, 78, 79, 80, 81, 82, 83, 84, 85] (by decide +kernel) (by decide +kernel)
set_option maxRecDepth 20000 in
theorem gX10_lose_X10_openWays : GoodIn wsX10_lose (wsV RX10 157 RX10 yX10_openWays wsX10_openWays) := goodIn_app (goodIn_of _ (by decide +kernel)) ggX10_lose_X10_openWays
set_option maxRecDepth 20000 in
theorem ggX10_lose_X10_rings : GoodIn wsX10_lose wsX10_rings := goodIn_r _ [21, 22, 23, 24, 25, 26, 27, 28, 29, 7, 30, 1, 13, 14, 15, 16, 17, 31, 32, 33, 34, 35, 36, 37, 38, 39, 40, 41, 42, 43, 3, 2, 50, 51, 52, 53, 54, 55, 56, 57, 58, 59, 60, 61, 62, 63, 64, 65, 66, 67, 68, 69, 70, 71, 72, 73, 74, 75, 76, 77, 78, 79, 80, 81, 82, 83, 84, 85] (by decide +kernel) (by decide +kernel)
set_option maxRecDepth 20000 in
theorem gX10_lose_X10_rings : GoodIn wsX10_lose (wsV RX10 161 RX10 yX10_rings wsX10_rings) := goodIn_app (goodIn_of _ (by decide +kernel)) ggX10_lose_X10_rings
set_option maxRecDepth 20000 in
theorem ggX10_kind_X10_isWay : GoodIn wsX10_kind wsX10_isWay := goodIn_r _ [8, 9, 10, 11, 7, 12, 57, 58, 59, 60, 61, 62, 63, 64, 65, 66, 67, 68, 69, 70, 71, 72, 73, 74, 75, 76, 77, 78, 79, 80, 81, 82, 83, 84, 85, 86, 87, 88, 89, 90, 91, 92] (by decide +kernel) (by decide +kernel)
set_option maxRecDepth 20000 in
theorem gX10_kind_X10_isWay : GoodIn wsX10_kind (wsV RX10 102 RX10 yX10_isWay wsX10_isWay) := goodIn_app (goodIn_of _ (by decide +kernel)) ggX10_kind_X10_isWay
set_option maxRecDepth 20000 in
theorem ggX10_kind_X10_finds : GoodIn wsX10_kind wsX10_finds := goodIn_r _ [16, 17, 18, 57, 58, 59, 60, 61, 62, 63, 64, 65, 66, 67, 68, 69, 70, 71, 72, 73, 74, 75, 76, 77, 78, 79, 80, 81, 82, 83, 84, 85, 86, 87, 88, 89, 90, 91, 92] (by decide +kernel) (by decide +kernel)
set_option maxRecDepth 20000 in
theorem gX10_kind_X10_finds : GoodIn wsX10_kind (wsV RX10 81 RX10 yX10_finds wsX10_finds) := goodIn_app (goodIn_of _ (by decide +kernel)) ggX10_kind_X10_finds
set_option maxRecDepth 20000 in
theorem ggX10_kind_X10_ringsNow : GoodIn wsX10_kind wsX10_ringsNow := goodIn_r _ [22, 23, 24, 25, 7, 26, 9, 27, 28, 29, 30, 1, 31, 32, 33, 34, 35, 36, 37, 38, 39, 40, 41, 42, 43, 44, 45, 46, 47, 48, 49, 50, 51, 52, 53, 54, 55, 56, 3, 2, 57, 58, 59, 60, 61, 62, 63, 64, 65, 66, 67, 68, 69, 70, 71, 72, 73, 74, 75, 76, 77, 78, 79, 80, 81, 82, 83, 84, 85, 86, 87, 88, 89, 90, 91, 92] (by decide +kernel) (by decide +kernel)
set_option maxRecDepth 20000 in
theorem gX10_kind_X10_ringsNow : GoodIn wsX10_kind (wsV RX10 169 RX10 yX10_ringsNow wsX10_ringsNow) := goodIn_app (goodIn_of _ (by decide +kernel)) ggX10_kind_X10_ringsNow
set_option maxRecDepth 20000 in
theorem ggX10_kind_X10_at : GoodIn wsX10_kind wsX10_at := goodIn_r _ [30, 1, 57, 58, 59, 60, 61, 62, 63, 64, 65, 66, 67, 68, 69, 70, 71, 72, 73, 74, 75, 76, 77, 78, 79, 80, 81, 82, 83, 84, 85, 86, 87, 88, 89, 90, 91, 92] (by decide +kernel) (by decide +kernel)
set_option maxRecDepth 20000 in
theorem gX10_kind_X10_at : GoodIn wsX10_kind (wsV RX10 70 RX10 yX10_at wsX10_at) := goodIn_app (goodIn_of _ (by decide +kernel)) ggX10_kind_X10_at
set_option maxRecDepth 20000 in
theorem ggX10_season_X10_ringsNow : GoodIn wsX10_season wsX10_ringsNow := goodIn_r _ [8, 9, 10, 11, 7, 12, 13, 14, 15, 16, 17, 18, 19, 20, 21, 22, 23, 24, 25, 26, 27, 28, 29, 30, 31, 32, 33, 34, 35, 1, 36, 37, 38, 39, 40, 41, 42, 43, 3, 2, 50, 51, 52, 53, 54, 55, 56, 57, 58, 59, 60, 61, 62, 63, 64, 65, 66, 67, 68, 69, 70, 71, 72, 73, 74, 75, 76, 77, 78, 79, 80, 81, 82, 83, 84, 85] (by decide +kernel) (by decide +kernel)
set_option maxRecDepth 20000 in
theorem gX10_season_X10_ringsNow : GoodIn wsX10_season (wsV RX10 169 RX10 yX10_ringsNow wsX10_ringsNow) := goodIn_app (goodIn_of _ (by decide +kernel)) ggX10_season_X10_ringsNow
set_option maxRecDepth 20000 in
theorem ggX10_season_X10_finds : GoodIn wsX10_season wsX10_finds := goodIn_r _ [47, 48, 49, 50, 51, 52, 53, 54, 55, 56, 57, 58, 59, 60, 61, 62, 63, 64, 65, 66, 67, 68, 69, 70, 71, 72, 73, 74, 75, 76, 77, 78, 79, 80, 81, 82, 83, 84, 85] (by decide +kernel) (by decide +kernel)
set_option maxRecDepth 20000 in
theorem gX10_season_X10_finds : GoodIn wsX10_season (wsV RX10 81 RX10 yX10_finds wsX10_finds) := goodIn_app (goodIn_of _ (by decide +kernel)) ggX10_season_X10_finds
set_option maxRecDepth 20000 in
theorem ggX10_wayFrom_X10_at : GoodIn wsX10_wayFrom wsX10_at := goodIn_r _ [6, 7, 8, 9, 10, 11, 12, 13, 14, 15, 16, 17, 18, 19, 20, 21, 22, 23, 24, 25, 26, 27, 28, 29, 30, 31, 32, 33, 34, 35, 36, 37, 38, 39, 40, 41, 42, 43] (by decide +kernel) (by decide +kernel)
set_option maxRecDepth 20000 in
theorem gX10_wayFrom_X10_at : GoodIn wsX10_wayFrom (wsV RX10 70 RX10 yX10_at wsX10_at) := goodIn_app (goodIn_of _ (by decide +kernel)) ggX10_wayFrom_X10_at
set_option maxRecDepth 20000 in
theorem ggX10_isRound_X10_at : GoodIn wsX10_isRound wsX10_at := goodIn_r _ [5, 6, 12, 13, 14, 15, 16, 17, 18, 19, 20, 21, 22, 23, 24, 25, 26, 27, 28, 29, 30, 31, 32, 33, 34, 35, 36, 37, 38, 39, 40, 41, 42, 43, 44, 45, 46, 47] (by decide +kernel) (by decide +kernel)
set_option maxRecDepth 20000 in
theorem gX10_isRound_X10_at : GoodIn wsX10_isRound (wsV RX10 70 RX10 yX10_at wsX10_at) := goodIn_app (goodIn_of _ (by decide +kernel)) ggX10_isRound_X10_at
set_option maxRecDepth 20000 in
theorem ggX10_isRound_X10_wayFrom : GoodIn wsX10_isRound wsX10_wayFrom := goodIn_r _ [10, 11, 1, 2, 3, 4, 5, 6, 12, 13, 14, 15, 16, 17, 18, 19, 20, 21, 22, 23, 24, 25, 26, 27, 28, 29, 30, 31, 32, 33, 34, 35, 36, 37, 38, 39, 40, 41, 42, 43, 44, 45, 46, 47] (by decide +kernel) (by decide +kernel)
set_option maxRecDepth 20000 in
theorem gX10_isRound_X10_wayFrom : GoodIn wsX10_isRound (wsV RX10 200 RX10 yX10_wayFrom wsX10_wayFrom) := goodIn_app (goodIn_of _ (by decide +kernel)) ggX10_isRound_X10_wayFrom
set_option maxRecDepth 20000 in
theorem ggX10_joinsAll_X10_bits : GoodIn wsX10_joinsAll wsX10_bits := goodIn_r _ [6] (by decide +kernel) (by decide +kernel)
set_option maxRecDepth 20000 in
theorem gX10_joinsAll_X10_bits : GoodIn wsX10_joinsAll (va_wsS RX10 203 yX10_bits wsX10_bits) := goodIn_app (goodIn_of _ (by decide +kernel)) ggX10_joinsAll_X10_bits
set_option maxRecDepth 20000 in
theorem ggX10_joinsAll_X10_at : GoodIn wsX10_joinsAll wsX10_at := goodIn_r _ [10, 11, 12, 13, 14, 15, 16, 17, 18, 19, 20, 21, 22, 23, 24, 25, 26, 27, 28, 29, 30, 31, 32, 33, 34, 35, 36, 37, 38, 39, 40, 41, 42, 43, 44, 45, 46, 47] (by decide +kernel) (by decide +kernel)
set_option maxRecDepth 20000 in
theorem gX10_joinsAll_X10_at : GoodIn wsX10_joinsAll (wsV RX10 70 RX10 yX10_at wsX10_at) := goodIn_app (goodIn_of _ (by decide +kernel)) ggX10_joinsAll_X10_at
set_option maxRecDepth 20000 in
theorem ggX10_rises_X10_wayFrom : GoodIn wsX10_rises wsX10_wayFrom := goodIn_r _ [7, 8, 9, 10, 11, 6, 12, 13, 14, 15, 16, 17, 18, 19, 20, 21, 22, 23, 24, 25, 26, 27, 28, 29, 30, 31, 32, 33, 34, 35, 36, 37, 38, 39, 40, 41, 42, 43, 44, 45, 46, 47, 48, 49] (by decide +kernel) (by decide +kernel)
set_option maxRecDepth 20000 in
theorem gX10_rises_X10_wayFrom : GoodIn wsX10_rises (wsV RX10 200 RX10 yX10_wayFrom wsX10_wayFrom) := goodIn_app (goodIn_of _ (by decide +kernel)) ggX10_rises_X10_wayFrom
set_option maxRecDepth 20000 in
theorem ggX10_rises_X10_at : GoodIn wsX10_rises wsX10_at := goodIn_r _ [12, 13, 14, 15, 16, 17, 18, 19, 20, 21, 22, 23, 24, 25, 26, 27, 28, 29, 30, 31, 32, 33, 34, 35, 36, 37, 38, 39, 40, 41, 42, 43, 44, 45, 46, 47, 48, 49] (by decide +kernel) (by decide +kernel)
set_option maxRecDepth 20000 in
theorem gX10_rises_X10_at : GoodIn wsX10_rises (wsV RX10 70 RX10 yX10_at wsX10_at) := goodIn_app (goodIn_of _ (by decide +kernel)) ggX10_rises_X10_at
set_option maxRecDepth 20000 in
theorem ggX10_isChoice_X10_bits : GoodIn wsX10_isChoice wsX10_bits := goodIn_r _ [6] (by decide +kernel) (by decide +kernel)
set_option maxRecDepth 20000 in
theorem gX10_isChoice_X10_bits : GoodIn wsX10_isChoice (va_wsS RX10 203 yX10_bits wsX10_bits) := goodIn_app (goodIn_of _ (by decide +kernel)) ggX10_isChoice_X10_bits
set_option maxRecDepth 20000 in
theorem ggX10_isChoice_X10_openWays : GoodIn wsX10_isChoice wsX10_openWays := goodIn_r _ [10, 11, 12, 13, 14, 5, 15, 16, 36, 37, 38, 39, 40, 41, 42, 43, 44, 45, 46, 47, 48, 49, 50, 51, 52, 53, 54, 55, 56, 57, 58, 59, 60, 61, 62, 63, 64, 65, 66, 67, 68, 69, 70, 71] (by decide +kernel) (by decide +kernel)
set_option maxRecDepth 20000 in
theorem gX10_isChoice_X10_openWays : GoodIn wsX10_isChoice (wsV RX10 157 RX10 yX10_openWays wsX10_openWays) := goodIn_app (goodIn_of _ (by decide +kernel)) ggX10_isChoice_X10_openWays
set_option maxRecDepth 20000 in
theorem ggX10_isChoice_X10_isRound : GoodIn wsX10_isChoice wsX10_isRound := goodIn_r _ [20, 12, 13, 14, 5, 15, 16, 21, 22, 23, 24, 11, 36, 37, 38, 39, 40, 41, 42, 43, 44, 45, 46, 47, 48, 49, 50, 51, 52, 53, 54, 55, 56, 57, 58, 59, 60, 61, 62, 63, 64, 65, 66, 67, 68, 69, 70, 71] (by decide +kernel) (by decide +kernel)
set_option maxRecDepth 20000 in
theorem gX10_isChoice_X10_isRound : GoodIn wsX10_isChoice (wsV RX10 218 RX10 yX10_isRound wsX10_isRound) := goodIn_app (goodIn_of _ (by decide +kernel)) ggX10_isChoice_X10_isRound
set_option maxRecDepth 20000 in
theorem ggX10_isChoice_X10_joinsAll : GoodIn wsX10_isChoice wsX10_joinsAll := goodIn_r _ [28, 29, 11, 3, 4, 5, 6, 12, 13, 14, 15, 16, 36, 37, 38, 39, 40, 41, 42, 43, 44, 45, 46, 47, 48, 49, 50, 51, 52, 53, 54, 55, 56, 57, 58, 59, 60, 61, 62, 63, 64, 65, 66, 67, 68, 69, 70, 71] (by decide +kernel) (by decide +kernel)
set_option maxRecDepth 20000 in
theorem gX10_isChoice_X10_joinsAll : GoodIn wsX10_isChoice (wsV RX10 221 RX10 yX10_joinsAll wsX10_joinsAll) := goodIn_app (goodIn_of _ (by decide +kernel)) ggX10_isChoice_X10_joinsAll
set_option maxRecDepth 20000 in
theorem ggX10_isChoice_X10_rises : GoodIn wsX10_isChoice wsX10_rises := goodIn_r _ [33, 34, 35, 21, 22, 23, 5, 24, 11, 12, 13, 14, 15, 16, 36, 37, 38, 39, 40, 41, 42, 43, 44, 45, 46, 47, 48, 49, 50, 51, 52, 53, 54, 55, 56, 57, 58, 59, 60, 61, 62, 63, 64, 65, 66, 67, 68, 69, 70, 71] (by decide +kernel) (by decide +kernel)
set_option maxRecDepth 20000 in
theorem gX10_isChoice_X10_rises : GoodIn wsX10_isChoice (wsV RX10 224 RX10 yX10_rises wsX10_rises) := goodIn_app (goodIn_of _ (by decide +kernel)) ggX10_isChoice_X10_rises
set_option maxRecDepth 20000 in
theorem ggX10_aboveOf_X10_brings : GoodIn wsX10_aboveOf wsX10_brings := goodIn_r _ [8, 9, 10, 11, 12, 7, 13, 14, 15, 16, 17, 18, 19, 20, 21, 22, 23, 24, 25, 26, 27, 28, 29, 30, 31, 32, 33, 34, 35, 36, 37, 38, 39, 40, 41, 42, 43, 44, 45, 46, 47, 48, 49, 50] (by decide +kernel) (by decide +kernel)
set_option maxRecDepth 20000 in
theorem gX10_aboveOf_X10_brings : GoodIn wsX10_aboveOf (wsV RX10 107 RX10 yX10_brings wsX10_brings) := goodIn_app (goodIn_of _ (by decide +kernel)) ggX10_aboveOf_X10_brings
set_option maxRecDepth 20000 in
theorem ggX10_belowOf_X10_lasts : GoodIn wsX10_belowOf wsX10_lasts := goodIn_r _ [8, 9, 10, 11, 12, 7, 13, 14, 15, 16, 17, 18, 19, 20, 21, 22, 23, 24, 25, 26, 27, 28, 29, 30, 31, 32, 33, 34, 35, 36, 37, 38, 39, 40, 41, 42, 43, 44, 45, 46, 47, 48, 49, 50] (by decide +kernel) (by decide +kernel)
set_option maxRecDepth 20000 in
theorem gX10_belowOf_X10_lasts : GoodIn wsX10_belowOf (wsV RX10 110 RX10 yX10_lasts wsX10_lasts) := goodIn_app (goodIn_of _ (by decide +kernel)) ggX10_belowOf_X10_lasts
set_option maxRecDepth 20000 in
theorem ggX10_leastChoice_X10_allSets : GoodIn wsX10_leastChoice wsX10_allSets := goodIn_r _ [5, 6, 7, 8, 45, 46, 47, 48, 49, 50, 51, 52, 53, 54, 55, 56, 57, 58, 59, 60, 61, 62, 63, 64, 65, 66, 67, 68, 69, 70, 71, 72, 73, 74, 75, 76, 77, 78, 79, 80] (by decide +kernel) (by decide +kernel)
set_option maxRecDepth 20000 in
theorem gX10_leastChoice_X10_allSets : GoodIn wsX10_leastChoice (wsV RX10 227 RX10 yX10_allSets wsX10_allSets) := goodIn_app (goodIn_of _ (by decide +kernel)) ggX10_leastChoice_X10_allSets
set_option maxRecDepth 20000 in
theorem ggX10_leastChoice_X10_isChoice : GoodIn wsX10_leastChoice wsX10_isChoice := goodIn_r _ [12, 6, 13, 14, 15, 4, 16, 17, 18, 19, 20, 8, 21, 22, 23, 24, 25, 26, 27, 28, 29, 30, 31, 32, 33, 34, 35, 36, 37, 38, 39, 40, 41, 42, 43, 44, 45, 46, 47, 48, 49, 50, 51, 52, 53, 54, 55, 56, 57, 58, 59, 60, 61, 62, 63, 64, 65, 66, 67, 68, 69, 70, 71, 72, 73, 74, 75, 76, 77, 78, 79, 80] (by decide +kernel) (by decide +kernel)
set_option maxRecDepth 20000 in
theorem gX10_leastChoice_X10_isChoice : GoodIn wsX10_leastChoice (wsV RX10 230 RX10 yX10_isChoice wsX10_isChoice) := goodIn_app (goodIn_of _ (by decide +kernel)) ggX10_leastChoice_X10_isChoice
set_option maxRecDepth 20000 in
theorem ggX10_nextChoice_X10_allSets : GoodIn wsX10_nextChoice wsX10_allSets := goodIn_r _ [5, 6, 7, 8, 64, 65, 66, 67, 68, 69, 70, 71, 72, 73, 74, 75, 76, 77, 78, 79, 80, 81, 82, 83, 84, 85, 86, 87, 88, 89, 90, 91, 92, 93, 94, 95, 96, 97, 98, 99] (by decide +kernel) (by decide +kernel)
set_option maxRecDepth 20000 in
theorem gX10_nextChoice_X10_allSets : GoodIn wsX10_nextChoice (wsV RX10 227 RX10 yX10_allSets wsX10_allSets) := goodIn_app (goodIn_of _ (by decide +kernel)) ggX10_nextChoice_X10_allSets
set_option maxRecDepth 20000 in
theorem ggX10_nextChoice_X10_isChoice : GoodIn wsX10_nextChoice wsX10_isChoice := goodIn_r _ [12, 6, 13, 14, 15, 4, 16, 17, 18, 19, 20, 8, 21, 22, 23, 24, 25, 26, 27, 28, 29, 30, 31, 32, 33, 34, 35, 36, 37, 38, 39, 40, 41, 42, 43, 44, 64, 65, 66, 67, 68, 69, 70, 71, 72, 73, 74, 75, 76, 77, 78, 79, 80, 81, 82, 83, 84, 85, 86, 87, 88, 89, 90, 91, 92, 93, 94, 95, 96, 97, 98, 99] (by decide +kernel) (by decide +kernel)
set_option maxRecDepth 20000 in
theorem gX10_nextChoice_X10_isChoice : GoodIn wsX10_nextChoice (wsV RX10 230 RX10 yX10_isChoice wsX10_isChoice) := goodIn_app (goodIn_of _ (by decide +kernel)) ggX10_nextChoice_X10_isChoice
set_option maxRecDepth 20000 in
theorem ggX10_nextChoice_X10_aboveOf : GoodIn wsX10_nextChoice wsX10_aboveOf := goodIn_r _ [48, 6, 49, 50, 51, 52, 53, 4, 54, 55, 21, 22, 23, 24, 25, 64, 65, 66, 67, 68, 69, 70, 71, 72, 73, 74, 75, 76, 77, 78, 79, 80, 81, 82, 83, 84, 85, 86, 87, 88, 89, 90, 91, 92, 93, 94, 95, 96, 97, 98, 99] (by decide +kernel) (by decide +kernel)
set_option maxRecDepth 20000 in
theorem gX10_nextChoice_X10_aboveOf : GoodIn wsX10_nextChoice (wsV RX10 233 RX10 yX10_aboveOf wsX10_aboveOf) := goodIn_app (goodIn_of _ (by decide +kernel)) ggX10_nextChoice_X10_aboveOf
set_option maxRecDepth 20000 in
theorem ggX10_nextChoice_X10_belowOf : GoodIn wsX10_nextChoice wsX10_belowOf := goodIn_r _ [59, 6, 49, 50, 60, 61, 62, 4, 63, 55, 21, 22, 23, 24, 25, 64, 65, 66, 67, 68, 69, 70, 71, 72, 73, 74, 75, 76, 77, 78, 79, 80, 81, 82, 83, 84, 85, 86, 87, 88, 89, 90, 91, 92, 93, 94, 95, 96, 97, 98, 99] (by decide +kernel) (by decide +kernel)
set_option maxRecDepth 20000 in
theorem gX10_nextChoice_X10_belowOf : GoodIn wsX10_nextChoice (wsV RX10 236 RX10 yX10_belowOf wsX10_belowOf) := goodIn_app (goodIn_of _ (by decide +kernel)) ggX10_nextChoice_X10_belowOf
set_option maxRecDepth 20000 in
theorem ggX10_leastLike_X10_isChoice : GoodIn wsX10_leastLike wsX10_isChoice := goodIn_r _ [5, 6, 7, 8, 9, 4, 10, 11, 12, 13, 14, 15, 16, 17, 18, 19, 20, 21, 22, 23, 24, 25, 26, 27, 28, 29, 30, 31, 32, 33, 34, 35, 36, 37, 38, 39, 59, 60, 61, 62, 63, 64, 65, 66, 67, 68, 69, 70, 71, 72, 73, 74, 75, 76, 77, 78, 79, 80, 81, 82, 83, 84, 85, 86, 87, 88, 89, 90, 91, 92, 93, 94] (by decide +kernel) (by decide +kernel)
set_option maxRecDepth 20000 in
theorem gX10_leastLike_X10_isChoice : GoodIn wsX10_leastLike (wsV RX10 230 RX10 yX10_isChoice wsX10_isChoice) := goodIn_app (goodIn_of _ (by decide +kernel)) ggX10_leastLike_X10_isChoice
set_option maxRecDepth 20000 in
theorem ggX10_leastLike_X10_aboveOf : GoodIn wsX10_leastLike wsX10_aboveOf := goodIn_r _ [43, 6, 44, 45, 46, 47, 48, 4, 49, 50, 16, 17, 18, 19, 20, 59, 60, 61, 62, 63, 64, 65, 66, 67, 68, 69, 70, 71, 72, 73, 74, 75, 76, 77, 78, 79, 80, 81, 82, 83, 84, 85, 86, 87, 88, 89, 90, 91, 92, 93, 94] (by decide +kernel) (by decide +kernel)
set_option maxRecDepth 20000 in
theorem gX10_leastLike_X10_aboveOf : GoodIn wsX10_leastLike (wsV RX10 233 RX10 yX10_aboveOf wsX10_aboveOf) := goodIn_app (goodIn_of _ (by decide +kernel)) ggX10_leastLike_X10_aboveOf
set_option maxRecDepth 20000 in
theorem ggX10_leastLike_X10_belowOf : GoodIn wsX10_leastLike wsX10_belowOf := goodIn_r _ [54, 6, 44, 45, 55, 56, 57, 4, 58, 50, 16, 17, 18, 19, 20, 59, 60, 61, 62, 63, 64, 65, 66, 67, 68, 69, 70, 71, 72, 73, 74, 75, 76, 77, 78, 79, 80, 81, 82, 83, 84, 85, 86, 87, 88, 89, 90, 91, 92, 93, 94] (by decide +kernel) (by decide +kernel)
set_option maxRecDepth 20000 in
theorem gX10_leastLike_X10_belowOf : GoodIn wsX10_leastLike (wsV RX10 236 RX10 yX10_belowOf wsX10_belowOf) := goodIn_app (goodIn_of _ (by decide +kernel)) ggX10_leastLike_X10_belowOf
set_option maxRecDepth 20000 in
theorem ggX10_climbed_X10_aboveOf : GoodIn wsX10_climbed wsX10_aboveOf := goodIn_r _ [5, 6, 7, 8, 9, 10, 11, 4, 12, 13, 14, 15, 16, 17, 18, 78, 79, 80, 81, 82, 83, 84, 85, 86, 87, 88, 89, 90, 91, 92, 93, 94, 95, 96, 97, 98, 99, 100, 101, 102, 103, 104, 105, 106, 107, 108, 109, 110, 111, 112, 113] (by decide +kernel) (by decide +kernel)
set_option maxRecDepth 20000 in
theorem gX10_climbed_X10_aboveOf : GoodIn wsX10_climbed (wsV RX10 233 RX10 yX10_aboveOf wsX10_aboveOf) := goodIn_app (goodIn_of _ (by decide +kernel)) ggX10_climbed_X10_aboveOf
set_option maxRecDepth 20000 in
theorem ggX10_climbed_X10_belowOf : GoodIn wsX10_climbed wsX10_belowOf := goodIn_r _ [22, 6, 7, 8, 23, 24, 25, 4, 26, 13, 14, 15, 16, 17, 18, 78, 79, 80, 81, 82, 83, 84, 85, 86, 87, 88, 89, 90, 91, 92, 93, 94, 95, 96, 97, 98, 99, 100, 101, 102, 103, 104, 105, 106, 107, 108, 109, 110, 111, 112, 113] (by decide +kernel) (by decide +kernel)
set_option maxRecDepth 20000 in
theorem gX10_climbed_X10_belowOf : GoodIn wsX10_climbed (wsV RX10 236 RX10 yX10_belowOf wsX10_belowOf) := goodIn_app (goodIn_of _ (by decide +kernel)) ggX10_climbed_X10_belowOf
set_option maxRecDepth 20000 in
theorem ggX10_climbed_X10_nextChoice : GoodIn wsX10_climbed wsX10_nextChoice := goodIn_r _ [30, 31, 32, 33, 4, 34, 6, 35, 36, 37, 38, 39, 40, 41, 42, 43, 44, 45, 46, 47, 48, 14, 15, 16, 17, 18, 49, 50, 51, 52, 53, 54, 55, 56, 57, 58, 59, 60, 61, 62, 63, 64, 65, 66, 67, 1, 2, 3, 5, 7, 8, 9, 10, 11, 12, 13, 19, 20, 21, 22, 23, 24, 25, 26, 78, 79, 80, 81, 82, 83, 84, 85, 86, 87, 88, 89, 90, 91, 92, 93, 94, 95, 96, 97, 98, 99, 100, 101, 102, 103, 104, 105, 106, 107, 108, 109, 110, 111, 112, 113] (by decide +kernel) (by decide +kernel)
set_option maxRecDepth 20000 in
theorem gX10_climbed_X10_nextChoice : GoodIn wsX10_climbed (wsV RX10 239 RX10 yX10_nextChoice wsX10_nextChoice) := goodIn_app (goodIn_of _ (by decide +kernel)) ggX10_climbed_X10_nextChoice
set_option maxRecDepth 20000 in
theorem ggX10_climbed_X10_lowest : GoodIn wsX10_climbed wsX10_lowest := goodIn_r _ [70, 71, 72, 4, 73] (by decide +kernel) (by decide +kernel)
set_option maxRecDepth 20000 in
theorem gX10_climbed_X10_lowest : GoodIn wsX10_climbed (va_wsS RX10 173 yX10_lowest wsX10_lowest) := goodIn_app (goodIn_of _ (by decide +kernel)) ggX10_climbed_X10_lowest
set_option maxRecDepth 20000 in
theorem ggX10_climbed_X10_leastLike : GoodIn wsX10_climbed wsX10_leastLike := goodIn_r _ [77, 37, 38, 39, 4, 40, 6, 41, 42, 43, 44, 45, 46, 47, 48, 36, 14, 15, 16, 17, 18, 49, 50, 51, 52, 53, 54, 55, 56, 57, 58, 59, 60, 61, 62, 63, 64, 65, 66, 67, 1, 2, 3, 5, 7, 8, 9, 10, 11, 12, 13, 19, 20, 21, 22, 23, 24, 25, 26, 78, 79, 80, 81, 82, 83, 84, 85, 86, 87, 88, 89, 90, 91, 92, 93, 94, 95, 96, 97, 98, 99, 100, 101, 102, 103, 104, 105, 106, 107, 108, 109, 110, 111, 112, 113] (by decide +kernel) (by decide +kernel)
set_option maxRecDepth 20000 in
theorem gX10_climbed_X10_leastLike : GoodIn wsX10_climbed (wsV RX10 243 RX10 yX10_leastLike wsX10_leastLike) := goodIn_app (goodIn_of _ (by decide +kernel)) ggX10_climbed_X10_leastLike
set_option maxRecDepth 20000 in
theorem ggX10_told_X10_leastChoice : GoodIn wsX10_told wsX10_leastChoice := goodIn_r _ [5, 6, 7, 8, 4, 9, 10, 11, 12, 13, 14, 15, 16, 17, 18, 19, 20, 21, 22, 23, 24, 25, 26, 27, 28, 29, 30, 31, 32, 33, 34, 35, 36, 37, 38, 39, 40, 41, 42, 43, 44, 45, 46, 47, 48, 92, 93, 94, 95, 96, 97, 98, 99, 100, 101, 102, 103, 104, 105, 106, 107, 108, 109, 110, 111, 112, 113, 114, 115, 116, 117, 118, 119, 120, 121, 122, 123, 124, 125, 126, 127] (by decide +kernel) (by decide +kernel)
set_option maxRecDepth 20000 in
theorem gX10_told_X10_leastChoice : GoodIn wsX10_told (wsV RX10 246 RX10 yX10_leastChoice wsX10_leastChoice) := goodIn_app (goodIn_of _ (by decide +kernel)) ggX10_told_X10_leastChoice
set_option maxRecDepth 20000 in
theorem ggX10_told_X10_farFinds : GoodIn wsX10_told wsX10_farFinds := goodIn_r _ [52, 53, 54, 92, 93, 94, 95, 96, 97, 98, 99, 100, 101, 102, 103, 104, 105, 106, 107, 108, 109, 110, 111, 112, 113, 114, 115, 116, 117, 118, 119, 120, 121, 122, 123, 124, 125, 126, 127] (by decide +kernel) (by decide +kernel)
set_option maxRecDepth 20000 in
theorem gX10_told_X10_farFinds : GoodIn wsX10_told (wsV RX10 165 RX10 yX10_farFinds wsX10_farFinds) := goodIn_app (goodIn_of _ (by decide +kernel)) ggX10_told_X10_farFinds
set_option maxRecDepth 20000 in
theorem ggX10_told_X10_climbed : GoodIn wsX10_told wsX10_climbed := goodIn_r _ [58, 59, 60, 61, 4, 62, 10, 63, 64, 65, 66, 67, 68, 69, 25, 26, 27, 28, 29, 70, 71, 72, 73, 74, 75, 76, 77, 78, 79, 80, 81, 6, 7, 8, 9, 11, 12, 13, 14, 15, 16, 17, 18, 19, 20, 21, 22, 23, 24, 30, 31, 32, 33, 34, 35, 36, 37, 38, 39, 40, 41, 42, 43, 44, 45, 46, 47, 48, 82, 83, 84, 85, 86, 87, 88, 89, 90, 91, 92, 93, 94, 95, 96, 97, 98, 99, 100, 101, 102, 103, 104, 105, 106, 107, 108, 109, 110, 111, 112, 113, 114, 115, 116, 117, 118, 119, 120, 121, 122, 123, 124, 125, 126, 127] (by decide +kernel) (by decide +kernel)
set_option maxRecDepth 20000 in
theorem gX10_told_X10_climbed : GoodIn wsX10_told (wsV RX10 249 RX10 yX10_climbed wsX10_climbed) := goodIn_app (goodIn_of _ (by decide +kernel)) ggX10_told_X10_climbed
set_option maxRecDepth 20000 in
theorem ggX10_tree_X10_in : GoodIn wsX10_tree wsX10_in := goodIn_r _ [6] (by decide +kernel) (by decide +kernel)
set_option maxRecDepth 20000 in
theorem gX10_tree_X10_in : GoodIn wsX10_tree (va_wsS RX10 57 yX10_in wsX10_in) := goodIn_app (goodIn_of _ (by decide +kernel)) ggX10_tree_X10_in
set_option maxRecDepth 20000 in
theorem ggX10_tree_X10_farFinds : GoodIn wsX10_tree wsX10_farFinds := goodIn_r _ [10, 11, 12, 100, 101, 102, 103, 104, 105, 106, 107, 108, 109, 110, 111, 112, 113, 114, 115, 116, 117, 118, 119, 120, 121, 122, 123, 124, 125, 126, 127, 128, 129, 130, 131, 132, 133, 134, 135] (by decide +kernel) (by decide +kernel)
set_option maxRecDepth 20000 in
theorem gX10_tree_X10_farFinds : GoodIn wsX10_tree (wsV RX10 165 RX10 yX10_farFinds wsX10_farFinds) := goodIn_app (goodIn_of _ (by decide +kernel)) ggX10_tree_X10_farFinds
set_option maxRecDepth 20000 in
theorem ggX10_tree_X10_told : GoodIn wsX10_tree wsX10_told := goodIn_r _ [16, 17, 18, 19, 5, 20, 21, 22, 23, 24, 2, 25, 26, 27, 28, 29, 30, 31, 32, 33, 34, 35, 36, 37, 38, 39, 40, 41, 42, 43, 44, 45, 46, 47, 48, 49, 50, 51, 52, 53, 54, 55, 56, 57, 58, 59, 60, 61, 62, 7, 8, 9, 10, 11, 12, 63, 64, 65, 66, 67, 68, 69, 70, 71, 72, 73, 74, 75, 76, 77, 78, 79, 80, 81, 82, 83, 84, 85, 86, 87, 88, 89, 90, 91, 92, 93, 94, 95, 96, 97, 98, 99, 100, 101, 102, 103, 104, 105, 106, 107, 108, 109, 110, 111, 112, 113, 114, 115, 116, 117, 118, 119, 120, 121, 122, 123, 124, 125, 126, 127, 128, 129, 130, 131, 132, 133, 134, 135] (by decide +kernel) (by decide +kernel)
set_option maxRecDepth 20000 in
theorem gX10_tree_X10_told : GoodIn wsX10_tree (wsV RX10 255 RX10 yX10_told wsX10_told) := goodIn_app (goodIn_of _ (by decide +kernel)) ggX10_tree_X10_told
set_option maxRecDepth 20000 in
theorem ggX10_walk_X10_in : GoodIn wsX10_walk wsX10_in := goodIn_r _ [8] (by decide +kernel) (by decide +kernel)
set_option maxRecDepth 20000 in
theorem gX10_walk_X10_in : GoodIn wsX10_walk (va_wsS RX10 57 yX10_in wsX10_in) := goodIn_app (goodIn_of _ (by decide +kernel)) ggX10_walk_X10_in
set_option maxRecDepth 20000 in
theorem ggX10_walk_X10_isPlace : GoodIn wsX10_walk wsX10_isPlace := goodIn_r _ [12, 13, 5, 6, 7, 8, 104, 105, 106, 107, 108, 109, 110, 111, 112, 113, 114, 115, 116, 117, 118, 119, 120, 121, 122, 123, 124, 125, 126, 127, 128, 129, 130, 131, 132, 133, 134, 135, 136, 137, 138, 139] (by decide +kernel) (by decide +kernel)
set_option maxRecDepth 20000 in
theorem gX10_walk_X10_isPlace : GoodIn wsX10_walk (wsV RX10 87 RX10 yX10_isPlace wsX10_isPlace) := goodIn_app (goodIn_of _ (by decide +kernel)) ggX10_walk_X10_isPlace
set_option maxRecDepth 20000 in
theorem ggX10_walk_X10_farFinds : GoodIn wsX10_walk wsX10_farFinds := goodIn_r _ [17, 18, 19, 104, 105, 106, 107, 108, 109, 110, 111, 112, 113, 114, 115, 116, 117, 118, 119, 120, 121, 122, 123, 124, 125, 126, 127, 128, 129, 130, 131, 132, 133, 134, 135, 136, 137, 138, 139] (by decide +kernel) (by decide +kernel)
set_option maxRecDepth 20000 in
theorem gX10_walk_X10_farFinds : GoodIn wsX10_walk (wsV RX10 165 RX10 yX10_farFinds wsX10_farFinds) := goodIn_app (goodIn_of _ (by decide +kernel)) ggX10_walk_X10_farFinds
set_option maxRecDepth 20000 in
theorem ggX10_walk_X10_told : GoodIn wsX10_walk wsX10_told := goodIn_r _ [23, 24, 25, 26, 7, 27, 28, 29, 30, 31, 2, 32, 33, 34, 35, 36, 37, 38, 39, 40, 41, 42, 43, 44, 45, 46, 47, 48, 49, 50, 51, 52, 53, 54, 55, 56, 57, 58, 59, 60, 61, 62, 13, 63, 64, 65, 66, 3, 4, 14, 15, 16, 17, 18, 19, 67, 68, 69, 70, 71, 72, 73, 74, 75, 76, 77, 78, 79, 80, 81, 82, 83, 84, 85, 86, 87, 88, 89, 90, 91, 92, 93, 94, 95, 96, 97, 98, 99, 100, 101, 102, 103, 104, 105, 106, 107, 108, 109, 110, 111, 112, 113, 114, 115, 116, 117, 118, 119, 120, 121, 122, 123, 124, 125, 126, 127, 128, 129, 130, 131, 132, 133, 134, 135, 136, 137, 138, 139] (by decide +kernel) (by decide +kernel)
set_option maxRecDepth 20000 in
theorem gX10_walk_X10_told : GoodIn wsX10_walk (wsV RX10 255 RX10 yX10_told wsX10_told) := goodIn_app (goodIn_of _ (by decide +kernel)) ggX10_walk_X10_told
set_option maxRecDepth 20000 in
theorem ggX10_load_X10_in : GoodIn wsX10_load wsX10_in := goodIn_r _ [8] (by decide +kernel) (by decide +kernel)
set_option maxRecDepth 20000 in
theorem gX10_load_X10_in : GoodIn wsX10_load (va_wsS RX10 57 yX10_in wsX10_in) := goodIn_app (goodIn_of _ (by decide +kernel)) ggX10_load_X10_in
set_option maxRecDepth 20000 in
theorem ggX10_load_X10_farFinds : GoodIn wsX10_load wsX10_farFinds := goodIn_r _ [12, 13, 14, 100, 101, 102, 103, 104, 105, 106, 107, 108, 109, 110, 111, 112, 113, 114, 115, 116, 117, 118, 119, 120, 121, 122, 123, 124, 125, 126, 127, 128, 129, 130, 131, 132, 133, 134, 135] (by decide +kernel) (by decide +kernel)
set_option maxRecDepth 20000 in
theorem gX10_load_X10_farFinds : GoodIn wsX10_load (wsV RX10 165 RX10 yX10_farFinds wsX10_farFinds) := goodIn_app (goodIn_of _ (by decide +kernel)) ggX10_load_X10_farFinds
set_option maxRecDepth 20000 in
theorem ggX10_load_X10_told : GoodIn wsX10_load wsX10_told := goodIn_r _ [18, 19, 20, 21, 7, 22, 23, 24, 25, 26, 3, 2, 27, 28, 29, 30, 31, 4, 32, 33, 34, 35, 36, 37, 38, 39, 40, 41, 42, 43, 44, 45, 46, 47, 48, 49, 50, 51, 52, 53, 54, 55, 56, 57, 58, 59, 60, 61, 62, 9, 10, 11, 12, 13, 14, 63, 64, 65, 66, 67, 68, 69, 70, 71, 72, 73, 74, 75, 76, 77, 78, 79, 80, 81, 82, 83, 84, 85, 86, 87, 88, 89, 90, 91, 92, 93, 94, 95, 96, 97, 98, 99, 100, 101, 102, 103, 104, 105, 106, 107, 108, 109, 110, 111, 112, 113, 114, 115, 116, 117, 118, 119, 120, 121, 122, 123, 124, 125, 126, 127, 128, 129, 130, 131, 132, 133, 134, 135] (by decide +kernel) (by decide +kernel)
set_option maxRecDepth 20000 in
theorem gX10_load_X10_told : GoodIn wsX10_load (wsV RX10 255 RX10 yX10_told wsX10_told) := goodIn_app (goodIn_of _ (by decide +kernel)) ggX10_load_X10_told
set_option maxRecDepth 20000 in
theorem ggX10_ratio_X10_in : GoodIn wsX10_ratio wsX10_in := goodIn_r _ [7] (by decide +kernel) (by decide +kernel)
set_option maxRecDepth 20000 in
theorem gX10_ratio_X10_in : GoodIn wsX10_ratio (va_wsS RX10 57 yX10_in wsX10_in) := goodIn_app (goodIn_of _ (by decide +kernel)) ggX10_ratio_X10_in
set_option maxRecDepth 20000 in
theorem ggX10_ratio_X10_farFinds : GoodIn wsX10_ratio wsX10_farFinds := goodIn_r _ [11, 12, 13, 80, 81, 82, 83, 84, 85, 86, 87, 88, 89, 90, 91, 92, 93, 94, 95, 96, 97, 98, 99, 100, 101, 102, 103, 104, 105, 106, 107, 108, 109, 110, 111, 112, 113, 114, 115] (by decide +kernel) (by decide +kernel)
set_option maxRecDepth 20000 in
theorem gX10_ratio_X10_farFinds : GoodIn wsX10_ratio (wsV RX10 165 RX10 yX10_farFinds wsX10_farFinds) := goodIn_app (goodIn_of _ (by decide +kernel)) ggX10_ratio_X10_farFinds
set_option maxRecDepth 20000 in
theorem ggX10_ratio_X10_bits : GoodIn wsX10_ratio wsX10_bits := goodIn_r _ [16] (by decide +kernel) (by decide +kernel)
set_option maxRecDepth 20000 in
theorem gX10_ratio_X10_bits : GoodIn wsX10_ratio (va_wsS RX10 203 yX10_bits wsX10_bits) := goodIn_app (goodIn_of _ (by decide +kernel)) ggX10_ratio_X10_bits
set_option maxRecDepth 20000 in
theorem ggX10_ratio_X10_allSets : GoodIn wsX10_ratio wsX10_allSets := goodIn_r _ [20, 2, 21, 22, 80, 81, 82, 83, 84, 85, 86, 87, 88, 89, 90, 91, 92, 93, 94, 95, 96, 97, 98, 99, 100, 101, 102, 103, 104, 105, 106, 107, 108, 109, 110, 111, 112, 113, 114, 115] (by decide +kernel) (by decide +kernel)
set_option maxRecDepth 20000 in
theorem gX10_ratio_X10_allSets : GoodIn wsX10_ratio (wsV RX10 227 RX10 yX10_allSets wsX10_allSets) := goodIn_app (goodIn_of _ (by decide +kernel)) ggX10_ratio_X10_allSets
set_option maxRecDepth 20000 in
theorem ggX10_ratio_X10_isChoice : GoodIn wsX10_ratio wsX10_isChoice := goodIn_r _ [26, 2, 3, 14, 15, 6, 16, 27, 28, 29, 30, 22, 31, 32, 33, 34, 35, 36, 37, 38, 39, 40, 41, 42, 43, 44, 45, 46, 47, 48, 49, 50, 51, 52, 53, 54, 80, 81, 82, 83, 84, 85, 86, 87, 88, 89, 90, 91, 92, 93, 94, 95, 96, 97, 98, 99, 100, 101, 102, 103, 104, 105, 106, 107, 108, 109, 110, 111, 112, 113, 114, 115] (by decide +kernel) (by decide +kernel)
set_option maxRecDepth 20000 in
theorem gX10_ratio_X10_isChoice : GoodIn wsX10_ratio (wsV RX10 230 RX10 yX10_isChoice wsX10_isChoice) := goodIn_app (goodIn_of _ (by decide +kernel)) ggX10_ratio_X10_isChoice
set_option maxRecDepth 20000 in
theorem ggX10_ratio_X10_aboveOf : GoodIn wsX10_ratio wsX10_aboveOf := goodIn_r _ [58, 2, 59, 60, 61, 62, 63, 6, 64, 65, 31, 32, 33, 34, 35, 80, 81, 82, 83, 84, 85, 86, 87, 88, 89, 90, 91, 92, 93, 94, 95, 96, 97, 98, 99, 100, 101, 102, 103, 104, 105, 106, 107, 108, 109, 110, 111, 112, 113, 114, 115] (by decide +kernel) (by decide +kernel)
set_option maxRecDepth 20000 in
theorem gX10_ratio_X10_aboveOf : GoodIn wsX10_ratio (wsV RX10 233 RX10 yX10_aboveOf wsX10_aboveOf) := goodIn_app (goodIn_of _ (by decide +kernel)) ggX10_ratio_X10_aboveOf
set_option maxRecDepth 20000 in
theorem ggX10_ratio_X10_belowOf : GoodIn wsX10_ratio wsX10_belowOf := goodIn_r _ [69, 2, 59, 60, 70, 71, 72, 6, 73, 65, 31, 32, 33, 34, 35, 80, 81, 82, 83, 84, 85, 86, 87, 88, 89, 90, 91, 92, 93, 94, 95, 96, 97, 98, 99, 100, 101, 102, 103, 104, 105, 106, 107, 108, 109, 110, 111, 112, 113, 114, 115] (by decide +kernel) (by decide +kernel)
set_option maxRecDepth 20000 in
theorem gX10_ratio_X10_belowOf : GoodIn wsX10_ratio (wsV RX10 236 RX10 yX10_belowOf wsX10_belowOf) := goodIn_app (goodIn_of _ (by decide +kernel)) ggX10_ratio_X10_belowOf
set_option maxRecDepth 20000 in
theorem ggX10_ratio_X10_lowest : GoodIn wsX10_ratio wsX10_lowest := goodIn_r _ [76, 77, 78, 6, 79] (by decide +kernel) (by decide +kernel)
set_option maxRecDepth 20000 in
theorem gX10_ratio_X10_lowest : GoodIn wsX10_ratio (va_wsS RX10 173 yX10_lowest wsX10_lowest) := goodIn_app (goodIn_of _ (by decide +kernel)) ggX10_ratio_X10_lowest
set_option maxRecDepth 20000 in
theorem ggX10_isSheet_X10_in : GoodIn wsX10_isSheet wsX10_in := goodIn_r _ [5] (by decide +kernel) (by decide +kernel)
set_option maxRecDepth 20000 in
theorem gX10_isSheet_X10_in : GoodIn wsX10_isSheet (va_wsS RX10 57 yX10_in wsX10_in) := goodIn_app (goodIn_of _ (by decide +kernel)) ggX10_isSheet_X10_in
set_option maxRecDepth 20000 in
theorem ggX10_wrong_X10_isSheet : GoodIn wsX10_wrong wsX10_isSheet := goodIn_r _ [7, 8, 9, 10, 6, 11] (by decide +kernel) (by decide +kernel)
set_option maxRecDepth 20000 in
theorem gX10_wrong_X10_isSheet : GoodIn wsX10_wrong (va_wsS RX10 258 yX10_isSheet wsX10_isSheet) := goodIn_app (goodIn_of _ (by decide +kernel)) ggX10_wrong_X10_isSheet
set_option maxRecDepth 20000 in
theorem ggX10_wrong_X10_in : GoodIn wsX10_wrong wsX10_in := goodIn_r _ [11] (by decide +kernel) (by decide +kernel)
set_option maxRecDepth 20000 in
theorem gX10_wrong_X10_in : GoodIn wsX10_wrong (va_wsS RX10 57 yX10_in wsX10_in) := goodIn_app (goodIn_of _ (by decide +kernel)) ggX10_wrong_X10_in
set_option maxRecDepth 20000 in
theorem ggX10_compare_X10_wrong : GoodIn wsX10_compare wsX10_wrong := goodIn_r _ [7, 8, 9, 2, 10, 11, 6, 12, 13, 14, 15, 16, 29, 30, 31, 32, 33, 34, 35, 36, 37, 38, 39, 40, 41, 42, 43, 44, 45, 46, 47, 48, 49, 50, 51, 52, 53, 54, 55, 56, 57, 58, 59, 60, 61, 62, 63, 64] (by decide +kernel) (by decide +kernel)
set_option maxRecDepth 20000 in
theorem gX10_compare_X10_wrong : GoodIn wsX10_compare (wsV RX10 261 RX10 yX10_wrong wsX10_wrong) := goodIn_app (goodIn_of _ (by decide +kernel)) ggX10_compare_X10_wrong
set_option maxRecDepth 20000 in
theorem ggX10_compare_X10_finds : GoodIn wsX10_compare wsX10_finds := goodIn_r _ [20, 21, 22, 29, 30, 31, 32, 33, 34, 35, 36, 37, 38, 39, 40, 41, 42, 43, 44, 45, 46, 47, 48, 49, 50, 51, 52, 53, 54, 55, 56, 57, 58, 59, 60, 61, 62, 63, 64] (by decide +kernel) (by decide +kernel)
set_option maxRecDepth 20000 in
theorem gX10_compare_X10_finds : GoodIn wsX10_compare (wsV RX10 81 RX10 yX10_finds wsX10_finds) := goodIn_app (goodIn_of _ (by decide +kernel)) ggX10_compare_X10_finds
set_option maxRecDepth 20000 in
theorem ggX10_compare_X10_product : GoodIn wsX10_compare wsX10_product := goodIn_r _ [26, 1, 27, 28, 29, 30, 31, 32, 33, 34, 35, 36, 37, 38, 39, 40, 41, 42, 43, 44, 45, 46, 47, 48, 49, 50, 51, 52, 53, 54, 55, 56, 57, 58, 59, 60, 61, 62, 63, 64] (by decide +kernel) (by decide +kernel)
set_option maxRecDepth 20000 in
theorem gX10_compare_X10_product : GoodIn wsX10_compare (wsV RX10 186 RX10 yX10_product wsX10_product) := goodIn_app (goodIn_of _ (by decide +kernel)) ggX10_compare_X10_product
set_option maxRecDepth 20000 in
theorem ggX10_reduce_X10_wrong : GoodIn wsX10_reduce wsX10_wrong := goodIn_r _ [8, 3, 9, 1, 10, 11, 7, 12, 13, 14, 15, 16, 26, 27, 28, 29, 30, 31, 32, 33, 34, 35, 36, 37, 38, 39, 40, 41, 42, 43, 44, 45, 46, 47, 48, 49, 50, 51, 52, 53, 54, 55, 56, 57, 58, 59, 60, 61] (by decide +kernel) (by decide +kernel)
set_option maxRecDepth 20000 in
theorem gX10_reduce_X10_wrong : GoodIn wsX10_reduce (wsV RX10 261 RX10 yX10_wrong wsX10_wrong) := goodIn_app (goodIn_of _ (by decide +kernel)) ggX10_reduce_X10_wrong
set_option maxRecDepth 20000 in
theorem ggX10_reduce_X10_farFinds : GoodIn wsX10_reduce wsX10_farFinds := goodIn_r _ [20, 21, 22, 26, 27, 28, 29, 30, 31, 32, 33, 34, 35, 36, 37, 38, 39, 40, 41, 42, 43, 44, 45, 46, 47, 48, 49, 50, 51, 52, 53, 54, 55, 56, 57, 58, 59, 60, 61] (by decide +kernel) (by decide +kernel)
set_option maxRecDepth 20000 in
theorem gX10_reduce_X10_farFinds : GoodIn wsX10_reduce (wsV RX10 165 RX10 yX10_farFinds wsX10_farFinds) := goodIn_app (goodIn_of _ (by decide +kernel)) ggX10_reduce_X10_farFinds
set_option maxRecDepth 20000 in
theorem ggX10_reduce_X10_narrow : GoodIn wsX10_reduce wsX10_narrow := goodIn_r _ [25] (by decide +kernel) (by decide +kernel)
set_option maxRecDepth 20000 in
theorem gX10_reduce_X10_narrow : GoodIn wsX10_reduce (va_wsS RX10 265 yX10_narrow wsX10_narrow) := goodIn_app (goodIn_of _ (by decide +kernel)) ggX10_reduce_X10_narrow
set_option maxRecDepth 20000 in
theorem ggX10_add_X10_wrong : GoodIn wsX10_add wsX10_wrong := goodIn_r _ [8, 3, 9, 2, 10, 11, 7, 12, 13, 14, 15, 16, 36, 37, 38, 39, 40, 41, 42, 43, 44, 45, 46, 47, 48, 49, 50, 51, 52, 53, 54, 55, 56, 57, 58, 59, 60, 61, 62, 63, 64, 65, 66, 67, 68, 69, 70, 71] (by decide +kernel) (by decide +kernel)
set_option maxRecDepth 20000 in
theorem gX10_add_X10_wrong : GoodIn wsX10_add (wsV RX10 261 RX10 yX10_wrong wsX10_wrong) := goodIn_app (goodIn_of _ (by decide +kernel)) ggX10_add_X10_wrong
set_option maxRecDepth 20000 in
theorem ggX10_add_X10_finds : GoodIn wsX10_add wsX10_finds := goodIn_r _ [20, 21, 22, 36, 37, 38, 39, 40, 41, 42, 43, 44, 45, 46, 47, 48, 49, 50, 51, 52, 53, 54, 55, 56, 57, 58, 59, 60, 61, 62, 63, 64, 65, 66, 67, 68, 69, 70, 71] (by decide +kernel) (by decide +kernel)
set_option maxRecDepth 20000 in
theorem gX10_add_X10_finds : GoodIn wsX10_add (wsV RX10 81 RX10 yX10_finds wsX10_finds) := goodIn_app (goodIn_of _ (by decide +kernel)) ggX10_add_X10_finds
set_option maxRecDepth 20000 in
theorem ggX10_add_X10_product : GoodIn wsX10_add wsX10_product := goodIn_r _ [26, 1, 27, 28, 36, 37, 38, 39, 40, 41, 42, 43, 44, 45, 46, 47, 48, 49, 50, 51, 52, 53, 54, 55, 56, 57, 58, 59, 60, 61, 62, 63, 64, 65, 66, 67, 68, 69, 70, 71] (by decide +kernel) (by decide +kernel)
set_option maxRecDepth 20000 in
theorem gX10_add_X10_product : GoodIn wsX10_add (wsV RX10 186 RX10 yX10_product wsX10_product) := goodIn_app (goodIn_of _ (by decide +kernel)) ggX10_add_X10_product
set_option maxRecDepth 20000 in
theorem ggX10_add_X10_sum : GoodIn wsX10_add wsX10_sum := goodIn_r _ [32, 1, 36, 37, 38, 39, 40, 41, 42, 43, 44, 45, 46, 47, 48, 49, 50, 51, 52, 53, 54, 55, 56, 57, 58, 59, 60, 61, 62, 63, 64, 65, 66, 67, 68, 69, 70, 71] (by decide +kernel) (by decide +kernel)
set_option maxRecDepth 20000 in
theorem gX10_add_X10_sum : GoodIn wsX10_add (wsV RX10 269 RX10 yX10_sum wsX10_sum) := goodIn_app (goodIn_of _ (by decide +kernel)) ggX10_add_X10_sum
set_option maxRecDepth 20000 in
theorem ggX10_add_X10_narrow : GoodIn wsX10_add wsX10_narrow := goodIn_r _ [35] (by decide +kernel) (by decide +kernel)
set_option maxRecDepth 20000 in
theorem gX10_add_X10_narrow : GoodIn wsX10_add (va_wsS RX10 265 yX10_narrow wsX10_narrow) := goodIn_app (goodIn_of _ (by decide +kernel)) ggX10_add_X10_narrow
set_option maxRecDepth 20000 in
theorem ggX10_feed_X10_in : GoodIn wsX10_feed wsX10_in := goodIn_r _ [7] (by decide +kernel) (by decide +kernel)
set_option maxRecDepth 20000 in
theorem gX10_feed_X10_in : GoodIn wsX10_feed (va_wsS RX10 57 yX10_in wsX10_in) := goodIn_app (goodIn_of _ (by decide +kernel)) ggX10_feed_X10_in
set_option maxRecDepth 20000 in
theorem ggX10_feed_X10_finds : GoodIn wsX10_feed wsX10_finds := goodIn_r _ [11, 12, 13, 14, 15, 16, 17, 18, 19, 20, 21, 22, 23, 24, 25, 26, 27, 28, 29, 30, 31, 32, 33, 34, 35, 36, 37, 38, 39, 40, 41, 42, 43, 44, 45, 46, 47, 48, 49] (by decide +kernel) (by decide +kernel)
set_option maxRecDepth 20000 in
theorem gX10_feed_X10_finds : GoodIn wsX10_feed (wsV RX10 81 RX10 yX10_finds wsX10_finds) := goodIn_app (goodIn_of _ (by decide +kernel)) ggX10_feed_X10_finds
set_option maxRecDepth 20000 in
theorem ggX10_isWordFrom_X10_byteAt : GoodIn wsX10_isWordFrom wsX10_byteAt := goodIn_r _ [8, 9, 10, 11, 12, 13, 14, 15, 16, 17, 18, 19, 20, 21, 22, 23, 24, 25, 26, 27, 28, 29, 30, 31, 32, 33, 34, 35, 36, 37, 38, 39, 40, 41, 42, 43, 44, 45, 46] (by decide +kernel) (by decide +kernel)
set_option maxRecDepth 20000 in
theorem gX10_isWordFrom_X10_byteAt : GoodIn wsX10_isWordFrom (wsV RX10 283 RX10 yX10_byteAt wsX10_byteAt) := goodIn_app (goodIn_of _ (by decide +kernel)) ggX10_isWordFrom_X10_byteAt
set_option maxRecDepth 20000 in
theorem ggX10_next_X10_byteAt : GoodIn wsX10_next wsX10_byteAt := goodIn_r _ [14, 15, 16, 25, 26, 27, 28, 29, 30, 31, 32, 33, 34, 35, 36, 37, 38, 39, 40, 41, 42, 43, 44, 45, 46, 47, 48, 49, 50, 51, 52, 53, 54, 55, 56, 57, 58, 59, 60] (by decide +kernel) (by decide +kernel)
set_option maxRecDepth 20000 in
theorem gX10_next_X10_byteAt : GoodIn wsX10_next (wsV RX10 283 RX10 yX10_byteAt wsX10_byteAt) := goodIn_app (goodIn_of _ (by decide +kernel)) ggX10_next_X10_byteAt
set_option maxRecDepth 20000 in
theorem ggX10_next_X10_in : GoodIn wsX10_next wsX10_in := goodIn_r _ [19] (by decide +kernel) (by decide +kernel)
set_option maxRecDepth 20000 in
theorem gX10_next_X10_in : GoodIn wsX10_next (va_wsS RX10 57 yX10_in wsX10_in) := goodIn_app (goodIn_of _ (by decide +kernel)) ggX10_next_X10_in
set_option maxRecDepth 20000 in
theorem ggX10_next_X10_isWordFrom : GoodIn wsX10_next wsX10_isWordFrom := goodIn_r _ [23, 1, 2, 24, 10, 11, 12, 13, 14, 15, 16, 25, 26, 27, 28, 29, 30, 31, 32, 33, 34, 35, 36, 37, 38, 39, 40, 41, 42, 43, 44, 45, 46, 47, 48, 49, 50, 51, 52, 53, 54, 55, 56, 57, 58, 59, 60] (by decide +kernel) (by decide +kernel)
set_option maxRecDepth 20000 in
theorem gX10_next_X10_isWordFrom : GoodIn wsX10_next (wsV RX10 293 RX10 yX10_isWordFrom wsX10_isWordFrom) := goodIn_app (goodIn_of _ (by decide +kernel)) ggX10_next_X10_isWordFrom
set_option maxRecDepth 20000 in
theorem ggX10_takesNumber_X10_in : GoodIn wsX10_takesNumber wsX10_in := goodIn_r _ [7] (by decide +kernel) (by decide +kernel)
set_option maxRecDepth 20000 in
theorem gX10_takesNumber_X10_in : GoodIn wsX10_takesNumber (va_wsS RX10 57 yX10_in wsX10_in) := goodIn_app (goodIn_of _ (by decide +kernel)) ggX10_takesNumber_X10_in
set_option maxRecDepth 20000 in
theorem ggX10_takesNumber_X10_next : GoodIn wsX10_takesNumber wsX10_next := goodIn_r _ [11, 12, 13, 1, 14, 15, 16, 17, 2, 18, 19, 20, 21, 6, 22, 23, 24, 4, 5, 7, 25, 26, 27, 28, 29, 30, 31, 32, 33, 34, 35, 36, 37, 38, 39, 40, 41, 42, 43, 44, 45, 46, 47, 48, 49, 50, 51, 52, 53, 54, 55, 56, 57, 58, 59, 60, 61, 62, 63, 64, 65] (by decide +kernel) (by decide +kernel)
set_option maxRecDepth 20000 in
theorem gX10_takesNumber_X10_next : GoodIn wsX10_takesNumber (wsV RX10 307 RX10 yX10_next wsX10_next) := goodIn_app (goodIn_of _ (by decide +kernel)) ggX10_takesNumber_X10_next
set_option maxRecDepth 20000 in
theorem ggX10_readsGainAndTime_X10_isWord : GoodIn wsX10_readsGainAndTime wsX10_isWord := goodIn_r _ [9, 10, 40, 41, 42, 43, 44, 45, 46, 47, 48, 49, 50, 51, 52, 53, 54, 55, 56, 57, 58, 59, 60, 61, 62, 63, 64, 65, 66, 67, 68, 69, 70, 71, 72, 73, 74, 75] (by decide +kernel) (by decide +kernel)
set_option maxRecDepth 20000 in
theorem gX10_readsGainAndTime_X10_isWord : GoodIn wsX10_readsGainAndTime (wsV RX10 316 RX10 yX10_isWord wsX10_isWord) := goodIn_app (goodIn_of _ (by decide +kernel)) ggX10_readsGainAndTime_X10_isWord
set_option maxRecDepth 20000 in
theorem ggX10_readsGainAndTime_X10_next : GoodIn wsX10_readsGainAndTime wsX10_next := goodIn_r _ [14, 15, 16, 10, 17, 18, 19, 20, 21, 3, 22, 23, 24, 8, 25, 26, 27, 28, 29, 30, 31, 32, 33, 34, 35, 40, 41, 42, 43, 44, 45, 46, 47, 48, 49, 50, 51, 52, 53, 54, 55, 56, 57, 58, 59, 60, 61, 62, 63, 64, 65, 66, 67, 68, 69, 70, 71, 72, 73, 74, 75] (by decide +kernel) (by decide +kernel)
set_option maxRecDepth 20000 in
theorem gX10_readsGainAndTime_X10_next : GoodIn wsX10_readsGainAndTime (wsV RX10 307 RX10 yX10_next wsX10_next) := goodIn_app (goodIn_of _ (by decide +kernel)) ggX10_readsGainAndTime_X10_next
set_option maxRecDepth 20000 in
theorem ggX10_readsGainAndTime_X10_takesNumber : GoodIn wsX10_readsGainAndTime wsX10_takesNumber := goodIn_r _ [39, 10, 21, 4, 28, 29, 8, 30, 11, 12, 13, 14, 15, 16, 17, 18, 19, 20, 3, 22, 23, 24, 25, 26, 27, 31, 32, 33, 34, 35, 40, 41, 42, 43, 44, 45, 46, 47, 48, 49, 50, 51, 52, 53, 54, 55, 56, 57, 58, 59, 60, 61, 62, 63, 64, 65, 66, 67, 68, 69, 70, 71, 72, 73, 74, 75] (by decide +kernel) (by decide +kernel)
set_option maxRecDepth 20000 in
theorem gX10_readsGainAndTime_X10_takesNumber : GoodIn wsX10_readsGainAndTime (wsV RX10 319 RX10 yX10_takesNumber wsX10_takesNumber) := goodIn_app (goodIn_of _ (by decide +kernel)) ggX10_readsGainAndTime_X10_takesNumber
set_option maxRecDepth 20000 in
theorem ggX10_readsWay_X10_next : GoodIn wsX10_readsWay wsX10_next := goodIn_r _ [13, 14, 15, 4, 16, 17, 18, 19, 5, 20, 21, 22, 23, 12, 24, 25, 26, 27, 28, 29, 30, 31, 32, 33, 34, 51, 52, 53, 54, 55, 56, 57, 58, 59, 60, 61, 62, 63, 64, 65, 66, 67, 68, 69, 70, 71, 72, 73, 74, 75, 76, 77, 78, 79, 80, 81, 82, 83, 84, 85, 86] (by decide +kernel) (by decide +kernel)
set_option maxRecDepth 20000 in
theorem gX10_readsWay_X10_next : GoodIn wsX10_readsWay (wsV RX10 307 RX10 yX10_next wsX10_next) := goodIn_app (goodIn_of _ (by decide +kernel)) ggX10_readsWay_X10_next
set_option maxRecDepth 20000 in
theorem ggX10_readsWay_X10_takesNumber : GoodIn wsX10_readsWay wsX10_takesNumber := goodIn_r _ [38, 4, 5, 3, 27, 28, 12, 29, 9, 10, 11, 13, 14, 15, 16, 17, 18, 19, 20, 21, 22, 23, 24, 25, 26, 30, 31, 32, 33, 34, 51, 52, 53, 54, 55, 56, 57, 58, 59, 60, 61, 62, 63, 64, 65, 66, 67, 68, 69, 70, 71, 72, 73, 74, 75, 76, 77, 78, 79, 80, 81, 82, 83, 84, 85, 86] (by decide +kernel) (by decide +kernel)
set_option maxRecDepth 20000 in
theorem gX10_readsWay_X10_takesNumber : GoodIn wsX10_readsWay (wsV RX10 319 RX10 yX10_takesNumber wsX10_takesNumber) := goodIn_app (goodIn_of _ (by decide +kernel)) ggX10_readsWay_X10_takesNumber
set_option maxRecDepth 20000 in
theorem ggX10_readsWay_X10_readsGainAndTime : GoodIn wsX10_readsWay wsX10_readsGainAndTime := goodIn_r _ [42, 6, 7, 20, 3, 43, 44, 45, 12, 46, 4, 9, 10, 11, 13, 14, 15, 16, 17, 18, 19, 5, 21, 22, 23, 24, 25, 26, 27, 28, 29, 30, 31, 32, 33, 34, 35, 36, 37, 38, 51, 52, 53, 54, 55, 56, 57, 58, 59, 60, 61, 62, 63, 64, 65, 66, 67, 68, 69, 70, 71, 72, 73, 74, 75, 76, 77, 78, 79, 80, 81, 82, 83, 84, 85, 86] (by decide +kernel) (by decide +kernel)
set_option maxRecDepth 20000 in
theorem gX10_readsWay_X10_readsGainAndTime : GoodIn wsX10_readsWay (wsV RX10 322 RX10 yX10_readsGainAndTime wsX10_readsGainAndTime) := goodIn_app (goodIn_of _ (by decide +kernel)) ggX10_readsWay_X10_readsGainAndTime
set_option maxRecDepth 20000 in
theorem ggX10_readsWay_X10_addWay : GoodIn wsX10_readsWay wsX10_addWay := goodIn_r _ [50, 1, 8, 51, 52, 53, 54, 55, 56, 57, 58, 59, 60, 61, 62, 63, 64, 65, 66, 67, 68, 69, 70, 71, 72, 73, 74, 75, 76, 77, 78, 79, 80, 81, 82, 83, 84, 85, 86] (by decide +kernel) (by decide +kernel)
set_option maxRecDepth 20000 in
theorem gX10_readsWay_X10_addWay : GoodIn wsX10_readsWay (wsV RX10 98 RX10 yX10_addWay wsX10_addWay) := goodIn_app (goodIn_of _ (by decide +kernel)) ggX10_readsWay_X10_addWay
set_option maxRecDepth 20000 in
theorem ggX10_readsWay_X10_isWord : GoodIn wsX10_readsWay wsX10_isWord := goodIn_r _ [46, 4, 51, 52, 53, 54, 55, 56, 57, 58, 59, 60, 61, 62, 63, 64, 65, 66, 67, 68, 69, 70, 71, 72, 73, 74, 75, 76, 77, 78, 79, 80, 81, 82, 83, 84, 85, 86] (by decide +kernel) (by decide +kernel)
set_option maxRecDepth 20000 in
theorem gX10_readsWay_X10_isWord : GoodIn wsX10_readsWay (wsV RX10 316 RX10 yX10_isWord wsX10_isWord) := goodIn_app (goodIn_of _ (by decide +kernel)) ggX10_readsWay_X10_isWord
set_option maxRecDepth 20000 in
theorem ggX10_readsThing_X10_next : GoodIn wsX10_readsThing wsX10_next := goodIn_r _ [9, 10, 11, 12, 13, 14, 15, 16, 17, 18, 19, 20, 21, 8, 22, 23, 24, 25, 26, 27, 28, 29, 30, 31, 32, 46, 47, 48, 49, 50, 51, 52, 53, 54, 55, 56, 57, 58, 59, 60, 61, 62, 63, 64, 65, 66, 67, 68, 69, 70, 71, 72, 73, 74, 75, 76, 77, 78, 79, 80, 81] (by decide +kernel) (by decide +kernel)
set_option maxRecDepth 20000 in
theorem gX10_readsThing_X10_next : GoodIn wsX10_readsThing (wsV RX10 307 RX10 yX10_next wsX10_next) := goodIn_app (goodIn_of _ (by decide +kernel)) ggX10_readsThing_X10_next
set_option maxRecDepth 20000 in
theorem ggX10_readsThing_X10_readsGainAndTime : GoodIn wsX10_readsThing wsX10_readsGainAndTime := goodIn_r _ [36, 3, 4, 18, 37, 38, 39, 40, 8, 41, 12, 5, 6, 7, 9, 10, 11, 13, 14, 15, 16, 17, 19, 20, 21, 22, 23, 24, 25, 26, 27, 28, 29, 30, 31, 32, 42, 43, 44, 45, 46, 47, 48, 49, 50, 51, 52, 53, 54, 55, 56, 57, 58, 59, 60, 61, 62, 63, 64, 65, 66, 67, 68, 69, 70, 71, 72, 73, 74, 75, 76, 77, 78, 79, 80, 81] (by decide +kernel) (by decide +kernel)
set_option maxRecDepth 20000 in
theorem gX10_readsThing_X10_readsGainAndTime : GoodIn wsX10_readsThing (wsV RX10 322 RX10 yX10_readsGainAndTime wsX10_readsGainAndTime) := goodIn_app (goodIn_of _ (by decide +kernel)) ggX10_readsThing_X10_readsGainAndTime
set_option maxRecDepth 20000 in
theorem ggX10_readsItem_X10_in : GoodIn wsX10_readsItem wsX10_in := goodIn_r _ [9] (by decide +kernel) (by decide +kernel)
set_option maxRecDepth 20000 in
theorem gX10_readsItem_X10_in : GoodIn wsX10_readsItem (va_wsS RX10 57 yX10_in wsX10_in) := goodIn_app (goodIn_of _ (by decide +kernel)) ggX10_readsItem_X10_in
set_option maxRecDepth 20000 in
theorem ggX10_readsItem_X10_readsWay : GoodIn wsX10_readsItem wsX10_readsWay := goodIn_r _ [13, 14, 3, 4, 1, 15, 16, 17, 18, 19, 20, 21, 8, 22, 23, 24, 25, 26, 27, 28, 29, 30, 31, 32, 33, 34, 35, 6, 7, 9, 36, 37, 38, 39, 40, 41, 42, 43, 44, 45, 46, 47, 48, 49, 50, 51, 52, 53, 54, 55, 56, 63, 64, 65, 66, 67, 68, 69, 70, 71, 72, 73, 74, 75, 76, 77, 78, 79, 80, 81, 82, 83, 84, 85, 86, 87, 88, 89, 90, 91, 92, 93, 94, 95, 96, 97, 98] (by decide +kernel) (by decide +kernel)
set_option maxRecDepth 20000 in
theorem gX10_readsItem_X10_readsWay : GoodIn wsX10_readsItem (wsV RX10 325 RX10 yX10_readsWay wsX10_readsWay) := goodIn_app (goodIn_of _ (by decide +kernel)) ggX10_readsItem_X10_readsWay
set_option maxRecDepth 20000 in
theorem ggX10_readsItem_X10_readsThing : GoodIn wsX10_readsItem wsX10_readsThing := goodIn_r _ [60, 61, 62, 16, 17, 19, 20, 21, 8, 22, 23, 24, 1, 25, 26, 27, 28, 15, 29, 30, 31, 32, 33, 34, 35, 6, 7, 9, 36, 37, 38, 39, 40, 45, 46, 47, 48, 4, 49, 50, 51, 52, 41, 42, 43, 44, 63, 64, 65, 66, 67, 68, 69, 70, 71, 72, 73, 74, 75, 76, 77, 78, 79, 80, 81, 82, 83, 84, 85, 86, 87, 88, 89, 90, 91, 92, 93, 94, 95, 96, 97, 98] (by decide +kernel) (by decide +kernel)
set_option maxRecDepth 20000 in
theorem gX10_readsItem_X10_readsThing : GoodIn wsX10_readsItem (wsV RX10 328 RX10 yX10_readsThing wsX10_readsThing) := goodIn_app (goodIn_of _ (by decide +kernel)) ggX10_readsItem_X10_readsThing
set_option maxRecDepth 20000 in
theorem ggX10_readsItem_X10_next : GoodIn wsX10_readsItem wsX10_next := goodIn_r _ [22, 23, 24, 1, 25, 26, 27, 28, 15, 29, 30, 31, 32, 8, 33, 34, 35, 6, 7, 9, 36, 37, 38, 39, 40, 63, 64, 65, 66, 67, 68, 69, 70, 71, 72, 73, 74, 75, 76, 77, 78, 79, 80, 81, 82, 83, 84, 85, 86, 87, 88, 89, 90, 91, 92, 93, 94, 95, 96, 97, 98] (by decide +kernel) (by decide +kernel)
set_option maxRecDepth 20000 in
theorem gX10_readsItem_X10_next : GoodIn wsX10_readsItem (wsV RX10 307 RX10 yX10_next wsX10_next) := goodIn_app (goodIn_of _ (by decide +kernel)) ggX10_readsItem_X10_next
set_option maxRecDepth 20000 in
theorem ggX10_readsItem_X10_takesNumber : GoodIn wsX10_readsItem wsX10_takesNumber := goodIn_r _ [44, 1, 15, 4, 6, 7, 8, 9, 19, 20, 21, 22, 23, 24, 25, 26, 27, 28, 29, 30, 31, 32, 33, 34, 35, 36, 37, 38, 39, 40, 63, 64, 65, 66, 67, 68, 69, 70, 71, 72, 73, 74, 75, 76, 77, 78, 79, 80, 81, 82, 83, 84, 85, 86, 87, 88, 89, 90, 91, 92, 93, 94, 95, 96, 97, 98] (by decide +kernel) (by decide +kernel)
set_option maxRecDepth 20000 in
theorem gX10_readsItem_X10_takesNumber : GoodIn wsX10_readsItem (wsV RX10 319 RX10 yX10_takesNumber wsX10_takesNumber) := goodIn_app (goodIn_of _ (by decide +kernel)) ggX10_readsItem_X10_takesNumber
set_option maxRecDepth 20000 in
theorem ggX10_text_X10_next : GoodIn wsX10_text wsX10_next := goodIn_r _ [13, 5, 8, 6, 14, 15, 16, 17, 18, 19, 20, 21, 22, 12, 23, 7, 24, 25, 26, 27, 28, 29, 30, 31, 32, 67, 68, 69, 70, 71, 72, 73, 74, 75, 76, 77, 78, 79, 80, 81, 82, 83, 84, 85, 86, 87, 88, 89, 90, 91, 92, 93, 94, 95, 96, 97, 98, 99, 100, 101, 102] (by decide +kernel) (by decide +kernel)
set_option maxRecDepth 20000 in
theorem gX10_text_X10_next : GoodIn wsX10_text (wsV RX10 307 RX10 yX10_next wsX10_next) := goodIn_app (goodIn_of _ (by decide +kernel)) ggX10_text_X10_next
set_option maxRecDepth 20000 in
theorem ggX10_text_X10_readsItem : GoodIn wsX10_text wsX10_readsItem := goodIn_r _ [36, 6, 37, 1, 38, 2, 25, 26, 12, 27, 39, 40, 41, 42, 3, 18, 43, 44, 45, 9, 10, 11, 13, 5, 8, 14, 15, 16, 17, 19, 20, 21, 22, 23, 7, 24, 28, 29, 30, 31, 32, 46, 47, 48, 49, 50, 51, 52, 53, 54, 55, 56, 57, 58, 59, 60, 61, 62, 63, 64, 65, 4, 66, 67, 68, 69, 70, 71, 72, 73, 74, 75, 76, 77, 78, 79, 80, 81, 82, 83, 84, 85, 86, 87, 88, 89, 90, 91, 92, 93, 94, 95, 96, 97, 98, 99, 100, 101, 102] (by decide +kernel) (by decide +kernel)
set_option maxRecDepth 20000 in
theorem gX10_text_X10_readsItem : GoodIn wsX10_text (wsV RX10 331 RX10 yX10_readsItem wsX10_readsItem) := goodIn_app (goodIn_of _ (by decide +kernel)) ggX10_text_X10_readsItem
set_option maxRecDepth 20000 in
theorem ggX10_sheet_X10_isSheet : GoodIn wsX10_sheet wsX10_isSheet := goodIn_r _ [7, 8, 9, 10, 6, 11] (by decide +kernel) (by decide +kernel)
set_option maxRecDepth 20000 in
theorem gX10_sheet_X10_isSheet : GoodIn wsX10_sheet (va_wsS RX10 258 yX10_isSheet wsX10_isSheet) := goodIn_app (goodIn_of _ (by decide +kernel)) ggX10_sheet_X10_isSheet
set_option maxRecDepth 20000 in
theorem ggX10_sheet_X10_finds : GoodIn wsX10_sheet wsX10_finds := goodIn_r _ [15, 16, 17, 18, 19, 20, 21, 22, 23, 24, 25, 26, 27, 28, 29, 30, 31, 32, 33, 34, 35, 36, 37, 38, 39, 40, 41, 42, 43, 44, 45, 46, 47, 48, 49, 50, 51, 52, 53] (by decide +kernel) (by decide +kernel)
set_option maxRecDepth 20000 in
theorem gX10_sheet_X10_finds : GoodIn wsX10_sheet (wsV RX10 81 RX10 yX10_finds wsX10_finds) := goodIn_app (goodIn_of _ (by decide +kernel)) ggX10_sheet_X10_finds
set_option maxRecDepth 20000 in
theorem ggX10_lacks_X10_isSheet : GoodIn wsX10_lacks wsX10_isSheet := goodIn_r _ [6, 7, 8, 9, 5, 10] (by decide +kernel) (by decide +kernel)
set_option maxRecDepth 20000 in
theorem gX10_lacks_X10_isSheet : GoodIn wsX10_lacks (va_wsS RX10 258 yX10_isSheet wsX10_isSheet) := goodIn_app (goodIn_of _ (by decide +kernel)) ggX10_lacks_X10_isSheet
set_option maxRecDepth 20000 in
theorem ggX10_lacks_X10_in : GoodIn wsX10_lacks wsX10_in := goodIn_r _ [10] (by decide +kernel) (by decide +kernel)
set_option maxRecDepth 20000 in
theorem gX10_lacks_X10_in : GoodIn wsX10_lacks (va_wsS RX10 57 yX10_in wsX10_in) := goodIn_app (goodIn_of _ (by decide +kernel)) ggX10_lacks_X10_in
set_option maxRecDepth 20000 in
theorem ggX10_write_X10_lacks : GoodIn wsX10_write wsX10_lacks := goodIn_r _ [7, 2, 8, 9, 10, 6, 11, 12, 13, 14, 15, 25, 26, 27, 28, 29, 30, 31, 32, 33, 34, 35, 36, 37, 38, 39, 40, 41, 42, 43, 44, 45, 46, 47, 48, 49, 50, 51, 52, 53, 54, 55, 56, 57, 58, 59, 60] (by decide +kernel) (by decide +kernel)
set_option maxRecDepth 20000 in
theorem gX10_write_X10_lacks : GoodIn wsX10_write (wsV RX10 334 RX10 yX10_lacks wsX10_lacks) := goodIn_app (goodIn_of _ (by decide +kernel)) ggX10_write_X10_lacks
set_option maxRecDepth 20000 in
theorem ggX10_write_X10_finds : GoodIn wsX10_write wsX10_finds := goodIn_r _ [19, 20, 21, 25, 26, 27, 28, 29, 30, 31, 32, 33, 34, 35, 36, 37, 38, 39, 40, 41, 42, 43, 44, 45, 46, 47, 48, 49, 50, 51, 52, 53, 54, 55, 56, 57, 58, 59, 60] (by decide +kernel) (by decide +kernel)
set_option maxRecDepth 20000 in
theorem gX10_write_X10_finds : GoodIn wsX10_write (wsV RX10 81 RX10 yX10_finds wsX10_finds) := goodIn_app (goodIn_of _ (by decide +kernel)) ggX10_write_X10_finds
set_option maxRecDepth 20000 in
theorem ggX10_write_X10_narrow : GoodIn wsX10_write wsX10_narrow := goodIn_r _ [24] (by decide +kernel) (by decide +kernel)
set_option maxRecDepth 20000 in
theorem gX10_write_X10_narrow : GoodIn wsX10_write (va_wsS RX10 265 yX10_narrow wsX10_narrow) := goodIn_app (goodIn_of _ (by decide +kernel)) ggX10_write_X10_narrow
set_option maxRecDepth 20000 in
theorem ggX10_read_X10_lacks : GoodIn wsX10_read wsX10_lacks := goodIn_r _ [6, 7, 8, 9, 10, 5, 11, 12, 13, 14, 15, 22, 23, 24, 25, 26, 27, 28, 29, 30, 31, 32, 33, 34, 35, 36, 37, 38, 39, 40, 41, 42, 43, 44, 45, 46, 47, 48, 49, 50, 51, 52, 53, 54, 55, 56, 57] (by decide +kernel) (by decide +kernel)
set_option maxRecDepth 20000 in
theorem gX10_read_X10_lacks : GoodIn wsX10_read (wsV RX10 334 RX10 yX10_lacks wsX10_lacks) := goodIn_app (goodIn_of _ (by decide +kernel)) ggX10_read_X10_lacks
set_option maxRecDepth 20000 in
theorem ggX10_read_X10_farFinds : GoodIn wsX10_read wsX10_farFinds := goodIn_r _ [19, 20, 21, 22, 23, 24, 25, 26, 27, 28, 29, 30, 31, 32, 33, 34, 35, 36, 37, 38, 39, 40, 41, 42, 43, 44, 45, 46, 47, 48, 49, 50, 51, 52, 53, 54, 55, 56, 57] (by decide +kernel) (by decide +kernel)
set_option maxRecDepth 20000 in
theorem gX10_read_X10_farFinds : GoodIn wsX10_read (wsV RX10 165 RX10 yX10_farFinds wsX10_farFinds) := goodIn_app (goodIn_of _ (by decide +kernel)) ggX10_read_X10_farFinds
set_option maxRecDepth 20000 in
theorem ggX10_copy_X10_isSheet : GoodIn wsX10_copy wsX10_isSheet := goodIn_r _ [8, 9, 10, 11, 7, 12] (by decide +kernel) (by decide +kernel)
set_option maxRecDepth 20000 in
theorem gX10_copy_X10_isSheet : GoodIn wsX10_copy (va_wsS RX10 258 yX10_isSheet wsX10_isSheet) := goodIn_app (goodIn_of _ (by decide +kernel)) ggX10_copy_X10_isSheet
set_option maxRecDepth 20000 in
theorem ggX10_copy_X10_finds : GoodIn wsX10_copy wsX10_finds := goodIn_r _ [16, 17, 18, 19, 20, 21, 22, 23, 24, 25, 26, 27, 28, 29, 30, 31, 32, 33, 34, 35, 36, 37, 38, 39, 40, 41, 42, 43, 44, 45, 46, 47, 48, 49, 50, 51, 52, 53, 54] (by decide +kernel) (by decide +kernel)
set_option maxRecDepth 20000 in
theorem gX10_copy_X10_finds : GoodIn wsX10_copy (wsV RX10 81 RX10 yX10_finds wsX10_finds) := goodIn_app (goodIn_of _ (by decide +kernel)) ggX10_copy_X10_finds
set_option maxRecDepth 20000 in
theorem ggX10_lays_X10_isSheet : GoodIn wsX10_lays wsX10_isSheet := goodIn_r _ [9, 10, 11, 12, 8, 13] (by decide +kernel) (by decide +kernel)
set_option maxRecDepth 20000 in
theorem gX10_lays_X10_isSheet : GoodIn wsX10_lays (va_wsS RX10 258 yX10_isSheet wsX10_isSheet) := goodIn_app (goodIn_of _ (by decide +kernel)) ggX10_lays_X10_isSheet
set_option maxRecDepth 20000 in
theorem ggX10_lays_X10_finds : GoodIn wsX10_lays wsX10_finds := goodIn_r _ [17, 18, 19, 25, 26, 27, 28, 29, 30, 31, 32, 33, 34, 35, 36, 37, 38, 39, 40, 41, 42, 43, 44, 45, 46, 47, 48, 49, 50, 51, 52, 53, 54, 55, 56, 57, 58, 59, 60] (by decide +kernel) (by decide +kernel)
set_option maxRecDepth 20000 in
theorem gX10_lays_X10_finds : GoodIn wsX10_lays (wsV RX10 81 RX10 yX10_finds wsX10_finds) := goodIn_app (goodIn_of _ (by decide +kernel)) ggX10_lays_X10_finds
set_option maxRecDepth 20000 in
theorem ggX10_lays_X10_isGain : GoodIn wsX10_lays wsX10_isGain := goodIn_r _ [22, 23, 24, 11, 12, 8, 13] (by decide +kernel) (by decide +kernel)
set_option maxRecDepth 20000 in
theorem gX10_lays_X10_isGain : GoodIn wsX10_lays (va_wsS RX10 91 yX10_isGain wsX10_isGain) := goodIn_app (goodIn_of _ (by decide +kernel)) ggX10_lays_X10_isGain
set_option maxRecDepth 20000 in
theorem ggX10_undo_X10_finds : GoodIn wsX10_undo wsX10_finds := goodIn_r _ [14, 15, 16, 17, 18, 19, 20, 21, 22, 23, 24, 25, 26, 27, 28, 29, 30, 31, 32, 33, 34, 35, 36, 37, 38, 39, 40, 41, 42, 43, 44, 45, 46, 47, 48, 49, 50, 51, 52] (by decide +kernel) (by decide +kernel)
set_option maxRecDepth 20000 in
theorem gX10_undo_X10_finds : GoodIn wsX10_undo (wsV RX10 81 RX10 yX10_finds wsX10_finds) := goodIn_app (goodIn_of _ (by decide +kernel)) ggX10_undo_X10_finds
set_option maxRecDepth 20000 in
theorem ggX10_count_X10_openWays : GoodIn wsX10_count wsX10_openWays := goodIn_r _ [10, 2, 11, 12, 13, 9, 14, 15, 25, 26, 27, 28, 29, 30, 31, 32, 33, 34, 35, 36, 37, 38, 39, 40, 41, 42, 43, 44, 45, 46, 47, 48, 49, 50, 51, 52, 53, 54, 55, 56, 57, 58, 59, 60] (by decide +kernel) (by decide +kernel)
set_option maxRecDepth 20000 in
theorem gX10_count_X10_openWays : GoodIn wsX10_count (wsV RX10 157 RX10 yX10_openWays wsX10_openWays) := goodIn_app (goodIn_of _ (by decide +kernel)) ggX10_count_X10_openWays
set_option maxRecDepth 20000 in
theorem ggX10_count_X10_bits : GoodIn wsX10_count wsX10_bits := goodIn_r _ [18] (by decide +kernel) (by decide +kernel)
set_option maxRecDepth 20000 in
theorem gX10_count_X10_bits : GoodIn wsX10_count (va_wsS RX10 203 yX10_bits wsX10_bits) := goodIn_app (goodIn_of _ (by decide +kernel)) ggX10_count_X10_bits
set_option maxRecDepth 20000 in
theorem ggX10_count_X10_finds : GoodIn wsX10_count wsX10_finds := goodIn_r _ [22, 23, 24, 25, 26, 27, 28, 29, 30, 31, 32, 33, 34, 35, 36, 37, 38, 39, 40, 41, 42, 43, 44, 45, 46, 47, 48, 49, 50, 51, 52, 53, 54, 55, 56, 57, 58, 59, 60] (by decide +kernel) (by decide +kernel)
set_option maxRecDepth 20000 in
theorem gX10_count_X10_finds : GoodIn wsX10_count (wsV RX10 81 RX10 yX10_finds wsX10_finds) := goodIn_app (goodIn_of _ (by decide +kernel)) ggX10_count_X10_finds
set_option maxRecDepth 20000 in
theorem ggX10_status_X10_in : GoodIn wsX10_status wsX10_in := goodIn_r _ [7] (by decide +kernel) (by decide +kernel)
set_option maxRecDepth 20000 in
theorem gX10_status_X10_in : GoodIn wsX10_status (va_wsS RX10 57 yX10_in wsX10_in) := goodIn_app (goodIn_of _ (by decide +kernel)) ggX10_status_X10_in
set_option maxRecDepth 20000 in
theorem ggX10_status_X10_finds : GoodIn wsX10_status wsX10_finds := goodIn_r _ [11, 3, 12, 13, 14, 15, 16, 17, 18, 19, 20, 21, 22, 23, 24, 25, 26, 27, 28, 29, 30, 31, 32, 33, 34, 35, 36, 37, 38, 39, 40, 41, 42, 43, 44, 45, 46, 47, 48] (by decide +kernel) (by decide +kernel)
set_option maxRecDepth 20000 in
theorem gX10_status_X10_finds : GoodIn wsX10_status (wsV RX10 81 RX10 yX10_finds wsX10_finds) := goodIn_app (goodIn_of _ (by decide +kernel)) ggX10_status_X10_finds
set_option maxRecDepth 20000 in
theorem ggJ0_length_8abf5_J0_coder_7d493 : GoodIn wsJ0_length_8abf5 wsJ0_coder_7d493 := goodIn_r _ [6, 7, 8] (by decide +kernel) (by decide +kernel)
set_option maxRecDepth 20000 in
theorem gJ0_length_8abf5_J0_coder_7d493 : GoodIn wsJ0_length_8abf5 (wsV RJ0 335 RJ0 yJ0_coder_7d493 wsJ0_coder_7d493) := goodIn_app (goodIn_of _ (by decide +kernel)) ggJ0_length_8abf5_J0_coder_7d493
set_option maxRecDepth 20000 in
theorem ggJ0_charAt_5068e_J0_isLatin1_aae02 : GoodIn wsJ0_charAt_5068e wsJ0_isLatin1_aae02 := goodIn_r _ [6, 7, 8] (by decide +kernel) (by decide +kernel)
set_option maxRecDepth 20000 in
theorem gJ0_charAt_5068e_J0_isLatin1_aae02 : GoodIn wsJ0_charAt_5068e (wsV RJ0 492 RJ0 yJ0_isLatin1_aae02 wsJ0_isLatin1_aae02) := goodIn_app (goodIn_of _ (by decide +kernel)) ggJ0_charAt_5068e_J0_isLatin1_aae02
set_option maxRecDepth 20000 in
theorem ggJ0_charAt_5068e_J1_charAt_3b067 : GoodIn wsJ0_charAt_5068e wsJ1_charAt_3b067 := goodIn_r _ [12, 13, 14, 5, 15, 16, 17, 18, 19, 20] (by decide +kernel) (by decide +kernel)
set_option maxRecDepth 20000 in
theorem gJ0_charAt_5068e_J1_charAt_3b067 : GoodIn wsJ0_charAt_5068e (va_wsS RJ0 495 yJ1_charAt_3b067 wsJ1_charAt_3b067) := goodIn_app (goodIn_of _ (by decide +kernel)) ggJ0_charAt_5068e_J1_charAt_3b067
set_option maxRecDepth 20000 in
theorem ggJ0_charAt_5068e_J2_charAt_3b067 : GoodIn wsJ0_charAt_5068e wsJ2_charAt_3b067 := goodIn_r _ [24, 25, 26, 23, 27, 28, 29, 30, 31, 14, 5, 15, 16, 17, 18, 19, 20, 32, 33, 34, 35, 36, 37] (by decide +kernel) (by decide +kernel)
set_option maxRecDepth 20000 in
theorem gJ0_charAt_5068e_J2_charAt_3b067 : GoodIn wsJ0_charAt_5068e (va_wsS RJ0 498 yJ2_charAt_3b067 wsJ2_charAt_3b067) := goodIn_app (goodIn_of _ (by decide +kernel)) ggJ0_charAt_5068e_J2_charAt_3b067
set_option maxRecDepth 20000 in
theorem ggJ0_checkIndex_df160_J3_checkIndex_8e157 : GoodIn wsJ0_checkIndex_df160 wsJ3_checkIndex_8e157 := goodIn_r _ [5] (by decide +kernel) (by decide +kernel)
set_option maxRecDepth 20000 in
theorem gJ0_checkIndex_df160_J3_checkIndex_8e157 : GoodIn wsJ0_checkIndex_df160 (va_wsS RJ0 1059 yJ3_checkIndex_8e157 wsJ3_checkIndex_8e157) := goodIn_app (goodIn_of _ (by decide +kernel)) ggJ0_checkIndex_df160_J3_checkIndex_8e157
set_option maxRecDepth 20000 in
theorem ggJ1_charAt_3b067_J0_checkIndex_df160 : GoodIn wsJ1_charAt_3b067 wsJ0_checkIndex_df160 := goodIn_r _ [4, 5, 6, 7, 8, 9] (by decide +kernel) (by decide +kernel)
set_option maxRecDepth 20000 in
theorem gJ1_charAt_3b067_J0_checkIndex_df160 : GoodIn wsJ1_charAt_3b067 (va_wsS RJ1 9 yJ0_checkIndex_df160 wsJ0_checkIndex_df160) := goodIn_app (goodIn_of _ (by decide +kernel)) ggJ1_charAt_3b067_J0_checkIndex_df160
set_option maxRecDepth 20000 in
theorem ggJ2_getChar_3b067_J2_length_9d52b : GoodIn wsJ2_getChar_3b067 wsJ2_length_9d52b := goodIn_r _ [7] (by decide +kernel) (by decide +kernel)
set_option maxRecDepth 20000 in
theorem gJ2_getChar_3b067_J2_length_9d52b : GoodIn wsJ2_getChar_3b067 (va_wsS RJ2 48 yJ2_length_9d52b wsJ2_length_9d52b) := goodIn_app (goodIn_of _ (by decide +kernel)) ggJ2_getChar_3b067_J2_length_9d52b
set_option maxRecDepth 20000 in
theorem ggJ2_charAt_3b067_J2_checkIndex_2214a : GoodIn wsJ2_charAt_3b067 wsJ2_checkIndex_2214a := goodIn_r _ [4, 5, 6, 3, 7, 8, 9, 10, 11, 12, 13, 14, 15, 16] (by decide +kernel) (by decide +kernel)
set_option maxRecDepth 20000 in
theorem gJ2_charAt_3b067_J2_checkIndex_2214a : GoodIn wsJ2_charAt_3b067 (va_wsS RJ2 67 yJ2_checkIndex_2214a wsJ2_checkIndex_2214a) := goodIn_app (goodIn_of _ (by decide +kernel)) ggJ2_charAt_3b067_J2_checkIndex_2214a
set_option maxRecDepth 20000 in
theorem ggJ2_charAt_3b067_J2_getChar_3b067 : GoodIn wsJ2_charAt_3b067 wsJ2_getChar_3b067 := goodIn_r _ [19, 20, 21, 22, 5, 6, 3, 7] (by decide +kernel) (by decide +kernel)
set_option maxRecDepth 20000 in
theorem gJ2_charAt_3b067_J2_getChar_3b067 : GoodIn wsJ2_charAt_3b067 (va_wsS RJ2 71 yJ2_getChar_3b067 wsJ2_getChar_3b067) := goodIn_app (goodIn_of _ (by decide +kernel)) ggJ2_charAt_3b067_J2_getChar_3b067
set_option maxRecDepth 20000 in
theorem ggJ2_checkIndex_2214a_J2_length_9d52b : GoodIn wsJ2_checkIndex_2214a wsJ2_length_9d52b := goodIn_r _ [4] (by decide +kernel) (by decide +kernel)
set_option maxRecDepth 20000 in
theorem gJ2_checkIndex_2214a_J2_length_9d52b : GoodIn wsJ2_checkIndex_2214a (va_wsS RJ2 48 yJ2_length_9d52b wsJ2_length_9d52b) := goodIn_app (goodIn_of _ (by decide +kernel)) ggJ2_checkIndex_2214a_J2_length_9d52b
set_option maxRecDepth 20000 in
theorem ggJ2_checkIndex_2214a_J0_checkIndex_df160 : GoodIn wsJ2_checkIndex_2214a wsJ0_checkIndex_df160 := goodIn_r _ [8, 9, 10, 11, 12, 13] (by decide +kernel) (by decide +kernel)
set_option maxRecDepth 20000 in
theorem gJ2_checkIndex_2214a_J0_checkIndex_df160 : GoodIn wsJ2_checkIndex_2214a (va_wsS RJ2 414 yJ0_checkIndex_df160 wsJ0_checkIndex_df160) := goodIn_app (goodIn_of _ (by decide +kernel)) ggJ2_checkIndex_2214a_J0_checkIndex_df160
set_option maxRecDepth 20000 in
theorem ggL_law_X9_init : GoodIn wsL_law wsX9_init := goodIn_r _ [9, 10, 11, 12, 13, 14, 15, 16, 17, 18, 19, 20, 21, 22, 23, 24, 25, 26, 27, 28, 29, 30, 31, 32, 33, 34, 35, 36, 37, 38, 39, 40, 41, 42, 43, 44, 45, 46, 47, 48, 49, 50, 51, 52, 53, 54, 55, 56, 57, 58, 59, 60, 61, 62, 63, 64, 65, 66, 67, 68, 69, 70, 71, 72, 73, 74, 75, 76, 77, 78, 79, 80, 81, 82, 83, 84, 85, 86, 87, 88, 89, 90, 91, 92, 93, 94, 95, 96, 97, 98, 99, 100, 101, 102, 103, 104, 105, 1255, 1256, 1257, 1258, 1259, 1260, 1261, 1262, 1263, 1264, 1265, 1266, 1207, 1208, 1209, 1210, 1211, 1212, 1213, 1214, 1215, 1216, 1217, 1218, 1267, 1268, 1269, 1270, 1271, 1272, 1273, 1274, 1275, 1276, 1277, 1278, 1279, 1280, 1281, 1282, 1283, 1284, 1285, 1286, 1287, 1288, 1289, 1290, 1291, 1292, 1293, 1294, 1295, 1296, 1297, 1298, 1299, 1300, 1301, 1302, 1303, 1304, 1305, 1306, 1307, 1308, 1309, 1310, 1311, 1312, 1313, 1314, 1315, 1316, 1317, 1318, 1319, 1320, 1321, 1322, 1323, 1324, 1325, 1326, 1327, 1328, 1329, 1330] (by decide +kernel) (by decide +kernel)
set_option maxRecDepth 20000 in
theorem gL_law_X9_init : GoodIn wsL_law (wsX9_init) := ggL_law_X9_init
set_option maxRecDepth 20000 in
theorem ggL_law_X10_init : GoodIn wsL_law wsX10_init := goodIn_r _ [108, 109, 11, 12, 45, 110, 111, 112, 113, 114, 66, 115, 116, 117, 118, 119, 120, 121, 122, 123, 1219, 1220, 1221, 1222, 1223, 1224, 1225, 1226, 1227, 1228, 1229, 1230, 1231, 1232, 1233, 1234, 1235, 1236, 1237, 1238, 1239, 1240, 1241, 1242, 1243, 1244, 1245, 1246, 1247, 1248, 1249, 1250, 1251, 1252, 1253, 1254] (by decide +kernel) (by decide +kernel)
set_option maxRecDepth 20000 in
theorem gL_law_X10_init : GoodIn wsL_law (wsX10_init) := ggL_law_X10_init
set_option maxRecDepth 20000 in
theorem ggL_law_X9_places : GoodIn wsL_law wsX9_places := goodIn_r _ [127, 16, 128, 129, 130, 131, 132, 133, 2, 134, 135, 136, 137, 138, 46, 139, 1207, 1208, 1209, 1210, 1211, 1212, 1213, 1214, 1215, 1216, 1217, 1218, 1255, 1256, 1257, 1258, 1259, 1260, 1261, 1262, 1263, 1264, 1265, 1266] (by decide +kernel) (by decide +kernel)
set_option maxRecDepth 20000 in
theorem gL_law_X9_places : GoodIn wsL_law (wsV RL 13 RX9 yX9_places wsX9_places) := goodIn_app (goodIn_of _ (by decide +kernel)) ggL_law_X9_places
set_option maxRecDepth 20000 in
theorem ggL_law_X10_places : GoodIn wsL_law wsX10_places := goodIn_r _ [143, 144, 145, 146, 111, 147, 148, 5, 149, 150, 151, 152, 153, 110, 154, 155, 156, 157, 158, 112, 1219, 1220, 1221, 1222, 1223, 1224, 1225, 1226, 1227, 1228, 1229, 1230, 1231, 1232, 1233, 1234, 1235, 1236, 1237, 1238, 1239, 1240, 1241, 1242, 1243, 1244, 1245, 1246, 1247, 1248, 1249, 1250, 1251, 1252, 1253, 1254] (by decide +kernel) (by decide +kernel)
set_option maxRecDepth 20000 in
theorem gL_law_X10_places : GoodIn wsL_law (wsV RL 17 RX10 yX10_places wsX10_places) := goodIn_app (goodIn_of _ (by decide +kernel)) ggL_law_X10_places
set_option maxRecDepth 20000 in
theorem ggL_law_X9_weather : GoodIn wsL_law wsX9_weather := goodIn_r _ [162, 16, 163, 132, 133, 2, 134, 135, 136, 137, 138, 46, 139, 1207, 1208, 1209, 1210, 1211, 1212, 1213, 1214, 1215, 1216, 1217, 1218, 1255, 1256, 1257, 1258, 1259, 1260, 1261, 1262, 1263, 1264, 1265, 1266] (by decide +kernel) (by decide +kernel)
set_option maxRecDepth 20000 in
theorem gL_law_X9_weather : GoodIn wsL_law (wsV RL 18 RX9 yX9_weather wsX9_weather) := goodIn_app (goodIn_of _ (by decide +kernel)) ggL_law_X9_weather
set_option maxRecDepth 20000 in
theorem ggL_law_X10_weather : GoodIn wsL_law wsX10_weather := goodIn_r _ [167, 168, 169, 147, 148, 5, 149, 150, 151, 152, 153, 110, 154, 1219, 1220, 1221, 1222, 1223, 1224, 1225, 1226, 1227, 1228, 1229, 1230, 1231, 1232, 1233, 1234, 1235, 1236, 1237, 1238, 1239, 1240, 1241, 1242, 1243, 1244, 1245, 1246, 1247, 1248, 1249, 1250, 1251, 1252, 1253, 1254] (by decide +kernel) (by decide +kernel)
set_option maxRecDepth 20000 in
theorem gL_law_X10_weather : GoodIn wsL_law (wsV RL 21 RX10 yX10_weather wsX10_weather) := goodIn_app (goodIn_of _ (by decide +kernel)) ggL_law_X10_weather
set_option maxRecDepth 20000 in
theorem ggL_law_X9_way : GoodIn wsL_law wsX9_way := goodIn_r _ [173, 16, 128, 174, 175, 176, 15, 177, 53, 133, 2, 134, 178, 179, 180, 132, 181, 182, 183, 184, 185, 186, 187, 188, 189, 135, 136, 137, 138, 46, 139, 190, 191, 192, 193, 194, 54, 55, 56, 57, 58, 59, 1207, 1208, 1209, 1210, 1211, 1212, 1213, 1214, 1215, 1216, 1217, 1218, 1255, 1256, 1257, 1258, 1259, 1260, 1261, 1262, 1263, 1264, 1265, 1266] (by decide +kernel) (by decide +kernel)
set_option maxRecDepth 20000 in
theorem gL_law_X9_way : GoodIn wsL_law (wsV RL 22 RX9 yX9_way wsX9_way) := goodIn_app (goodIn_of _ (by decide +kernel)) ggL_law_X9_way
set_option maxRecDepth 20000 in
theorem ggL_law_X10_way : GoodIn wsL_law wsX10_way := goodIn_r _ [198, 168, 146, 147, 148, 5, 149, 199, 200, 201, 202, 111, 203, 204, 205, 206, 207, 208, 209, 210, 211, 150, 151, 152, 153, 110, 154, 212, 213, 214, 215, 112, 1219, 1220, 1221, 1222, 1223, 1224, 1225, 1226, 1227, 1228, 1229, 1230, 1231, 1232, 1233, 1234, 1235, 1236, 1237, 1238, 1239, 1240, 1241, 1242, 1243, 1244, 1245, 1246, 1247, 1248, 1249, 1250, 1251, 1252, 1253, 1254] (by decide +kernel) (by decide +kernel)
set_option maxRecDepth 20000 in
theorem gL_law_X10_way : GoodIn wsL_law (wsV RL 26 RX10 yX10_way wsX10_way) := goodIn_app (goodIn_of _ (by decide +kernel)) ggL_law_X10_way
set_option maxRecDepth 20000 in
theorem ggL_law_X9_of : GoodIn wsL_law wsX9_of := goodIn_r _ [219, 16, 220, 129, 130, 221, 222, 223, 224, 225, 226, 15, 227, 194, 133, 2, 134, 135, 136, 137, 138, 46, 139, 228, 229, 230, 231, 54, 57, 232, 233, 234, 235, 236, 237, 238, 239, 58, 240, 241, 242, 1207, 1208, 1209, 1210, 1211, 1212, 1213, 1214, 1215, 1216, 1217, 1218, 1255, 1256, 1257, 1258, 1259, 1260, 1261, 1262, 1263, 1264, 1265, 1266] (by decide +kernel) (by decide +kernel)
set_option maxRecDepth 20000 in
theorem gL_law_X9_of : GoodIn wsL_law (wsV RL 27 RX9 yX9_of wsX9_of) := goodIn_app (goodIn_of _ (by decide +kernel)) ggL_law_X9_of
set_option maxRecDepth 20000 in
theorem ggL_law_X10_of : GoodIn wsL_law wsX10_of := goodIn_r _ [246, 247, 248, 249, 250, 5, 251, 146, 147, 148, 149, 150, 151, 152, 153, 110, 154, 155, 156, 157, 158, 112, 252, 253, 254, 255, 169, 256, 257, 258, 259, 1219, 1220, 1221, 1222, 1223, 1224, 1225, 1226, 1227, 1228, 1229, 1230, 1231, 1232, 1233, 1234, 1235, 1236, 1237, 1238, 1239, 1240, 1241, 1242, 1243, 1244, 1245, 1246, 1247, 1248, 1249, 1250, 1251, 1252, 1253, 1254] (by decide +kernel) (by decide +kernel)
set_option maxRecDepth 20000 in
theorem gL_law_X10_of : GoodIn wsL_law (wsV RL 31 RX10 yX10_of wsX10_of) := goodIn_app (goodIn_of _ (by decide +kernel)) ggL_law_X10_of
set_option maxRecDepth 20000 in
theorem ggL_law_X9_change : GoodIn wsL_law wsX9_change := goodIn_r _ [263, 16, 220, 129, 130, 221, 222, 223, 224, 225, 226, 15, 227, 194, 133, 2, 134, 264, 265, 266, 267, 178, 179, 180, 132, 174, 175, 176, 177, 53, 181, 182, 183, 184, 185, 186, 187, 188, 189, 135, 136, 137, 138, 46, 139, 268, 269, 270, 1207, 1208, 1209, 1210, 1211, 1212, 1213, 1214, 1215, 1216, 1217, 1218, 1255, 1256, 1257, 1258, 1259, 1260, 1261, 1262, 1263, 1264, 1265, 1266] (by decide +kernel) (by decide +kernel)
set_option maxRecDepth 20000 in
theorem gL_law_X9_change : GoodIn wsL_law (wsV RL 32 RX9 yX9_change wsX9_change) := goodIn_app (goodIn_of _ (by decide +kernel)) ggL_law_X9_change
set_option maxRecDepth 20000 in
theorem ggL_law_X10_change : GoodIn wsL_law wsX10_change := goodIn_r _ [274, 112, 248, 249, 250, 5, 251, 146, 147, 148, 149, 275, 276, 277, 278, 168, 199, 200, 201, 202, 111, 155, 156, 157, 158, 203, 204, 205, 206, 207, 208, 209, 210, 211, 150, 151, 152, 153, 110, 154, 1219, 1220, 1221, 1222, 1223, 1224, 1225, 1226, 1227, 1228, 1229, 1230, 1231, 1232, 1233, 1234, 1235, 1236, 1237, 1238, 1239, 1240, 1241, 1242, 1243, 1244, 1245, 1246, 1247, 1248, 1249, 1250, 1251, 1252, 1253, 1254] (by decide +kernel) (by decide +kernel)
set_option maxRecDepth 20000 in
theorem gL_law_X10_change : GoodIn wsL_law (wsV RL 36 RX10 yX10_change wsX10_change) := goodIn_app (goodIn_of _ (by decide +kernel)) ggL_law_X10_change
set_option maxRecDepth 20000 in
theorem ggL_law_X9_as : GoodIn wsL_law wsX9_as := goodIn_r _ [282, 16, 220, 221, 224, 225, 226, 15, 227, 194, 133, 2, 134, 178, 179, 180, 132, 135, 136, 137, 138, 46, 139, 283, 284, 285, 286, 1207, 1208, 1209, 1210, 1211, 1212, 1213, 1214, 1215, 1216, 1217, 1218, 1255, 1256, 1257, 1258, 1259, 1260, 1261, 1262, 1263, 1264, 1265, 1266] (by decide +kernel) (by decide +kernel)
set_option maxRecDepth 20000 in
theorem gL_law_X9_as : GoodIn wsL_law (wsV RL 37 RX9 yX9_as wsX9_as) := goodIn_app (goodIn_of _ (by decide +kernel)) ggL_law_X9_as
set_option maxRecDepth 20000 in
theorem ggL_law_X10_as : GoodIn wsL_law wsX10_as := goodIn_r _ [290, 168, 248, 249, 250, 5, 251, 146, 147, 148, 149, 150, 151, 152, 153, 110, 154, 155, 156, 157, 158, 112, 1219, 1220, 1221, 1222, 1223, 1224, 1225, 1226, 1227, 1228, 1229, 1230, 1231, 1232, 1233, 1234, 1235, 1236, 1237, 1238, 1239, 1240, 1241, 1242, 1243, 1244, 1245, 1246, 1247, 1248, 1249, 1250, 1251, 1252, 1253, 1254] (by decide +kernel) (by decide +kernel)
set_option maxRecDepth 20000 in
theorem gL_law_X10_as : GoodIn wsL_law (wsV RL 40 RX10 yX10_as wsX10_as) := goodIn_app (goodIn_of _ (by decide +kernel)) ggL_law_X10_as
set_option maxRecDepth 20000 in
theorem ggL_law_X9_thing : GoodIn wsL_law wsX9_thing := goodIn_r _ [294, 16, 295, 181, 182, 2, 183, 184, 185, 132, 133, 134, 186, 187, 188, 189, 135, 136, 137, 138, 46, 139, 296, 297, 298, 15, 299, 300, 60, 61, 1207, 1208, 1209, 1210, 1211, 1212, 1213, 1214, 1215, 1216, 1217, 1218, 1255, 1256, 1257, 1258, 1259, 1260, 1261, 1262, 1263, 1264, 1265, 1266] (by decide +kernel) (by decide +kernel)
set_option maxRecDepth 20000 in
theorem gL_law_X9_thing : GoodIn wsL_law (wsV RL 41 RX9 yX9_thing wsX9_thing) := goodIn_app (goodIn_of _ (by decide +kernel)) ggL_law_X9_thing
set_option maxRecDepth 20000 in
theorem ggL_law_X10_thing : GoodIn wsL_law wsX10_thing := goodIn_r _ [304, 305, 113, 203, 204, 5, 205, 206, 207, 147, 148, 149, 208, 209, 210, 211, 150, 151, 152, 153, 110, 154, 1219, 1220, 1221, 1222, 1223, 1224, 1225, 1226, 1227, 1228, 1229, 1230, 1231, 1232, 1233, 1234, 1235, 1236, 1237, 1238, 1239, 1240, 1241, 1242, 1243, 1244, 1245, 1246, 1247, 1248, 1249, 1250, 1251, 1252, 1253, 1254] (by decide +kernel) (by decide +kernel)
set_option maxRecDepth 20000 in
theorem gL_law_X10_thing : GoodIn wsL_law (wsV RL 44 RX10 yX10_thing wsX10_thing) := goodIn_app (goodIn_of _ (by decide +kernel)) ggL_law_X10_thing
set_option maxRecDepth 20000 in
theorem ggL_law_X9_alter : GoodIn wsL_law wsX9_alter := goodIn_r _ [309, 16, 310, 311, 312, 313, 314, 15, 315, 300, 133, 2, 134, 135, 136, 137, 138, 46, 139, 181, 182, 183, 184, 185, 132, 268, 269, 270, 186, 187, 188, 189, 1207, 1208, 1209, 1210, 1211, 1212, 1213, 1214, 1215, 1216, 1217, 1218, 1255, 1256, 1257, 1258, 1259, 1260, 1261, 1262, 1263, 1264, 1265, 1266] (by decide +kernel) (by decide +kernel)
set_option maxRecDepth 20000 in
theorem gL_law_X9_alter : GoodIn wsL_law (wsV RL 45 RX9 yX9_alter wsX9_alter) := goodIn_app (goodIn_of _ (by decide +kernel)) ggL_law_X9_alter
set_option maxRecDepth 20000 in
theorem ggL_law_X10_alter : GoodIn wsL_law wsX10_alter := goodIn_r _ [319, 114, 113, 320, 321, 322, 5, 323, 324, 305, 147, 148, 149, 203, 204, 205, 206, 207, 208, 209, 210, 211, 150, 151, 152, 153, 110, 154, 1219, 1220, 1221, 1222, 1223, 1224, 1225, 1226, 1227, 1228, 1229, 1230, 1231, 1232, 1233, 1234, 1235, 1236, 1237, 1238, 1239, 1240, 1241, 1242, 1243, 1244, 1245, 1246, 1247, 1248, 1249, 1250, 1251, 1252, 1253, 1254] (by decide +kernel) (by decide +kernel)
set_option maxRecDepth 20000 in
theorem gL_law_X10_alter : GoodIn wsL_law (wsV RL 48 RX10 yX10_alter wsX10_alter) := goodIn_app (goodIn_of _ (by decide +kernel)) ggL_law_X10_alter
set_option maxRecDepth 20000 in
theorem ggL_law_X9_its : GoodIn wsL_law wsX9_its := goodIn_r _ [328, 16, 310, 311, 312, 313, 314, 15, 315, 300, 133, 2, 134, 132, 135, 136, 137, 138, 46, 139, 1207, 1208, 1209, 1210, 1211, 1212, 1213, 1214, 1215, 1216, 1217, 1218, 1255, 1256, 1257, 1258, 1259, 1260, 1261, 1262, 1263, 1264, 1265, 1266] (by decide +kernel) (by decide +kernel)
set_option maxRecDepth 20000 in
theorem gL_law_X9_its : GoodIn wsL_law (wsV RL 49 RX9 yX9_its wsX9_its) := goodIn_app (goodIn_of _ (by decide +kernel)) ggL_law_X9_its
set_option maxRecDepth 20000 in
theorem ggL_law_X10_its : GoodIn wsL_law wsX10_its := goodIn_r _ [332, 114, 113, 320, 321, 322, 5, 323, 324, 305, 147, 148, 149, 150, 151, 152, 153, 110, 154, 1219, 1220, 1221, 1222, 1223, 1224, 1225, 1226, 1227, 1228, 1229, 1230, 1231, 1232, 1233, 1234, 1235, 1236, 1237, 1238, 1239, 1240, 1241, 1242, 1243, 1244, 1245, 1246, 1247, 1248, 1249, 1250, 1251, 1252, 1253, 1254] (by decide +kernel) (by decide +kernel)
set_option maxRecDepth 20000 in
theorem gL_law_X10_its : GoodIn wsL_law (wsV RL 52 RX10 yX10_its wsX10_its) := goodIn_app (goodIn_of _ (by decide +kernel)) ggL_law_X10_its
set_option maxRecDepth 20000 in
theorem ggL_law_X9_ring : GoodIn wsL_law wsX9_ring := goodIn_r _ [336, 22, 337, 338, 132, 133, 2, 134, 339, 340, 341, 342, 46, 343, 344, 345, 346, 347, 16, 348, 349, 350, 21, 351, 352, 72, 353, 74, 354, 75, 76, 355, 356, 73, 357, 358, 229, 230, 15, 231, 54, 57, 232, 233, 234, 235, 359, 237, 238, 239, 58, 240, 241, 242, 360, 361, 362, 363, 364, 365, 366, 367, 65, 67, 68, 368, 369, 370, 371, 372, 373, 374, 375, 376, 377, 378, 379, 380, 381, 382, 383, 384, 385, 1207, 1208, 1209, 1210, 1211, 1212, 1213, 1214, 1215, 1216, 1217, 1218, 1267, 1268, 1269, 1270, 1271, 1272, 1273, 1274, 1275, 1276, 1277, 1278, 1279, 1255, 1256, 1257, 1258, 1259, 1260, 1261, 1262, 1263, 1264, 1265, 1266] (by decide +kernel) (by decide +kernel)
set_option maxRecDepth 20000 in
theorem gL_law_X9_ring : GoodIn wsL_law (wsV RL 53 RX9 yX9_ring wsX9_ring) := goodIn_app (goodIn_of _ (by decide +kernel)) ggL_law_X9_ring
set_option maxRecDepth 20000 in
theorem ggL_law_X10_ring : GoodIn wsL_law wsX10_ring := goodIn_r _ [389, 390, 391, 147, 148, 5, 149, 392, 393, 394, 395, 110, 396, 397, 398, 399, 400, 401, 402, 403, 404, 146, 155, 156, 157, 158, 112, 405, 406, 407, 408, 409, 410, 411, 412, 111, 413, 414, 415, 416, 252, 253, 254, 255, 169, 256, 257, 258, 259, 417, 418, 419, 420, 421, 422, 423, 424, 425, 426, 1219, 1220, 1221, 1222, 1223, 1224, 1225, 1226, 1227, 1228, 1229, 1230, 1231, 1232, 1233, 1234, 1235, 1236, 1237, 1238, 1239, 1240, 1241, 1242, 1243, 1244, 1245, 1246, 1247, 1248, 1249, 1250, 1251, 1252, 1253, 1254] (by decide +kernel) (by decide +kernel)
set_option maxRecDepth 20000 in
theorem gL_law_X10_ring : GoodIn wsL_law (wsV RL 57 RX10 yX10_ring wsX10_ring) := goodIn_app (goodIn_of _ (by decide +kernel)) ggL_law_X10_ring
set_option maxRecDepth 20000 in
theorem ggL_law_X9_ringWays : GoodIn wsL_law wsX9_ringWays := goodIn_r _ [430, 22, 431, 432, 344, 345, 346, 2, 347, 16, 348, 349, 350, 21, 351, 352, 72, 353, 74, 354, 75, 76, 355, 356, 73, 357, 358, 229, 230, 15, 231, 54, 57, 232, 233, 234, 235, 359, 237, 238, 239, 58, 240, 241, 242, 360, 361, 362, 363, 364, 365, 366, 367, 65, 67, 68, 368, 369, 370, 371, 372, 373, 374, 375, 376, 377, 378, 379, 135, 136, 137, 138, 46, 139, 433, 1207, 1208, 1209, 1210, 1211, 1212, 1213, 1214, 1215, 1216, 1217, 1218, 1267, 1268, 1269, 1270, 1271, 1272, 1273, 1274, 1275, 1276, 1277, 1278, 1279, 1255, 1256, 1257, 1258, 1259, 1260, 1261, 1262, 1263, 1264, 1265, 1266] (by decide +kernel) (by decide +kernel)
set_option maxRecDepth 20000 in
theorem gL_law_X9_ringWays : GoodIn wsL_law (wsV RL 58 RX9 yX9_ringWays wsX9_ringWays) := goodIn_app (goodIn_of _ (by decide +kernel)) ggL_law_X9_ringWays
set_option maxRecDepth 20000 in
theorem ggL_law_X10_ringWays : GoodIn wsL_law wsX10_ringWays := goodIn_r _ [437, 412, 397, 398, 399, 5, 400, 401, 402, 403, 404, 146, 155, 156, 157, 158, 112, 405, 406, 407, 408, 409, 410, 411, 111, 413, 414, 415, 416, 252, 253, 254, 255, 169, 256, 257, 258, 259, 417, 418, 419, 420, 391, 390, 150, 151, 152, 153, 110, 154, 1219, 1220, 1221, 1222, 1223, 1224, 1225, 1226, 1227, 1228, 1229, 1230, 1231, 1232, 1233, 1234, 1235, 1236, 1237, 1238, 1239, 1240, 1241, 1242, 1243, 1244, 1245, 1246, 1247, 1248, 1249, 1250, 1251, 1252, 1253, 1254] (by decide +kernel) (by decide +kernel)
set_option maxRecDepth 20000 in
theorem gL_law_X10_ringWays : GoodIn wsL_law (wsV RL 62 RX10 yX10_ringWays wsX10_ringWays) := goodIn_app (goodIn_of _ (by decide +kernel)) ggL_law_X10_ringWays
set_option maxRecDepth 20000 in
theorem ggL_law_X9_lift : GoodIn wsL_law wsX9_lift := goodIn_r _ [441, 16, 22, 337, 338, 442, 174, 175, 176, 15, 177, 53, 133, 2, 134, 339, 340, 341, 342, 46, 343, 344, 345, 346, 347, 348, 349, 350, 21, 351, 352, 72, 353, 74, 354, 75, 76, 355, 356, 73, 357, 358, 229, 230, 231, 54, 57, 232, 233, 234, 235, 359, 237, 238, 239, 58, 240, 241, 242, 360, 361, 362, 363, 364, 365, 366, 367, 65, 67, 68, 368, 369, 370, 371, 372, 373, 374, 375, 376, 377, 378, 379, 380, 381, 382, 383, 384, 385, 443, 444, 445, 446, 71, 69, 447, 448, 449, 450, 1207, 1208, 1209, 1210, 1211, 1212, 1213, 1214, 1215, 1216, 1217, 1218, 1267, 1268, 1269, 1270, 1271, 1272, 1273, 1274, 1275, 1276, 1277, 1278, 1279, 1255, 1256, 1257, 1258, 1259, 1260, 1261, 1262, 1263, 1264, 1265, 1266] (by decide +kernel) (by decide +kernel)
set_option maxRecDepth 20000 in
theorem gL_law_X9_lift : GoodIn wsL_law (wsV RL 63 RX9 yX9_lift wsX9_lift) := goodIn_app (goodIn_of _ (by decide +kernel)) ggL_law_X9_lift
set_option maxRecDepth 20000 in
theorem ggL_law_X10_lift : GoodIn wsL_law wsX10_lift := goodIn_r _ [454, 390, 391, 111, 115, 455, 199, 200, 201, 5, 202, 147, 148, 149, 392, 393, 394, 395, 110, 396, 397, 398, 399, 400, 401, 402, 403, 404, 146, 155, 156, 157, 158, 112, 405, 406, 407, 408, 409, 410, 411, 412, 413, 414, 415, 416, 252, 253, 254, 255, 169, 256, 257, 258, 259, 417, 418, 419, 420, 421, 422, 423, 424, 425, 426, 456, 457, 458, 459, 1219, 1220, 1221, 1222, 1223, 1224, 1225, 1226, 1227, 1228, 1229, 1230, 1231, 1232, 1233, 1234, 1235, 1236, 1237, 1238, 1239, 1240, 1241, 1242, 1243, 1244, 1245, 1246, 1247, 1248, 1249, 1250, 1251, 1252, 1253, 1254] (by decide +kernel) (by decide +kernel)
set_option maxRecDepth 20000 in
theorem gL_law_X10_lift : GoodIn wsL_law (wsV RL 67 RX10 yX10_lift wsX10_lift) := goodIn_app (goodIn_of _ (by decide +kernel)) ggL_law_X10_lift
set_option maxRecDepth 20000 in
theorem ggL_law_X9_worth : GoodIn wsL_law wsX9_worth := goodIn_r _ [463, 22, 337, 338, 343, 344, 345, 346, 2, 347, 16, 348, 349, 350, 21, 351, 352, 72, 353, 74, 354, 75, 76, 355, 356, 73, 357, 358, 229, 230, 15, 231, 54, 57, 232, 233, 234, 235, 359, 237, 238, 239, 58, 240, 241, 242, 360, 361, 362, 363, 364, 365, 366, 367, 65, 67, 68, 368, 369, 370, 371, 372, 373, 374, 375, 376, 377, 378, 379, 339, 340, 341, 342, 46, 380, 381, 382, 383, 384, 385, 464, 465, 466, 467, 468, 1207, 1208, 1209, 1210, 1211, 1212, 1213, 1214, 1215, 1216, 1217, 1218, 1267, 1268, 1269, 1270, 1271, 1272, 1273, 1274, 1275, 1276, 1277, 1278, 1279, 1255, 1256, 1257, 1258, 1259, 1260, 1261, 1262, 1263, 1264, 1265, 1266] (by decide +kernel) (by decide +kernel)
set_option maxRecDepth 20000 in
theorem gL_law_X9_worth : GoodIn wsL_law (wsV RL 70 RX9 yX9_worth wsX9_worth) := goodIn_app (goodIn_of _ (by decide +kernel)) ggL_law_X9_worth
set_option maxRecDepth 20000 in
theorem ggL_law_X10_worth : GoodIn wsL_law wsX10_worth := goodIn_r _ [472, 473, 390, 391, 474, 397, 398, 399, 5, 400, 401, 402, 403, 404, 146, 155, 156, 157, 158, 112, 405, 406, 407, 408, 409, 410, 411, 412, 111, 413, 414, 415, 416, 252, 253, 254, 255, 169, 256, 257, 258, 259, 417, 418, 419, 420, 392, 393, 394, 395, 110, 396, 421, 422, 423, 424, 425, 426, 475, 476, 477, 478, 324, 455, 1219, 1220, 1221, 1222, 1223, 1224, 1225, 1226, 1227, 1228, 1229, 1230, 1231, 1232, 1233, 1234, 1235, 1236, 1237, 1238, 1239, 1240, 1241, 1242, 1243, 1244, 1245, 1246, 1247, 1248, 1249, 1250, 1251, 1252, 1253, 1254] (by decide +kernel) (by decide +kernel)
set_option maxRecDepth 20000 in
theorem gL_law_X10_worth : GoodIn wsL_law (wsV RL 74 RX10 yX10_worth wsX10_worth) := goodIn_app (goodIn_of _ (by decide +kernel)) ggL_law_X10_worth
set_option maxRecDepth 20000 in
theorem ggL_law_X9_raise : GoodIn wsL_law wsX9_raise := goodIn_r _ [482, 16, 22, 483, 431, 432, 337, 221, 484, 338, 485, 486, 487, 488, 489, 490, 491, 492, 224, 225, 226, 15, 227, 194, 133, 2, 134, 135, 136, 137, 138, 46, 139, 348, 349, 350, 21, 351, 352, 72, 353, 74, 354, 75, 76, 355, 356, 73, 357, 358, 229, 230, 231, 54, 57, 232, 233, 234, 235, 359, 237, 238, 239, 58, 240, 241, 242, 360, 361, 362, 363, 364, 365, 366, 367, 65, 67, 68, 368, 369, 370, 371, 372, 373, 374, 375, 376, 377, 378, 379, 493, 494, 495, 496, 497, 498, 499, 500, 1207, 1208, 1209, 1210, 1211, 1212, 1213, 1214, 1215, 1216, 1217, 1218, 1267, 1268, 1269, 1270, 1271, 1272, 1273, 1274, 1275, 1276, 1277, 1278, 1279, 1255, 1256, 1257, 1258, 1259, 1260, 1261, 1262, 1263, 1264, 1265, 1266] (by decide +kernel) (by decide +kernel)
set_option maxRecDepth 20000 in
theorem gL_law_X9_raise : GoodIn wsL_law (wsV RL 75 RX9 yX9_raise wsX9_raise) := goodIn_app (goodIn_of _ (by decide +kernel)) ggL_law_X9_raise
set_option maxRecDepth 20000 in
theorem ggL_law_X10_raise : GoodIn wsL_law wsX10_raise := goodIn_r _ [504, 112, 248, 249, 250, 5, 251, 146, 147, 148, 149, 150, 151, 152, 153, 110, 154, 155, 156, 157, 158, 505, 506, 507, 508, 509, 390, 391, 510, 401, 402, 403, 404, 405, 406, 407, 408, 409, 410, 411, 412, 111, 413, 414, 415, 416, 252, 253, 254, 255, 169, 256, 257, 258, 259, 417, 418, 419, 420, 511, 512, 513, 514, 1219, 1220, 1221, 1222, 1223, 1224, 1225, 1226, 1227, 1228, 1229, 1230, 1231, 1232, 1233, 1234, 1235, 1236, 1237, 1238, 1239, 1240, 1241, 1242, 1243, 1244, 1245, 1246, 1247, 1248, 1249, 1250, 1251, 1252, 1253, 1254] (by decide +kernel) (by decide +kernel)
set_option maxRecDepth 20000 in
theorem gL_law_X10_raise : GoodIn wsL_law (wsV RL 78 RX10 yX10_raise wsX10_raise) := goodIn_app (goodIn_of _ (by decide +kernel)) ggL_law_X10_raise
set_option maxRecDepth 20000 in
theorem ggL_law_X9_lose : GoodIn wsL_law wsX9_lose := goodIn_r _ [518, 16, 128, 223, 22, 344, 345, 346, 2, 347, 348, 349, 350, 21, 351, 352, 72, 353, 74, 354, 75, 76, 355, 356, 73, 357, 358, 229, 230, 15, 231, 54, 57, 232, 233, 234, 235, 359, 237, 238, 239, 58, 240, 241, 242, 360, 361, 362, 363, 364, 365, 366, 367, 65, 67, 68, 368, 369, 370, 371, 372, 373, 374, 375, 376, 377, 378, 379, 135, 136, 137, 138, 46, 139, 433, 1207, 1208, 1209, 1210, 1211, 1212, 1213, 1214, 1215, 1216, 1217, 1218, 1255, 1256, 1257, 1258, 1259, 1260, 1261, 1262, 1263, 1264, 1265, 1266, 1267, 1268, 1269, 1270, 1271, 1272, 1273, 1274, 1275, 1276, 1277, 1278, 1279] (by decide +kernel) (by decide +kernel)
set_option maxRecDepth 20000 in
theorem gL_law_X9_lose : GoodIn wsL_law (wsV RL 79 RX9 yX9_lose wsX9_lose) := goodIn_app (goodIn_of _ (by decide +kernel)) ggL_law_X9_lose
set_option maxRecDepth 20000 in
theorem ggL_law_X10_lose : GoodIn wsL_law wsX10_lose := goodIn_r _ [522, 146, 390, 391, 397, 398, 399, 5, 400, 401, 402, 403, 404, 155, 156, 157, 158, 112, 405, 406, 407, 408, 409, 410, 411, 412, 111, 413, 414, 415, 416, 252, 253, 254, 255, 169, 256, 257, 258, 259, 417, 418, 419, 420, 150, 151, 152, 153, 110, 154, 1219, 1220, 1221, 1222, 1223, 1224, 1225, 1226, 1227, 1228, 1229, 1230, 1231, 1232, 1233, 1234, 1235, 1236, 1237, 1238, 1239, 1240, 1241, 1242, 1243, 1244, 1245, 1246, 1247, 1248, 1249, 1250, 1251, 1252, 1253, 1254] (by decide +kernel) (by decide +kernel)
set_option maxRecDepth 20000 in
theorem gL_law_X10_lose : GoodIn wsL_law (wsV RL 82 RX10 yX10_lose wsX10_lose) := goodIn_app (goodIn_of _ (by decide +kernel)) ggL_law_X10_lose
set_option maxRecDepth 20000 in
theorem ggL_law_X9_kind : GoodIn wsL_law wsX9_kind := goodIn_r _ [526, 16, 18, 22, 220, 224, 225, 226, 15, 227, 194, 133, 2, 134, 135, 136, 137, 138, 46, 139, 344, 345, 346, 347, 348, 349, 350, 21, 351, 352, 72, 353, 74, 354, 75, 76, 355, 356, 73, 357, 358, 229, 230, 231, 54, 57, 232, 233, 234, 235, 359, 237, 238, 239, 58, 240, 241, 242, 360, 361, 362, 363, 364, 365, 366, 367, 65, 67, 68, 368, 369, 370, 371, 372, 373, 374, 375, 376, 377, 378, 379, 527, 528, 529, 530, 53, 300, 531, 532, 533, 534, 55, 56, 59, 60, 61, 535, 536, 537, 538, 539, 540, 541, 542, 543, 544, 545, 546, 1207, 1208, 1209, 1210, 1211, 1212, 1213, 1214, 1215, 1216, 1217, 1218, 1255, 1256, 1257, 1258, 1259, 1260, 1261, 1262, 1263, 1264, 1265, 1266, 1267, 1268, 1269, 1270, 1271, 1272, 1273, 1274, 1275, 1276, 1277, 1278, 1279] (by decide +kernel) (by decide +kernel)
set_option maxRecDepth 20000 in
theorem gL_law_X9_kind : GoodIn wsL_law (wsV RL 83 RX9 yX9_kind wsX9_kind) := goodIn_app (goodIn_of _ (by decide +kernel)) ggL_law_X9_kind
set_option maxRecDepth 20000 in
theorem ggL_law_X10_kind : GoodIn wsL_law wsX10_kind := goodIn_r _ [550, 112, 390, 391, 248, 249, 250, 5, 251, 146, 147, 148, 149, 150, 151, 152, 153, 110, 154, 397, 398, 399, 400, 401, 402, 403, 404, 155, 156, 157, 158, 405, 406, 407, 408, 409, 410, 411, 412, 111, 413, 414, 415, 416, 252, 253, 254, 255, 169, 256, 257, 258, 259, 417, 418, 419, 420, 1219, 1220, 1221, 1222, 1223, 1224, 1225, 1226, 1227, 1228, 1229, 1230, 1231, 1232, 1233, 1234, 1235, 1236, 1237, 1238, 1239, 1240, 1241, 1242, 1243, 1244, 1245, 1246, 1247, 1248, 1249, 1250, 1251, 1252, 1253, 1254] (by decide +kernel) (by decide +kernel)
set_option maxRecDepth 20000 in
theorem gL_law_X10_kind : GoodIn wsL_law (wsV RL 86 RX10 yX10_kind wsX10_kind) := goodIn_app (goodIn_of _ (by decide +kernel)) ggL_law_X10_kind
set_option maxRecDepth 20000 in
theorem ggL_law_X9_season : GoodIn wsL_law wsX9_season := goodIn_r _ [554, 18, 16, 22, 163, 344, 345, 346, 2, 347, 348, 349, 350, 21, 351, 352, 72, 353, 74, 354, 75, 76, 355, 356, 73, 357, 358, 229, 230, 15, 231, 54, 57, 232, 233, 234, 235, 359, 237, 238, 239, 58, 240, 241, 242, 360, 361, 362, 363, 364, 365, 366, 367, 65, 67, 68, 368, 369, 370, 371, 372, 373, 374, 375, 376, 377, 378, 379, 135, 136, 137, 138, 46, 139, 527, 528, 529, 530, 53, 194, 300, 531, 532, 533, 534, 55, 56, 59, 60, 61, 535, 536, 537, 538, 539, 540, 541, 542, 543, 544, 545, 546, 1207, 1208, 1209, 1210, 1211, 1212, 1213, 1214, 1215, 1216, 1217, 1218, 1255, 1256, 1257, 1258, 1259, 1260, 1261, 1262, 1263, 1264, 1265, 1266, 1267, 1268, 1269, 1270, 1271, 1272, 1273, 1274, 1275, 1276, 1277, 1278, 1279] (by decide +kernel) (by decide +kernel)
set_option maxRecDepth 20000 in
theorem gL_law_X9_season : GoodIn wsL_law (wsV RL 87 RX9 yX9_season wsX9_season) := goodIn_app (goodIn_of _ (by decide +kernel)) ggL_law_X9_season
set_option maxRecDepth 20000 in
theorem ggL_law_X10_season : GoodIn wsL_law wsX10_season := goodIn_r _ [558, 169, 390, 391, 397, 398, 399, 5, 400, 401, 402, 403, 404, 146, 155, 156, 157, 158, 112, 405, 406, 407, 408, 409, 410, 411, 412, 111, 413, 414, 415, 416, 252, 253, 254, 255, 256, 257, 258, 259, 417, 418, 419, 420, 150, 151, 152, 153, 110, 154, 1219, 1220, 1221, 1222, 1223, 1224, 1225, 1226, 1227, 1228, 1229, 1230, 1231, 1232, 1233, 1234, 1235, 1236, 1237, 1238, 1239, 1240, 1241, 1242, 1243, 1244, 1245, 1246, 1247, 1248, 1249, 1250, 1251, 1252, 1253, 1254] (by decide +kernel) (by decide +kernel)
set_option maxRecDepth 20000 in
theorem gL_law_X10_season : GoodIn wsL_law (wsV RL 90 RX10 yX10_season wsX10_season) := goodIn_app (goodIn_of _ (by decide +kernel)) ggL_law_X10_season
set_option maxRecDepth 20000 in
theorem ggL_law_X9_tree : GoodIn wsL_law wsX9_tree := goodIn_r _ [562, 26, 16, 132, 133, 2, 134, 339, 340, 341, 342, 46, 343, 563, 564, 565, 25, 566, 567, 568, 569, 570, 571, 82, 572, 573, 574, 85, 86, 575, 229, 230, 15, 231, 54, 57, 232, 233, 234, 235, 576, 237, 238, 239, 58, 240, 241, 242, 577, 578, 579, 580, 581, 582, 583, 584, 585, 586, 587, 588, 589, 590, 591, 592, 87, 593, 594, 595, 596, 597, 598, 33, 599, 600, 601, 602, 603, 604, 605, 606, 607, 80, 608, 609, 610, 611, 612, 613, 37, 614, 91, 615, 616, 617, 618, 619, 620, 621, 622, 623, 624, 625, 626, 627, 628, 629, 630, 631, 632, 633, 29, 634, 94, 95, 635, 636, 637, 638, 639, 640, 641, 642, 643, 644, 645, 646, 647, 648, 649, 650, 651, 652, 653, 654, 655, 656, 657, 658, 659, 660, 661, 662, 663, 380, 381, 382, 383, 384, 385, 1207, 1208, 1209, 1210, 1211, 1212, 1213, 1214, 1215, 1216, 1217, 1218, 1280, 1281, 1282, 1283, 1284, 1285, 1286, 1287, 1288, 1289, 1290, 1291, 1255, 1256, 1257, 1258, 1259, 1260, 1261, 1262, 1263, 1264, 1265, 1266, 1307, 1308, 1309, 1310, 1311, 1312, 1313, 1314, 1315, 1316, 1317, 1292, 1293, 1294, 1295, 1296, 1297, 1298, 1299, 1300, 1301, 1302, 1303, 1304, 1305, 1306, 1318] (by decide +kernel) (by decide +kernel)
set_option maxRecDepth 20000 in
theorem gL_law_X9_tree : GoodIn wsL_law (wsV RL 91 RX9 yX9_tree wsX9_tree) := goodIn_app (goodIn_of _ (by decide +kernel)) ggL_law_X9_tree
set_option maxRecDepth 20000 in
theorem ggL_law_X10_tree : GoodIn wsL_law wsX10_tree := goodIn_r _ [667, 668, 669, 147, 148, 5, 149, 392, 393, 394, 395, 110, 396, 670, 671, 672, 673, 674, 675, 676, 677, 678, 679, 680, 681, 305, 146, 682, 683, 684, 685, 686, 687, 688, 689, 401, 402, 403, 404, 155, 156, 157, 158, 112, 690, 691, 692, 693, 694, 695, 696, 697, 698, 699, 700, 701, 111, 702, 703, 704, 705, 706, 707, 708, 709, 710, 711, 712, 713, 714, 715, 114, 113, 252, 253, 254, 255, 169, 716, 717, 718, 719, 256, 257, 258, 259, 720, 721, 722, 723, 421, 422, 423, 424, 425, 426, 724, 725, 726, 727, 1219, 1220, 1221, 1222, 1223, 1224, 1225, 1226, 1227, 1228, 1229, 1230, 1231, 1232, 1233, 1234, 1235, 1236, 1237, 1238, 1239, 1240, 1241, 1242, 1243, 1244, 1245, 1246, 1247, 1248, 1249, 1250, 1251, 1252, 1253, 1254] (by decide +kernel) (by decide +kernel)
set_option maxRecDepth 20000 in
theorem gL_law_X10_tree : GoodIn wsL_law (wsV RL 94 RX10 yX10_tree wsX10_tree) := goodIn_app (goodIn_of _ (by decide +kernel)) ggL_law_X10_tree
set_option maxRecDepth 20000 in
theorem ggL_law_X9_walk : GoodIn wsL_law wsX9_walk := goodIn_r _ [731, 16, 30, 174, 175, 176, 15, 177, 53, 133, 2, 134, 132, 339, 340, 341, 342, 46, 343, 732, 733, 734, 29, 735, 643, 635, 636, 736, 737, 738, 571, 82, 572, 573, 574, 85, 86, 575, 229, 230, 231, 54, 57, 232, 233, 234, 235, 576, 237, 238, 239, 58, 240, 241, 242, 739, 740, 741, 580, 581, 582, 583, 584, 585, 586, 587, 588, 589, 590, 591, 592, 87, 593, 594, 595, 596, 597, 598, 33, 599, 600, 601, 602, 603, 604, 605, 606, 25, 607, 80, 567, 608, 609, 610, 611, 612, 613, 37, 614, 91, 615, 616, 617, 618, 619, 620, 621, 622, 623, 624, 625, 626, 627, 628, 629, 630, 631, 632, 633, 634, 94, 95, 637, 638, 639, 640, 641, 642, 644, 645, 646, 647, 648, 649, 650, 651, 652, 653, 654, 655, 656, 657, 658, 659, 660, 661, 662, 663, 380, 381, 382, 383, 384, 385, 1207, 1208, 1209, 1210, 1211, 1212, 1213, 1214, 1215, 1216, 1217, 1218, 1255, 1256, 1257, 1258, 1259, 1260, 1261, 1262, 1263, 1264, 1265, 1266, 1292, 1293, 1294, 1295, 1296, 1297, 1298, 1299, 1300, 1301, 1302, 1303, 1304, 1305, 1306, 1307, 1308, 1309, 1310, 1311, 1312, 1313, 1314, 1315, 1316, 1317, 1280, 1281, 1282, 1283, 1284, 1285, 1286, 1287, 1288, 1289, 1290, 1291, 1318] (by decide +kernel) (by decide +kernel)
set_option maxRecDepth 20000 in
theorem gL_law_X9_walk : GoodIn wsL_law (wsV RL 95 RX9 yX9_walk wsX9_walk) := goodIn_app (goodIn_of _ (by decide +kernel)) ggL_law_X9_walk
set_option maxRecDepth 20000 in
theorem ggL_law_X10_walk : GoodIn wsL_law wsX10_walk := goodIn_r _ [745, 668, 669, 706, 707, 147, 148, 5, 149, 199, 200, 201, 202, 111, 392, 393, 394, 395, 110, 396, 670, 671, 672, 673, 674, 675, 676, 677, 678, 679, 680, 681, 305, 146, 682, 683, 684, 685, 686, 687, 688, 689, 401, 402, 403, 404, 155, 156, 157, 158, 112, 690, 691, 692, 693, 694, 695, 696, 697, 698, 699, 700, 701, 702, 703, 704, 705, 708, 709, 710, 711, 712, 713, 714, 715, 114, 113, 252, 253, 254, 255, 169, 716, 717, 718, 719, 256, 257, 258, 259, 720, 721, 722, 723, 421, 422, 423, 424, 425, 426, 724, 725, 726, 727, 1219, 1220, 1221, 1222, 1223, 1224, 1225, 1226, 1227, 1228, 1229, 1230, 1231, 1232, 1233, 1234, 1235, 1236, 1237, 1238, 1239, 1240, 1241, 1242, 1243, 1244, 1245, 1246, 1247, 1248, 1249, 1250, 1251, 1252, 1253, 1254] (by decide +kernel) (by decide +kernel)
set_option maxRecDepth 20000 in
theorem gL_law_X10_walk : GoodIn wsL_law (wsV RL 99 RX10 yX10_walk wsX10_walk) := goodIn_app (goodIn_of _ (by decide +kernel)) ggL_law_X10_walk
set_option maxRecDepth 20000 in
theorem ggL_law_X9_load : GoodIn wsL_law wsX9_load := goodIn_r _ [749, 16, 295, 34, 132, 133, 2, 134, 339, 340, 341, 342, 46, 343, 750, 751, 752, 33, 753, 600, 754, 601, 602, 755, 756, 757, 758, 759, 760, 761, 762, 763, 764, 765, 766, 767, 580, 82, 581, 582, 583, 85, 584, 585, 86, 586, 587, 588, 589, 590, 591, 592, 574, 87, 593, 594, 595, 596, 597, 598, 599, 603, 604, 605, 606, 25, 607, 80, 567, 608, 609, 610, 611, 612, 613, 37, 614, 91, 615, 616, 617, 618, 619, 620, 621, 622, 623, 624, 625, 626, 627, 628, 629, 630, 631, 632, 633, 29, 634, 94, 95, 635, 636, 637, 638, 639, 640, 641, 642, 643, 644, 645, 646, 647, 648, 649, 650, 651, 652, 653, 654, 655, 656, 657, 658, 659, 660, 661, 662, 663, 380, 381, 382, 383, 384, 385, 1207, 1208, 1209, 1210, 1211, 1212, 1213, 1214, 1215, 1216, 1217, 1218, 1255, 1256, 1257, 1258, 1259, 1260, 1261, 1262, 1263, 1264, 1265, 1266, 1307, 1308, 1309, 1310, 1311, 1312, 1313, 1314, 1315, 1316, 1317, 1280, 1281, 1282, 1283, 1284, 1285, 1286, 1287, 1288, 1289, 1290, 1291, 1292, 1293, 1294, 1295, 1296, 1297, 1298, 1299, 1300, 1301, 1302, 1303, 1304, 1305, 1306, 1318] (by decide +kernel) (by decide +kernel)
set_option maxRecDepth 20000 in
theorem gL_law_X9_load : GoodIn wsL_law (wsV RL 100 RX9 yX9_load wsX9_load) := goodIn_app (goodIn_of _ (by decide +kernel)) ggL_law_X9_load
set_option maxRecDepth 20000 in
theorem ggL_law_X10_load : GoodIn wsL_law wsX10_load := goodIn_r _ [771, 668, 305, 669, 686, 147, 148, 5, 149, 392, 393, 394, 395, 110, 396, 670, 671, 672, 673, 674, 675, 676, 677, 678, 679, 680, 681, 146, 682, 683, 684, 685, 687, 688, 689, 401, 402, 403, 404, 155, 156, 157, 158, 112, 690, 691, 692, 693, 694, 695, 696, 697, 698, 699, 700, 701, 111, 702, 703, 704, 705, 706, 707, 708, 709, 710, 711, 712, 713, 714, 715, 114, 113, 252, 253, 254, 255, 169, 716, 717, 718, 719, 256, 257, 258, 259, 720, 721, 722, 723, 421, 422, 423, 424, 425, 426, 724, 725, 726, 727, 1219, 1220, 1221, 1222, 1223, 1224, 1225, 1226, 1227, 1228, 1229, 1230, 1231, 1232, 1233, 1234, 1235, 1236, 1237, 1238, 1239, 1240, 1241, 1242, 1243, 1244, 1245, 1246, 1247, 1248, 1249, 1250, 1251, 1252, 1253, 1254] (by decide +kernel) (by decide +kernel)
set_option maxRecDepth 20000 in
theorem gL_law_X10_load : GoodIn wsL_law (wsV RL 103 RX10 yX10_load wsX10_load) := goodIn_app (goodIn_of _ (by decide +kernel)) ggL_law_X10_load
set_option maxRecDepth 20000 in
theorem ggL_law_X9_ratio : GoodIn wsL_law wsX9_ratio := goodIn_r _ [775, 16, 132, 133, 2, 134, 339, 340, 341, 342, 46, 343, 776, 777, 778, 779, 38, 295, 780, 781, 782, 15, 783, 194, 59, 784, 785, 786, 787, 55, 56, 788, 789, 790, 791, 792, 793, 794, 795, 796, 797, 798, 799, 800, 801, 37, 802, 803, 804, 805, 806, 807, 808, 612, 613, 614, 91, 809, 625, 626, 627, 810, 629, 630, 631, 811, 812, 813, 814, 60, 815, 816, 817, 818, 300, 819, 820, 821, 822, 61, 380, 381, 382, 383, 384, 385, 823, 824, 825, 826, 827, 229, 230, 231, 54, 57, 232, 233, 234, 235, 828, 829, 830, 831, 832, 237, 238, 239, 58, 240, 241, 242, 1207, 1208, 1209, 1210, 1211, 1212, 1213, 1214, 1215, 1216, 1217, 1218, 1255, 1256, 1257, 1258, 1259, 1260, 1261, 1262, 1263, 1264, 1265, 1266, 1318] (by decide +kernel) (by decide +kernel)
set_option maxRecDepth 20000 in
theorem gL_law_X9_ratio : GoodIn wsL_law (wsV RL 104 RX9 yX9_ratio wsX9_ratio) := goodIn_app (goodIn_of _ (by decide +kernel)) ggL_law_X9_ratio
set_option maxRecDepth 20000 in
theorem ggL_law_X10_ratio : GoodIn wsL_law wsX10_ratio := goodIn_r _ [836, 144, 669, 686, 147, 148, 5, 149, 392, 393, 394, 395, 110, 396, 687, 688, 689, 678, 679, 680, 681, 305, 146, 682, 683, 684, 685, 401, 402, 403, 404, 155, 156, 157, 158, 112, 690, 691, 692, 693, 694, 695, 696, 697, 698, 699, 700, 701, 111, 702, 703, 704, 705, 706, 707, 712, 713, 714, 715, 114, 113, 252, 253, 254, 255, 169, 716, 717, 718, 719, 256, 257, 258, 259, 421, 422, 423, 424, 425, 426, 1219, 1220, 1221, 1222, 1223, 1224, 1225, 1226, 1227, 1228, 1229, 1230, 1231, 1232, 1233, 1234, 1235, 1236, 1237, 1238, 1239, 1240, 1241, 1242, 1243, 1244, 1245, 1246, 1247, 1248, 1249, 1250, 1251, 1252, 1253, 1254] (by decide +kernel) (by decide +kernel)
set_option maxRecDepth 20000 in
theorem gL_law_X10_ratio : GoodIn wsL_law (wsV RL 107 RX10 yX10_ratio wsX10_ratio) := goodIn_app (goodIn_of _ (by decide +kernel)) ggL_law_X10_ratio
set_option maxRecDepth 20000 in
theorem ggL_law_X9_compare : GoodIn wsL_law wsX9_compare := goodIn_r _ [840, 44, 841, 842, 843, 844, 2, 845, 846, 847, 848, 849, 850, 132, 133, 134, 851, 852, 853, 48, 854, 855, 135, 136, 137, 138, 46, 139, 464, 465, 466, 467, 468, 856, 377, 378, 379, 1207, 1208, 1209, 1210, 1211, 1212, 1213, 1214, 1215, 1216, 1217, 1218, 1328, 1329, 1330] (by decide +kernel) (by decide +kernel)
set_option maxRecDepth 20000 in
theorem gL_law_X9_compare : GoodIn wsL_law (wsV RL 108 RX9 yX9_compare wsX9_compare) := goodIn_app (goodIn_of _ (by decide +kernel)) ggL_law_X9_compare
set_option maxRecDepth 20000 in
theorem ggL_law_X10_compare : GoodIn wsL_law wsX10_compare := goodIn_r _ [860, 473, 118, 861, 862, 863, 5, 864, 116, 117, 865, 866, 867, 668, 147, 148, 149, 150, 151, 152, 153, 110, 154, 475, 476, 477, 478, 324, 455, 1219, 1220, 1221, 1222, 1223, 1224, 1225, 1226, 1227, 1228, 1229, 1230, 1231, 1232, 1233, 1234, 1235, 1236, 1237, 1238, 1239, 1240, 1241, 1242, 1243, 1244, 1245, 1246, 1247, 1248, 1249, 1250, 1251, 1252, 1253, 1254] (by decide +kernel) (by decide +kernel)
set_option maxRecDepth 20000 in
theorem gL_law_X10_compare : GoodIn wsL_law (wsV RL 111 RX10 yX10_compare wsX10_compare) := goodIn_app (goodIn_of _ (by decide +kernel)) ggL_law_X10_compare
set_option maxRecDepth 20000 in
theorem ggL_law_X9_reduce : GoodIn wsL_law wsX9_reduce := goodIn_r _ [871, 44, 841, 468, 842, 843, 844, 2, 845, 846, 847, 848, 849, 850, 132, 133, 134, 851, 852, 853, 48, 854, 855, 339, 340, 341, 342, 46, 343, 383, 384, 385, 872, 873, 874, 875, 876, 105, 1207, 1208, 1209, 1210, 1211, 1212, 1213, 1214, 1215, 1216, 1217, 1218, 1328, 1329, 1330] (by decide +kernel) (by decide +kernel)
set_option maxRecDepth 20000 in
theorem gL_law_X9_reduce : GoodIn wsL_law (wsV RL 112 RX9 yX9_reduce wsX9_reduce) := goodIn_app (goodIn_of _ (by decide +kernel)) ggL_law_X9_reduce
set_option maxRecDepth 20000 in
theorem ggL_law_X10_reduce : GoodIn wsL_law wsX10_reduce := goodIn_r _ [880, 118, 455, 116, 861, 862, 863, 5, 864, 117, 865, 866, 867, 668, 147, 148, 149, 392, 393, 394, 395, 110, 396, 881, 882, 883, 1219, 1220, 1221, 1222, 1223, 1224, 1225, 1226, 1227, 1228, 1229, 1230, 1231, 1232, 1233, 1234, 1235, 1236, 1237, 1238, 1239, 1240, 1241, 1242, 1243, 1244, 1245, 1246, 1247, 1248, 1249, 1250, 1251, 1252, 1253, 1254] (by decide +kernel) (by decide +kernel)
set_option maxRecDepth 20000 in
theorem gL_law_X10_reduce : GoodIn wsL_law (wsV RL 115 RX10 yX10_reduce wsX10_reduce) := goodIn_app (goodIn_of _ (by decide +kernel)) ggL_law_X10_reduce
set_option maxRecDepth 20000 in
theorem ggL_law_X9_add : GoodIn wsL_law wsX9_add := goodIn_r _ [887, 44, 841, 842, 843, 844, 2, 845, 846, 847, 848, 849, 850, 132, 133, 134, 851, 852, 853, 48, 854, 855, 135, 136, 137, 138, 46, 139, 464, 465, 466, 467, 468, 888, 889, 890, 872, 873, 874, 875, 876, 105, 1207, 1208, 1209, 1210, 1211, 1212, 1213, 1214, 1215, 1216, 1217, 1218, 1328, 1329, 1330] (by decide +kernel) (by decide +kernel)
set_option maxRecDepth 20000 in
theorem gL_law_X9_add : GoodIn wsL_law (wsV RL 116 RX9 yX9_add wsX9_add) := goodIn_app (goodIn_of _ (by decide +kernel)) ggL_law_X9_add
set_option maxRecDepth 20000 in
theorem ggL_law_X10_add : GoodIn wsL_law wsX10_add := goodIn_r _ [894, 473, 118, 116, 861, 862, 863, 5, 864, 117, 865, 866, 867, 668, 147, 148, 149, 150, 151, 152, 153, 110, 154, 475, 476, 477, 478, 324, 455, 895, 896, 897, 898, 881, 882, 883, 1219, 1220, 1221, 1222, 1223, 1224, 1225, 1226, 1227, 1228, 1229, 1230, 1231, 1232, 1233, 1234, 1235, 1236, 1237, 1238, 1239, 1240, 1241, 1242, 1243, 1244, 1245, 1246, 1247, 1248, 1249, 1250, 1251, 1252, 1253, 1254] (by decide +kernel) (by decide +kernel)
set_option maxRecDepth 20000 in
theorem gL_law_X10_add : GoodIn wsL_law (wsV RL 119 RX10 yX10_add wsX10_add) := goodIn_app (goodIn_of _ (by decide +kernel)) ggL_law_X10_add
set_option maxRecDepth 20000 in
theorem ggL_law_X9_feed : GoodIn wsL_law wsX9_feed := goodIn_r _ [902, 42, 903, 132, 133, 2, 134, 135, 136, 137, 138, 46, 139, 904, 905, 906, 41, 907, 908, 101, 1207, 1208, 1209, 1210, 1211, 1212, 1213, 1214, 1215, 1216, 1217, 1218, 1319, 1320, 1321, 1322, 1323, 1324, 1325, 1326, 1327] (by decide +kernel) (by decide +kernel)
set_option maxRecDepth 20000 in
theorem gL_law_X9_feed : GoodIn wsL_law (wsV RL 120 RX9 yX9_feed wsX9_feed) := goodIn_app (goodIn_of _ (by decide +kernel)) ggL_law_X9_feed
set_option maxRecDepth 20000 in
theorem ggL_law_X10_feed : GoodIn wsL_law wsX10_feed := goodIn_r _ [912, 913, 914, 120, 147, 148, 5, 149, 150, 151, 152, 153, 110, 154, 1219, 1220, 1221, 1222, 1223, 1224, 1225, 1226, 1227, 1228, 1229, 1230, 1231, 1232, 1233, 1234, 1235, 1236, 1237, 1238, 1239, 1240, 1241, 1242, 1243, 1244, 1245, 1246, 1247, 1248, 1249, 1250, 1251, 1252, 1253, 1254] (by decide +kernel) (by decide +kernel)
set_option maxRecDepth 20000 in
theorem gL_law_X10_feed : GoodIn wsL_law (wsV RL 123 RX10 yX10_feed wsX10_feed) := goodIn_app (goodIn_of _ (by decide +kernel)) ggL_law_X10_feed
set_option maxRecDepth 20000 in
theorem ggL_law_X9_wipe : GoodIn wsL_law wsX9_wipe := goodIn_r _ [918, 42, 903, 1207, 1208, 1209, 1210, 1211, 1212, 1213, 1214, 1215, 1216, 1217, 1218, 1319, 1320, 1321, 1322, 1323, 1324, 1325, 1326, 1327] (by decide +kernel) (by decide +kernel)
set_option maxRecDepth 20000 in
theorem gL_law_X9_wipe : GoodIn wsL_law (wsV RL 124 RX9 yX9_wipe wsX9_wipe) := goodIn_app (goodIn_of _ (by decide +kernel)) ggL_law_X9_wipe
set_option maxRecDepth 20000 in
theorem ggL_law_X10_wipe : GoodIn wsL_law wsX10_wipe := goodIn_r _ [922, 914, 1219, 1220, 1221, 1222, 1223, 1224, 1225, 1226, 1227, 1228, 1229, 1230, 1231, 1232, 1233, 1234, 1235, 1236, 1237, 1238, 1239, 1240, 1241, 1242, 1243, 1244, 1245, 1246, 1247, 1248, 1249, 1250, 1251, 1252, 1253, 1254] (by decide +kernel) (by decide +kernel)
set_option maxRecDepth 20000 in
theorem gL_law_X10_wipe : GoodIn wsL_law (wsV RL 127 RX10 yX10_wipe wsX10_wipe) := goodIn_app (goodIn_of _ (by decide +kernel)) ggL_law_X10_wipe
set_option maxRecDepth 20000 in
theorem ggL_law_X9_text : GoodIn wsL_law wsX9_text := goodIn_r _ [926, 18, 16, 42, 903, 527, 528, 529, 15, 530, 53, 232, 194, 300, 54, 531, 532, 533, 534, 55, 56, 57, 58, 59, 60, 61, 927, 928, 929, 41, 930, 931, 932, 933, 934, 935, 936, 937, 938, 908, 101, 939, 940, 941, 942, 943, 944, 945, 946, 947, 948, 949, 950, 951, 952, 487, 953, 954, 955, 956, 957, 958, 959, 960, 961, 962, 963, 964, 965, 966, 967, 968, 969, 970, 971, 972, 973, 974, 975, 976, 977, 978, 979, 980, 981, 982, 983, 984, 985, 986, 987, 988, 989, 990, 991, 992, 993, 994, 995, 996, 997, 998, 999, 1000, 1001, 1002, 1003, 1004, 1005, 1006, 1007, 1008, 1009, 1010, 1011, 1012, 1013, 1014, 1015, 1016, 1017, 1018, 1019, 133, 2, 134, 1020, 1021, 1022, 1023, 1024, 1025, 1026, 1027, 1028, 1029, 1030, 1031, 1032, 1033, 1034, 1035, 1036, 1037, 297, 298, 299, 1038, 1039, 1040, 1041, 1042, 1043, 1044, 1045, 1046, 1047, 1048, 191, 192, 193, 1207, 1208, 1209, 1210, 1211, 1212, 1213, 1214, 1215, 1216, 1217, 1218, 1319, 1320, 1321, 1322, 1323, 1324, 1325, 1326, 1327, 1255, 1256, 1257, 1258, 1259, 1260, 1261, 1262, 1263, 1264, 1265, 1266] (by decide +kernel) (by decide +kernel)
set_option maxRecDepth 20000 in
theorem gL_law_X9_text : GoodIn wsL_law (wsV RL 128 RX9 yX9_text wsX9_text) := goodIn_app (goodIn_of _ (by decide +kernel)) ggL_law_X9_text
set_option maxRecDepth 20000 in
theorem ggL_law_X10_text : GoodIn wsL_law wsX10_text := goodIn_r _ [1052, 111, 169, 146, 305, 1053, 1054, 914, 1055, 1056, 1057, 1058, 5, 1059, 1060, 1061, 1062, 1063, 1064, 1065, 1066, 1067, 1068, 1069, 120, 147, 148, 149, 1070, 1071, 1072, 1073, 122, 1074, 1075, 1076, 1077, 168, 1078, 1079, 1080, 1081, 1082, 1083, 1084, 112, 1085, 1086, 1087, 1088, 1089, 1090, 1091, 1092, 1093, 1094, 1095, 1096, 212, 213, 214, 215, 1097, 1098, 1099, 1100, 113, 1219, 1220, 1221, 1222, 1223, 1224, 1225, 1226, 1227, 1228, 1229, 1230, 1231, 1232, 1233, 1234, 1235, 1236, 1237, 1238, 1239, 1240, 1241, 1242, 1243, 1244, 1245, 1246, 1247, 1248, 1249, 1250, 1251, 1252, 1253, 1254] (by decide +kernel) (by decide +kernel)
set_option maxRecDepth 20000 in
theorem gL_law_X10_text : GoodIn wsL_law (wsV RL 131 RX10 yX10_text wsX10_text) := goodIn_app (goodIn_of _ (by decide +kernel)) ggL_law_X10_text
set_option maxRecDepth 20000 in
theorem ggL_law_X9_sheet : GoodIn wsL_law wsX9_sheet := goodIn_r _ [1104, 44, 1105, 132, 133, 2, 134, 135, 136, 137, 138, 46, 139, 1106, 1107, 1108, 48, 1109, 876, 855, 105, 1207, 1208, 1209, 1210, 1211, 1212, 1213, 1214, 1215, 1216, 1217, 1218, 1328, 1329, 1330] (by decide +kernel) (by decide +kernel)
set_option maxRecDepth 20000 in
theorem gL_law_X9_sheet : GoodIn wsL_law (wsV RL 132 RX9 yX9_sheet wsX9_sheet) := goodIn_app (goodIn_of _ (by decide +kernel)) ggL_law_X9_sheet
set_option maxRecDepth 20000 in
theorem ggL_law_X10_sheet : GoodIn wsL_law wsX10_sheet := goodIn_r _ [1113, 116, 117, 118, 865, 866, 5, 867, 668, 147, 148, 149, 150, 151, 152, 153, 110, 154, 1219, 1220, 1221, 1222, 1223, 1224, 1225, 1226, 1227, 1228, 1229, 1230, 1231, 1232, 1233, 1234, 1235, 1236, 1237, 1238, 1239, 1240, 1241, 1242, 1243, 1244, 1245, 1246, 1247, 1248, 1249, 1250, 1251, 1252, 1253, 1254] (by decide +kernel) (by decide +kernel)
set_option maxRecDepth 20000 in
theorem gL_law_X10_sheet : GoodIn wsL_law (wsV RL 135 RX10 yX10_sheet wsX10_sheet) := goodIn_app (goodIn_of _ (by decide +kernel)) ggL_law_X10_sheet
set_option maxRecDepth 20000 in
theorem ggL_law_X9_write : GoodIn wsL_law wsX9_write := goodIn_r _ [1117, 44, 1118, 1119, 1120, 2, 1121, 1105, 846, 847, 848, 849, 850, 132, 133, 134, 135, 136, 137, 138, 46, 139, 872, 873, 874, 48, 875, 876, 105, 1207, 1208, 1209, 1210, 1211, 1212, 1213, 1214, 1215, 1216, 1217, 1218, 1328, 1329, 1330] (by decide +kernel) (by decide +kernel)
set_option maxRecDepth 20000 in
theorem gL_law_X9_write : GoodIn wsL_law (wsV RL 136 RX9 yX9_write wsX9_write) := goodIn_app (goodIn_of _ (by decide +kernel)) ggL_law_X9_write
set_option maxRecDepth 20000 in
theorem ggL_law_X10_write : GoodIn wsL_law wsX10_write := goodIn_r _ [1125, 118, 116, 1126, 1127, 1128, 5, 1129, 117, 865, 866, 867, 668, 147, 148, 149, 150, 151, 152, 153, 110, 154, 881, 882, 883, 1219, 1220, 1221, 1222, 1223, 1224, 1225, 1226, 1227, 1228, 1229, 1230, 1231, 1232, 1233, 1234, 1235, 1236, 1237, 1238, 1239, 1240, 1241, 1242, 1243, 1244, 1245, 1246, 1247, 1248, 1249, 1250, 1251, 1252, 1253, 1254] (by decide +kernel) (by decide +kernel)
set_option maxRecDepth 20000 in
theorem gL_law_X10_write : GoodIn wsL_law (wsV RL 140 RX10 yX10_write wsX10_write) := goodIn_app (goodIn_of _ (by decide +kernel)) ggL_law_X10_write
set_option maxRecDepth 20000 in
theorem ggL_law_X9_read : GoodIn wsL_law wsX9_read := goodIn_r _ [1133, 44, 841, 1118, 1119, 1120, 2, 1121, 1105, 846, 847, 848, 849, 850, 132, 133, 134, 339, 340, 341, 342, 46, 343, 1207, 1208, 1209, 1210, 1211, 1212, 1213, 1214, 1215, 1216, 1217, 1218, 1328, 1329, 1330] (by decide +kernel) (by decide +kernel)
set_option maxRecDepth 20000 in
theorem gL_law_X9_read : GoodIn wsL_law (wsV RL 141 RX9 yX9_read wsX9_read) := goodIn_app (goodIn_of _ (by decide +kernel)) ggL_law_X9_read
set_option maxRecDepth 20000 in
theorem ggL_law_X10_read : GoodIn wsL_law wsX10_read := goodIn_r _ [1137, 118, 1126, 1127, 1128, 5, 1129, 116, 117, 865, 866, 867, 668, 147, 148, 149, 392, 393, 394, 395, 110, 396, 1219, 1220, 1221, 1222, 1223, 1224, 1225, 1226, 1227, 1228, 1229, 1230, 1231, 1232, 1233, 1234, 1235, 1236, 1237, 1238, 1239, 1240, 1241, 1242, 1243, 1244, 1245, 1246, 1247, 1248, 1249, 1250, 1251, 1252, 1253, 1254] (by decide +kernel) (by decide +kernel)
set_option maxRecDepth 20000 in
theorem gL_law_X10_read : GoodIn wsL_law (wsV RL 144 RX10 yX10_read wsX10_read) := goodIn_app (goodIn_of _ (by decide +kernel)) ggL_law_X10_read
set_option maxRecDepth 20000 in
theorem ggL_law_X9_copy : GoodIn wsL_law wsX9_copy := goodIn_r _ [1141, 44, 850, 841, 1142, 532, 533, 534, 132, 133, 2, 134, 135, 136, 137, 138, 46, 139, 1143, 1144, 1145, 48, 1146, 855, 1207, 1208, 1209, 1210, 1211, 1212, 1213, 1214, 1215, 1216, 1217, 1218, 1328, 1329, 1330] (by decide +kernel) (by decide +kernel)
set_option maxRecDepth 20000 in
theorem gL_law_X9_copy : GoodIn wsL_law (wsV RL 145 RX9 yX9_copy wsX9_copy) := goodIn_app (goodIn_of _ (by decide +kernel)) ggL_law_X9_copy
set_option maxRecDepth 20000 in
theorem ggL_law_X10_copy : GoodIn wsL_law wsX10_copy := goodIn_r _ [1150, 116, 117, 119, 118, 865, 866, 5, 867, 668, 147, 148, 149, 150, 151, 152, 153, 110, 154, 1219, 1220, 1221, 1222, 1223, 1224, 1225, 1226, 1227, 1228, 1229, 1230, 1231, 1232, 1233, 1234, 1235, 1236, 1237, 1238, 1239, 1240, 1241, 1242, 1243, 1244, 1245, 1246, 1247, 1248, 1249, 1250, 1251, 1252, 1253, 1254] (by decide +kernel) (by decide +kernel)
set_option maxRecDepth 20000 in
theorem gL_law_X10_copy : GoodIn wsL_law (wsV RL 148 RX10 yX10_copy wsX10_copy) := goodIn_app (goodIn_of _ (by decide +kernel)) ggL_law_X10_copy
set_option maxRecDepth 20000 in
theorem ggL_law_X9_lays : GoodIn wsL_law wsX9_lays := goodIn_r _ [1154, 44, 1105, 16, 128, 1155, 952, 487, 953, 841, 484, 489, 221, 846, 847, 848, 2, 849, 850, 132, 133, 134, 135, 136, 137, 138, 46, 139, 1207, 1208, 1209, 1210, 1211, 1212, 1213, 1214, 1215, 1216, 1217, 1218, 1328, 1329, 1330, 1255, 1256, 1257, 1258, 1259, 1260, 1261, 1262, 1263, 1264, 1265, 1266] (by decide +kernel) (by decide +kernel)
set_option maxRecDepth 20000 in
theorem gL_law_X9_lays : GoodIn wsL_law (wsV RL 149 RX9 yX9_lays wsX9_lays) := goodIn_app (goodIn_of _ (by decide +kernel)) ggL_law_X9_lays
set_option maxRecDepth 20000 in
theorem ggL_law_X10_lays : GoodIn wsL_law wsX10_lays := goodIn_r _ [1159, 116, 117, 146, 118, 112, 865, 866, 5, 867, 668, 147, 148, 149, 150, 151, 152, 153, 110, 154, 203, 204, 205, 206, 207, 1219, 1220, 1221, 1222, 1223, 1224, 1225, 1226, 1227, 1228, 1229, 1230, 1231, 1232, 1233, 1234, 1235, 1236, 1237, 1238, 1239, 1240, 1241, 1242, 1243, 1244, 1245, 1246, 1247, 1248, 1249, 1250, 1251, 1252, 1253, 1254] (by decide +kernel) (by decide +kernel)
set_option maxRecDepth 20000 in
theorem gL_law_X10_lays : GoodIn wsL_law (wsV RL 152 RX10 yX10_lays wsX10_lays) := goodIn_app (goodIn_of _ (by decide +kernel)) ggL_law_X10_lays
set_option maxRecDepth 20000 in
theorem ggL_law_X9_image : GoodIn wsL_law wsX9_image := goodIn_r _ [1163, 17, 16, 1164, 527, 528, 529, 15, 530, 53, 232, 194, 300, 54, 531, 532, 533, 534, 55, 56, 57, 58, 59, 60, 61, 1207, 1208, 1209, 1210, 1211, 1212, 1213, 1214, 1215, 1216, 1217, 1218, 1255, 1256, 1257, 1258, 1259, 1260, 1261, 1262, 1263, 1264, 1265, 1266] (by decide +kernel) (by decide +kernel)
set_option maxRecDepth 20000 in
theorem gL_law_X9_image : GoodIn wsL_law (wsV RL 153 RX9 yX9_image wsX9_image) := goodIn_app (goodIn_of _ (by decide +kernel)) ggL_law_X9_image
set_option maxRecDepth 20000 in
theorem ggL_law_X10_image : GoodIn wsL_law wsX10_image := goodIn_r _ [1168, 123, 111, 169, 146, 305, 114, 112, 113, 1169, 1219, 1220, 1221, 1222, 1223, 1224, 1225, 1226, 1227, 1228, 1229, 1230, 1231, 1232, 1233, 1234, 1235, 1236, 1237, 1238, 1239, 1240, 1241, 1242, 1243, 1244, 1245, 1246, 1247, 1248, 1249, 1250, 1251, 1252, 1253, 1254] (by decide +kernel) (by decide +kernel)
set_option maxRecDepth 20000 in
theorem gL_law_X10_image : GoodIn wsL_law (wsV RL 156 RX10 yX10_image wsX10_image) := goodIn_app (goodIn_of _ (by decide +kernel)) ggL_law_X10_image
set_option maxRecDepth 20000 in
theorem ggL_law_X9_undo : GoodIn wsL_law wsX9_undo := goodIn_r _ [1173, 1164, 16, 17, 128, 135, 136, 137, 2, 138, 46, 139, 527, 528, 529, 15, 530, 53, 232, 194, 300, 54, 531, 532, 533, 534, 55, 56, 57, 58, 59, 60, 61, 1207, 1208, 1209, 1210, 1211, 1212, 1213, 1214, 1215, 1216, 1217, 1218, 1255, 1256, 1257, 1258, 1259, 1260, 1261, 1262, 1263, 1264, 1265, 1266] (by decide +kernel) (by decide +kernel)
set_option maxRecDepth 20000 in
theorem gL_law_X9_undo : GoodIn wsL_law (wsV RL 157 RX9 yX9_undo wsX9_undo) := goodIn_app (goodIn_of _ (by decide +kernel)) ggL_law_X9_undo
set_option maxRecDepth 20000 in
theorem ggL_law_X10_undo : GoodIn wsL_law wsX10_undo := goodIn_r _ [1177, 1169, 123, 111, 169, 146, 305, 114, 112, 113, 150, 151, 152, 5, 153, 110, 154, 1219, 1220, 1221, 1222, 1223, 1224, 1225, 1226, 1227, 1228, 1229, 1230, 1231, 1232, 1233, 1234, 1235, 1236, 1237, 1238, 1239, 1240, 1241, 1242, 1243, 1244, 1245, 1246, 1247, 1248, 1249, 1250, 1251, 1252, 1253, 1254] (by decide +kernel) (by decide +kernel)
set_option maxRecDepth 20000 in
theorem gL_law_X10_undo : GoodIn wsL_law (wsV RL 160 RX10 yX10_undo wsX10_undo) := goodIn_app (goodIn_of _ (by decide +kernel)) ggL_law_X10_undo
set_option maxRecDepth 20000 in
theorem ggL_law_X9_tear : GoodIn wsL_law wsX9_tear := goodIn_r _ [1181, 1164, 1207, 1208, 1209, 1210, 1211, 1212, 1213, 1214, 1215, 1216, 1217, 1218] (by decide +kernel) (by decide +kernel)
set_option maxRecDepth 20000 in
theorem gL_law_X9_tear : GoodIn wsL_law (wsV RL 161 RX9 yX9_tear wsX9_tear) := goodIn_app (goodIn_of _ (by decide +kernel)) ggL_law_X9_tear
set_option maxRecDepth 20000 in
theorem ggL_law_X10_tear : GoodIn wsL_law wsX10_tear := goodIn_r _ [1185, 1169, 1219, 1220, 1221, 1222, 1223, 1224, 1225, 1226, 1227, 1228, 1229, 1230, 1231, 1232, 1233, 1234, 1235, 1236, 1237, 1238, 1239, 1240, 1241, 1242, 1243, 1244, 1245, 1246, 1247, 1248, 1249, 1250, 1251, 1252, 1253, 1254] (by decide +kernel) (by decide +kernel)
set_option maxRecDepth 20000 in
theorem gL_law_X10_tear : GoodIn wsL_law (wsV RL 164 RX10 yX10_tear wsX10_tear) := goodIn_app (goodIn_of _ (by decide +kernel)) ggL_law_X10_tear
set_option maxRecDepth 20000 in
theorem ggL_law_X9_count : GoodIn wsL_law wsX9_count := goodIn_r _ [1189, 16, 131, 128, 295, 163, 42, 903, 1190, 1191, 1192, 15, 1193, 194, 59, 135, 136, 137, 2, 138, 46, 139, 1207, 1208, 1209, 1210, 1211, 1212, 1213, 1214, 1215, 1216, 1217, 1218, 1255, 1256, 1257, 1258, 1259, 1260, 1261, 1262, 1263, 1264, 1265, 1266, 1319, 1320, 1321, 1322, 1323, 1324, 1325, 1326, 1327] (by decide +kernel) (by decide +kernel)
set_option maxRecDepth 20000 in
theorem gL_law_X9_count : GoodIn wsL_law (wsV RL 165 RX9 yX9_count wsX9_count) := goodIn_app (goodIn_of _ (by decide +kernel)) ggL_law_X9_count
set_option maxRecDepth 20000 in
theorem ggL_law_X10_count : GoodIn wsL_law wsX10_count := goodIn_r _ [1197, 111, 146, 305, 169, 914, 401, 402, 403, 5, 404, 155, 156, 157, 158, 112, 687, 688, 689, 150, 151, 152, 153, 110, 154, 1219, 1220, 1221, 1222, 1223, 1224, 1225, 1226, 1227, 1228, 1229, 1230, 1231, 1232, 1233, 1234, 1235, 1236, 1237, 1238, 1239, 1240, 1241, 1242, 1243, 1244, 1245, 1246, 1247, 1248, 1249, 1250, 1251, 1252, 1253, 1254] (by decide +kernel) (by decide +kernel)
set_option maxRecDepth 20000 in
theorem gL_law_X10_count : GoodIn wsL_law (wsV RL 168 RX10 yX10_count wsX10_count) := goodIn_app (goodIn_of _ (by decide +kernel)) ggL_law_X10_count
set_option maxRecDepth 20000 in
theorem ggL_law_X9_status : GoodIn wsL_law wsX9_status := goodIn_r _ [1201, 46, 132, 133, 2, 134, 135, 136, 137, 138, 139, 1207, 1208, 1209, 1210, 1211, 1212, 1213, 1214, 1215, 1216, 1217, 1218] (by decide +kernel) (by decide +kernel)
set_option maxRecDepth 20000 in
theorem gL_law_X9_status : GoodIn wsL_law (wsV RL 169 RX9 yX9_status wsX9_status) := goodIn_app (goodIn_of _ (by decide +kernel)) ggL_law_X9_status
set_option maxRecDepth 20000 in
theorem ggL_law_X10_status : GoodIn wsL_law wsX10_status := goodIn_r _ [1205, 324, 1206, 110, 147, 148, 5, 149, 150, 151, 152, 153, 154, 1219, 1220, 1221, 1222, 1223, 1224, 1225, 1226, 1227, 1228, 1229, 1230, 1231, 1232, 1233, 1234, 1235, 1236, 1237, 1238, 1239, 1240, 1241, 1242, 1243, 1244, 1245, 1246, 1247, 1248, 1249, 1250, 1251, 1252, 1253, 1254] (by decide +kernel) (by decide +kernel)
set_option maxRecDepth 20000 in
theorem gL_law_X10_status : GoodIn wsL_law (wsV RL 172 RX10 yX10_status wsX10_status) := goodIn_app (goodIn_of _ (by decide +kernel)) ggL_law_X10_status
abbrev vwCl : List vw_C := [(RX1, TX1, 12), (RX2, TX2, 1), (RX3, TX3, 11), (RX4, TX4, 13), (RX5, TX5, 3), (RX6, TX6, 9), (RX7, TX7, 12), (RX8, TX8, 15), (RX9, TX9, 12), (RX10, TX10, 36)]
